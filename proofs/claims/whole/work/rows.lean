section
-- ===== PART A: goes FIRST, ahead of the names: the tables' words, and 'selects' of the private methods out of them =====
/-- a private method of a class that the tables say can be made, by its rows of tables_1 -/
def lw_okq (q : MethodName × Nat) : Prop := (q.1.cls ≠ "java/lang/invoke/MethodHandle" ∧ q.1.cls ≠ "java/lang/invoke/VarHandle") ∧ Cond.instantiable q.1.cls q.2 ∈ tables_1 ∧ Cond.privateMethod q.1 ∈ tables_1 ∧ Cond.instanceMethod q.1 ∈ tables_1
theorem lw_p0 : lw_okq (⟨"IdealBench", "polyAt", "(I)LIdealBench$Poly;"⟩, 8) := ⟨⟨by decide +kernel, by decide +kernel⟩, List.mem_of_getElem? (i := 15) (by decide +kernel), List.mem_of_getElem? (i := 365) (by decide +kernel), List.mem_of_getElem? (i := 366) (by decide +kernel)⟩
theorem lw_p1 : lw_okq (⟨"IdealBench", "putResult", "(I)I"⟩, 8) := ⟨⟨by decide +kernel, by decide +kernel⟩, List.mem_of_getElem? (i := 15) (by decide +kernel), List.mem_of_getElem? (i := 389) (by decide +kernel), List.mem_of_getElem? (i := 390) (by decide +kernel)⟩
theorem lw_p2 : lw_okq (⟨"IdealBench$Ring", "greatestToMeet", "(LIdealBench$Poly;LIdealBench$Poly;)I"⟩, 7) := ⟨⟨by decide +kernel, by decide +kernel⟩, List.mem_of_getElem? (i := 23) (by decide +kernel), List.mem_of_getElem? (i := 404) (by decide +kernel), List.mem_of_getElem? (i := 405) (by decide +kernel)⟩
theorem lw_p3 : lw_okq (⟨"IdealBench$Ring", "takeProducts", "(LIdealBench$Poly;LIdealBench$Poly;I)I"⟩, 7) := ⟨⟨by decide +kernel, by decide +kernel⟩, List.mem_of_getElem? (i := 23) (by decide +kernel), List.mem_of_getElem? (i := 408) (by decide +kernel), List.mem_of_getElem? (i := 409) (by decide +kernel)⟩
theorem lw_p4 : lw_okq (⟨"IdealBench$Basis", "nextPai\x72", "()I"⟩, 15) := ⟨⟨by decide +kernel, by decide +kernel⟩, List.mem_of_getElem? (i := 150) (by decide +kernel), List.mem_of_getElem? (i := 534) (by decide +kernel), List.mem_of_getElem? (i := 535) (by decide +kernel)⟩
theorem lw_p5 : lw_okq (⟨"IdealBench$Basis", "multipleOf", "(I)I"⟩, 15) := ⟨⟨by decide +kernel, by decide +kernel⟩, List.mem_of_getElem? (i := 150) (by decide +kernel), List.mem_of_getElem? (i := 538) (by decide +kernel), List.mem_of_getElem? (i := 539) (by decide +kernel)⟩
theorem lw_p6 : lw_okq (⟨"IdealBench$Basis", "isCoprime", "(I)Z"⟩, 15) := ⟨⟨by decide +kernel, by decide +kernel⟩, List.mem_of_getElem? (i := 150) (by decide +kernel), List.mem_of_getElem? (i := 545) (by decide +kernel), List.mem_of_getElem? (i := 546) (by decide +kernel)⟩
theorem lw_p7 : lw_okq (⟨"IdealBench$Basis", "isChained", "(I)Z"⟩, 15) := ⟨⟨by decide +kernel, by decide +kernel⟩, List.mem_of_getElem? (i := 150) (by decide +kernel), List.mem_of_getElem? (i := 549) (by decide +kernel), List.mem_of_getElem? (i := 550) (by decide +kernel)⟩
theorem lw_p8 : lw_okq (⟨"IdealBench$Basis", "reduceS", "(I)I"⟩, 15) := ⟨⟨by decide +kernel, by decide +kernel⟩, List.mem_of_getElem? (i := 150) (by decide +kernel), List.mem_of_getElem? (i := 562) (by decide +kernel), List.mem_of_getElem? (i := 563) (by decide +kernel)⟩
theorem lw_p9 : lw_okq (⟨"IdealBench$Reduce\x72", "firstDividing", "([LIdealBench$Poly;II)I"⟩, 7) := ⟨⟨by decide +kernel, by decide +kernel⟩, List.mem_of_getElem? (i := 115) (by decide +kernel), List.mem_of_getElem? (i := 572) (by decide +kernel), List.mem_of_getElem? (i := 573) (by decide +kernel)⟩
theorem lw_p10 : lw_okq (⟨"IdealBench$Reduce\x72", "moveHead", "()I"⟩, 7) := ⟨⟨by decide +kernel, by decide +kernel⟩, List.mem_of_getElem? (i := 115) (by decide +kernel), List.mem_of_getElem? (i := 578) (by decide +kernel), List.mem_of_getElem? (i := 579) (by decide +kernel)⟩
theorem lw_p11 : lw_okq (⟨"IdealBench$Reduce\x72", "lessenBy", "(LIdealBench$Poly;)I"⟩, 7) := ⟨⟨by decide +kernel, by decide +kernel⟩, List.mem_of_getElem? (i := 115) (by decide +kernel), List.mem_of_getElem? (i := 587) (by decide +kernel), List.mem_of_getElem? (i := 588) (by decide +kernel)⟩
theorem lw_p12 : lw_okq (⟨"IdealBench$Basis", "sortThoseThatStay", "()I"⟩, 15) := ⟨⟨by decide +kernel, by decide +kernel⟩, List.mem_of_getElem? (i := 150) (by decide +kernel), List.mem_of_getElem? (i := 605) (by decide +kernel), List.mem_of_getElem? (i := 606) (by decide +kernel)⟩
theorem lw_p13 : lw_okq (⟨"IdealBench$Basis", "isNeedless", "(I)Z"⟩, 15) := ⟨⟨by decide +kernel, by decide +kernel⟩, List.mem_of_getElem? (i := 150) (by decide +kernel), List.mem_of_getElem? (i := 609) (by decide +kernel), List.mem_of_getElem? (i := 610) (by decide +kernel)⟩
theorem lw_p14 : lw_okq (⟨"IdealBench$Basis", "reduceTail", "(II)I"⟩, 15) := ⟨⟨by decide +kernel, by decide +kernel⟩, List.mem_of_getElem? (i := 150) (by decide +kernel), List.mem_of_getElem? (i := 613) (by decide +kernel), List.mem_of_getElem? (i := 614) (by decide +kernel)⟩
theorem lw_p15 : lw_okq (⟨"IdealBench$Stai\x72", "insert", "(II)V"⟩, 3) := ⟨⟨by decide +kernel, by decide +kernel⟩, List.mem_of_getElem? (i := 236) (by decide +kernel), List.mem_of_getElem? (i := 645) (by decide +kernel), List.mem_of_getElem? (i := 646) (by decide +kernel)⟩
def lw_privs_1 : List (MethodName × Nat) := [(⟨"IdealBench", "polyAt", "(I)LIdealBench$Poly;"⟩, 8), (⟨"IdealBench", "putResult", "(I)I"⟩, 8), (⟨"IdealBench$Ring", "greatestToMeet", "(LIdealBench$Poly;LIdealBench$Poly;)I"⟩, 7), (⟨"IdealBench$Ring", "takeProducts", "(LIdealBench$Poly;LIdealBench$Poly;I)I"⟩, 7), (⟨"IdealBench$Basis", "nextPai\x72", "()I"⟩, 15), (⟨"IdealBench$Basis", "multipleOf", "(I)I"⟩, 15), (⟨"IdealBench$Basis", "isCoprime", "(I)Z"⟩, 15), (⟨"IdealBench$Basis", "isChained", "(I)Z"⟩, 15), (⟨"IdealBench$Basis", "reduceS", "(I)I"⟩, 15), (⟨"IdealBench$Reduce\x72", "firstDividing", "([LIdealBench$Poly;II)I"⟩, 7), (⟨"IdealBench$Reduce\x72", "moveHead", "()I"⟩, 7), (⟨"IdealBench$Reduce\x72", "lessenBy", "(LIdealBench$Poly;)I"⟩, 7), (⟨"IdealBench$Basis", "sortThoseThatStay", "()I"⟩, 15), (⟨"IdealBench$Basis", "isNeedless", "(I)Z"⟩, 15), (⟨"IdealBench$Basis", "reduceTail", "(II)I"⟩, 15), (⟨"IdealBench$Stai\x72", "insert", "(II)V"⟩, 3)]
theorem lw_r1 : ∀ q ∈ lw_privs_1, lw_okq q := List.forall_mem_cons.mpr ⟨lw_p0, List.forall_mem_cons.mpr ⟨lw_p1, List.forall_mem_cons.mpr ⟨lw_p2, List.forall_mem_cons.mpr ⟨lw_p3, List.forall_mem_cons.mpr ⟨lw_p4, List.forall_mem_cons.mpr ⟨lw_p5, List.forall_mem_cons.mpr ⟨lw_p6, List.forall_mem_cons.mpr ⟨lw_p7, List.forall_mem_cons.mpr ⟨lw_p8, List.forall_mem_cons.mpr ⟨lw_p9, List.forall_mem_cons.mpr ⟨lw_p10, List.forall_mem_cons.mpr ⟨lw_p11, List.forall_mem_cons.mpr ⟨lw_p12, List.forall_mem_cons.mpr ⟨lw_p13, List.forall_mem_cons.mpr ⟨lw_p14, List.forall_mem_cons.mpr ⟨lw_p15, fun _ h => absurd h List.not_mem_nil⟩⟩⟩⟩⟩⟩⟩⟩⟩⟩⟩⟩⟩⟩⟩⟩
theorem lw_p16 : lw_okq (⟨"IdealBench$Stai\x72", "nextBehind", "(I)I"⟩, 3) := ⟨⟨by decide +kernel, by decide +kernel⟩, List.mem_of_getElem? (i := 236) (by decide +kernel), List.mem_of_getElem? (i := 650) (by decide +kernel), List.mem_of_getElem? (i := 651) (by decide +kernel)⟩
theorem lw_p17 : lw_okq (⟨"IdealBench", "digestOf", "(JLIdealBench$Poly;)J"⟩, 8) := ⟨⟨by decide +kernel, by decide +kernel⟩, List.mem_of_getElem? (i := 15) (by decide +kernel), List.mem_of_getElem? (i := 699) (by decide +kernel), List.mem_of_getElem? (i := 700) (by decide +kernel)⟩
theorem lw_p18 : lw_okq (⟨"IdealBenchModel", "byOne", "()V"⟩, 38) := ⟨⟨by decide +kernel, by decide +kernel⟩, List.mem_of_getElem? (i := 707) (by decide +kernel), List.mem_of_getElem? (i := 838) (by decide +kernel), List.mem_of_getElem? (i := 839) (by decide +kernel)⟩
theorem lw_p19 : lw_okq (⟨"IdealBenchModel", "addTimes", "(II)Z"⟩, 38) := ⟨⟨by decide +kernel, by decide +kernel⟩, List.mem_of_getElem? (i := 707) (by decide +kernel), List.mem_of_getElem? (i := 842) (by decide +kernel), List.mem_of_getElem? (i := 843) (by decide +kernel)⟩
theorem lw_p20 : lw_okq (⟨"IdealBenchModel", "add", "(I)V"⟩, 38) := ⟨⟨by decide +kernel, by decide +kernel⟩, List.mem_of_getElem? (i := 707) (by decide +kernel), List.mem_of_getElem? (i := 846) (by decide +kernel), List.mem_of_getElem? (i := 847) (by decide +kernel)⟩
theorem lw_p21 : lw_okq (⟨"IdealBenchModel", "stand", "([II[II)I"⟩, 38) := ⟨⟨by decide +kernel, by decide +kernel⟩, List.mem_of_getElem? (i := 707) (by decide +kernel), List.mem_of_getElem? (i := 850) (by decide +kernel), List.mem_of_getElem? (i := 851) (by decide +kernel)⟩
theorem lw_p22 : lw_okq (⟨"IdealBenchModel", "lay", "(II)V"⟩, 38) := ⟨⟨by decide +kernel, by decide +kernel⟩, List.mem_of_getElem? (i := 707) (by decide +kernel), List.mem_of_getElem? (i := 860) (by decide +kernel), List.mem_of_getElem? (i := 861) (by decide +kernel)⟩
theorem lw_p23 : lw_okq (⟨"IdealBenchModel", "fetch", "(I)V"⟩, 38) := ⟨⟨by decide +kernel, by decide +kernel⟩, List.mem_of_getElem? (i := 707) (by decide +kernel), List.mem_of_getElem? (i := 868) (by decide +kernel), List.mem_of_getElem? (i := 869) (by decide +kernel)⟩
theorem lw_p24 : lw_okq (⟨"IdealBenchModel", "rest", "(J)I"⟩, 38) := ⟨⟨by decide +kernel, by decide +kernel⟩, List.mem_of_getElem? (i := 707) (by decide +kernel), List.mem_of_getElem? (i := 872) (by decide +kernel), List.mem_of_getElem? (i := 873) (by decide +kernel)⟩
theorem lw_p25 : lw_okq (⟨"IdealBenchModel", "clean", "()V"⟩, 38) := ⟨⟨by decide +kernel, by decide +kernel⟩, List.mem_of_getElem? (i := 707) (by decide +kernel), List.mem_of_getElem? (i := 876) (by decide +kernel), List.mem_of_getElem? (i := 877) (by decide +kernel)⟩
theorem lw_p26 : lw_okq (⟨"IdealBenchModel", "free", "()I"⟩, 38) := ⟨⟨by decide +kernel, by decide +kernel⟩, List.mem_of_getElem? (i := 707) (by decide +kernel), List.mem_of_getElem? (i := 884) (by decide +kernel), List.mem_of_getElem? (i := 885) (by decide +kernel)⟩
theorem lw_p27 : lw_okq (⟨"IdealBenchModel", "copy", "(II)V"⟩, 38) := ⟨⟨by decide +kernel, by decide +kernel⟩, List.mem_of_getElem? (i := 707) (by decide +kernel), List.mem_of_getElem? (i := 888) (by decide +kernel), List.mem_of_getElem? (i := 889) (by decide +kernel)⟩
theorem lw_p28 : lw_okq (⟨"IdealBenchModel", "placeOf", "(I)I"⟩, 38) := ⟨⟨by decide +kernel, by decide +kernel⟩, List.mem_of_getElem? (i := 707) (by decide +kernel), List.mem_of_getElem? (i := 900) (by decide +kernel), List.mem_of_getElem? (i := 901) (by decide +kernel)⟩
theorem lw_p29 : lw_okq (⟨"IdealBenchModel", "shelve", "(I)I"⟩, 38) := ⟨⟨by decide +kernel, by decide +kernel⟩, List.mem_of_getElem? (i := 707) (by decide +kernel), List.mem_of_getElem? (i := 916) (by decide +kernel), List.mem_of_getElem? (i := 917) (by decide +kernel)⟩
theorem lw_p30 : lw_okq (⟨"IdealBenchModel", "makeS", "(II)I"⟩, 38) := ⟨⟨by decide +kernel, by decide +kernel⟩, List.mem_of_getElem? (i := 707) (by decide +kernel), List.mem_of_getElem? (i := 932) (by decide +kernel), List.mem_of_getElem? (i := 933) (by decide +kernel)⟩
theorem lw_p31 : lw_okq (⟨"IdealBenchModel", "leastOf", "(II)V"⟩, 38) := ⟨⟨by decide +kernel, by decide +kernel⟩, List.mem_of_getElem? (i := 707) (by decide +kernel), List.mem_of_getElem? (i := 936) (by decide +kernel), List.mem_of_getElem? (i := 937) (by decide +kernel)⟩
def lw_privs_2 : List (MethodName × Nat) := [(⟨"IdealBench$Stai\x72", "nextBehind", "(I)I"⟩, 3), (⟨"IdealBench", "digestOf", "(JLIdealBench$Poly;)J"⟩, 8), (⟨"IdealBenchModel", "byOne", "()V"⟩, 38), (⟨"IdealBenchModel", "addTimes", "(II)Z"⟩, 38), (⟨"IdealBenchModel", "add", "(I)V"⟩, 38), (⟨"IdealBenchModel", "stand", "([II[II)I"⟩, 38), (⟨"IdealBenchModel", "lay", "(II)V"⟩, 38), (⟨"IdealBenchModel", "fetch", "(I)V"⟩, 38), (⟨"IdealBenchModel", "rest", "(J)I"⟩, 38), (⟨"IdealBenchModel", "clean", "()V"⟩, 38), (⟨"IdealBenchModel", "free", "()I"⟩, 38), (⟨"IdealBenchModel", "copy", "(II)V"⟩, 38), (⟨"IdealBenchModel", "placeOf", "(I)I"⟩, 38), (⟨"IdealBenchModel", "shelve", "(I)I"⟩, 38), (⟨"IdealBenchModel", "makeS", "(II)I"⟩, 38), (⟨"IdealBenchModel", "leastOf", "(II)V"⟩, 38)]
theorem lw_r2 : ∀ q ∈ lw_privs_2, lw_okq q := List.forall_mem_cons.mpr ⟨lw_p16, List.forall_mem_cons.mpr ⟨lw_p17, List.forall_mem_cons.mpr ⟨lw_p18, List.forall_mem_cons.mpr ⟨lw_p19, List.forall_mem_cons.mpr ⟨lw_p20, List.forall_mem_cons.mpr ⟨lw_p21, List.forall_mem_cons.mpr ⟨lw_p22, List.forall_mem_cons.mpr ⟨lw_p23, List.forall_mem_cons.mpr ⟨lw_p24, List.forall_mem_cons.mpr ⟨lw_p25, List.forall_mem_cons.mpr ⟨lw_p26, List.forall_mem_cons.mpr ⟨lw_p27, List.forall_mem_cons.mpr ⟨lw_p28, List.forall_mem_cons.mpr ⟨lw_p29, List.forall_mem_cons.mpr ⟨lw_p30, List.forall_mem_cons.mpr ⟨lw_p31, fun _ h => absurd h List.not_mem_nil⟩⟩⟩⟩⟩⟩⟩⟩⟩⟩⟩⟩⟩⟩⟩⟩
theorem lw_p32 : lw_okq (⟨"IdealBenchModel", "inverse", "(I)I"⟩, 38) := ⟨⟨by decide +kernel, by decide +kernel⟩, List.mem_of_getElem? (i := 707) (by decide +kernel), List.mem_of_getElem? (i := 940) (by decide +kernel), List.mem_of_getElem? (i := 941) (by decide +kernel)⟩
theorem lw_p33 : lw_okq (⟨"IdealBenchModel", "valueAt", "(I)I"⟩, 38) := ⟨⟨by decide +kernel, by decide +kernel⟩, List.mem_of_getElem? (i := 707) (by decide +kernel), List.mem_of_getElem? (i := 948) (by decide +kernel), List.mem_of_getElem? (i := 949) (by decide +kernel)⟩
theorem lw_p34 : lw_okq (⟨"IdealBenchModel", "come", "()V"⟩, 38) := ⟨⟨by decide +kernel, by decide +kernel⟩, List.mem_of_getElem? (i := 707) (by decide +kernel), List.mem_of_getElem? (i := 972) (by decide +kernel), List.mem_of_getElem? (i := 973) (by decide +kernel)⟩
theorem lw_p35 : lw_okq (⟨"IdealBenchModel", "nextPai\x72", "()I"⟩, 38) := ⟨⟨by decide +kernel, by decide +kernel⟩, List.mem_of_getElem? (i := 707) (by decide +kernel), List.mem_of_getElem? (i := 984) (by decide +kernel), List.mem_of_getElem? (i := 985) (by decide +kernel)⟩
theorem lw_p36 : lw_okq (⟨"IdealBenchModel", "workOf", "(I)I"⟩, 38) := ⟨⟨by decide +kernel, by decide +kernel⟩, List.mem_of_getElem? (i := 707) (by decide +kernel), List.mem_of_getElem? (i := 988) (by decide +kernel), List.mem_of_getElem? (i := 989) (by decide +kernel)⟩
theorem lw_p37 : lw_okq (⟨"IdealBenchModel", "areCoprime", "(II)Z"⟩, 38) := ⟨⟨by decide +kernel, by decide +kernel⟩, List.mem_of_getElem? (i := 707) (by decide +kernel), List.mem_of_getElem? (i := 992) (by decide +kernel), List.mem_of_getElem? (i := 993) (by decide +kernel)⟩
theorem lw_p38 : lw_okq (⟨"IdealBenchModel", "goes", "(I)V"⟩, 38) := ⟨⟨by decide +kernel, by decide +kernel⟩, List.mem_of_getElem? (i := 707) (by decide +kernel), List.mem_of_getElem? (i := 996) (by decide +kernel), List.mem_of_getElem? (i := 997) (by decide +kernel)⟩
theorem lw_p39 : lw_okq (⟨"IdealBenchModel", "isChained", "(II)Z"⟩, 38) := ⟨⟨by decide +kernel, by decide +kernel⟩, List.mem_of_getElem? (i := 707) (by decide +kernel), List.mem_of_getElem? (i := 1000) (by decide +kernel), List.mem_of_getElem? (i := 1001) (by decide +kernel)⟩
theorem lw_p40 : lw_okq (⟨"IdealBenchModel", "waits", "(II)Z"⟩, 38) := ⟨⟨by decide +kernel, by decide +kernel⟩, List.mem_of_getElem? (i := 707) (by decide +kernel), List.mem_of_getElem? (i := 1007) (by decide +kernel), List.mem_of_getElem? (i := 1008) (by decide +kernel)⟩
theorem lw_p41 : lw_okq (⟨"IdealBenchModel", "byBasis", "()V"⟩, 38) := ⟨⟨by decide +kernel, by decide +kernel⟩, List.mem_of_getElem? (i := 707) (by decide +kernel), List.mem_of_getElem? (i := 1011) (by decide +kernel), List.mem_of_getElem? (i := 1012) (by decide +kernel)⟩
theorem lw_p42 : lw_okq (⟨"IdealBenchModel", "leave", "()I"⟩, 38) := ⟨⟨by decide +kernel, by decide +kernel⟩, List.mem_of_getElem? (i := 707) (by decide +kernel), List.mem_of_getElem? (i := 1015) (by decide +kernel), List.mem_of_getElem? (i := 1016) (by decide +kernel)⟩
theorem lw_p43 : lw_okq (⟨"IdealBenchModel", "reduce\x72", "()I"⟩, 38) := ⟨⟨by decide +kernel, by decide +kernel⟩, List.mem_of_getElem? (i := 707) (by decide +kernel), List.mem_of_getElem? (i := 1019) (by decide +kernel), List.mem_of_getElem? (i := 1020) (by decide +kernel)⟩
theorem lw_p44 : lw_okq (⟨"IdealBenchModel", "goOve\x72", "()I"⟩, 38) := ⟨⟨by decide +kernel, by decide +kernel⟩, List.mem_of_getElem? (i := 707) (by decide +kernel), List.mem_of_getElem? (i := 1023) (by decide +kernel), List.mem_of_getElem? (i := 1024) (by decide +kernel)⟩
theorem lw_p45 : lw_okq (⟨"IdealBenchModel", "reduce", "(I)I"⟩, 38) := ⟨⟨by decide +kernel, by decide +kernel⟩, List.mem_of_getElem? (i := 707) (by decide +kernel), List.mem_of_getElem? (i := 1027) (by decide +kernel), List.mem_of_getElem? (i := 1028) (by decide +kernel)⟩
theorem lw_p46 : lw_okq (⟨"IdealBenchModel", "sort", "()V"⟩, 38) := ⟨⟨by decide +kernel, by decide +kernel⟩, List.mem_of_getElem? (i := 707) (by decide +kernel), List.mem_of_getElem? (i := 1035) (by decide +kernel), List.mem_of_getElem? (i := 1036) (by decide +kernel)⟩
theorem lw_p47 : lw_okq (⟨"IdealBenchModel", "isGone", "(I)Z"⟩, 38) := ⟨⟨by decide +kernel, by decide +kernel⟩, List.mem_of_getElem? (i := 707) (by decide +kernel), List.mem_of_getElem? (i := 1039) (by decide +kernel), List.mem_of_getElem? (i := 1040) (by decide +kernel)⟩
def lw_privs_3 : List (MethodName × Nat) := [(⟨"IdealBenchModel", "inverse", "(I)I"⟩, 38), (⟨"IdealBenchModel", "valueAt", "(I)I"⟩, 38), (⟨"IdealBenchModel", "come", "()V"⟩, 38), (⟨"IdealBenchModel", "nextPai\x72", "()I"⟩, 38), (⟨"IdealBenchModel", "workOf", "(I)I"⟩, 38), (⟨"IdealBenchModel", "areCoprime", "(II)Z"⟩, 38), (⟨"IdealBenchModel", "goes", "(I)V"⟩, 38), (⟨"IdealBenchModel", "isChained", "(II)Z"⟩, 38), (⟨"IdealBenchModel", "waits", "(II)Z"⟩, 38), (⟨"IdealBenchModel", "byBasis", "()V"⟩, 38), (⟨"IdealBenchModel", "leave", "()I"⟩, 38), (⟨"IdealBenchModel", "reduce\x72", "()I"⟩, 38), (⟨"IdealBenchModel", "goOve\x72", "()I"⟩, 38), (⟨"IdealBenchModel", "reduce", "(I)I"⟩, 38), (⟨"IdealBenchModel", "sort", "()V"⟩, 38), (⟨"IdealBenchModel", "isGone", "(I)Z"⟩, 38)]
theorem lw_r3 : ∀ q ∈ lw_privs_3, lw_okq q := List.forall_mem_cons.mpr ⟨lw_p32, List.forall_mem_cons.mpr ⟨lw_p33, List.forall_mem_cons.mpr ⟨lw_p34, List.forall_mem_cons.mpr ⟨lw_p35, List.forall_mem_cons.mpr ⟨lw_p36, List.forall_mem_cons.mpr ⟨lw_p37, List.forall_mem_cons.mpr ⟨lw_p38, List.forall_mem_cons.mpr ⟨lw_p39, List.forall_mem_cons.mpr ⟨lw_p40, List.forall_mem_cons.mpr ⟨lw_p41, List.forall_mem_cons.mpr ⟨lw_p42, List.forall_mem_cons.mpr ⟨lw_p43, List.forall_mem_cons.mpr ⟨lw_p44, List.forall_mem_cons.mpr ⟨lw_p45, List.forall_mem_cons.mpr ⟨lw_p46, List.forall_mem_cons.mpr ⟨lw_p47, fun _ h => absurd h List.not_mem_nil⟩⟩⟩⟩⟩⟩⟩⟩⟩⟩⟩⟩⟩⟩⟩⟩
theorem lw_p48 : lw_okq (⟨"IdealBenchModel", "tidyOne", "(I)I"⟩, 38) := ⟨⟨by decide +kernel, by decide +kernel⟩, List.mem_of_getElem? (i := 707) (by decide +kernel), List.mem_of_getElem? (i := 1043) (by decide +kernel), List.mem_of_getElem? (i := 1044) (by decide +kernel)⟩
theorem lw_p49 : lw_okq (⟨"IdealBenchModel", "findStanding", "()I"⟩, 38) := ⟨⟨by decide +kernel, by decide +kernel⟩, List.mem_of_getElem? (i := 707) (by decide +kernel), List.mem_of_getElem? (i := 1063) (by decide +kernel), List.mem_of_getElem? (i := 1064) (by decide +kernel)⟩
theorem lw_p50 : lw_okq (⟨"IdealBenchModel", "isOne", "(I)Z"⟩, 38) := ⟨⟨by decide +kernel, by decide +kernel⟩, List.mem_of_getElem? (i := 707) (by decide +kernel), List.mem_of_getElem? (i := 1067) (by decide +kernel), List.mem_of_getElem? (i := 1068) (by decide +kernel)⟩
theorem lw_p51 : lw_okq (⟨"IdealBenchModel", "alone", "(I)I"⟩, 38) := ⟨⟨by decide +kernel, by decide +kernel⟩, List.mem_of_getElem? (i := 707) (by decide +kernel), List.mem_of_getElem? (i := 1071) (by decide +kernel), List.mem_of_getElem? (i := 1072) (by decide +kernel)⟩
theorem lw_p52 : lw_okq (⟨"IdealBenchModel", "doesStand", "()Z"⟩, 38) := ⟨⟨by decide +kernel, by decide +kernel⟩, List.mem_of_getElem? (i := 707) (by decide +kernel), List.mem_of_getElem? (i := 1075) (by decide +kernel), List.mem_of_getElem? (i := 1076) (by decide +kernel)⟩
theorem lw_p53 : lw_okq (⟨"IdealBenchModel", "layStanding", "()V"⟩, 38) := ⟨⟨by decide +kernel, by decide +kernel⟩, List.mem_of_getElem? (i := 707) (by decide +kernel), List.mem_of_getElem? (i := 1079) (by decide +kernel), List.mem_of_getElem? (i := 1080) (by decide +kernel)⟩
theorem lw_p54 : lw_okq (⟨"IdealBenchModel", "digested", "(JI)J"⟩, 38) := ⟨⟨by decide +kernel, by decide +kernel⟩, List.mem_of_getElem? (i := 707) (by decide +kernel), List.mem_of_getElem? (i := 1104) (by decide +kernel), List.mem_of_getElem? (i := 1105) (by decide +kernel)⟩
def lw_privs_4 : List (MethodName × Nat) := [(⟨"IdealBenchModel", "tidyOne", "(I)I"⟩, 38), (⟨"IdealBenchModel", "findStanding", "()I"⟩, 38), (⟨"IdealBenchModel", "isOne", "(I)Z"⟩, 38), (⟨"IdealBenchModel", "alone", "(I)I"⟩, 38), (⟨"IdealBenchModel", "doesStand", "()Z"⟩, 38), (⟨"IdealBenchModel", "layStanding", "()V"⟩, 38), (⟨"IdealBenchModel", "digested", "(JI)J"⟩, 38)]
theorem lw_r4 : ∀ q ∈ lw_privs_4, lw_okq q := List.forall_mem_cons.mpr ⟨lw_p48, List.forall_mem_cons.mpr ⟨lw_p49, List.forall_mem_cons.mpr ⟨lw_p50, List.forall_mem_cons.mpr ⟨lw_p51, List.forall_mem_cons.mpr ⟨lw_p52, List.forall_mem_cons.mpr ⟨lw_p53, List.forall_mem_cons.mpr ⟨lw_p54, fun _ h => absurd h List.not_mem_nil⟩⟩⟩⟩⟩⟩⟩
def lw_privs : List (MethodName × Nat) := lw_privs_1 ++ (lw_privs_2 ++ (lw_privs_3 ++ (lw_privs_4)))
def lw_tbl : List Cond := k2_sels lw_privs ++ tables_1
theorem lw_privs_ok : ∀ q ∈ lw_privs, lw_okq q := by
  show ∀ q ∈ lw_privs_1 ++ (lw_privs_2 ++ (lw_privs_3 ++ (lw_privs_4))), lw_okq q
  exact List.forall_mem_append.mpr ⟨lw_r1, List.forall_mem_append.mpr ⟨lw_r2, List.forall_mem_append.mpr ⟨lw_r3, lw_r4⟩⟩⟩
/-- the table's words that are kept by what runs -/
def q_tbl : List Cond := lw_tbl.filter goodWord
theorem q_in (i : Nat) {w : Cond} (h : lw_tbl[i]? = some w) (hg : goodWord w = true) : w ∈ q_tbl := List.mem_filter.mpr ⟨List.mem_of_getElem? h, hg⟩
theorem q_good {w : Cond} (h : w ∈ q_tbl) : (w.onTables && w.keeps) = true ∨ ∃ ty, w = .arrayClass ty := good_of_word (List.mem_filter.mp h).2
theorem q_sub {w : Cond} (h : w ∈ q_tbl) : w ∈ lw_tbl := (List.mem_filter.mp h).1
/-- what a method asks of the table: its own code, and the whole table -/
abbrev q_ws (y : MethodName) (cc : ByteArray) (n : Nat) (r : Option FieldType) : List Cond := .code y cc n r :: q_tbl
theorem q_goodIn {y : MethodName} {cc : ByteArray} {n : Nat} {r : Option FieldType} {Ts : List Cond} (hT : ∀ w ∈ q_tbl, w ∈ Ts) (hc : Cond.code y cc n r ∈ q_tbl) : GoodIn Ts (q_ws y cc n r) := by
  intro w hw
  rcases List.mem_cons.mp hw with rfl | h
  · exact ⟨hT _ hc, q_good hc⟩
  · exact ⟨hT _ h, q_good h⟩
end
section
def RX0 : String := "IdealBench$Basis"
def TX0 : u_T := fun k => match k with
  | 0 => ("IdealBench$Basis", "ring", "LIdealBench$Ring;", true)
  | 1 => ("IdealBench$Basis", "reduce\x72", "LIdealBench$Reducer;", true)
  | 2 => ("IdealBench$Basis", "pairs", "LIdealBench$Pairs;", true)
  | 3 => ("IdealBench$Basis", "rows", "[LIdealBench$Poly;", false)
  | 4 => ("IdealBench$Basis", "spare", "[LIdealBench$Poly;", false)
  | 5 => ("IdealBench$Basis", "stay", "[I", true)
  | 6 => ("IdealBench$Basis", "begun", "LIdealBench$Poly;", true)
  | 7 => ("IdealBench$Basis", "size", "I", false)
  | 8 => ("IdealBench$Basis", "isTidy", "Z", false)
  | 9 => ("IdealBench$Basis", "way", "I", false)
  | 10 => ("IdealBench$Basis", "rules", "I", false)
  | 11 => ("IdealBench$Basis", "passedCoprime", "I", false)
  | 12 => ("IdealBench$Basis", "passedChain", "I", false)
  | 13 => ("IdealBench$Basis", "leftSomething", "I", false)
  | _ => ("IdealBench$Basis", "leftNothing", "I", false)
def tyX0 : Nat → FieldType := fun k => match k with
  | 0 => .object "IdealBench$Ring"
  | 1 => .object "IdealBench$Reduce\x72"
  | 2 => .object "IdealBench$Pairs"
  | 3 => .array (.object "IdealBench$Poly")
  | 4 => .array (.object "IdealBench$Poly")
  | 5 => .array .int
  | 6 => .object "IdealBench$Poly"
  | 7 => .int
  | 8 => .boolean
  | 9 => .int
  | 10 => .int
  | 11 => .int
  | 12 => .int
  | 13 => .int
  | _ => .int
abbrev wsX00 : List Cond := u_ws RX0 TX0 15
theorem nmX0 : ∀ a, a < 15 → ∀ b, b < 15 → a ≠ b → (TX0 a).2.1 ≠ (TX0 b).2.1 := by decide +kernel
theorem tyX0_ok : ∀ k, k < 15 → parseFieldDescriptor (TX0 k).2.2.1 = some (tyX0 k) := by decide +kernel
abbrev cX0_init : ByteArray := prog_2_method_1_code
def yX0_init : MethodName := ⟨RX0, "<init>", "(LIdealBench$Ring;LIdealBench$Reducer;)V"⟩
abbrev cX0_at : ByteArray := prog_2_method_2_code
def yX0_at : MethodName := ⟨RX0, "at", "(I)LIdealBench$Poly;"⟩
abbrev cX0_isFull : ByteArray := prog_2_method_3_code
def yX0_isFull : MethodName := ⟨RX0, "isFull", "()Z"⟩
abbrev cX0_empty : ByteArray := prog_2_method_4_code
def yX0_empty : MethodName := ⟨RX0, "empty", "()I"⟩
abbrev cX0_take : ByteArray := prog_2_method_5_code
def yX0_take : MethodName := ⟨RX0, "take", "(LIdealBench$Poly;)I"⟩
abbrev cX0_workNext : ByteArray := prog_2_method_6_code
def yX0_workNext : MethodName := ⟨RX0, "workNext", "()I"⟩
abbrev cX0_nextPair : ByteArray := prog_2_method_7_code
def yX0_nextPair : MethodName := ⟨RX0, "nextPai\x72", "()I"⟩
abbrev cX0_multipleOf : ByteArray := prog_2_method_8_code
def yX0_multipleOf : MethodName := ⟨RX0, "multipleOf", "(I)I"⟩
abbrev cX0_isCoprime : ByteArray := prog_2_method_9_code
def yX0_isCoprime : MethodName := ⟨RX0, "isCoprime", "(I)Z"⟩
abbrev cX0_isChained : ByteArray := prog_2_method_10_code
def yX0_isChained : MethodName := ⟨RX0, "isChained", "(I)Z"⟩
abbrev cX0_reduceS : ByteArray := prog_2_method_11_code
def yX0_reduceS : MethodName := ⟨RX0, "reduceS", "(I)I"⟩
abbrev cX0_makeTidy : ByteArray := prog_2_method_12_code
def yX0_makeTidy : MethodName := ⟨RX0, "makeTidy", "()I"⟩
abbrev cX0_sortThoseThatStay : ByteArray := prog_2_method_13_code
def yX0_sortThoseThatStay : MethodName := ⟨RX0, "sortThoseThatStay", "()I"⟩
abbrev cX0_isNeedless : ByteArray := prog_2_method_14_code
def yX0_isNeedless : MethodName := ⟨RX0, "isNeedless", "(I)Z"⟩
abbrev cX0_reduceTail : ByteArray := prog_2_method_15_code
def yX0_reduceTail : MethodName := ⟨RX0, "reduceTail", "(II)I"⟩
abbrev cX0_countWithoutFirst : ByteArray := prog_2_method_16_code
def yX0_countWithoutFirst : MethodName := ⟨RX0, "countWithoutFirst", "(I)I"⟩
abbrev cX0_hasOneOfFirst : ByteArray := prog_2_method_17_code
def yX0_hasOneOfFirst : MethodName := ⟨RX0, "hasOneOfFirst", "(LIdealBench$Poly;I)Z"⟩
abbrev cX0_isZeroAtPoint : ByteArray := prog_2_method_18_code
def yX0_isZeroAtPoint : MethodName := ⟨RX0, "isZeroAtPoint", "()Z"⟩
abbrev cX0_hasHeadDividing : ByteArray := prog_2_method_19_code
def yX0_hasHeadDividing : MethodName := ⟨RX0, "hasHeadDividing", "(I)Z"⟩
def RX1 : String := "IdealBench$Mono"
def TX1 : u_T := fun k => match k with
  | _ => ("", "", "", false)
def tyX1 : Nat → FieldType := fun k => match k with
  | _ => .int
abbrev wsX10 : List Cond := u_ws RX1 TX1 0
theorem nmX1 : ∀ a, a < 0 → ∀ b, b < 0 → a ≠ b → (TX1 a).2.1 ≠ (TX1 b).2.1 := by decide +kernel
theorem tyX1_ok : ∀ k, k < 0 → parseFieldDescriptor (TX1 k).2.2.1 = some (tyX1 k) := by decide +kernel
abbrev cX1_of : ByteArray := prog_3_method_2_code
def yX1_of : MethodName := ⟨RX1, "of", "(IIII)I"⟩
abbrev cX1_variable : ByteArray := prog_3_method_3_code
def yX1_variable : MethodName := ⟨RX1, "variable", "(I)I"⟩
abbrev cX1_exponentOf : ByteArray := prog_3_method_4_code
def yX1_exponentOf : MethodName := ⟨RX1, "exponentOf", "(II)I"⟩
abbrev cX1_isGreat : ByteArray := prog_3_method_5_code
def yX1_isGreat : MethodName := ⟨RX1, "isGreat", "(I)Z"⟩
abbrev cX1_divides : ByteArray := prog_3_method_6_code
def yX1_divides : MethodName := ⟨RX1, "divides", "(II)Z"⟩
abbrev cX1_leastMultiple : ByteArray := prog_3_method_7_code
def yX1_leastMultiple : MethodName := ⟨RX1, "leastMultiple", "(II)I"⟩
def RX2 : String := "IdealBench$Pairs"
def TX2 : u_T := fun k => match k with
  | 0 => ("IdealBench$Pairs", "firsts", "[I", true)
  | 1 => ("IdealBench$Pairs", "seconds", "[I", true)
  | _ => ("IdealBench$Pairs", "size", "I", false)
def tyX2 : Nat → FieldType := fun k => match k with
  | 0 => .array .int
  | 1 => .array .int
  | _ => .int
abbrev wsX20 : List Cond := u_ws RX2 TX2 3
theorem nmX2 : ∀ a, a < 3 → ∀ b, b < 3 → a ≠ b → (TX2 a).2.1 ≠ (TX2 b).2.1 := by decide +kernel
theorem tyX2_ok : ∀ k, k < 3 → parseFieldDescriptor (TX2 k).2.2.1 = some (tyX2 k) := by decide +kernel
abbrev cX2_init : ByteArray := prog_4_method_1_code
def yX2_init : MethodName := ⟨RX2, "<init>", "()V"⟩
abbrev cX2_comeWith : ByteArray := prog_4_method_2_code
def yX2_comeWith : MethodName := ⟨RX2, "comeWith", "(I)V"⟩
abbrev cX2_remove : ByteArray := prog_4_method_3_code
def yX2_remove : MethodName := ⟨RX2, "remove", "(I)V"⟩
abbrev cX2_waits : ByteArray := prog_4_method_4_code
def yX2_waits : MethodName := ⟨RX2, "waits", "(II)Z"⟩
def RX3 : String := "IdealBench$Poly"
def TX3 : u_T := fun k => match k with
  | 0 => ("IdealBench$Poly", "numbers", "[I", true)
  | 1 => ("IdealBench$Poly", "monos", "[I", true)
  | _ => ("IdealBench$Poly", "size", "I", false)
def tyX3 : Nat → FieldType := fun k => match k with
  | 0 => .array .int
  | 1 => .array .int
  | _ => .int
abbrev wsX30 : List Cond := u_ws RX3 TX3 3
theorem nmX3 : ∀ a, a < 3 → ∀ b, b < 3 → a ≠ b → (TX3 a).2.1 ≠ (TX3 b).2.1 := by decide +kernel
theorem tyX3_ok : ∀ k, k < 3 → parseFieldDescriptor (TX3 k).2.2.1 = some (tyX3 k) := by decide +kernel
abbrev cX3_init : ByteArray := prog_5_method_1_code
def yX3_init : MethodName := ⟨RX3, "<init>", "()V"⟩
abbrev cX3_push : ByteArray := prog_5_method_2_code
def yX3_push : MethodName := ⟨RX3, "push", "(II)Z"⟩
abbrev cX3_copyOf : ByteArray := prog_5_method_3_code
def yX3_copyOf : MethodName := ⟨RX3, "copyOf", "(LIdealBench$Poly;)V"⟩
abbrev cX3_copyFrom : ByteArray := prog_5_method_4_code
def yX3_copyFrom : MethodName := ⟨RX3, "copyFrom", "(LIdealBench$Poly;I)V"⟩
abbrev cX3_dropHead : ByteArray := prog_5_method_5_code
def yX3_dropHead : MethodName := ⟨RX3, "dropHead", "()V"⟩
abbrev cX3_head : ByteArray := prog_5_method_6_code
def yX3_head : MethodName := ⟨RX3, "head", "()I"⟩
def RX4 : String := "IdealBench$Reduce\x72"
def TX4 : u_T := fun k => match k with
  | 0 => ("IdealBench$Reduce\x72", "ring", "LIdealBench$Ring;", true)
  | 1 => ("IdealBench$Reduce\x72", "h", "LIdealBench$Poly;", false)
  | 2 => ("IdealBench$Reduce\x72", "lessened", "LIdealBench$Poly;", false)
  | 3 => ("IdealBench$Reduce\x72", "\x72", "LIdealBench$Poly;", true)
  | 4 => ("IdealBench$Reduce\x72", "fuel", "I", false)
  | 5 => ("IdealBench$Reduce\x72", "made", "I", false)
  | _ => ("IdealBench$Reduce\x72", "madeInAll", "I", false)
def tyX4 : Nat → FieldType := fun k => match k with
  | 0 => .object "IdealBench$Ring"
  | 1 => .object "IdealBench$Poly"
  | 2 => .object "IdealBench$Poly"
  | 3 => .object "IdealBench$Poly"
  | 4 => .int
  | 5 => .int
  | _ => .int
abbrev wsX40 : List Cond := u_ws RX4 TX4 7
theorem nmX4 : ∀ a, a < 7 → ∀ b, b < 7 → a ≠ b → (TX4 a).2.1 ≠ (TX4 b).2.1 := by decide +kernel
theorem tyX4_ok : ∀ k, k < 7 → parseFieldDescriptor (TX4 k).2.2.1 = some (tyX4 k) := by decide +kernel
abbrev cX4_init : ByteArray := prog_6_method_1_code
def yX4_init : MethodName := ⟨RX4, "<init>", "(LIdealBench$Ring;)V"⟩
abbrev cX4_begin : ByteArray := prog_6_method_2_code
def yX4_begin : MethodName := ⟨RX4, "begin", "()V"⟩
abbrev cX4_leave : ByteArray := prog_6_method_3_code
def yX4_leave : MethodName := ⟨RX4, "leave", "(LIdealBench$Poly;[LIdealBench$Poly;II)I"⟩
abbrev cX4_firstDividing : ByteArray := prog_6_method_4_code
def yX4_firstDividing : MethodName := ⟨RX4, "firstDividing", "([LIdealBench$Poly;II)I"⟩
abbrev cX4_moveHead : ByteArray := prog_6_method_5_code
def yX4_moveHead : MethodName := ⟨RX4, "moveHead", "()I"⟩
abbrev cX4_lessenBy : ByteArray := prog_6_method_6_code
def yX4_lessenBy : MethodName := ⟨RX4, "lessenBy", "(LIdealBench$Poly;)I"⟩
def RX5 : String := "IdealBench$Ring"
def TX5 : u_T := fun k => match k with
  | 0 => ("IdealBench$Ring", "p", "I", true)
  | 1 => ("IdealBench$Ring", "n", "I", true)
  | 2 => ("IdealBench$Ring", "orde\x72", "I", false)
  | 3 => ("IdealBench$Ring", "point", "[I", true)
  | 4 => ("IdealBench$Ring", "meets", "[I", true)
  | 5 => ("IdealBench$Ring", "nought", "LIdealBench$Poly;", true)
  | _ => ("IdealBench$Ring", "firstMultiple", "LIdealBench$Poly;", true)
def tyX5 : Nat → FieldType := fun k => match k with
  | 0 => .int
  | 1 => .int
  | 2 => .int
  | 3 => .array .int
  | 4 => .array .int
  | 5 => .object "IdealBench$Poly"
  | _ => .object "IdealBench$Poly"
abbrev wsX50 : List Cond := u_ws RX5 TX5 7
theorem nmX5 : ∀ a, a < 7 → ∀ b, b < 7 → a ≠ b → (TX5 a).2.1 ≠ (TX5 b).2.1 := by decide +kernel
theorem tyX5_ok : ∀ k, k < 7 → parseFieldDescriptor (TX5 k).2.2.1 = some (tyX5 k) := by decide +kernel
abbrev cX5_init : ByteArray := prog_7_method_1_code
def yX5_init : MethodName := ⟨RX5, "<init>", "(II)V"⟩
abbrev cX5_hasVariable : ByteArray := prog_7_method_2_code
def yX5_hasVariable : MethodName := ⟨RX5, "hasVariable", "(I)Z"⟩
abbrev cX5_mayBeExponent : ByteArray := prog_7_method_3_code
def yX5_mayBeExponent : MethodName := ⟨RX5, "mayBeExponent", "(II)Z"⟩
abbrev cX5_restOf : ByteArray := prog_7_method_4_code
def yX5_restOf : MethodName := ⟨RX5, "restOf", "(I)I"⟩
abbrev cX5_power : ByteArray := prog_7_method_5_code
def yX5_power : MethodName := ⟨RX5, "powe\x72", "(II)I"⟩
abbrev cX5_inverse : ByteArray := prog_7_method_6_code
def yX5_inverse : MethodName := ⟨RX5, "inverse", "(I)I"⟩
abbrev cX5_rank : ByteArray := prog_7_method_7_code
def yX5_rank : MethodName := ⟨RX5, "rank", "(I)I"⟩
abbrev cX5_sortTerms : ByteArray := prog_7_method_8_code
def yX5_sortTerms : MethodName := ⟨RX5, "sortTerms", "(LIdealBench$Poly;)V"⟩
abbrev cX5_comparePolys : ByteArray := prog_7_method_9_code
def yX5_comparePolys : MethodName := ⟨RX5, "comparePolys", "(LIdealBench$Poly;LIdealBench$Poly;)I"⟩
abbrev cX5_addMultiple : ByteArray := prog_7_method_10_code
def yX5_addMultiple : MethodName := ⟨RX5, "addMultiple", "(LIdealBench$Poly;LIdealBench$Poly;LIdealBench$Poly;II)I"⟩
abbrev cX5_isMultipleGreat : ByteArray := prog_7_method_11_code
def yX5_isMultipleGreat : MethodName := ⟨RX5, "isMultipleGreat", "(LIdealBench$Poly;I)Z"⟩
abbrev cX5_multiply : ByteArray := prog_7_method_12_code
def yX5_multiply : MethodName := ⟨RX5, "multiply", "(LIdealBench$Poly;LIdealBench$Poly;LIdealBench$Poly;)I"⟩
abbrev cX5_greatestToMeet : ByteArray := prog_7_method_13_code
def yX5_greatestToMeet : MethodName := ⟨RX5, "greatestToMeet", "(LIdealBench$Poly;LIdealBench$Poly;)I"⟩
abbrev cX5_takeProducts : ByteArray := prog_7_method_14_code
def yX5_takeProducts : MethodName := ⟨RX5, "takeProducts", "(LIdealBench$Poly;LIdealBench$Poly;I)I"⟩
abbrev cX5_derive : ByteArray := prog_7_method_15_code
def yX5_derive : MethodName := ⟨RX5, "derive", "(LIdealBench$Poly;LIdealBench$Poly;I)I"⟩
abbrev cX5_makeS : ByteArray := prog_7_method_16_code
def yX5_makeS : MethodName := ⟨RX5, "makeS", "(LIdealBench$Poly;LIdealBench$Poly;LIdealBench$Poly;)I"⟩
abbrev cX5_makeMonic : ByteArray := prog_7_method_17_code
def yX5_makeMonic : MethodName := ⟨RX5, "makeMonic", "(LIdealBench$Poly;)V"⟩
abbrev cX5_setPoint : ByteArray := prog_7_method_18_code
def yX5_setPoint : MethodName := ⟨RX5, "setPoint", "(II)V"⟩
abbrev cX5_setPointNumber : ByteArray := prog_7_method_19_code
def yX5_setPointNumber : MethodName := ⟨RX5, "setPointNumbe\x72", "(I)V"⟩
abbrev cX5_pointsUpTo : ByteArray := prog_7_method_20_code
def yX5_pointsUpTo : MethodName := ⟨RX5, "pointsUpTo", "(I)I"⟩
abbrev cX5_valueAtPoint : ByteArray := prog_7_method_21_code
def yX5_valueAtPoint : MethodName := ⟨RX5, "valueAtPoint", "(LIdealBench$Poly;)I"⟩
def RX6 : String := "IdealBench$Shelf"
def TX6 : u_T := fun k => match k with
  | 0 => ("IdealBench$Shelf", "polys", "[LIdealBench$Poly;", true)
  | 1 => ("IdealBench$Shelf", "holds", "[Z", true)
  | _ => ("IdealBench$Shelf", "held", "I", false)
def tyX6 : Nat → FieldType := fun k => match k with
  | 0 => .array (.object "IdealBench$Poly")
  | 1 => .array .boolean
  | _ => .int
abbrev wsX60 : List Cond := u_ws RX6 TX6 3
theorem nmX6 : ∀ a, a < 3 → ∀ b, b < 3 → a ≠ b → (TX6 a).2.1 ≠ (TX6 b).2.1 := by decide +kernel
theorem tyX6_ok : ∀ k, k < 3 → parseFieldDescriptor (TX6 k).2.2.1 = some (tyX6 k) := by decide +kernel
abbrev cX6_init : ByteArray := prog_8_method_1_code
def yX6_init : MethodName := ⟨RX6, "<init>", "()V"⟩
abbrev cX6_at : ByteArray := prog_8_method_2_code
def yX6_at : MethodName := ⟨RX6, "at", "(I)LIdealBench$Poly;"⟩
abbrev cX6_isFull : ByteArray := prog_8_method_3_code
def yX6_isFull : MethodName := ⟨RX6, "isFull", "()Z"⟩
abbrev cX6_put : ByteArray := prog_8_method_4_code
def yX6_put : MethodName := ⟨RX6, "put", "(LIdealBench$Poly;)I"⟩
abbrev cX6_free : ByteArray := prog_8_method_5_code
def yX6_free : MethodName := ⟨RX6, "free", "(I)V"⟩
def RX7 : String := "IdealBench$Stai\x72"
def TX7 : u_T := fun k => match k with
  | 0 => ("IdealBench$Stai\x72", "ring", "LIdealBench$Ring;", true)
  | 1 => ("IdealBench$Stai\x72", "basis", "LIdealBench$Basis;", true)
  | _ => ("IdealBench$Stai\x72", "monos", "[I", true)
def tyX7 : Nat → FieldType := fun k => match k with
  | 0 => .object "IdealBench$Ring"
  | 1 => .object "IdealBench$Basis"
  | _ => .array .int
abbrev wsX70 : List Cond := u_ws RX7 TX7 3
theorem nmX7 : ∀ a, a < 3 → ∀ b, b < 3 → a ≠ b → (TX7 a).2.1 ≠ (TX7 b).2.1 := by decide +kernel
theorem tyX7_ok : ∀ k, k < 3 → parseFieldDescriptor (TX7 k).2.2.1 = some (tyX7 k) := by decide +kernel
abbrev cX7_init : ByteArray := prog_9_method_1_code
def yX7_init : MethodName := ⟨RX7, "<init>", "(LIdealBench$Ring;LIdealBench$Basis;)V"⟩
abbrev cX7_find : ByteArray := prog_9_method_2_code
def yX7_find : MethodName := ⟨RX7, "find", "()I"⟩
abbrev cX7_nextBehind : ByteArray := prog_9_method_3_code
def yX7_nextBehind : MethodName := ⟨RX7, "nextBehind", "(I)I"⟩
abbrev cX7_insert : ByteArray := prog_9_method_4_code
def yX7_insert : MethodName := ⟨RX7, "insert", "(II)V"⟩
def RX8 : String := "IdealBench"
def TX8 : u_T := fun k => match k with
  | 0 => ("IdealBench", "ring", "LIdealBench$Ring;", true)
  | 1 => ("IdealBench", "draft", "LIdealBench$Poly;", true)
  | 2 => ("IdealBench", "unit", "LIdealBench$Poly;", true)
  | 3 => ("IdealBench", "result", "LIdealBench$Poly;", true)
  | 4 => ("IdealBench", "shelf", "LIdealBench$Shelf;", true)
  | 5 => ("IdealBench", "reduce\x72", "LIdealBench$Reducer;", true)
  | 6 => ("IdealBench", "basis", "LIdealBench$Basis;", true)
  | _ => ("IdealBench", "stai\x72", "LIdealBench$Stair;", true)
def tyX8 : Nat → FieldType := fun k => match k with
  | 0 => .object "IdealBench$Ring"
  | 1 => .object "IdealBench$Poly"
  | 2 => .object "IdealBench$Poly"
  | 3 => .object "IdealBench$Poly"
  | 4 => .object "IdealBench$Shelf"
  | 5 => .object "IdealBench$Reduce\x72"
  | 6 => .object "IdealBench$Basis"
  | _ => .object "IdealBench$Stai\x72"
abbrev wsX80 : List Cond := u_ws RX8 TX8 8
theorem nmX8 : ∀ a, a < 8 → ∀ b, b < 8 → a ≠ b → (TX8 a).2.1 ≠ (TX8 b).2.1 := by decide +kernel
theorem tyX8_ok : ∀ k, k < 8 → parseFieldDescriptor (TX8 k).2.2.1 = some (tyX8 k) := by decide +kernel
abbrev cX8_init : ByteArray := prog_1_method_1_code
def yX8_init : MethodName := ⟨RX8, "<init>", "(II)V"⟩
abbrev cX8_order : ByteArray := prog_1_method_2_code
def yX8_order : MethodName := ⟨RX8, "orde\x72", "(I)I"⟩
abbrev cX8_term : ByteArray := prog_1_method_3_code
def yX8_term : MethodName := ⟨RX8, "term", "(IIIII)I"⟩
abbrev cX8_keep : ByteArray := prog_1_method_4_code
def yX8_keep : MethodName := ⟨RX8, "keep", "()I"⟩
abbrev cX8_drop : ByteArray := prog_1_method_5_code
def yX8_drop : MethodName := ⟨RX8, "drop", "(I)I"⟩
abbrev cX8_terms : ByteArray := prog_1_method_6_code
def yX8_terms : MethodName := ⟨RX8, "terms", "(I)I"⟩
abbrev cX8_number : ByteArray := prog_1_method_7_code
def yX8_number : MethodName := ⟨RX8, "numbe\x72", "(II)I"⟩
abbrev cX8_exponent : ByteArray := prog_1_method_8_code
def yX8_exponent : MethodName := ⟨RX8, "exponent", "(III)I"⟩
abbrev cX8_sum : ByteArray := prog_1_method_9_code
def yX8_sum : MethodName := ⟨RX8, "sum", "(III)I"⟩
abbrev cX8_product : ByteArray := prog_1_method_10_code
def yX8_product : MethodName := ⟨RX8, "product", "(II)I"⟩
abbrev cX8_derived : ByteArray := prog_1_method_11_code
def yX8_derived : MethodName := ⟨RX8, "derived", "(II)I"⟩
abbrev cX8_spair : ByteArray := prog_1_method_12_code
def yX8_spair : MethodName := ⟨RX8, "spai\x72", "(II)I"⟩
abbrev cX8_value : ByteArray := prog_1_method_13_code
def yX8_value : MethodName := ⟨RX8, "value", "(IIIII)I"⟩
abbrev cX8_compare : ByteArray := prog_1_method_14_code
def yX8_compare : MethodName := ⟨RX8, "compare", "(II)I"⟩
abbrev cX8_fuel : ByteArray := prog_1_method_15_code
def yX8_fuel : MethodName := ⟨RX8, "fuel", "(I)I"⟩
abbrev cX8_way : ByteArray := prog_1_method_16_code
def yX8_way : MethodName := ⟨RX8, "way", "(I)I"⟩
abbrev cX8_rules : ByteArray := prog_1_method_17_code
def yX8_rules : MethodName := ⟨RX8, "rules", "(I)I"⟩
abbrev cX8_enter : ByteArray := prog_1_method_18_code
def yX8_enter : MethodName := ⟨RX8, "ente\x72", "(I)I"⟩
abbrev cX8_clear : ByteArray := prog_1_method_19_code
def yX8_clear : MethodName := ⟨RX8, "clea\x72", "()I"⟩
abbrev cX8_work : ByteArray := prog_1_method_20_code
def yX8_work : MethodName := ⟨RX8, "work", "(I)I"⟩
abbrev cX8_tidy : ByteArray := prog_1_method_21_code
def yX8_tidy : MethodName := ⟨RX8, "tidy", "()I"⟩
abbrev cX8_left : ByteArray := prog_1_method_22_code
def yX8_left : MethodName := ⟨RX8, "left", "(I)I"⟩
abbrev cX8_member : ByteArray := prog_1_method_23_code
def yX8_member : MethodName := ⟨RX8, "membe\x72", "(I)I"⟩
abbrev cX8_pair : ByteArray := prog_1_method_24_code
def yX8_pair : MethodName := ⟨RX8, "pai\x72", "(I)I"⟩
abbrev cX8_standing : ByteArray := prog_1_method_25_code
def yX8_standing : MethodName := ⟨RX8, "standing", "()I"⟩
abbrev cX8_stands : ByteArray := prog_1_method_26_code
def yX8_stands : MethodName := ⟨RX8, "stands", "(II)I"⟩
abbrev cX8_without : ByteArray := prog_1_method_27_code
def yX8_without : MethodName := ⟨RX8, "without", "(I)I"⟩
abbrev cX8_zeros : ByteArray := prog_1_method_28_code
def yX8_zeros : MethodName := ⟨RX8, "zeros", "()I"⟩
abbrev cX8_count : ByteArray := prog_1_method_29_code
def yX8_count : MethodName := ⟨RX8, "count", "(I)I"⟩
abbrev cX8_digest : ByteArray := prog_1_method_30_code
def yX8_digest : MethodName := ⟨RX8, "digest", "()J"⟩
abbrev cX8_digestOf : ByteArray := prog_1_method_31_code
def yX8_digestOf : MethodName := ⟨RX8, "digestOf", "(JLIdealBench$Poly;)J"⟩
abbrev cX8_polyAt : ByteArray := prog_1_method_32_code
def yX8_polyAt : MethodName := ⟨RX8, "polyAt", "(I)LIdealBench$Poly;"⟩
abbrev cX8_putResult : ByteArray := prog_1_method_33_code
def yX8_putResult : MethodName := ⟨RX8, "putResult", "(I)I"⟩
abbrev cX8_isPrimeInRange : ByteArray := prog_1_method_34_code
def yX8_isPrimeInRange : MethodName := ⟨RX8, "isPrimeInRange", "(I)Z"⟩
def RX9 : String := "IdealBenchModel"
def TX9 : u_T := fun k => match k with
  | 0 => ("IdealBenchModel", "p", "I", true)
  | 1 => ("IdealBenchModel", "n", "I", true)
  | 2 => ("IdealBenchModel", "orde\x72", "I", false)
  | 3 => ("IdealBenchModel", "many", "[I", true)
  | 4 => ("IdealBenchModel", "numbers", "[I", true)
  | 5 => ("IdealBenchModel", "exponents", "[I", true)
  | 6 => ("IdealBenchModel", "basis", "I", false)
  | 7 => ("IdealBenchModel", "pairs", "I", false)
  | 8 => ("IdealBenchModel", "pairI", "[I", true)
  | 9 => ("IdealBenchModel", "pairJ", "[I", true)
  | 10 => ("IdealBenchModel", "fuel", "I", false)
  | 11 => ("IdealBenchModel", "way", "I", false)
  | 12 => ("IdealBenchModel", "rules", "I", false)
  | 13 => ("IdealBenchModel", "isTidy", "Z", false)
  | 14 => ("IdealBenchModel", "passedCoprime", "I", false)
  | 15 => ("IdealBenchModel", "passedChain", "I", false)
  | 16 => ("IdealBenchModel", "leftSome", "I", false)
  | 17 => ("IdealBenchModel", "leftNothing", "I", false)
  | 18 => ("IdealBenchModel", "reductions", "I", false)
  | 19 => ("IdealBenchModel", "latest", "I", false)
  | 20 => ("IdealBenchModel", "row", "I", false)
  | 21 => ("IdealBenchModel", "rowNumbe\x72", "[I", true)
  | 22 => ("IdealBenchModel", "rowExponents", "[I", true)
  | 23 => ("IdealBenchModel", "one", "[I", true)
  | 24 => ("IdealBenchModel", "by", "[I", true)
  | 25 => ("IdealBenchModel", "least", "[I", true)
  | 26 => ("IdealBenchModel", "point", "[I", true)
  | 27 => ("IdealBenchModel", "places", "I", false)
  | 28 => ("IdealBenchModel", "place", "[I", true)
  | 29 => ("IdealBenchModel", "used", "I", false)
  | 30 => ("IdealBenchModel", "rest", "I", false)
  | 31 => ("IdealBenchModel", "restNumbe\x72", "[I", true)
  | 32 => ("IdealBenchModel", "restExponents", "[I", true)
  | 33 => ("IdealBenchModel", "best", "[I", true)
  | 34 => ("IdealBenchModel", "tidied", "I", false)
  | 35 => ("IdealBenchModel", "stood", "I", false)
  | 36 => ("IdealBenchModel", "stoodExponents", "[I", true)
  | _ => ("IdealBenchModel", "ends", "[I", true)
def tyX9 : Nat → FieldType := fun k => match k with
  | 0 => .int
  | 1 => .int
  | 2 => .int
  | 3 => .array .int
  | 4 => .array .int
  | 5 => .array .int
  | 6 => .int
  | 7 => .int
  | 8 => .array .int
  | 9 => .array .int
  | 10 => .int
  | 11 => .int
  | 12 => .int
  | 13 => .boolean
  | 14 => .int
  | 15 => .int
  | 16 => .int
  | 17 => .int
  | 18 => .int
  | 19 => .int
  | 20 => .int
  | 21 => .array .int
  | 22 => .array .int
  | 23 => .array .int
  | 24 => .array .int
  | 25 => .array .int
  | 26 => .array .int
  | 27 => .int
  | 28 => .array .int
  | 29 => .int
  | 30 => .int
  | 31 => .array .int
  | 32 => .array .int
  | 33 => .array .int
  | 34 => .int
  | 35 => .int
  | 36 => .array .int
  | _ => .array .int
abbrev wsX90 : List Cond := u_ws RX9 TX9 38
theorem nmX9 : ∀ a, a < 38 → ∀ b, b < 38 → a ≠ b → (TX9 a).2.1 ≠ (TX9 b).2.1 := by decide +kernel
theorem tyX9_ok : ∀ k, k < 38 → parseFieldDescriptor (TX9 k).2.2.1 = some (tyX9 k) := by decide +kernel
abbrev cX9_init : ByteArray := prog_11_method_1_code
def yX9_init : MethodName := ⟨RX9, "<init>", "(II)V"⟩
abbrev cX9_in : ByteArray := prog_11_method_3_code
def yX9_in : MethodName := ⟨RX9, "in", "(III)Z"⟩
abbrev cX9_isPrime : ByteArray := prog_11_method_4_code
def yX9_isPrime : MethodName := ⟨RX9, "isPrime", "(I)Z"⟩
abbrev cX9_rest : ByteArray := prog_11_method_5_code
def yX9_rest : MethodName := ⟨RX9, "rest", "(J)I"⟩
abbrev cX9_inverse : ByteArray := prog_11_method_6_code
def yX9_inverse : MethodName := ⟨RX9, "inverse", "(I)I"⟩
abbrev cX9_reversed : ByteArray := prog_11_method_7_code
def yX9_reversed : MethodName := ⟨RX9, "reversed", "([II[IIII)I"⟩
abbrev cX9_lexed : ByteArray := prog_11_method_8_code
def yX9_lexed : MethodName := ⟨RX9, "lexed", "([II[II)I"⟩
abbrev cX9_stand : ByteArray := prog_11_method_9_code
def yX9_stand : MethodName := ⟨RX9, "stand", "([II[II)I"⟩
abbrev cX9_divides : ByteArray := prog_11_method_10_code
def yX9_divides : MethodName := ⟨RX9, "divides", "([II[II)Z"⟩
abbrev cX9_add : ByteArray := prog_11_method_11_code
def yX9_add : MethodName := ⟨RX9, "add", "(I)V"⟩
abbrev cX9_addTimes : ByteArray := prog_11_method_12_code
def yX9_addTimes : MethodName := ⟨RX9, "addTimes", "(II)Z"⟩
abbrev cX9_byOne : ByteArray := prog_11_method_13_code
def yX9_byOne : MethodName := ⟨RX9, "byOne", "()V"⟩
abbrev cX9_clean : ByteArray := prog_11_method_14_code
def yX9_clean : MethodName := ⟨RX9, "clean", "()V"⟩
abbrev cX9_lay : ByteArray := prog_11_method_15_code
def yX9_lay : MethodName := ⟨RX9, "lay", "(II)V"⟩
abbrev cX9_fetch : ByteArray := prog_11_method_16_code
def yX9_fetch : MethodName := ⟨RX9, "fetch", "(I)V"⟩
abbrev cX9_copy : ByteArray := prog_11_method_17_code
def yX9_copy : MethodName := ⟨RX9, "copy", "(II)V"⟩
abbrev cX9_placeOf : ByteArray := prog_11_method_18_code
def yX9_placeOf : MethodName := ⟨RX9, "placeOf", "(I)I"⟩
abbrev cX9_free : ByteArray := prog_11_method_19_code
def yX9_free : MethodName := ⟨RX9, "free", "()I"⟩
abbrev cX9_shelve : ByteArray := prog_11_method_20_code
def yX9_shelve : MethodName := ⟨RX9, "shelve", "(I)I"⟩
abbrev cX9_order : ByteArray := prog_11_method_21_code
def yX9_order : MethodName := ⟨RX9, "orde\x72", "(I)I"⟩
abbrev cX9_term : ByteArray := prog_11_method_22_code
def yX9_term : MethodName := ⟨RX9, "term", "(IIIII)I"⟩
abbrev cX9_keep : ByteArray := prog_11_method_23_code
def yX9_keep : MethodName := ⟨RX9, "keep", "()I"⟩
abbrev cX9_drop : ByteArray := prog_11_method_24_code
def yX9_drop : MethodName := ⟨RX9, "drop", "(I)I"⟩
abbrev cX9_terms : ByteArray := prog_11_method_25_code
def yX9_terms : MethodName := ⟨RX9, "terms", "(I)I"⟩
abbrev cX9_number : ByteArray := prog_11_method_26_code
def yX9_number : MethodName := ⟨RX9, "numbe\x72", "(II)I"⟩
abbrev cX9_exponent : ByteArray := prog_11_method_27_code
def yX9_exponent : MethodName := ⟨RX9, "exponent", "(III)I"⟩
abbrev cX9_sum : ByteArray := prog_11_method_28_code
def yX9_sum : MethodName := ⟨RX9, "sum", "(III)I"⟩
abbrev cX9_product : ByteArray := prog_11_method_29_code
def yX9_product : MethodName := ⟨RX9, "product", "(II)I"⟩
abbrev cX9_derived : ByteArray := prog_11_method_30_code
def yX9_derived : MethodName := ⟨RX9, "derived", "(II)I"⟩
abbrev cX9_leastOf : ByteArray := prog_11_method_31_code
def yX9_leastOf : MethodName := ⟨RX9, "leastOf", "(II)V"⟩
abbrev cX9_makeS : ByteArray := prog_11_method_32_code
def yX9_makeS : MethodName := ⟨RX9, "makeS", "(II)I"⟩
abbrev cX9_spair : ByteArray := prog_11_method_33_code
def yX9_spair : MethodName := ⟨RX9, "spai\x72", "(II)I"⟩
abbrev cX9_valueAt : ByteArray := prog_11_method_34_code
def yX9_valueAt : MethodName := ⟨RX9, "valueAt", "(I)I"⟩
abbrev cX9_value : ByteArray := prog_11_method_35_code
def yX9_value : MethodName := ⟨RX9, "value", "(IIIII)I"⟩
abbrev cX9_compare : ByteArray := prog_11_method_36_code
def yX9_compare : MethodName := ⟨RX9, "compare", "(II)I"⟩
abbrev cX9_reducer : ByteArray := prog_11_method_37_code
def yX9_reducer : MethodName := ⟨RX9, "reduce\x72", "()I"⟩
abbrev cX9_reduce : ByteArray := prog_11_method_38_code
def yX9_reduce : MethodName := ⟨RX9, "reduce", "(I)I"⟩
abbrev cX9_goOver : ByteArray := prog_11_method_39_code
def yX9_goOver : MethodName := ⟨RX9, "goOve\x72", "()I"⟩
abbrev cX9_leave : ByteArray := prog_11_method_40_code
def yX9_leave : MethodName := ⟨RX9, "leave", "()I"⟩
abbrev cX9_byBasis : ByteArray := prog_11_method_41_code
def yX9_byBasis : MethodName := ⟨RX9, "byBasis", "()V"⟩
abbrev cX9_fuel : ByteArray := prog_11_method_42_code
def yX9_fuel : MethodName := ⟨RX9, "fuel", "(I)I"⟩
abbrev cX9_way : ByteArray := prog_11_method_43_code
def yX9_way : MethodName := ⟨RX9, "way", "(I)I"⟩
abbrev cX9_rules : ByteArray := prog_11_method_44_code
def yX9_rules : MethodName := ⟨RX9, "rules", "(I)I"⟩
abbrev cX9_come : ByteArray := prog_11_method_45_code
def yX9_come : MethodName := ⟨RX9, "come", "()V"⟩
abbrev cX9_enter : ByteArray := prog_11_method_46_code
def yX9_enter : MethodName := ⟨RX9, "ente\x72", "(I)I"⟩
abbrev cX9_clear : ByteArray := prog_11_method_47_code
def yX9_clear : MethodName := ⟨RX9, "clea\x72", "()I"⟩
abbrev cX9_nextPair : ByteArray := prog_11_method_48_code
def yX9_nextPair : MethodName := ⟨RX9, "nextPai\x72", "()I"⟩
abbrev cX9_waits : ByteArray := prog_11_method_49_code
def yX9_waits : MethodName := ⟨RX9, "waits", "(II)Z"⟩
abbrev cX9_areCoprime : ByteArray := prog_11_method_50_code
def yX9_areCoprime : MethodName := ⟨RX9, "areCoprime", "(II)Z"⟩
abbrev cX9_isChained : ByteArray := prog_11_method_51_code
def yX9_isChained : MethodName := ⟨RX9, "isChained", "(II)Z"⟩
abbrev cX9_goes : ByteArray := prog_11_method_52_code
def yX9_goes : MethodName := ⟨RX9, "goes", "(I)V"⟩
abbrev cX9_workOf : ByteArray := prog_11_method_53_code
def yX9_workOf : MethodName := ⟨RX9, "workOf", "(I)I"⟩
abbrev cX9_work : ByteArray := prog_11_method_54_code
def yX9_work : MethodName := ⟨RX9, "work", "(I)I"⟩
abbrev cX9_isGone : ByteArray := prog_11_method_55_code
def yX9_isGone : MethodName := ⟨RX9, "isGone", "(I)Z"⟩
abbrev cX9_sort : ByteArray := prog_11_method_56_code
def yX9_sort : MethodName := ⟨RX9, "sort", "()V"⟩
abbrev cX9_tidyOne : ByteArray := prog_11_method_57_code
def yX9_tidyOne : MethodName := ⟨RX9, "tidyOne", "(I)I"⟩
abbrev cX9_tidy : ByteArray := prog_11_method_58_code
def yX9_tidy : MethodName := ⟨RX9, "tidy", "()I"⟩
abbrev cX9_left : ByteArray := prog_11_method_59_code
def yX9_left : MethodName := ⟨RX9, "left", "(I)I"⟩
abbrev cX9_member : ByteArray := prog_11_method_60_code
def yX9_member : MethodName := ⟨RX9, "membe\x72", "(I)I"⟩
abbrev cX9_pair : ByteArray := prog_11_method_61_code
def yX9_pair : MethodName := ⟨RX9, "pai\x72", "(I)I"⟩
abbrev cX9_isOne : ByteArray := prog_11_method_62_code
def yX9_isOne : MethodName := ⟨RX9, "isOne", "(I)Z"⟩
abbrev cX9_alone : ByteArray := prog_11_method_63_code
def yX9_alone : MethodName := ⟨RX9, "alone", "(I)I"⟩
abbrev cX9_doesStand : ByteArray := prog_11_method_64_code
def yX9_doesStand : MethodName := ⟨RX9, "doesStand", "()Z"⟩
abbrev cX9_findStanding : ByteArray := prog_11_method_65_code
def yX9_findStanding : MethodName := ⟨RX9, "findStanding", "()I"⟩
abbrev cX9_layStanding : ByteArray := prog_11_method_66_code
def yX9_layStanding : MethodName := ⟨RX9, "layStanding", "()V"⟩
abbrev cX9_standing : ByteArray := prog_11_method_67_code
def yX9_standing : MethodName := ⟨RX9, "standing", "()I"⟩
abbrev cX9_stands : ByteArray := prog_11_method_68_code
def yX9_stands : MethodName := ⟨RX9, "stands", "(II)I"⟩
abbrev cX9_without : ByteArray := prog_11_method_69_code
def yX9_without : MethodName := ⟨RX9, "without", "(I)I"⟩
abbrev cX9_zeros : ByteArray := prog_11_method_70_code
def yX9_zeros : MethodName := ⟨RX9, "zeros", "()I"⟩
abbrev cX9_count : ByteArray := prog_11_method_71_code
def yX9_count : MethodName := ⟨RX9, "count", "(I)I"⟩
abbrev cX9_digested : ByteArray := prog_11_method_72_code
def yX9_digested : MethodName := ⟨RX9, "digested", "(JI)J"⟩
abbrev cX9_digest : ByteArray := prog_11_method_73_code
def yX9_digest : MethodName := ⟨RX9, "digest", "()J"⟩
def RJ6 : String := "java/lang/Intege\x72"
def TJ6 : u_T := fun k => match k with
  | _ => ("", "", "", false)
def tyJ6 : Nat → FieldType := fun k => match k with
  | _ => .int
abbrev wsJ60 : List Cond := u_ws RJ6 TJ6 0
theorem nmJ6 : ∀ a, a < 0 → ∀ b, b < 0 → a ≠ b → (TJ6 a).2.1 ≠ (TJ6 b).2.1 := by decide +kernel
theorem tyJ6_ok : ∀ k, k < 0 → parseFieldDescriptor (TJ6 k).2.2.1 = some (tyJ6 k) := by decide +kernel
abbrev cJ6_compare_7cf53 : ByteArray := prog_12_method_40_code
def yJ6_compare_7cf53 : MethodName := ⟨RJ6, "compare", "(II)I"⟩
def RJ9 : String := "java/lang/Math"
def TJ9 : u_T := fun k => match k with
  | _ => ("", "", "", false)
def tyJ9 : Nat → FieldType := fun k => match k with
  | _ => .int
abbrev wsJ90 : List Cond := u_ws RJ9 TJ9 0
theorem nmJ9 : ∀ a, a < 0 → ∀ b, b < 0 → a ≠ b → (TJ9 a).2.1 ≠ (TJ9 b).2.1 := by decide +kernel
theorem tyJ9_ok : ∀ k, k < 0 → parseFieldDescriptor (TJ9 k).2.2.1 = some (tyJ9 k) := by decide +kernel
abbrev cJ9_floorMod_7cf53 : ByteArray := prog_13_method_50_code
def yJ9_floorMod_7cf53 : MethodName := ⟨RJ9, "floorMod", "(II)I"⟩
abbrev cJ9_max_7cf53 : ByteArray := prog_13_method_65_code
def yJ9_max_7cf53 : MethodName := ⟨RJ9, "max", "(II)I"⟩
abbrev cJ9_min_7cf53 : ByteArray := prog_13_method_69_code
def yJ9_min_7cf53 : MethodName := ⟨RJ9, "min", "(II)I"⟩
def RJ7 : String := "java/util/Arrays"
def TJ7 : u_T := fun k => match k with
  | _ => ("", "", "", false)
def tyJ7 : Nat → FieldType := fun k => match k with
  | _ => .int
abbrev wsJ70 : List Cond := u_ws RJ7 TJ7 0
theorem nmJ7 : ∀ a, a < 0 → ∀ b, b < 0 → a ≠ b → (TJ7 a).2.1 ≠ (TJ7 b).2.1 := by decide +kernel
theorem tyJ7_ok : ∀ k, k < 0 → parseFieldDescriptor (TJ7 k).2.2.1 = some (tyJ7 k) := by decide +kernel
abbrev cJ7_fill_53178 : ByteArray := prog_14_method_103_code
def yJ7_fill_53178 : MethodName := ⟨RJ7, "fill", "([II)V"⟩
def RL : String := "IdealBenchLaw"
abbrev cL_cell : ByteArray := method_2_code
def yL_cell : MethodName := ⟨RL, "cell", "([II)I"⟩
abbrev cL_law : ByteArray := code
def yL_law : MethodName := ⟨RL, "law", "([I)Z"⟩
abbrev vwCl : List vw_C := [(RX0, TX0, 15), (RX2, TX2, 3), (RX3, TX3, 3), (RX4, TX4, 7), (RX5, TX5, 7), (RX6, TX6, 3), (RX7, TX7, 3), (RX8, TX8, 8), (RX9, TX9, 38)]
end
section
theorem dJ6_compare_7cf53_0 : decode cJ6_compare_7cf53 0 = .ok (.iload_n 0, 1) := by decide +kernel
theorem dJ6_compare_7cf53_1 : decode cJ6_compare_7cf53 1 = .ok (.iload_n 1, 1) := by decide +kernel
theorem dJ6_compare_7cf53_2 : decode cJ6_compare_7cf53 2 = .ok (.if_icmp .ge 7, 3) := by decide +kernel
theorem dJ6_compare_7cf53_5 : decode cJ6_compare_7cf53 5 = .ok (.iconst (-1), 1) := by decide +kernel
theorem dJ6_compare_7cf53_6 : decode cJ6_compare_7cf53 6 = .ok (.goto 13, 3) := by decide +kernel
theorem dJ6_compare_7cf53_9 : decode cJ6_compare_7cf53 9 = .ok (.iload_n 0, 1) := by decide +kernel
theorem dJ6_compare_7cf53_10 : decode cJ6_compare_7cf53 10 = .ok (.iload_n 1, 1) := by decide +kernel
theorem dJ6_compare_7cf53_11 : decode cJ6_compare_7cf53 11 = .ok (.if_icmp .ne 7, 3) := by decide +kernel
theorem dJ6_compare_7cf53_14 : decode cJ6_compare_7cf53 14 = .ok (.iconst 0, 1) := by decide +kernel
theorem dJ6_compare_7cf53_15 : decode cJ6_compare_7cf53 15 = .ok (.goto 4, 3) := by decide +kernel
theorem dJ6_compare_7cf53_18 : decode cJ6_compare_7cf53 18 = .ok (.iconst 1, 1) := by decide +kernel
theorem dJ6_compare_7cf53_19 : decode cJ6_compare_7cf53 19 = .ok (.ireturn, 1) := by decide +kernel
theorem dJ9_floorMod_7cf53_0 : decode cJ9_floorMod_7cf53 0 = .ok (.iload_n 0, 1) := by decide +kernel
theorem dJ9_floorMod_7cf53_1 : decode cJ9_floorMod_7cf53 1 = .ok (.iload_n 1, 1) := by decide +kernel
theorem dJ9_floorMod_7cf53_2 : decode cJ9_floorMod_7cf53 2 = .ok (.irem, 1) := by decide +kernel
theorem dJ9_floorMod_7cf53_3 : decode cJ9_floorMod_7cf53 3 = .ok (.istore_n 2, 1) := by decide +kernel
theorem dJ9_floorMod_7cf53_4 : decode cJ9_floorMod_7cf53 4 = .ok (.iload_n 0, 1) := by decide +kernel
theorem dJ9_floorMod_7cf53_5 : decode cJ9_floorMod_7cf53 5 = .ok (.iload_n 1, 1) := by decide +kernel
theorem dJ9_floorMod_7cf53_6 : decode cJ9_floorMod_7cf53 6 = .ok (.ixor, 1) := by decide +kernel
theorem dJ9_floorMod_7cf53_7 : decode cJ9_floorMod_7cf53 7 = .ok (.ifCond .ge 11, 3) := by decide +kernel
theorem dJ9_floorMod_7cf53_10 : decode cJ9_floorMod_7cf53 10 = .ok (.iload_n 2, 1) := by decide +kernel
theorem dJ9_floorMod_7cf53_11 : decode cJ9_floorMod_7cf53 11 = .ok (.ifCond .eq 7, 3) := by decide +kernel
theorem dJ9_floorMod_7cf53_14 : decode cJ9_floorMod_7cf53 14 = .ok (.iload_n 2, 1) := by decide +kernel
theorem dJ9_floorMod_7cf53_15 : decode cJ9_floorMod_7cf53 15 = .ok (.iload_n 1, 1) := by decide +kernel
theorem dJ9_floorMod_7cf53_16 : decode cJ9_floorMod_7cf53 16 = .ok (.iadd, 1) := by decide +kernel
theorem dJ9_floorMod_7cf53_17 : decode cJ9_floorMod_7cf53 17 = .ok (.ireturn, 1) := by decide +kernel
theorem dJ9_floorMod_7cf53_18 : decode cJ9_floorMod_7cf53 18 = .ok (.iload_n 2, 1) := by decide +kernel
theorem dJ9_floorMod_7cf53_19 : decode cJ9_floorMod_7cf53 19 = .ok (.ireturn, 1) := by decide +kernel
theorem dJ9_max_7cf53_0 : decode cJ9_max_7cf53 0 = .ok (.iload_n 0, 1) := by decide +kernel
theorem dJ9_max_7cf53_1 : decode cJ9_max_7cf53 1 = .ok (.iload_n 1, 1) := by decide +kernel
theorem dJ9_max_7cf53_2 : decode cJ9_max_7cf53 2 = .ok (.if_icmp .lt 7, 3) := by decide +kernel
theorem dJ9_max_7cf53_5 : decode cJ9_max_7cf53 5 = .ok (.iload_n 0, 1) := by decide +kernel
theorem dJ9_max_7cf53_6 : decode cJ9_max_7cf53 6 = .ok (.goto 4, 3) := by decide +kernel
theorem dJ9_max_7cf53_9 : decode cJ9_max_7cf53 9 = .ok (.iload_n 1, 1) := by decide +kernel
theorem dJ9_max_7cf53_10 : decode cJ9_max_7cf53 10 = .ok (.ireturn, 1) := by decide +kernel
theorem dJ9_min_7cf53_0 : decode cJ9_min_7cf53 0 = .ok (.iload_n 0, 1) := by decide +kernel
theorem dJ9_min_7cf53_1 : decode cJ9_min_7cf53 1 = .ok (.iload_n 1, 1) := by decide +kernel
theorem dJ9_min_7cf53_2 : decode cJ9_min_7cf53 2 = .ok (.if_icmp .gt 7, 3) := by decide +kernel
theorem dJ9_min_7cf53_5 : decode cJ9_min_7cf53 5 = .ok (.iload_n 0, 1) := by decide +kernel
theorem dJ9_min_7cf53_6 : decode cJ9_min_7cf53 6 = .ok (.goto 4, 3) := by decide +kernel
theorem dJ9_min_7cf53_9 : decode cJ9_min_7cf53 9 = .ok (.iload_n 1, 1) := by decide +kernel
theorem dJ9_min_7cf53_10 : decode cJ9_min_7cf53 10 = .ok (.ireturn, 1) := by decide +kernel
theorem dJ7_fill_53178_0 : decode cJ7_fill_53178 0 = .ok (.iconst 0, 1) := by decide +kernel
theorem dJ7_fill_53178_1 : decode cJ7_fill_53178 1 = .ok (.istore_n 2, 1) := by decide +kernel
theorem dJ7_fill_53178_2 : decode cJ7_fill_53178 2 = .ok (.aload_n 0, 1) := by decide +kernel
theorem dJ7_fill_53178_3 : decode cJ7_fill_53178 3 = .ok (.arraylength, 1) := by decide +kernel
theorem dJ7_fill_53178_4 : decode cJ7_fill_53178 4 = .ok (.istore_n 3, 1) := by decide +kernel
theorem dJ7_fill_53178_5 : decode cJ7_fill_53178 5 = .ok (.iload_n 2, 1) := by decide +kernel
theorem dJ7_fill_53178_6 : decode cJ7_fill_53178 6 = .ok (.iload_n 3, 1) := by decide +kernel
theorem dJ7_fill_53178_7 : decode cJ7_fill_53178 7 = .ok (.if_icmp .ge 13, 3) := by decide +kernel
theorem dJ7_fill_53178_10 : decode cJ7_fill_53178 10 = .ok (.aload_n 0, 1) := by decide +kernel
theorem dJ7_fill_53178_11 : decode cJ7_fill_53178 11 = .ok (.iload_n 2, 1) := by decide +kernel
theorem dJ7_fill_53178_12 : decode cJ7_fill_53178 12 = .ok (.iload_n 1, 1) := by decide +kernel
theorem dJ7_fill_53178_13 : decode cJ7_fill_53178 13 = .ok (.iastore, 1) := by decide +kernel
theorem dJ7_fill_53178_14 : decode cJ7_fill_53178 14 = .ok (.iinc 2 1, 3) := by decide +kernel
theorem dJ7_fill_53178_17 : decode cJ7_fill_53178 17 = .ok (.goto (-12), 3) := by decide +kernel
theorem dJ7_fill_53178_20 : decode cJ7_fill_53178 20 = .ok (.return_, 1) := by decide +kernel
theorem dX1_of_0 : decode cX1_of 0 = .ok (.iload_n 0, 1) := by decide +kernel
theorem dX1_of_1 : decode cX1_of 1 = .ok (.iload_n 1, 1) := by decide +kernel
theorem dX1_of_2 : decode cX1_of 2 = .ok (.bipush 8, 2) := by decide +kernel
theorem dX1_of_4 : decode cX1_of 4 = .ok (.ishl, 1) := by decide +kernel
theorem dX1_of_5 : decode cX1_of 5 = .ok (.ior, 1) := by decide +kernel
theorem dX1_of_6 : decode cX1_of 6 = .ok (.iload_n 2, 1) := by decide +kernel
theorem dX1_of_7 : decode cX1_of 7 = .ok (.bipush 16, 2) := by decide +kernel
theorem dX1_of_9 : decode cX1_of 9 = .ok (.ishl, 1) := by decide +kernel
theorem dX1_of_10 : decode cX1_of 10 = .ok (.ior, 1) := by decide +kernel
theorem dX1_of_11 : decode cX1_of 11 = .ok (.iload_n 3, 1) := by decide +kernel
theorem dX1_of_12 : decode cX1_of 12 = .ok (.bipush 24, 2) := by decide +kernel
theorem dX1_of_14 : decode cX1_of 14 = .ok (.ishl, 1) := by decide +kernel
theorem dX1_of_15 : decode cX1_of 15 = .ok (.ior, 1) := by decide +kernel
theorem dX1_of_16 : decode cX1_of 16 = .ok (.ireturn, 1) := by decide +kernel
theorem dX1_variable_0 : decode cX1_variable 0 = .ok (.iconst 1, 1) := by decide +kernel
theorem dX1_variable_1 : decode cX1_variable 1 = .ok (.bipush 8, 2) := by decide +kernel
theorem dX1_variable_3 : decode cX1_variable 3 = .ok (.iload_n 0, 1) := by decide +kernel
theorem dX1_variable_4 : decode cX1_variable 4 = .ok (.imul, 1) := by decide +kernel
theorem dX1_variable_5 : decode cX1_variable 5 = .ok (.ishl, 1) := by decide +kernel
theorem dX1_variable_6 : decode cX1_variable 6 = .ok (.ireturn, 1) := by decide +kernel
theorem dX1_exponentOf_0 : decode cX1_exponentOf 0 = .ok (.iload_n 0, 1) := by decide +kernel
theorem dX1_exponentOf_1 : decode cX1_exponentOf 1 = .ok (.bipush 8, 2) := by decide +kernel
theorem dX1_exponentOf_3 : decode cX1_exponentOf 3 = .ok (.iload_n 1, 1) := by decide +kernel
theorem dX1_exponentOf_4 : decode cX1_exponentOf 4 = .ok (.imul, 1) := by decide +kernel
theorem dX1_exponentOf_5 : decode cX1_exponentOf 5 = .ok (.iushr, 1) := by decide +kernel
theorem dX1_exponentOf_6 : decode cX1_exponentOf 6 = .ok (.sipush 255, 3) := by decide +kernel
theorem dX1_exponentOf_9 : decode cX1_exponentOf 9 = .ok (.iand, 1) := by decide +kernel
theorem dX1_exponentOf_10 : decode cX1_exponentOf 10 = .ok (.ireturn, 1) := by decide +kernel
theorem dX1_isGreat_0 : decode cX1_isGreat 0 = .ok (.iload_n 0, 1) := by decide +kernel
theorem dX1_isGreat_1 : decode cX1_isGreat 1 = .ok (.ldc 11, 2) := by decide +kernel
theorem dX1_isGreat_3 : decode cX1_isGreat 3 = .ok (.iadd, 1) := by decide +kernel
theorem dX1_isGreat_4 : decode cX1_isGreat 4 = .ok (.ldc 12, 2) := by decide +kernel
theorem dX1_isGreat_6 : decode cX1_isGreat 6 = .ok (.iand, 1) := by decide +kernel
theorem dX1_isGreat_7 : decode cX1_isGreat 7 = .ok (.ifCond .eq 7, 3) := by decide +kernel
theorem dX1_isGreat_10 : decode cX1_isGreat 10 = .ok (.iconst 1, 1) := by decide +kernel
theorem dX1_isGreat_11 : decode cX1_isGreat 11 = .ok (.goto 4, 3) := by decide +kernel
theorem dX1_isGreat_14 : decode cX1_isGreat 14 = .ok (.iconst 0, 1) := by decide +kernel
theorem dX1_isGreat_15 : decode cX1_isGreat 15 = .ok (.ireturn, 1) := by decide +kernel
theorem dX1_divides_0 : decode cX1_divides 0 = .ok (.iload_n 1, 1) := by decide +kernel
theorem dX1_divides_1 : decode cX1_divides 1 = .ok (.ldc 12, 2) := by decide +kernel
theorem dX1_divides_3 : decode cX1_divides 3 = .ok (.ior, 1) := by decide +kernel
theorem dX1_divides_4 : decode cX1_divides 4 = .ok (.iload_n 0, 1) := by decide +kernel
theorem dX1_divides_5 : decode cX1_divides 5 = .ok (.isub, 1) := by decide +kernel
theorem dX1_divides_6 : decode cX1_divides 6 = .ok (.ldc 12, 2) := by decide +kernel
theorem dX1_divides_8 : decode cX1_divides 8 = .ok (.iand, 1) := by decide +kernel
theorem dX1_divides_9 : decode cX1_divides 9 = .ok (.ldc 12, 2) := by decide +kernel
theorem dX1_divides_11 : decode cX1_divides 11 = .ok (.if_icmp .ne 7, 3) := by decide +kernel
theorem dX1_divides_14 : decode cX1_divides 14 = .ok (.iconst 1, 1) := by decide +kernel
theorem dX1_divides_15 : decode cX1_divides 15 = .ok (.goto 4, 3) := by decide +kernel
theorem dX1_divides_18 : decode cX1_divides 18 = .ok (.iconst 0, 1) := by decide +kernel
theorem dX1_divides_19 : decode cX1_divides 19 = .ok (.ireturn, 1) := by decide +kernel
theorem dX1_leastMultiple_0 : decode cX1_leastMultiple 0 = .ok (.iconst 0, 1) := by decide +kernel
theorem dX1_leastMultiple_1 : decode cX1_leastMultiple 1 = .ok (.istore_n 2, 1) := by decide +kernel
theorem dX1_leastMultiple_2 : decode cX1_leastMultiple 2 = .ok (.iconst 0, 1) := by decide +kernel
theorem dX1_leastMultiple_3 : decode cX1_leastMultiple 3 = .ok (.istore_n 3, 1) := by decide +kernel
theorem dX1_leastMultiple_4 : decode cX1_leastMultiple 4 = .ok (.iload_n 3, 1) := by decide +kernel
theorem dX1_leastMultiple_5 : decode cX1_leastMultiple 5 = .ok (.iconst 4, 1) := by decide +kernel
theorem dX1_leastMultiple_6 : decode cX1_leastMultiple 6 = .ok (.if_icmp .ge 30, 3) := by decide +kernel
theorem dX1_leastMultiple_9 : decode cX1_leastMultiple 9 = .ok (.iload_n 2, 1) := by decide +kernel
theorem dX1_leastMultiple_10 : decode cX1_leastMultiple 10 = .ok (.iload_n 0, 1) := by decide +kernel
theorem dX1_leastMultiple_11 : decode cX1_leastMultiple 11 = .ok (.iload_n 3, 1) := by decide +kernel
theorem dX1_leastMultiple_12 : decode cX1_leastMultiple 12 = .ok (.invokestatic 13, 3) := by decide +kernel
theorem dX1_leastMultiple_15 : decode cX1_leastMultiple 15 = .ok (.iload_n 1, 1) := by decide +kernel
theorem dX1_leastMultiple_16 : decode cX1_leastMultiple 16 = .ok (.iload_n 3, 1) := by decide +kernel
theorem dX1_leastMultiple_17 : decode cX1_leastMultiple 17 = .ok (.invokestatic 13, 3) := by decide +kernel
theorem dX1_leastMultiple_20 : decode cX1_leastMultiple 20 = .ok (.invokestatic 17, 3) := by decide +kernel
theorem dX1_leastMultiple_23 : decode cX1_leastMultiple 23 = .ok (.iload_n 3, 1) := by decide +kernel
theorem dX1_leastMultiple_24 : decode cX1_leastMultiple 24 = .ok (.invokestatic 22, 3) := by decide +kernel
theorem dX1_leastMultiple_27 : decode cX1_leastMultiple 27 = .ok (.imul, 1) := by decide +kernel
theorem dX1_leastMultiple_28 : decode cX1_leastMultiple 28 = .ok (.iadd, 1) := by decide +kernel
theorem dX1_leastMultiple_29 : decode cX1_leastMultiple 29 = .ok (.istore_n 2, 1) := by decide +kernel
theorem dX1_leastMultiple_30 : decode cX1_leastMultiple 30 = .ok (.iinc 3 1, 3) := by decide +kernel
theorem dX1_leastMultiple_33 : decode cX1_leastMultiple 33 = .ok (.goto (-29), 3) := by decide +kernel
theorem dX1_leastMultiple_36 : decode cX1_leastMultiple 36 = .ok (.iload_n 2, 1) := by decide +kernel
theorem dX1_leastMultiple_37 : decode cX1_leastMultiple 37 = .ok (.ireturn, 1) := by decide +kernel
theorem dX3_init_0 : decode cX3_init 0 = .ok (.aload_n 0, 1) := by decide +kernel
theorem dX3_init_1 : decode cX3_init 1 = .ok (.invokespecial 3, 3) := by decide +kernel
theorem dX3_init_4 : decode cX3_init 4 = .ok (.aload_n 0, 1) := by decide +kernel
theorem dX3_init_5 : decode cX3_init 5 = .ok (.bipush 40, 2) := by decide +kernel
theorem dX3_init_7 : decode cX3_init 7 = .ok (.newarray .int, 2) := by decide +kernel
theorem dX3_init_9 : decode cX3_init 9 = .ok (.putfield 9, 3) := by decide +kernel
theorem dX3_init_12 : decode cX3_init 12 = .ok (.aload_n 0, 1) := by decide +kernel
theorem dX3_init_13 : decode cX3_init 13 = .ok (.bipush 40, 2) := by decide +kernel
theorem dX3_init_15 : decode cX3_init 15 = .ok (.newarray .int, 2) := by decide +kernel
theorem dX3_init_17 : decode cX3_init 17 = .ok (.putfield 15, 3) := by decide +kernel
theorem dX3_init_20 : decode cX3_init 20 = .ok (.return_, 1) := by decide +kernel
theorem dX3_push_0 : decode cX3_push 0 = .ok (.aload_n 0, 1) := by decide +kernel
theorem dX3_push_1 : decode cX3_push 1 = .ok (.getfield 18, 3) := by decide +kernel
theorem dX3_push_4 : decode cX3_push 4 = .ok (.bipush 40, 2) := by decide +kernel
theorem dX3_push_6 : decode cX3_push 6 = .ok (.if_icmp .lt 5, 3) := by decide +kernel
theorem dX3_push_9 : decode cX3_push 9 = .ok (.iconst 0, 1) := by decide +kernel
theorem dX3_push_10 : decode cX3_push 10 = .ok (.ireturn, 1) := by decide +kernel
theorem dX3_push_11 : decode cX3_push 11 = .ok (.aload_n 0, 1) := by decide +kernel
theorem dX3_push_12 : decode cX3_push 12 = .ok (.getfield 9, 3) := by decide +kernel
theorem dX3_push_15 : decode cX3_push 15 = .ok (.aload_n 0, 1) := by decide +kernel
theorem dX3_push_16 : decode cX3_push 16 = .ok (.getfield 18, 3) := by decide +kernel
theorem dX3_push_19 : decode cX3_push 19 = .ok (.iload_n 1, 1) := by decide +kernel
theorem dX3_push_20 : decode cX3_push 20 = .ok (.iastore, 1) := by decide +kernel
theorem dX3_push_21 : decode cX3_push 21 = .ok (.aload_n 0, 1) := by decide +kernel
theorem dX3_push_22 : decode cX3_push 22 = .ok (.getfield 15, 3) := by decide +kernel
theorem dX3_push_25 : decode cX3_push 25 = .ok (.aload_n 0, 1) := by decide +kernel
theorem dX3_push_26 : decode cX3_push 26 = .ok (.getfield 18, 3) := by decide +kernel
theorem dX3_push_29 : decode cX3_push 29 = .ok (.iload_n 2, 1) := by decide +kernel
theorem dX3_push_30 : decode cX3_push 30 = .ok (.iastore, 1) := by decide +kernel
theorem dX3_push_31 : decode cX3_push 31 = .ok (.aload_n 0, 1) := by decide +kernel
theorem dX3_push_32 : decode cX3_push 32 = .ok (.dup, 1) := by decide +kernel
theorem dX3_push_33 : decode cX3_push 33 = .ok (.getfield 18, 3) := by decide +kernel
theorem dX3_push_36 : decode cX3_push 36 = .ok (.iconst 1, 1) := by decide +kernel
theorem dX3_push_37 : decode cX3_push 37 = .ok (.iadd, 1) := by decide +kernel
theorem dX3_push_38 : decode cX3_push 38 = .ok (.putfield 18, 3) := by decide +kernel
theorem dX3_push_41 : decode cX3_push 41 = .ok (.iconst 1, 1) := by decide +kernel
theorem dX3_push_42 : decode cX3_push 42 = .ok (.ireturn, 1) := by decide +kernel
theorem dX3_copyOf_0 : decode cX3_copyOf 0 = .ok (.aload_n 0, 1) := by decide +kernel
theorem dX3_copyOf_1 : decode cX3_copyOf 1 = .ok (.aload_n 1, 1) := by decide +kernel
theorem dX3_copyOf_2 : decode cX3_copyOf 2 = .ok (.iconst 0, 1) := by decide +kernel
theorem dX3_copyOf_3 : decode cX3_copyOf 3 = .ok (.invokevirtual 22, 3) := by decide +kernel
theorem dX3_copyOf_6 : decode cX3_copyOf 6 = .ok (.return_, 1) := by decide +kernel
theorem dX3_copyFrom_0 : decode cX3_copyFrom 0 = .ok (.aload_n 1, 1) := by decide +kernel
theorem dX3_copyFrom_1 : decode cX3_copyFrom 1 = .ok (.getfield 18, 3) := by decide +kernel
theorem dX3_copyFrom_4 : decode cX3_copyFrom 4 = .ok (.istore_n 3, 1) := by decide +kernel
theorem dX3_copyFrom_5 : decode cX3_copyFrom 5 = .ok (.aload_n 0, 1) := by decide +kernel
theorem dX3_copyFrom_6 : decode cX3_copyFrom 6 = .ok (.iconst 0, 1) := by decide +kernel
theorem dX3_copyFrom_7 : decode cX3_copyFrom 7 = .ok (.putfield 18, 3) := by decide +kernel
theorem dX3_copyFrom_10 : decode cX3_copyFrom 10 = .ok (.iload_n 2, 1) := by decide +kernel
theorem dX3_copyFrom_11 : decode cX3_copyFrom 11 = .ok (.istore 4, 2) := by decide +kernel
theorem dX3_copyFrom_13 : decode cX3_copyFrom 13 = .ok (.iload 4, 2) := by decide +kernel
theorem dX3_copyFrom_15 : decode cX3_copyFrom 15 = .ok (.iload_n 3, 1) := by decide +kernel
theorem dX3_copyFrom_16 : decode cX3_copyFrom 16 = .ok (.if_icmp .ge 28, 3) := by decide +kernel
theorem dX3_copyFrom_19 : decode cX3_copyFrom 19 = .ok (.aload_n 0, 1) := by decide +kernel
theorem dX3_copyFrom_20 : decode cX3_copyFrom 20 = .ok (.aload_n 1, 1) := by decide +kernel
theorem dX3_copyFrom_21 : decode cX3_copyFrom 21 = .ok (.getfield 9, 3) := by decide +kernel
theorem dX3_copyFrom_24 : decode cX3_copyFrom 24 = .ok (.iload 4, 2) := by decide +kernel
theorem dX3_copyFrom_26 : decode cX3_copyFrom 26 = .ok (.iaload, 1) := by decide +kernel
theorem dX3_copyFrom_27 : decode cX3_copyFrom 27 = .ok (.aload_n 1, 1) := by decide +kernel
theorem dX3_copyFrom_28 : decode cX3_copyFrom 28 = .ok (.getfield 15, 3) := by decide +kernel
theorem dX3_copyFrom_31 : decode cX3_copyFrom 31 = .ok (.iload 4, 2) := by decide +kernel
theorem dX3_copyFrom_33 : decode cX3_copyFrom 33 = .ok (.iaload, 1) := by decide +kernel
theorem dX3_copyFrom_34 : decode cX3_copyFrom 34 = .ok (.invokevirtual 26, 3) := by decide +kernel
theorem dX3_copyFrom_37 : decode cX3_copyFrom 37 = .ok (.pop, 1) := by decide +kernel
theorem dX3_copyFrom_38 : decode cX3_copyFrom 38 = .ok (.iinc 4 1, 3) := by decide +kernel
theorem dX3_copyFrom_41 : decode cX3_copyFrom 41 = .ok (.goto (-28), 3) := by decide +kernel
theorem dX3_copyFrom_44 : decode cX3_copyFrom 44 = .ok (.return_, 1) := by decide +kernel
theorem dX3_dropHead_0 : decode cX3_dropHead 0 = .ok (.aload_n 0, 1) := by decide +kernel
theorem dX3_dropHead_1 : decode cX3_dropHead 1 = .ok (.aload_n 0, 1) := by decide +kernel
theorem dX3_dropHead_2 : decode cX3_dropHead 2 = .ok (.iconst 1, 1) := by decide +kernel
theorem dX3_dropHead_3 : decode cX3_dropHead 3 = .ok (.invokevirtual 22, 3) := by decide +kernel
theorem dX3_dropHead_6 : decode cX3_dropHead 6 = .ok (.return_, 1) := by decide +kernel
theorem dX3_head_0 : decode cX3_head 0 = .ok (.aload_n 0, 1) := by decide +kernel
theorem dX3_head_1 : decode cX3_head 1 = .ok (.getfield 18, 3) := by decide +kernel
theorem dX3_head_4 : decode cX3_head 4 = .ok (.ifCond .le 12, 3) := by decide +kernel
theorem dX3_head_7 : decode cX3_head 7 = .ok (.aload_n 0, 1) := by decide +kernel
theorem dX3_head_8 : decode cX3_head 8 = .ok (.getfield 15, 3) := by decide +kernel
theorem dX3_head_11 : decode cX3_head 11 = .ok (.iconst 0, 1) := by decide +kernel
theorem dX3_head_12 : decode cX3_head 12 = .ok (.iaload, 1) := by decide +kernel
theorem dX3_head_13 : decode cX3_head 13 = .ok (.goto 4, 3) := by decide +kernel
theorem dX3_head_16 : decode cX3_head 16 = .ok (.iconst 0, 1) := by decide +kernel
theorem dX3_head_17 : decode cX3_head 17 = .ok (.ireturn, 1) := by decide +kernel
theorem dX2_init_0 : decode cX2_init 0 = .ok (.aload_n 0, 1) := by decide +kernel
theorem dX2_init_1 : decode cX2_init 1 = .ok (.invokespecial 3, 3) := by decide +kernel
theorem dX2_init_4 : decode cX2_init 4 = .ok (.aload_n 0, 1) := by decide +kernel
theorem dX2_init_5 : decode cX2_init 5 = .ok (.sipush 153, 3) := by decide +kernel
theorem dX2_init_8 : decode cX2_init 8 = .ok (.newarray .int, 2) := by decide +kernel
theorem dX2_init_10 : decode cX2_init 10 = .ok (.putfield 9, 3) := by decide +kernel
theorem dX2_init_13 : decode cX2_init 13 = .ok (.aload_n 0, 1) := by decide +kernel
theorem dX2_init_14 : decode cX2_init 14 = .ok (.sipush 153, 3) := by decide +kernel
theorem dX2_init_17 : decode cX2_init 17 = .ok (.newarray .int, 2) := by decide +kernel
theorem dX2_init_19 : decode cX2_init 19 = .ok (.putfield 15, 3) := by decide +kernel
theorem dX2_init_22 : decode cX2_init 22 = .ok (.return_, 1) := by decide +kernel
theorem dX2_comeWith_0 : decode cX2_comeWith 0 = .ok (.iconst 0, 1) := by decide +kernel
theorem dX2_comeWith_1 : decode cX2_comeWith 1 = .ok (.istore_n 2, 1) := by decide +kernel
theorem dX2_comeWith_2 : decode cX2_comeWith 2 = .ok (.iload_n 2, 1) := by decide +kernel
theorem dX2_comeWith_3 : decode cX2_comeWith 3 = .ok (.iload_n 1, 1) := by decide +kernel
theorem dX2_comeWith_4 : decode cX2_comeWith 4 = .ok (.if_icmp .ge 49, 3) := by decide +kernel
theorem dX2_comeWith_7 : decode cX2_comeWith 7 = .ok (.aload_n 0, 1) := by decide +kernel
theorem dX2_comeWith_8 : decode cX2_comeWith 8 = .ok (.getfield 18, 3) := by decide +kernel
theorem dX2_comeWith_11 : decode cX2_comeWith 11 = .ok (.sipush 153, 3) := by decide +kernel
theorem dX2_comeWith_14 : decode cX2_comeWith 14 = .ok (.if_icmp .ge 39, 3) := by decide +kernel
theorem dX2_comeWith_17 : decode cX2_comeWith 17 = .ok (.aload_n 0, 1) := by decide +kernel
theorem dX2_comeWith_18 : decode cX2_comeWith 18 = .ok (.getfield 9, 3) := by decide +kernel
theorem dX2_comeWith_21 : decode cX2_comeWith 21 = .ok (.aload_n 0, 1) := by decide +kernel
theorem dX2_comeWith_22 : decode cX2_comeWith 22 = .ok (.getfield 18, 3) := by decide +kernel
theorem dX2_comeWith_25 : decode cX2_comeWith 25 = .ok (.iload_n 2, 1) := by decide +kernel
theorem dX2_comeWith_26 : decode cX2_comeWith 26 = .ok (.iastore, 1) := by decide +kernel
theorem dX2_comeWith_27 : decode cX2_comeWith 27 = .ok (.aload_n 0, 1) := by decide +kernel
theorem dX2_comeWith_28 : decode cX2_comeWith 28 = .ok (.getfield 15, 3) := by decide +kernel
theorem dX2_comeWith_31 : decode cX2_comeWith 31 = .ok (.aload_n 0, 1) := by decide +kernel
theorem dX2_comeWith_32 : decode cX2_comeWith 32 = .ok (.getfield 18, 3) := by decide +kernel
theorem dX2_comeWith_35 : decode cX2_comeWith 35 = .ok (.iload_n 1, 1) := by decide +kernel
theorem dX2_comeWith_36 : decode cX2_comeWith 36 = .ok (.iastore, 1) := by decide +kernel
theorem dX2_comeWith_37 : decode cX2_comeWith 37 = .ok (.aload_n 0, 1) := by decide +kernel
theorem dX2_comeWith_38 : decode cX2_comeWith 38 = .ok (.dup, 1) := by decide +kernel
theorem dX2_comeWith_39 : decode cX2_comeWith 39 = .ok (.getfield 18, 3) := by decide +kernel
theorem dX2_comeWith_42 : decode cX2_comeWith 42 = .ok (.iconst 1, 1) := by decide +kernel
theorem dX2_comeWith_43 : decode cX2_comeWith 43 = .ok (.iadd, 1) := by decide +kernel
theorem dX2_comeWith_44 : decode cX2_comeWith 44 = .ok (.putfield 18, 3) := by decide +kernel
theorem dX2_comeWith_47 : decode cX2_comeWith 47 = .ok (.iinc 2 1, 3) := by decide +kernel
theorem dX2_comeWith_50 : decode cX2_comeWith 50 = .ok (.goto (-48), 3) := by decide +kernel
theorem dX2_comeWith_53 : decode cX2_comeWith 53 = .ok (.return_, 1) := by decide +kernel
theorem dX2_remove_0 : decode cX2_remove 0 = .ok (.iload_n 1, 1) := by decide +kernel
theorem dX2_remove_1 : decode cX2_remove 1 = .ok (.istore_n 2, 1) := by decide +kernel
theorem dX2_remove_2 : decode cX2_remove 2 = .ok (.iload_n 2, 1) := by decide +kernel
theorem dX2_remove_3 : decode cX2_remove 3 = .ok (.aload_n 0, 1) := by decide +kernel
theorem dX2_remove_4 : decode cX2_remove 4 = .ok (.getfield 18, 3) := by decide +kernel
theorem dX2_remove_7 : decode cX2_remove 7 = .ok (.iconst 1, 1) := by decide +kernel
theorem dX2_remove_8 : decode cX2_remove 8 = .ok (.isub, 1) := by decide +kernel
theorem dX2_remove_9 : decode cX2_remove 9 = .ok (.if_icmp .ge 37, 3) := by decide +kernel
theorem dX2_remove_12 : decode cX2_remove 12 = .ok (.aload_n 0, 1) := by decide +kernel
theorem dX2_remove_13 : decode cX2_remove 13 = .ok (.getfield 9, 3) := by decide +kernel
theorem dX2_remove_16 : decode cX2_remove 16 = .ok (.iload_n 2, 1) := by decide +kernel
theorem dX2_remove_17 : decode cX2_remove 17 = .ok (.aload_n 0, 1) := by decide +kernel
theorem dX2_remove_18 : decode cX2_remove 18 = .ok (.getfield 9, 3) := by decide +kernel
theorem dX2_remove_21 : decode cX2_remove 21 = .ok (.iload_n 2, 1) := by decide +kernel
theorem dX2_remove_22 : decode cX2_remove 22 = .ok (.iconst 1, 1) := by decide +kernel
theorem dX2_remove_23 : decode cX2_remove 23 = .ok (.iadd, 1) := by decide +kernel
theorem dX2_remove_24 : decode cX2_remove 24 = .ok (.iaload, 1) := by decide +kernel
theorem dX2_remove_25 : decode cX2_remove 25 = .ok (.iastore, 1) := by decide +kernel
theorem dX2_remove_26 : decode cX2_remove 26 = .ok (.aload_n 0, 1) := by decide +kernel
theorem dX2_remove_27 : decode cX2_remove 27 = .ok (.getfield 15, 3) := by decide +kernel
theorem dX2_remove_30 : decode cX2_remove 30 = .ok (.iload_n 2, 1) := by decide +kernel
theorem dX2_remove_31 : decode cX2_remove 31 = .ok (.aload_n 0, 1) := by decide +kernel
theorem dX2_remove_32 : decode cX2_remove 32 = .ok (.getfield 15, 3) := by decide +kernel
theorem dX2_remove_35 : decode cX2_remove 35 = .ok (.iload_n 2, 1) := by decide +kernel
theorem dX2_remove_36 : decode cX2_remove 36 = .ok (.iconst 1, 1) := by decide +kernel
theorem dX2_remove_37 : decode cX2_remove 37 = .ok (.iadd, 1) := by decide +kernel
theorem dX2_remove_38 : decode cX2_remove 38 = .ok (.iaload, 1) := by decide +kernel
theorem dX2_remove_39 : decode cX2_remove 39 = .ok (.iastore, 1) := by decide +kernel
theorem dX2_remove_40 : decode cX2_remove 40 = .ok (.iinc 2 1, 3) := by decide +kernel
theorem dX2_remove_43 : decode cX2_remove 43 = .ok (.goto (-41), 3) := by decide +kernel
theorem dX2_remove_46 : decode cX2_remove 46 = .ok (.aload_n 0, 1) := by decide +kernel
theorem dX2_remove_47 : decode cX2_remove 47 = .ok (.dup, 1) := by decide +kernel
theorem dX2_remove_48 : decode cX2_remove 48 = .ok (.getfield 18, 3) := by decide +kernel
theorem dX2_remove_51 : decode cX2_remove 51 = .ok (.iconst 1, 1) := by decide +kernel
theorem dX2_remove_52 : decode cX2_remove 52 = .ok (.isub, 1) := by decide +kernel
theorem dX2_remove_53 : decode cX2_remove 53 = .ok (.putfield 18, 3) := by decide +kernel
theorem dX2_remove_56 : decode cX2_remove 56 = .ok (.return_, 1) := by decide +kernel
theorem dX2_waits_0 : decode cX2_waits 0 = .ok (.iload_n 1, 1) := by decide +kernel
theorem dX2_waits_1 : decode cX2_waits 1 = .ok (.iload_n 2, 1) := by decide +kernel
theorem dX2_waits_2 : decode cX2_waits 2 = .ok (.invokestatic 22, 3) := by decide +kernel
theorem dX2_waits_5 : decode cX2_waits 5 = .ok (.istore_n 3, 1) := by decide +kernel
theorem dX2_waits_6 : decode cX2_waits 6 = .ok (.iload_n 1, 1) := by decide +kernel
theorem dX2_waits_7 : decode cX2_waits 7 = .ok (.iload_n 2, 1) := by decide +kernel
theorem dX2_waits_8 : decode cX2_waits 8 = .ok (.invokestatic 28, 3) := by decide +kernel
theorem dX2_waits_11 : decode cX2_waits 11 = .ok (.istore 4, 2) := by decide +kernel
theorem dX2_waits_13 : decode cX2_waits 13 = .ok (.iconst 0, 1) := by decide +kernel
theorem dX2_waits_14 : decode cX2_waits 14 = .ok (.istore 5, 2) := by decide +kernel
theorem dX2_waits_16 : decode cX2_waits 16 = .ok (.iload 5, 2) := by decide +kernel
theorem dX2_waits_18 : decode cX2_waits 18 = .ok (.aload_n 0, 1) := by decide +kernel
theorem dX2_waits_19 : decode cX2_waits 19 = .ok (.getfield 18, 3) := by decide +kernel
theorem dX2_waits_22 : decode cX2_waits 22 = .ok (.if_icmp .ge 34, 3) := by decide +kernel
theorem dX2_waits_25 : decode cX2_waits 25 = .ok (.aload_n 0, 1) := by decide +kernel
theorem dX2_waits_26 : decode cX2_waits 26 = .ok (.getfield 9, 3) := by decide +kernel
theorem dX2_waits_29 : decode cX2_waits 29 = .ok (.iload 5, 2) := by decide +kernel
theorem dX2_waits_31 : decode cX2_waits 31 = .ok (.iaload, 1) := by decide +kernel
theorem dX2_waits_32 : decode cX2_waits 32 = .ok (.iload_n 3, 1) := by decide +kernel
theorem dX2_waits_33 : decode cX2_waits 33 = .ok (.if_icmp .ne 17, 3) := by decide +kernel
theorem dX2_waits_36 : decode cX2_waits 36 = .ok (.aload_n 0, 1) := by decide +kernel
theorem dX2_waits_37 : decode cX2_waits 37 = .ok (.getfield 15, 3) := by decide +kernel
theorem dX2_waits_40 : decode cX2_waits 40 = .ok (.iload 5, 2) := by decide +kernel
theorem dX2_waits_42 : decode cX2_waits 42 = .ok (.iaload, 1) := by decide +kernel
theorem dX2_waits_43 : decode cX2_waits 43 = .ok (.iload 4, 2) := by decide +kernel
theorem dX2_waits_45 : decode cX2_waits 45 = .ok (.if_icmp .ne 5, 3) := by decide +kernel
theorem dX2_waits_48 : decode cX2_waits 48 = .ok (.iconst 1, 1) := by decide +kernel
theorem dX2_waits_49 : decode cX2_waits 49 = .ok (.ireturn, 1) := by decide +kernel
theorem dX2_waits_50 : decode cX2_waits 50 = .ok (.iinc 5 1, 3) := by decide +kernel
theorem dX2_waits_53 : decode cX2_waits 53 = .ok (.goto (-37), 3) := by decide +kernel
theorem dX2_waits_56 : decode cX2_waits 56 = .ok (.iconst 0, 1) := by decide +kernel
theorem dX2_waits_57 : decode cX2_waits 57 = .ok (.ireturn, 1) := by decide +kernel
theorem dX5_init_0 : decode cX5_init 0 = .ok (.aload_n 0, 1) := by decide +kernel
theorem dX5_init_1 : decode cX5_init 1 = .ok (.invokespecial 3, 3) := by decide +kernel
theorem dX5_init_4 : decode cX5_init 4 = .ok (.aload_n 0, 1) := by decide +kernel
theorem dX5_init_5 : decode cX5_init 5 = .ok (.iconst 2, 1) := by decide +kernel
theorem dX5_init_6 : decode cX5_init 6 = .ok (.putfield 9, 3) := by decide +kernel
theorem dX5_init_9 : decode cX5_init 9 = .ok (.aload_n 0, 1) := by decide +kernel
theorem dX5_init_10 : decode cX5_init 10 = .ok (.iconst 4, 1) := by decide +kernel
theorem dX5_init_11 : decode cX5_init 11 = .ok (.newarray .int, 2) := by decide +kernel
theorem dX5_init_13 : decode cX5_init 13 = .ok (.putfield 15, 3) := by decide +kernel
theorem dX5_init_16 : decode cX5_init 16 = .ok (.aload_n 0, 1) := by decide +kernel
theorem dX5_init_17 : decode cX5_init 17 = .ok (.bipush 40, 2) := by decide +kernel
theorem dX5_init_19 : decode cX5_init 19 = .ok (.newarray .int, 2) := by decide +kernel
theorem dX5_init_21 : decode cX5_init 21 = .ok (.putfield 19, 3) := by decide +kernel
theorem dX5_init_24 : decode cX5_init 24 = .ok (.aload_n 0, 1) := by decide +kernel
theorem dX5_init_25 : decode cX5_init 25 = .ok (.new 22, 3) := by decide +kernel
theorem dX5_init_28 : decode cX5_init 28 = .ok (.dup, 1) := by decide +kernel
theorem dX5_init_29 : decode cX5_init 29 = .ok (.invokespecial 24, 3) := by decide +kernel
theorem dX5_init_32 : decode cX5_init 32 = .ok (.putfield 25, 3) := by decide +kernel
theorem dX5_init_35 : decode cX5_init 35 = .ok (.aload_n 0, 1) := by decide +kernel
theorem dX5_init_36 : decode cX5_init 36 = .ok (.new 22, 3) := by decide +kernel
theorem dX5_init_39 : decode cX5_init 39 = .ok (.dup, 1) := by decide +kernel
theorem dX5_init_40 : decode cX5_init 40 = .ok (.invokespecial 24, 3) := by decide +kernel
theorem dX5_init_43 : decode cX5_init 43 = .ok (.putfield 29, 3) := by decide +kernel
theorem dX5_init_46 : decode cX5_init 46 = .ok (.aload_n 0, 1) := by decide +kernel
theorem dX5_init_47 : decode cX5_init 47 = .ok (.iload_n 1, 1) := by decide +kernel
theorem dX5_init_48 : decode cX5_init 48 = .ok (.putfield 32, 3) := by decide +kernel
theorem dX5_init_51 : decode cX5_init 51 = .ok (.aload_n 0, 1) := by decide +kernel
theorem dX5_init_52 : decode cX5_init 52 = .ok (.iload_n 2, 1) := by decide +kernel
theorem dX5_init_53 : decode cX5_init 53 = .ok (.putfield 35, 3) := by decide +kernel
theorem dX5_init_56 : decode cX5_init 56 = .ok (.return_, 1) := by decide +kernel
theorem dX5_hasVariable_0 : decode cX5_hasVariable 0 = .ok (.iload_n 1, 1) := by decide +kernel
theorem dX5_hasVariable_1 : decode cX5_hasVariable 1 = .ok (.ifCond .lt 15, 3) := by decide +kernel
theorem dX5_hasVariable_4 : decode cX5_hasVariable 4 = .ok (.iload_n 1, 1) := by decide +kernel
theorem dX5_hasVariable_5 : decode cX5_hasVariable 5 = .ok (.aload_n 0, 1) := by decide +kernel
theorem dX5_hasVariable_6 : decode cX5_hasVariable 6 = .ok (.getfield 35, 3) := by decide +kernel
theorem dX5_hasVariable_9 : decode cX5_hasVariable 9 = .ok (.if_icmp .ge 7, 3) := by decide +kernel
theorem dX5_hasVariable_12 : decode cX5_hasVariable 12 = .ok (.iconst 1, 1) := by decide +kernel
theorem dX5_hasVariable_13 : decode cX5_hasVariable 13 = .ok (.goto 4, 3) := by decide +kernel
theorem dX5_hasVariable_16 : decode cX5_hasVariable 16 = .ok (.iconst 0, 1) := by decide +kernel
theorem dX5_hasVariable_17 : decode cX5_hasVariable 17 = .ok (.ireturn, 1) := by decide +kernel
theorem dX5_mayBeExponent_0 : decode cX5_mayBeExponent 0 = .ok (.iload_n 1, 1) := by decide +kernel
theorem dX5_mayBeExponent_1 : decode cX5_mayBeExponent 1 = .ok (.ifCond .lt 25, 3) := by decide +kernel
theorem dX5_mayBeExponent_4 : decode cX5_mayBeExponent 4 = .ok (.iload_n 1, 1) := by decide +kernel
theorem dX5_mayBeExponent_5 : decode cX5_mayBeExponent 5 = .ok (.aload_n 0, 1) := by decide +kernel
theorem dX5_mayBeExponent_6 : decode cX5_mayBeExponent 6 = .ok (.iload_n 2, 1) := by decide +kernel
theorem dX5_mayBeExponent_7 : decode cX5_mayBeExponent 7 = .ok (.invokevirtual 38, 3) := by decide +kernel
theorem dX5_mayBeExponent_10 : decode cX5_mayBeExponent 10 = .ok (.ifCond .eq 8, 3) := by decide +kernel
theorem dX5_mayBeExponent_13 : decode cX5_mayBeExponent 13 = .ok (.bipush 30, 2) := by decide +kernel
theorem dX5_mayBeExponent_15 : decode cX5_mayBeExponent 15 = .ok (.goto 4, 3) := by decide +kernel
theorem dX5_mayBeExponent_18 : decode cX5_mayBeExponent 18 = .ok (.iconst 0, 1) := by decide +kernel
theorem dX5_mayBeExponent_19 : decode cX5_mayBeExponent 19 = .ok (.if_icmp .gt 7, 3) := by decide +kernel
theorem dX5_mayBeExponent_22 : decode cX5_mayBeExponent 22 = .ok (.iconst 1, 1) := by decide +kernel
theorem dX5_mayBeExponent_23 : decode cX5_mayBeExponent 23 = .ok (.goto 4, 3) := by decide +kernel
theorem dX5_mayBeExponent_26 : decode cX5_mayBeExponent 26 = .ok (.iconst 0, 1) := by decide +kernel
theorem dX5_mayBeExponent_27 : decode cX5_mayBeExponent 27 = .ok (.ireturn, 1) := by decide +kernel
theorem dX5_restOf_0 : decode cX5_restOf 0 = .ok (.iload_n 1, 1) := by decide +kernel
theorem dX5_restOf_1 : decode cX5_restOf 1 = .ok (.aload_n 0, 1) := by decide +kernel
theorem dX5_restOf_2 : decode cX5_restOf 2 = .ok (.getfield 32, 3) := by decide +kernel
theorem dX5_restOf_5 : decode cX5_restOf 5 = .ok (.invokestatic 42, 3) := by decide +kernel
theorem dX5_restOf_8 : decode cX5_restOf 8 = .ok (.ireturn, 1) := by decide +kernel
theorem dX5_power_0 : decode cX5_power 0 = .ok (.iconst 1, 1) := by decide +kernel
theorem dX5_power_1 : decode cX5_power 1 = .ok (.istore_n 3, 1) := by decide +kernel
theorem dX5_power_2 : decode cX5_power 2 = .ok (.iload_n 1, 1) := by decide +kernel
theorem dX5_power_3 : decode cX5_power 3 = .ok (.istore 4, 2) := by decide +kernel
theorem dX5_power_5 : decode cX5_power 5 = .ok (.iload_n 2, 1) := by decide +kernel
theorem dX5_power_6 : decode cX5_power 6 = .ok (.istore 5, 2) := by decide +kernel
theorem dX5_power_8 : decode cX5_power 8 = .ok (.iload 5, 2) := by decide +kernel
theorem dX5_power_10 : decode cX5_power 10 = .ok (.ifCond .le 42, 3) := by decide +kernel
theorem dX5_power_13 : decode cX5_power 13 = .ok (.iload 5, 2) := by decide +kernel
theorem dX5_power_15 : decode cX5_power 15 = .ok (.iconst 1, 1) := by decide +kernel
theorem dX5_power_16 : decode cX5_power 16 = .ok (.iand, 1) := by decide +kernel
theorem dX5_power_17 : decode cX5_power 17 = .ok (.iconst 1, 1) := by decide +kernel
theorem dX5_power_18 : decode cX5_power 18 = .ok (.if_icmp .ne 13, 3) := by decide +kernel
theorem dX5_power_21 : decode cX5_power 21 = .ok (.iload_n 3, 1) := by decide +kernel
theorem dX5_power_22 : decode cX5_power 22 = .ok (.iload 4, 2) := by decide +kernel
theorem dX5_power_24 : decode cX5_power 24 = .ok (.imul, 1) := by decide +kernel
theorem dX5_power_25 : decode cX5_power 25 = .ok (.aload_n 0, 1) := by decide +kernel
theorem dX5_power_26 : decode cX5_power 26 = .ok (.getfield 32, 3) := by decide +kernel
theorem dX5_power_29 : decode cX5_power 29 = .ok (.irem, 1) := by decide +kernel
theorem dX5_power_30 : decode cX5_power 30 = .ok (.istore_n 3, 1) := by decide +kernel
theorem dX5_power_31 : decode cX5_power 31 = .ok (.iload 4, 2) := by decide +kernel
theorem dX5_power_33 : decode cX5_power 33 = .ok (.iload 4, 2) := by decide +kernel
theorem dX5_power_35 : decode cX5_power 35 = .ok (.imul, 1) := by decide +kernel
theorem dX5_power_36 : decode cX5_power 36 = .ok (.aload_n 0, 1) := by decide +kernel
theorem dX5_power_37 : decode cX5_power 37 = .ok (.getfield 32, 3) := by decide +kernel
theorem dX5_power_40 : decode cX5_power 40 = .ok (.irem, 1) := by decide +kernel
theorem dX5_power_41 : decode cX5_power 41 = .ok (.istore 4, 2) := by decide +kernel
theorem dX5_power_43 : decode cX5_power 43 = .ok (.iload 5, 2) := by decide +kernel
theorem dX5_power_45 : decode cX5_power 45 = .ok (.iconst 1, 1) := by decide +kernel
theorem dX5_power_46 : decode cX5_power 46 = .ok (.ishr, 1) := by decide +kernel
theorem dX5_power_47 : decode cX5_power 47 = .ok (.istore 5, 2) := by decide +kernel
theorem dX5_power_49 : decode cX5_power 49 = .ok (.goto (-41), 3) := by decide +kernel
theorem dX5_power_52 : decode cX5_power 52 = .ok (.iload_n 3, 1) := by decide +kernel
theorem dX5_power_53 : decode cX5_power 53 = .ok (.ireturn, 1) := by decide +kernel
theorem dX5_inverse_0 : decode cX5_inverse 0 = .ok (.aload_n 0, 1) := by decide +kernel
theorem dX5_inverse_1 : decode cX5_inverse 1 = .ok (.iload_n 1, 1) := by decide +kernel
theorem dX5_inverse_2 : decode cX5_inverse 2 = .ok (.aload_n 0, 1) := by decide +kernel
theorem dX5_inverse_3 : decode cX5_inverse 3 = .ok (.getfield 32, 3) := by decide +kernel
theorem dX5_inverse_6 : decode cX5_inverse 6 = .ok (.iconst 2, 1) := by decide +kernel
theorem dX5_inverse_7 : decode cX5_inverse 7 = .ok (.isub, 1) := by decide +kernel
theorem dX5_inverse_8 : decode cX5_inverse 8 = .ok (.invokevirtual 48, 3) := by decide +kernel
theorem dX5_inverse_11 : decode cX5_inverse 11 = .ok (.ireturn, 1) := by decide +kernel
theorem dX5_rank_0 : decode cX5_rank 0 = .ok (.iload_n 1, 1) := by decide +kernel
theorem dX5_rank_1 : decode cX5_rank 1 = .ok (.sipush 255, 3) := by decide +kernel
theorem dX5_rank_4 : decode cX5_rank 4 = .ok (.iand, 1) := by decide +kernel
theorem dX5_rank_5 : decode cX5_rank 5 = .ok (.istore_n 2, 1) := by decide +kernel
theorem dX5_rank_6 : decode cX5_rank 6 = .ok (.iload_n 1, 1) := by decide +kernel
theorem dX5_rank_7 : decode cX5_rank 7 = .ok (.bipush 8, 2) := by decide +kernel
theorem dX5_rank_9 : decode cX5_rank 9 = .ok (.iushr, 1) := by decide +kernel
theorem dX5_rank_10 : decode cX5_rank 10 = .ok (.sipush 255, 3) := by decide +kernel
theorem dX5_rank_13 : decode cX5_rank 13 = .ok (.iand, 1) := by decide +kernel
theorem dX5_rank_14 : decode cX5_rank 14 = .ok (.istore_n 3, 1) := by decide +kernel
theorem dX5_rank_15 : decode cX5_rank 15 = .ok (.iload_n 1, 1) := by decide +kernel
theorem dX5_rank_16 : decode cX5_rank 16 = .ok (.bipush 16, 2) := by decide +kernel
theorem dX5_rank_18 : decode cX5_rank 18 = .ok (.iushr, 1) := by decide +kernel
theorem dX5_rank_19 : decode cX5_rank 19 = .ok (.sipush 255, 3) := by decide +kernel
theorem dX5_rank_22 : decode cX5_rank 22 = .ok (.iand, 1) := by decide +kernel
theorem dX5_rank_23 : decode cX5_rank 23 = .ok (.istore 4, 2) := by decide +kernel
theorem dX5_rank_25 : decode cX5_rank 25 = .ok (.iload_n 1, 1) := by decide +kernel
theorem dX5_rank_26 : decode cX5_rank 26 = .ok (.bipush 24, 2) := by decide +kernel
theorem dX5_rank_28 : decode cX5_rank 28 = .ok (.iushr, 1) := by decide +kernel
theorem dX5_rank_29 : decode cX5_rank 29 = .ok (.istore 5, 2) := by decide +kernel
theorem dX5_rank_31 : decode cX5_rank 31 = .ok (.iload_n 2, 1) := by decide +kernel
theorem dX5_rank_32 : decode cX5_rank 32 = .ok (.iload_n 3, 1) := by decide +kernel
theorem dX5_rank_33 : decode cX5_rank 33 = .ok (.iadd, 1) := by decide +kernel
theorem dX5_rank_34 : decode cX5_rank 34 = .ok (.iload 4, 2) := by decide +kernel
theorem dX5_rank_36 : decode cX5_rank 36 = .ok (.iadd, 1) := by decide +kernel
theorem dX5_rank_37 : decode cX5_rank 37 = .ok (.iload 5, 2) := by decide +kernel
theorem dX5_rank_39 : decode cX5_rank 39 = .ok (.iadd, 1) := by decide +kernel
theorem dX5_rank_40 : decode cX5_rank 40 = .ok (.bipush 20, 2) := by decide +kernel
theorem dX5_rank_42 : decode cX5_rank 42 = .ok (.ishl, 1) := by decide +kernel
theorem dX5_rank_43 : decode cX5_rank 43 = .ok (.istore 6, 2) := by decide +kernel
theorem dX5_rank_45 : decode cX5_rank 45 = .ok (.iload_n 2, 1) := by decide +kernel
theorem dX5_rank_46 : decode cX5_rank 46 = .ok (.bipush 15, 2) := by decide +kernel
theorem dX5_rank_48 : decode cX5_rank 48 = .ok (.ishl, 1) := by decide +kernel
theorem dX5_rank_49 : decode cX5_rank 49 = .ok (.iload_n 3, 1) := by decide +kernel
theorem dX5_rank_50 : decode cX5_rank 50 = .ok (.bipush 10, 2) := by decide +kernel
theorem dX5_rank_52 : decode cX5_rank 52 = .ok (.ishl, 1) := by decide +kernel
theorem dX5_rank_53 : decode cX5_rank 53 = .ok (.ior, 1) := by decide +kernel
theorem dX5_rank_54 : decode cX5_rank 54 = .ok (.iload 4, 2) := by decide +kernel
theorem dX5_rank_56 : decode cX5_rank 56 = .ok (.iconst 5, 1) := by decide +kernel
theorem dX5_rank_57 : decode cX5_rank 57 = .ok (.ishl, 1) := by decide +kernel
theorem dX5_rank_58 : decode cX5_rank 58 = .ok (.ior, 1) := by decide +kernel
theorem dX5_rank_59 : decode cX5_rank 59 = .ok (.iload 5, 2) := by decide +kernel
theorem dX5_rank_61 : decode cX5_rank 61 = .ok (.ior, 1) := by decide +kernel
theorem dX5_rank_62 : decode cX5_rank 62 = .ok (.istore 7, 2) := by decide +kernel
theorem dX5_rank_64 : decode cX5_rank 64 = .ok (.aload_n 0, 1) := by decide +kernel
theorem dX5_rank_65 : decode cX5_rank 65 = .ok (.getfield 9, 3) := by decide +kernel
theorem dX5_rank_68 : decode cX5_rank 68 = .ok (.tableswitch 70 0 2 #[28, 31, 37], 28) := by decide +kernel
theorem dX5_rank_96 : decode cX5_rank 96 = .ok (.iload 7, 2) := by decide +kernel
theorem dX5_rank_98 : decode cX5_rank 98 = .ok (.ireturn, 1) := by decide +kernel
theorem dX5_rank_99 : decode cX5_rank 99 = .ok (.iload 6, 2) := by decide +kernel
theorem dX5_rank_101 : decode cX5_rank 101 = .ok (.iload 7, 2) := by decide +kernel
theorem dX5_rank_103 : decode cX5_rank 103 = .ok (.ior, 1) := by decide +kernel
theorem dX5_rank_104 : decode cX5_rank 104 = .ok (.ireturn, 1) := by decide +kernel
theorem dX5_rank_105 : decode cX5_rank 105 = .ok (.iload 6, 2) := by decide +kernel
theorem dX5_rank_107 : decode cX5_rank 107 = .ok (.bipush 31, 2) := by decide +kernel
theorem dX5_rank_109 : decode cX5_rank 109 = .ok (.iload 5, 2) := by decide +kernel
theorem dX5_rank_111 : decode cX5_rank 111 = .ok (.isub, 1) := by decide +kernel
theorem dX5_rank_112 : decode cX5_rank 112 = .ok (.bipush 15, 2) := by decide +kernel
theorem dX5_rank_114 : decode cX5_rank 114 = .ok (.ishl, 1) := by decide +kernel
theorem dX5_rank_115 : decode cX5_rank 115 = .ok (.ior, 1) := by decide +kernel
theorem dX5_rank_116 : decode cX5_rank 116 = .ok (.bipush 31, 2) := by decide +kernel
theorem dX5_rank_118 : decode cX5_rank 118 = .ok (.iload 4, 2) := by decide +kernel
theorem dX5_rank_120 : decode cX5_rank 120 = .ok (.isub, 1) := by decide +kernel
theorem dX5_rank_121 : decode cX5_rank 121 = .ok (.bipush 10, 2) := by decide +kernel
theorem dX5_rank_123 : decode cX5_rank 123 = .ok (.ishl, 1) := by decide +kernel
theorem dX5_rank_124 : decode cX5_rank 124 = .ok (.ior, 1) := by decide +kernel
theorem dX5_rank_125 : decode cX5_rank 125 = .ok (.bipush 31, 2) := by decide +kernel
theorem dX5_rank_127 : decode cX5_rank 127 = .ok (.iload_n 3, 1) := by decide +kernel
theorem dX5_rank_128 : decode cX5_rank 128 = .ok (.isub, 1) := by decide +kernel
theorem dX5_rank_129 : decode cX5_rank 129 = .ok (.iconst 5, 1) := by decide +kernel
theorem dX5_rank_130 : decode cX5_rank 130 = .ok (.ishl, 1) := by decide +kernel
theorem dX5_rank_131 : decode cX5_rank 131 = .ok (.ior, 1) := by decide +kernel
theorem dX5_rank_132 : decode cX5_rank 132 = .ok (.bipush 31, 2) := by decide +kernel
theorem dX5_rank_134 : decode cX5_rank 134 = .ok (.iload_n 2, 1) := by decide +kernel
theorem dX5_rank_135 : decode cX5_rank 135 = .ok (.isub, 1) := by decide +kernel
theorem dX5_rank_136 : decode cX5_rank 136 = .ok (.ior, 1) := by decide +kernel
theorem dX5_rank_137 : decode cX5_rank 137 = .ok (.ireturn, 1) := by decide +kernel
theorem dX5_rank_138 : decode cX5_rank 138 = .ok (.iload_n 2, 1) := by decide +kernel
theorem dX5_rank_139 : decode cX5_rank 139 = .ok (.iload_n 3, 1) := by decide +kernel
theorem dX5_rank_140 : decode cX5_rank 140 = .ok (.iadd, 1) := by decide +kernel
theorem dX5_rank_141 : decode cX5_rank 141 = .ok (.bipush 16, 2) := by decide +kernel
theorem dX5_rank_143 : decode cX5_rank 143 = .ok (.ishl, 1) := by decide +kernel
theorem dX5_rank_144 : decode cX5_rank 144 = .ok (.bipush 31, 2) := by decide +kernel
theorem dX5_rank_146 : decode cX5_rank 146 = .ok (.iload_n 3, 1) := by decide +kernel
theorem dX5_rank_147 : decode cX5_rank 147 = .ok (.isub, 1) := by decide +kernel
theorem dX5_rank_148 : decode cX5_rank 148 = .ok (.bipush 11, 2) := by decide +kernel
theorem dX5_rank_150 : decode cX5_rank 150 = .ok (.ishl, 1) := by decide +kernel
theorem dX5_rank_151 : decode cX5_rank 151 = .ok (.ior, 1) := by decide +kernel
theorem dX5_rank_152 : decode cX5_rank 152 = .ok (.iload 4, 2) := by decide +kernel
theorem dX5_rank_154 : decode cX5_rank 154 = .ok (.iload 5, 2) := by decide +kernel
theorem dX5_rank_156 : decode cX5_rank 156 = .ok (.iadd, 1) := by decide +kernel
theorem dX5_rank_157 : decode cX5_rank 157 = .ok (.iconst 5, 1) := by decide +kernel
theorem dX5_rank_158 : decode cX5_rank 158 = .ok (.ishl, 1) := by decide +kernel
theorem dX5_rank_159 : decode cX5_rank 159 = .ok (.ior, 1) := by decide +kernel
theorem dX5_rank_160 : decode cX5_rank 160 = .ok (.bipush 31, 2) := by decide +kernel
theorem dX5_rank_162 : decode cX5_rank 162 = .ok (.iload 5, 2) := by decide +kernel
theorem dX5_rank_164 : decode cX5_rank 164 = .ok (.isub, 1) := by decide +kernel
theorem dX5_rank_165 : decode cX5_rank 165 = .ok (.ior, 1) := by decide +kernel
theorem dX5_rank_166 : decode cX5_rank 166 = .ok (.ireturn, 1) := by decide +kernel
theorem dX5_sortTerms_0 : decode cX5_sortTerms 0 = .ok (.iconst 1, 1) := by decide +kernel
theorem dX5_sortTerms_1 : decode cX5_sortTerms 1 = .ok (.istore_n 2, 1) := by decide +kernel
theorem dX5_sortTerms_2 : decode cX5_sortTerms 2 = .ok (.iload_n 2, 1) := by decide +kernel
theorem dX5_sortTerms_3 : decode cX5_sortTerms 3 = .ok (.aload_n 1, 1) := by decide +kernel
theorem dX5_sortTerms_4 : decode cX5_sortTerms 4 = .ok (.getfield 51, 3) := by decide +kernel
theorem dX5_sortTerms_7 : decode cX5_sortTerms 7 = .ok (.if_icmp .ge 109, 3) := by decide +kernel
theorem dX5_sortTerms_10 : decode cX5_sortTerms 10 = .ok (.aload_n 1, 1) := by decide +kernel
theorem dX5_sortTerms_11 : decode cX5_sortTerms 11 = .ok (.getfield 54, 3) := by decide +kernel
theorem dX5_sortTerms_14 : decode cX5_sortTerms 14 = .ok (.iload_n 2, 1) := by decide +kernel
theorem dX5_sortTerms_15 : decode cX5_sortTerms 15 = .ok (.iaload, 1) := by decide +kernel
theorem dX5_sortTerms_16 : decode cX5_sortTerms 16 = .ok (.istore_n 3, 1) := by decide +kernel
theorem dX5_sortTerms_17 : decode cX5_sortTerms 17 = .ok (.aload_n 1, 1) := by decide +kernel
theorem dX5_sortTerms_18 : decode cX5_sortTerms 18 = .ok (.getfield 57, 3) := by decide +kernel
theorem dX5_sortTerms_21 : decode cX5_sortTerms 21 = .ok (.iload_n 2, 1) := by decide +kernel
theorem dX5_sortTerms_22 : decode cX5_sortTerms 22 = .ok (.iaload, 1) := by decide +kernel
theorem dX5_sortTerms_23 : decode cX5_sortTerms 23 = .ok (.istore 4, 2) := by decide +kernel
theorem dX5_sortTerms_25 : decode cX5_sortTerms 25 = .ok (.iload_n 2, 1) := by decide +kernel
theorem dX5_sortTerms_26 : decode cX5_sortTerms 26 = .ok (.istore 5, 2) := by decide +kernel
theorem dX5_sortTerms_28 : decode cX5_sortTerms 28 = .ok (.iload 5, 2) := by decide +kernel
theorem dX5_sortTerms_30 : decode cX5_sortTerms 30 = .ok (.ifCond .le 63, 3) := by decide +kernel
theorem dX5_sortTerms_33 : decode cX5_sortTerms 33 = .ok (.aload_n 0, 1) := by decide +kernel
theorem dX5_sortTerms_34 : decode cX5_sortTerms 34 = .ok (.aload_n 1, 1) := by decide +kernel
theorem dX5_sortTerms_35 : decode cX5_sortTerms 35 = .ok (.getfield 57, 3) := by decide +kernel
theorem dX5_sortTerms_38 : decode cX5_sortTerms 38 = .ok (.iload 5, 2) := by decide +kernel
theorem dX5_sortTerms_40 : decode cX5_sortTerms 40 = .ok (.iconst 1, 1) := by decide +kernel
theorem dX5_sortTerms_41 : decode cX5_sortTerms 41 = .ok (.isub, 1) := by decide +kernel
theorem dX5_sortTerms_42 : decode cX5_sortTerms 42 = .ok (.iaload, 1) := by decide +kernel
theorem dX5_sortTerms_43 : decode cX5_sortTerms 43 = .ok (.invokevirtual 60, 3) := by decide +kernel
theorem dX5_sortTerms_46 : decode cX5_sortTerms 46 = .ok (.aload_n 0, 1) := by decide +kernel
theorem dX5_sortTerms_47 : decode cX5_sortTerms 47 = .ok (.iload 4, 2) := by decide +kernel
theorem dX5_sortTerms_49 : decode cX5_sortTerms 49 = .ok (.invokevirtual 60, 3) := by decide +kernel
theorem dX5_sortTerms_52 : decode cX5_sortTerms 52 = .ok (.if_icmp .ge 41, 3) := by decide +kernel
theorem dX5_sortTerms_55 : decode cX5_sortTerms 55 = .ok (.aload_n 1, 1) := by decide +kernel
theorem dX5_sortTerms_56 : decode cX5_sortTerms 56 = .ok (.getfield 54, 3) := by decide +kernel
theorem dX5_sortTerms_59 : decode cX5_sortTerms 59 = .ok (.iload 5, 2) := by decide +kernel
theorem dX5_sortTerms_61 : decode cX5_sortTerms 61 = .ok (.aload_n 1, 1) := by decide +kernel
theorem dX5_sortTerms_62 : decode cX5_sortTerms 62 = .ok (.getfield 54, 3) := by decide +kernel
theorem dX5_sortTerms_65 : decode cX5_sortTerms 65 = .ok (.iload 5, 2) := by decide +kernel
theorem dX5_sortTerms_67 : decode cX5_sortTerms 67 = .ok (.iconst 1, 1) := by decide +kernel
theorem dX5_sortTerms_68 : decode cX5_sortTerms 68 = .ok (.isub, 1) := by decide +kernel
theorem dX5_sortTerms_69 : decode cX5_sortTerms 69 = .ok (.iaload, 1) := by decide +kernel
theorem dX5_sortTerms_70 : decode cX5_sortTerms 70 = .ok (.iastore, 1) := by decide +kernel
theorem dX5_sortTerms_71 : decode cX5_sortTerms 71 = .ok (.aload_n 1, 1) := by decide +kernel
theorem dX5_sortTerms_72 : decode cX5_sortTerms 72 = .ok (.getfield 57, 3) := by decide +kernel
theorem dX5_sortTerms_75 : decode cX5_sortTerms 75 = .ok (.iload 5, 2) := by decide +kernel
theorem dX5_sortTerms_77 : decode cX5_sortTerms 77 = .ok (.aload_n 1, 1) := by decide +kernel
theorem dX5_sortTerms_78 : decode cX5_sortTerms 78 = .ok (.getfield 57, 3) := by decide +kernel
theorem dX5_sortTerms_81 : decode cX5_sortTerms 81 = .ok (.iload 5, 2) := by decide +kernel
theorem dX5_sortTerms_83 : decode cX5_sortTerms 83 = .ok (.iconst 1, 1) := by decide +kernel
theorem dX5_sortTerms_84 : decode cX5_sortTerms 84 = .ok (.isub, 1) := by decide +kernel
theorem dX5_sortTerms_85 : decode cX5_sortTerms 85 = .ok (.iaload, 1) := by decide +kernel
theorem dX5_sortTerms_86 : decode cX5_sortTerms 86 = .ok (.iastore, 1) := by decide +kernel
theorem dX5_sortTerms_87 : decode cX5_sortTerms 87 = .ok (.iinc 5 (-1), 3) := by decide +kernel
theorem dX5_sortTerms_90 : decode cX5_sortTerms 90 = .ok (.goto (-62), 3) := by decide +kernel
theorem dX5_sortTerms_93 : decode cX5_sortTerms 93 = .ok (.aload_n 1, 1) := by decide +kernel
theorem dX5_sortTerms_94 : decode cX5_sortTerms 94 = .ok (.getfield 54, 3) := by decide +kernel
theorem dX5_sortTerms_97 : decode cX5_sortTerms 97 = .ok (.iload 5, 2) := by decide +kernel
theorem dX5_sortTerms_99 : decode cX5_sortTerms 99 = .ok (.iload_n 3, 1) := by decide +kernel
theorem dX5_sortTerms_100 : decode cX5_sortTerms 100 = .ok (.iastore, 1) := by decide +kernel
theorem dX5_sortTerms_101 : decode cX5_sortTerms 101 = .ok (.aload_n 1, 1) := by decide +kernel
theorem dX5_sortTerms_102 : decode cX5_sortTerms 102 = .ok (.getfield 57, 3) := by decide +kernel
theorem dX5_sortTerms_105 : decode cX5_sortTerms 105 = .ok (.iload 5, 2) := by decide +kernel
theorem dX5_sortTerms_107 : decode cX5_sortTerms 107 = .ok (.iload 4, 2) := by decide +kernel
theorem dX5_sortTerms_109 : decode cX5_sortTerms 109 = .ok (.iastore, 1) := by decide +kernel
theorem dX5_sortTerms_110 : decode cX5_sortTerms 110 = .ok (.iinc 2 1, 3) := by decide +kernel
theorem dX5_sortTerms_113 : decode cX5_sortTerms 113 = .ok (.goto (-111), 3) := by decide +kernel
theorem dX5_sortTerms_116 : decode cX5_sortTerms 116 = .ok (.return_, 1) := by decide +kernel
theorem dX5_comparePolys_0 : decode cX5_comparePolys 0 = .ok (.aload_n 1, 1) := by decide +kernel
theorem dX5_comparePolys_1 : decode cX5_comparePolys 1 = .ok (.getfield 51, 3) := by decide +kernel
theorem dX5_comparePolys_4 : decode cX5_comparePolys 4 = .ok (.aload_n 2, 1) := by decide +kernel
theorem dX5_comparePolys_5 : decode cX5_comparePolys 5 = .ok (.getfield 51, 3) := by decide +kernel
theorem dX5_comparePolys_8 : decode cX5_comparePolys 8 = .ok (.invokestatic 64, 3) := by decide +kernel
theorem dX5_comparePolys_11 : decode cX5_comparePolys 11 = .ok (.istore_n 3, 1) := by decide +kernel
theorem dX5_comparePolys_12 : decode cX5_comparePolys 12 = .ok (.iconst 0, 1) := by decide +kernel
theorem dX5_comparePolys_13 : decode cX5_comparePolys 13 = .ok (.istore 4, 2) := by decide +kernel
theorem dX5_comparePolys_15 : decode cX5_comparePolys 15 = .ok (.iload 4, 2) := by decide +kernel
theorem dX5_comparePolys_17 : decode cX5_comparePolys 17 = .ok (.iload_n 3, 1) := by decide +kernel
theorem dX5_comparePolys_18 : decode cX5_comparePolys 18 = .ok (.if_icmp .ge 87, 3) := by decide +kernel
theorem dX5_comparePolys_21 : decode cX5_comparePolys 21 = .ok (.aload_n 1, 1) := by decide +kernel
theorem dX5_comparePolys_22 : decode cX5_comparePolys 22 = .ok (.getfield 57, 3) := by decide +kernel
theorem dX5_comparePolys_25 : decode cX5_comparePolys 25 = .ok (.iload 4, 2) := by decide +kernel
theorem dX5_comparePolys_27 : decode cX5_comparePolys 27 = .ok (.iaload, 1) := by decide +kernel
theorem dX5_comparePolys_28 : decode cX5_comparePolys 28 = .ok (.aload_n 2, 1) := by decide +kernel
theorem dX5_comparePolys_29 : decode cX5_comparePolys 29 = .ok (.getfield 57, 3) := by decide +kernel
theorem dX5_comparePolys_32 : decode cX5_comparePolys 32 = .ok (.iload 4, 2) := by decide +kernel
theorem dX5_comparePolys_34 : decode cX5_comparePolys 34 = .ok (.iaload, 1) := by decide +kernel
theorem dX5_comparePolys_35 : decode cX5_comparePolys 35 = .ok (.if_icmp .eq 29, 3) := by decide +kernel
theorem dX5_comparePolys_38 : decode cX5_comparePolys 38 = .ok (.aload_n 0, 1) := by decide +kernel
theorem dX5_comparePolys_39 : decode cX5_comparePolys 39 = .ok (.aload_n 1, 1) := by decide +kernel
theorem dX5_comparePolys_40 : decode cX5_comparePolys 40 = .ok (.getfield 57, 3) := by decide +kernel
theorem dX5_comparePolys_43 : decode cX5_comparePolys 43 = .ok (.iload 4, 2) := by decide +kernel
theorem dX5_comparePolys_45 : decode cX5_comparePolys 45 = .ok (.iaload, 1) := by decide +kernel
theorem dX5_comparePolys_46 : decode cX5_comparePolys 46 = .ok (.invokevirtual 60, 3) := by decide +kernel
theorem dX5_comparePolys_49 : decode cX5_comparePolys 49 = .ok (.aload_n 0, 1) := by decide +kernel
theorem dX5_comparePolys_50 : decode cX5_comparePolys 50 = .ok (.aload_n 2, 1) := by decide +kernel
theorem dX5_comparePolys_51 : decode cX5_comparePolys 51 = .ok (.getfield 57, 3) := by decide +kernel
theorem dX5_comparePolys_54 : decode cX5_comparePolys 54 = .ok (.iload 4, 2) := by decide +kernel
theorem dX5_comparePolys_56 : decode cX5_comparePolys 56 = .ok (.iaload, 1) := by decide +kernel
theorem dX5_comparePolys_57 : decode cX5_comparePolys 57 = .ok (.invokevirtual 60, 3) := by decide +kernel
theorem dX5_comparePolys_60 : decode cX5_comparePolys 60 = .ok (.invokestatic 67, 3) := by decide +kernel
theorem dX5_comparePolys_63 : decode cX5_comparePolys 63 = .ok (.ireturn, 1) := by decide +kernel
theorem dX5_comparePolys_64 : decode cX5_comparePolys 64 = .ok (.aload_n 1, 1) := by decide +kernel
theorem dX5_comparePolys_65 : decode cX5_comparePolys 65 = .ok (.getfield 54, 3) := by decide +kernel
theorem dX5_comparePolys_68 : decode cX5_comparePolys 68 = .ok (.iload 4, 2) := by decide +kernel
theorem dX5_comparePolys_70 : decode cX5_comparePolys 70 = .ok (.iaload, 1) := by decide +kernel
theorem dX5_comparePolys_71 : decode cX5_comparePolys 71 = .ok (.aload_n 2, 1) := by decide +kernel
theorem dX5_comparePolys_72 : decode cX5_comparePolys 72 = .ok (.getfield 54, 3) := by decide +kernel
theorem dX5_comparePolys_75 : decode cX5_comparePolys 75 = .ok (.iload 4, 2) := by decide +kernel
theorem dX5_comparePolys_77 : decode cX5_comparePolys 77 = .ok (.iaload, 1) := by decide +kernel
theorem dX5_comparePolys_78 : decode cX5_comparePolys 78 = .ok (.if_icmp .eq 21, 3) := by decide +kernel
theorem dX5_comparePolys_81 : decode cX5_comparePolys 81 = .ok (.aload_n 1, 1) := by decide +kernel
theorem dX5_comparePolys_82 : decode cX5_comparePolys 82 = .ok (.getfield 54, 3) := by decide +kernel
theorem dX5_comparePolys_85 : decode cX5_comparePolys 85 = .ok (.iload 4, 2) := by decide +kernel
theorem dX5_comparePolys_87 : decode cX5_comparePolys 87 = .ok (.iaload, 1) := by decide +kernel
theorem dX5_comparePolys_88 : decode cX5_comparePolys 88 = .ok (.aload_n 2, 1) := by decide +kernel
theorem dX5_comparePolys_89 : decode cX5_comparePolys 89 = .ok (.getfield 54, 3) := by decide +kernel
theorem dX5_comparePolys_92 : decode cX5_comparePolys 92 = .ok (.iload 4, 2) := by decide +kernel
theorem dX5_comparePolys_94 : decode cX5_comparePolys 94 = .ok (.iaload, 1) := by decide +kernel
theorem dX5_comparePolys_95 : decode cX5_comparePolys 95 = .ok (.invokestatic 67, 3) := by decide +kernel
theorem dX5_comparePolys_98 : decode cX5_comparePolys 98 = .ok (.ireturn, 1) := by decide +kernel
theorem dX5_comparePolys_99 : decode cX5_comparePolys 99 = .ok (.iinc 4 1, 3) := by decide +kernel
theorem dX5_comparePolys_102 : decode cX5_comparePolys 102 = .ok (.goto (-87), 3) := by decide +kernel
theorem dX5_comparePolys_105 : decode cX5_comparePolys 105 = .ok (.aload_n 1, 1) := by decide +kernel
theorem dX5_comparePolys_106 : decode cX5_comparePolys 106 = .ok (.getfield 51, 3) := by decide +kernel
theorem dX5_comparePolys_109 : decode cX5_comparePolys 109 = .ok (.aload_n 2, 1) := by decide +kernel
theorem dX5_comparePolys_110 : decode cX5_comparePolys 110 = .ok (.getfield 51, 3) := by decide +kernel
theorem dX5_comparePolys_113 : decode cX5_comparePolys 113 = .ok (.invokestatic 67, 3) := by decide +kernel
theorem dX5_comparePolys_116 : decode cX5_comparePolys 116 = .ok (.ireturn, 1) := by decide +kernel
theorem dX5_addMultiple_0 : decode cX5_addMultiple 0 = .ok (.aload_n 3, 1) := by decide +kernel
theorem dX5_addMultiple_1 : decode cX5_addMultiple 1 = .ok (.iload 5, 2) := by decide +kernel
theorem dX5_addMultiple_3 : decode cX5_addMultiple 3 = .ok (.invokestatic 72, 3) := by decide +kernel
theorem dX5_addMultiple_6 : decode cX5_addMultiple 6 = .ok (.ifCond .eq 6, 3) := by decide +kernel
theorem dX5_addMultiple_9 : decode cX5_addMultiple 9 = .ok (.bipush (-5), 2) := by decide +kernel
theorem dX5_addMultiple_11 : decode cX5_addMultiple 11 = .ok (.ireturn, 1) := by decide +kernel
theorem dX5_addMultiple_12 : decode cX5_addMultiple 12 = .ok (.aload_n 1, 1) := by decide +kernel
theorem dX5_addMultiple_13 : decode cX5_addMultiple 13 = .ok (.iconst 0, 1) := by decide +kernel
theorem dX5_addMultiple_14 : decode cX5_addMultiple 14 = .ok (.putfield 51, 3) := by decide +kernel
theorem dX5_addMultiple_17 : decode cX5_addMultiple 17 = .ok (.iconst 0, 1) := by decide +kernel
theorem dX5_addMultiple_18 : decode cX5_addMultiple 18 = .ok (.istore 6, 2) := by decide +kernel
theorem dX5_addMultiple_20 : decode cX5_addMultiple 20 = .ok (.iconst 0, 1) := by decide +kernel
theorem dX5_addMultiple_21 : decode cX5_addMultiple 21 = .ok (.istore 7, 2) := by decide +kernel
theorem dX5_addMultiple_23 : decode cX5_addMultiple 23 = .ok (.aload_n 2, 1) := by decide +kernel
theorem dX5_addMultiple_24 : decode cX5_addMultiple 24 = .ok (.getfield 51, 3) := by decide +kernel
theorem dX5_addMultiple_27 : decode cX5_addMultiple 27 = .ok (.aload_n 3, 1) := by decide +kernel
theorem dX5_addMultiple_28 : decode cX5_addMultiple 28 = .ok (.getfield 51, 3) := by decide +kernel
theorem dX5_addMultiple_31 : decode cX5_addMultiple 31 = .ok (.iadd, 1) := by decide +kernel
theorem dX5_addMultiple_32 : decode cX5_addMultiple 32 = .ok (.istore 8, 2) := by decide +kernel
theorem dX5_addMultiple_34 : decode cX5_addMultiple 34 = .ok (.iload 8, 2) := by decide +kernel
theorem dX5_addMultiple_36 : decode cX5_addMultiple 36 = .ok (.ifCond .le 176, 3) := by decide +kernel
theorem dX5_addMultiple_39 : decode cX5_addMultiple 39 = .ok (.iload 6, 2) := by decide +kernel
theorem dX5_addMultiple_41 : decode cX5_addMultiple 41 = .ok (.aload_n 2, 1) := by decide +kernel
theorem dX5_addMultiple_42 : decode cX5_addMultiple 42 = .ok (.getfield 51, 3) := by decide +kernel
theorem dX5_addMultiple_45 : decode cX5_addMultiple 45 = .ok (.if_icmp .ge 17, 3) := by decide +kernel
theorem dX5_addMultiple_48 : decode cX5_addMultiple 48 = .ok (.aload_n 0, 1) := by decide +kernel
theorem dX5_addMultiple_49 : decode cX5_addMultiple 49 = .ok (.aload_n 2, 1) := by decide +kernel
theorem dX5_addMultiple_50 : decode cX5_addMultiple 50 = .ok (.getfield 57, 3) := by decide +kernel
theorem dX5_addMultiple_53 : decode cX5_addMultiple 53 = .ok (.iload 6, 2) := by decide +kernel
theorem dX5_addMultiple_55 : decode cX5_addMultiple 55 = .ok (.iaload, 1) := by decide +kernel
theorem dX5_addMultiple_56 : decode cX5_addMultiple 56 = .ok (.invokevirtual 60, 3) := by decide +kernel
theorem dX5_addMultiple_59 : decode cX5_addMultiple 59 = .ok (.goto 4, 3) := by decide +kernel
theorem dX5_addMultiple_62 : decode cX5_addMultiple 62 = .ok (.iconst (-1), 1) := by decide +kernel
theorem dX5_addMultiple_63 : decode cX5_addMultiple 63 = .ok (.istore 9, 2) := by decide +kernel
theorem dX5_addMultiple_65 : decode cX5_addMultiple 65 = .ok (.iload 7, 2) := by decide +kernel
theorem dX5_addMultiple_67 : decode cX5_addMultiple 67 = .ok (.aload_n 3, 1) := by decide +kernel
theorem dX5_addMultiple_68 : decode cX5_addMultiple 68 = .ok (.getfield 51, 3) := by decide +kernel
theorem dX5_addMultiple_71 : decode cX5_addMultiple 71 = .ok (.if_icmp .ge 20, 3) := by decide +kernel
theorem dX5_addMultiple_74 : decode cX5_addMultiple 74 = .ok (.aload_n 0, 1) := by decide +kernel
theorem dX5_addMultiple_75 : decode cX5_addMultiple 75 = .ok (.aload_n 3, 1) := by decide +kernel
theorem dX5_addMultiple_76 : decode cX5_addMultiple 76 = .ok (.getfield 57, 3) := by decide +kernel
theorem dX5_addMultiple_79 : decode cX5_addMultiple 79 = .ok (.iload 7, 2) := by decide +kernel
theorem dX5_addMultiple_81 : decode cX5_addMultiple 81 = .ok (.iaload, 1) := by decide +kernel
theorem dX5_addMultiple_82 : decode cX5_addMultiple 82 = .ok (.iload 5, 2) := by decide +kernel
theorem dX5_addMultiple_84 : decode cX5_addMultiple 84 = .ok (.iadd, 1) := by decide +kernel
theorem dX5_addMultiple_85 : decode cX5_addMultiple 85 = .ok (.invokevirtual 60, 3) := by decide +kernel
theorem dX5_addMultiple_88 : decode cX5_addMultiple 88 = .ok (.goto 4, 3) := by decide +kernel
theorem dX5_addMultiple_91 : decode cX5_addMultiple 91 = .ok (.iconst (-1), 1) := by decide +kernel
theorem dX5_addMultiple_92 : decode cX5_addMultiple 92 = .ok (.istore 10, 2) := by decide +kernel
theorem dX5_addMultiple_94 : decode cX5_addMultiple 94 = .ok (.iconst 0, 1) := by decide +kernel
theorem dX5_addMultiple_95 : decode cX5_addMultiple 95 = .ok (.istore 11, 2) := by decide +kernel
theorem dX5_addMultiple_97 : decode cX5_addMultiple 97 = .ok (.iconst 0, 1) := by decide +kernel
theorem dX5_addMultiple_98 : decode cX5_addMultiple 98 = .ok (.istore 12, 2) := by decide +kernel
theorem dX5_addMultiple_100 : decode cX5_addMultiple 100 = .ok (.iload 6, 2) := by decide +kernel
theorem dX5_addMultiple_102 : decode cX5_addMultiple 102 = .ok (.aload_n 2, 1) := by decide +kernel
theorem dX5_addMultiple_103 : decode cX5_addMultiple 103 = .ok (.getfield 51, 3) := by decide +kernel
theorem dX5_addMultiple_106 : decode cX5_addMultiple 106 = .ok (.if_icmp .ge 31, 3) := by decide +kernel
theorem dX5_addMultiple_109 : decode cX5_addMultiple 109 = .ok (.iload 9, 2) := by decide +kernel
theorem dX5_addMultiple_111 : decode cX5_addMultiple 111 = .ok (.iload 10, 2) := by decide +kernel
theorem dX5_addMultiple_113 : decode cX5_addMultiple 113 = .ok (.if_icmp .lt 24, 3) := by decide +kernel
theorem dX5_addMultiple_116 : decode cX5_addMultiple 116 = .ok (.aload_n 2, 1) := by decide +kernel
theorem dX5_addMultiple_117 : decode cX5_addMultiple 117 = .ok (.getfield 57, 3) := by decide +kernel
theorem dX5_addMultiple_120 : decode cX5_addMultiple 120 = .ok (.iload 6, 2) := by decide +kernel
theorem dX5_addMultiple_122 : decode cX5_addMultiple 122 = .ok (.iaload, 1) := by decide +kernel
theorem dX5_addMultiple_123 : decode cX5_addMultiple 123 = .ok (.istore 12, 2) := by decide +kernel
theorem dX5_addMultiple_125 : decode cX5_addMultiple 125 = .ok (.aload_n 2, 1) := by decide +kernel
theorem dX5_addMultiple_126 : decode cX5_addMultiple 126 = .ok (.getfield 54, 3) := by decide +kernel
theorem dX5_addMultiple_129 : decode cX5_addMultiple 129 = .ok (.iload 6, 2) := by decide +kernel
theorem dX5_addMultiple_131 : decode cX5_addMultiple 131 = .ok (.iaload, 1) := by decide +kernel
theorem dX5_addMultiple_132 : decode cX5_addMultiple 132 = .ok (.istore 11, 2) := by decide +kernel
theorem dX5_addMultiple_134 : decode cX5_addMultiple 134 = .ok (.iinc 6 1, 3) := by decide +kernel
theorem dX5_addMultiple_137 : decode cX5_addMultiple 137 = .ok (.iload 7, 2) := by decide +kernel
theorem dX5_addMultiple_139 : decode cX5_addMultiple 139 = .ok (.aload_n 3, 1) := by decide +kernel
theorem dX5_addMultiple_140 : decode cX5_addMultiple 140 = .ok (.getfield 51, 3) := by decide +kernel
theorem dX5_addMultiple_143 : decode cX5_addMultiple 143 = .ok (.if_icmp .ge 44, 3) := by decide +kernel
theorem dX5_addMultiple_146 : decode cX5_addMultiple 146 = .ok (.iload 10, 2) := by decide +kernel
theorem dX5_addMultiple_148 : decode cX5_addMultiple 148 = .ok (.iload 9, 2) := by decide +kernel
theorem dX5_addMultiple_150 : decode cX5_addMultiple 150 = .ok (.if_icmp .lt 37, 3) := by decide +kernel
theorem dX5_addMultiple_153 : decode cX5_addMultiple 153 = .ok (.aload_n 3, 1) := by decide +kernel
theorem dX5_addMultiple_154 : decode cX5_addMultiple 154 = .ok (.getfield 57, 3) := by decide +kernel
theorem dX5_addMultiple_157 : decode cX5_addMultiple 157 = .ok (.iload 7, 2) := by decide +kernel
theorem dX5_addMultiple_159 : decode cX5_addMultiple 159 = .ok (.iaload, 1) := by decide +kernel
theorem dX5_addMultiple_160 : decode cX5_addMultiple 160 = .ok (.iload 5, 2) := by decide +kernel
theorem dX5_addMultiple_162 : decode cX5_addMultiple 162 = .ok (.iadd, 1) := by decide +kernel
theorem dX5_addMultiple_163 : decode cX5_addMultiple 163 = .ok (.istore 12, 2) := by decide +kernel
theorem dX5_addMultiple_165 : decode cX5_addMultiple 165 = .ok (.aload_n 0, 1) := by decide +kernel
theorem dX5_addMultiple_166 : decode cX5_addMultiple 166 = .ok (.iload 11, 2) := by decide +kernel
theorem dX5_addMultiple_168 : decode cX5_addMultiple 168 = .ok (.iload 4, 2) := by decide +kernel
theorem dX5_addMultiple_170 : decode cX5_addMultiple 170 = .ok (.aload_n 3, 1) := by decide +kernel
theorem dX5_addMultiple_171 : decode cX5_addMultiple 171 = .ok (.getfield 54, 3) := by decide +kernel
theorem dX5_addMultiple_174 : decode cX5_addMultiple 174 = .ok (.iload 7, 2) := by decide +kernel
theorem dX5_addMultiple_176 : decode cX5_addMultiple 176 = .ok (.iaload, 1) := by decide +kernel
theorem dX5_addMultiple_177 : decode cX5_addMultiple 177 = .ok (.imul, 1) := by decide +kernel
theorem dX5_addMultiple_178 : decode cX5_addMultiple 178 = .ok (.iadd, 1) := by decide +kernel
theorem dX5_addMultiple_179 : decode cX5_addMultiple 179 = .ok (.invokevirtual 76, 3) := by decide +kernel
theorem dX5_addMultiple_182 : decode cX5_addMultiple 182 = .ok (.istore 11, 2) := by decide +kernel
theorem dX5_addMultiple_184 : decode cX5_addMultiple 184 = .ok (.iinc 7 1, 3) := by decide +kernel
theorem dX5_addMultiple_187 : decode cX5_addMultiple 187 = .ok (.iload 11, 2) := by decide +kernel
theorem dX5_addMultiple_189 : decode cX5_addMultiple 189 = .ok (.ifCond .eq 17, 3) := by decide +kernel
theorem dX5_addMultiple_192 : decode cX5_addMultiple 192 = .ok (.aload_n 1, 1) := by decide +kernel
theorem dX5_addMultiple_193 : decode cX5_addMultiple 193 = .ok (.iload 11, 2) := by decide +kernel
theorem dX5_addMultiple_195 : decode cX5_addMultiple 195 = .ok (.iload 12, 2) := by decide +kernel
theorem dX5_addMultiple_197 : decode cX5_addMultiple 197 = .ok (.invokevirtual 79, 3) := by decide +kernel
theorem dX5_addMultiple_200 : decode cX5_addMultiple 200 = .ok (.ifCond .ne 6, 3) := by decide +kernel
theorem dX5_addMultiple_203 : decode cX5_addMultiple 203 = .ok (.bipush (-6), 2) := by decide +kernel
theorem dX5_addMultiple_205 : decode cX5_addMultiple 205 = .ok (.ireturn, 1) := by decide +kernel
theorem dX5_addMultiple_206 : decode cX5_addMultiple 206 = .ok (.iinc 8 (-1), 3) := by decide +kernel
theorem dX5_addMultiple_209 : decode cX5_addMultiple 209 = .ok (.goto (-175), 3) := by decide +kernel
theorem dX5_addMultiple_212 : decode cX5_addMultiple 212 = .ok (.iconst 0, 1) := by decide +kernel
theorem dX5_addMultiple_213 : decode cX5_addMultiple 213 = .ok (.ireturn, 1) := by decide +kernel
theorem dX5_isMultipleGreat_0 : decode cX5_isMultipleGreat 0 = .ok (.iconst 0, 1) := by decide +kernel
theorem dX5_isMultipleGreat_1 : decode cX5_isMultipleGreat 1 = .ok (.istore_n 2, 1) := by decide +kernel
theorem dX5_isMultipleGreat_2 : decode cX5_isMultipleGreat 2 = .ok (.iload_n 2, 1) := by decide +kernel
theorem dX5_isMultipleGreat_3 : decode cX5_isMultipleGreat 3 = .ok (.aload_n 0, 1) := by decide +kernel
theorem dX5_isMultipleGreat_4 : decode cX5_isMultipleGreat 4 = .ok (.getfield 51, 3) := by decide +kernel
theorem dX5_isMultipleGreat_7 : decode cX5_isMultipleGreat 7 = .ok (.if_icmp .ge 25, 3) := by decide +kernel
theorem dX5_isMultipleGreat_10 : decode cX5_isMultipleGreat 10 = .ok (.aload_n 0, 1) := by decide +kernel
theorem dX5_isMultipleGreat_11 : decode cX5_isMultipleGreat 11 = .ok (.getfield 57, 3) := by decide +kernel
theorem dX5_isMultipleGreat_14 : decode cX5_isMultipleGreat 14 = .ok (.iload_n 2, 1) := by decide +kernel
theorem dX5_isMultipleGreat_15 : decode cX5_isMultipleGreat 15 = .ok (.iaload, 1) := by decide +kernel
theorem dX5_isMultipleGreat_16 : decode cX5_isMultipleGreat 16 = .ok (.iload_n 1, 1) := by decide +kernel
theorem dX5_isMultipleGreat_17 : decode cX5_isMultipleGreat 17 = .ok (.iadd, 1) := by decide +kernel
theorem dX5_isMultipleGreat_18 : decode cX5_isMultipleGreat 18 = .ok (.invokestatic 83, 3) := by decide +kernel
theorem dX5_isMultipleGreat_21 : decode cX5_isMultipleGreat 21 = .ok (.ifCond .eq 5, 3) := by decide +kernel
theorem dX5_isMultipleGreat_24 : decode cX5_isMultipleGreat 24 = .ok (.iconst 1, 1) := by decide +kernel
theorem dX5_isMultipleGreat_25 : decode cX5_isMultipleGreat 25 = .ok (.ireturn, 1) := by decide +kernel
theorem dX5_isMultipleGreat_26 : decode cX5_isMultipleGreat 26 = .ok (.iinc 2 1, 3) := by decide +kernel
theorem dX5_isMultipleGreat_29 : decode cX5_isMultipleGreat 29 = .ok (.goto (-27), 3) := by decide +kernel
theorem dX5_isMultipleGreat_32 : decode cX5_isMultipleGreat 32 = .ok (.iconst 0, 1) := by decide +kernel
theorem dX5_isMultipleGreat_33 : decode cX5_isMultipleGreat 33 = .ok (.ireturn, 1) := by decide +kernel
theorem dX5_multiply_0 : decode cX5_multiply 0 = .ok (.iconst 0, 1) := by decide +kernel
theorem dX5_multiply_1 : decode cX5_multiply 1 = .ok (.istore 4, 2) := by decide +kernel
theorem dX5_multiply_3 : decode cX5_multiply 3 = .ok (.iload 4, 2) := by decide +kernel
theorem dX5_multiply_5 : decode cX5_multiply 5 = .ok (.aload_n 2, 1) := by decide +kernel
theorem dX5_multiply_6 : decode cX5_multiply 6 = .ok (.getfield 51, 3) := by decide +kernel
theorem dX5_multiply_9 : decode cX5_multiply 9 = .ok (.if_icmp .ge 26, 3) := by decide +kernel
theorem dX5_multiply_12 : decode cX5_multiply 12 = .ok (.aload_n 3, 1) := by decide +kernel
theorem dX5_multiply_13 : decode cX5_multiply 13 = .ok (.aload_n 2, 1) := by decide +kernel
theorem dX5_multiply_14 : decode cX5_multiply 14 = .ok (.getfield 57, 3) := by decide +kernel
theorem dX5_multiply_17 : decode cX5_multiply 17 = .ok (.iload 4, 2) := by decide +kernel
theorem dX5_multiply_19 : decode cX5_multiply 19 = .ok (.iaload, 1) := by decide +kernel
theorem dX5_multiply_20 : decode cX5_multiply 20 = .ok (.invokestatic 72, 3) := by decide +kernel
theorem dX5_multiply_23 : decode cX5_multiply 23 = .ok (.ifCond .eq 6, 3) := by decide +kernel
theorem dX5_multiply_26 : decode cX5_multiply 26 = .ok (.bipush (-5), 2) := by decide +kernel
theorem dX5_multiply_28 : decode cX5_multiply 28 = .ok (.ireturn, 1) := by decide +kernel
theorem dX5_multiply_29 : decode cX5_multiply 29 = .ok (.iinc 4 1, 3) := by decide +kernel
theorem dX5_multiply_32 : decode cX5_multiply 32 = .ok (.goto (-29), 3) := by decide +kernel
theorem dX5_multiply_35 : decode cX5_multiply 35 = .ok (.aload_n 1, 1) := by decide +kernel
theorem dX5_multiply_36 : decode cX5_multiply 36 = .ok (.iconst 0, 1) := by decide +kernel
theorem dX5_multiply_37 : decode cX5_multiply 37 = .ok (.putfield 51, 3) := by decide +kernel
theorem dX5_multiply_40 : decode cX5_multiply 40 = .ok (.aload_n 0, 1) := by decide +kernel
theorem dX5_multiply_41 : decode cX5_multiply 41 = .ok (.getfield 19, 3) := by decide +kernel
theorem dX5_multiply_44 : decode cX5_multiply 44 = .ok (.iconst 0, 1) := by decide +kernel
theorem dX5_multiply_45 : decode cX5_multiply 45 = .ok (.invokestatic 88, 3) := by decide +kernel
theorem dX5_multiply_48 : decode cX5_multiply 48 = .ok (.aload_n 2, 1) := by decide +kernel
theorem dX5_multiply_49 : decode cX5_multiply 49 = .ok (.getfield 51, 3) := by decide +kernel
theorem dX5_multiply_52 : decode cX5_multiply 52 = .ok (.aload_n 3, 1) := by decide +kernel
theorem dX5_multiply_53 : decode cX5_multiply 53 = .ok (.getfield 51, 3) := by decide +kernel
theorem dX5_multiply_56 : decode cX5_multiply 56 = .ok (.imul, 1) := by decide +kernel
theorem dX5_multiply_57 : decode cX5_multiply 57 = .ok (.istore 4, 2) := by decide +kernel
theorem dX5_multiply_59 : decode cX5_multiply 59 = .ok (.iload 4, 2) := by decide +kernel
theorem dX5_multiply_61 : decode cX5_multiply 61 = .ok (.ifCond .le 53, 3) := by decide +kernel
theorem dX5_multiply_64 : decode cX5_multiply 64 = .ok (.aload_n 0, 1) := by decide +kernel
theorem dX5_multiply_65 : decode cX5_multiply 65 = .ok (.aload_n 2, 1) := by decide +kernel
theorem dX5_multiply_66 : decode cX5_multiply 66 = .ok (.aload_n 3, 1) := by decide +kernel
theorem dX5_multiply_67 : decode cX5_multiply 67 = .ok (.invokevirtual 94, 3) := by decide +kernel
theorem dX5_multiply_70 : decode cX5_multiply 70 = .ok (.istore 5, 2) := by decide +kernel
theorem dX5_multiply_72 : decode cX5_multiply 72 = .ok (.iload 5, 2) := by decide +kernel
theorem dX5_multiply_74 : decode cX5_multiply 74 = .ok (.ifCond .ge 5, 3) := by decide +kernel
theorem dX5_multiply_77 : decode cX5_multiply 77 = .ok (.iconst 0, 1) := by decide +kernel
theorem dX5_multiply_78 : decode cX5_multiply 78 = .ok (.ireturn, 1) := by decide +kernel
theorem dX5_multiply_79 : decode cX5_multiply 79 = .ok (.aload_n 0, 1) := by decide +kernel
theorem dX5_multiply_80 : decode cX5_multiply 80 = .ok (.aload_n 2, 1) := by decide +kernel
theorem dX5_multiply_81 : decode cX5_multiply 81 = .ok (.aload_n 3, 1) := by decide +kernel
theorem dX5_multiply_82 : decode cX5_multiply 82 = .ok (.iload 5, 2) := by decide +kernel
theorem dX5_multiply_84 : decode cX5_multiply 84 = .ok (.invokevirtual 98, 3) := by decide +kernel
theorem dX5_multiply_87 : decode cX5_multiply 87 = .ok (.istore 6, 2) := by decide +kernel
theorem dX5_multiply_89 : decode cX5_multiply 89 = .ok (.iload 6, 2) := by decide +kernel
theorem dX5_multiply_91 : decode cX5_multiply 91 = .ok (.ifCond .eq 17, 3) := by decide +kernel
theorem dX5_multiply_94 : decode cX5_multiply 94 = .ok (.aload_n 1, 1) := by decide +kernel
theorem dX5_multiply_95 : decode cX5_multiply 95 = .ok (.iload 6, 2) := by decide +kernel
theorem dX5_multiply_97 : decode cX5_multiply 97 = .ok (.iload 5, 2) := by decide +kernel
theorem dX5_multiply_99 : decode cX5_multiply 99 = .ok (.invokevirtual 79, 3) := by decide +kernel
theorem dX5_multiply_102 : decode cX5_multiply 102 = .ok (.ifCond .ne 6, 3) := by decide +kernel
theorem dX5_multiply_105 : decode cX5_multiply 105 = .ok (.bipush (-6), 2) := by decide +kernel
theorem dX5_multiply_107 : decode cX5_multiply 107 = .ok (.ireturn, 1) := by decide +kernel
theorem dX5_multiply_108 : decode cX5_multiply 108 = .ok (.iinc 4 (-1), 3) := by decide +kernel
theorem dX5_multiply_111 : decode cX5_multiply 111 = .ok (.goto (-52), 3) := by decide +kernel
theorem dX5_multiply_114 : decode cX5_multiply 114 = .ok (.iconst 0, 1) := by decide +kernel
theorem dX5_multiply_115 : decode cX5_multiply 115 = .ok (.ireturn, 1) := by decide +kernel
theorem dX5_greatestToMeet_0 : decode cX5_greatestToMeet 0 = .ok (.iconst (-1), 1) := by decide +kernel
theorem dX5_greatestToMeet_1 : decode cX5_greatestToMeet 1 = .ok (.istore_n 3, 1) := by decide +kernel
theorem dX5_greatestToMeet_2 : decode cX5_greatestToMeet 2 = .ok (.iconst 0, 1) := by decide +kernel
theorem dX5_greatestToMeet_3 : decode cX5_greatestToMeet 3 = .ok (.istore 4, 2) := by decide +kernel
theorem dX5_greatestToMeet_5 : decode cX5_greatestToMeet 5 = .ok (.iload 4, 2) := by decide +kernel
theorem dX5_greatestToMeet_7 : decode cX5_greatestToMeet 7 = .ok (.aload_n 1, 1) := by decide +kernel
theorem dX5_greatestToMeet_8 : decode cX5_greatestToMeet 8 = .ok (.getfield 51, 3) := by decide +kernel
theorem dX5_greatestToMeet_11 : decode cX5_greatestToMeet 11 = .ok (.if_icmp .ge 66, 3) := by decide +kernel
theorem dX5_greatestToMeet_14 : decode cX5_greatestToMeet 14 = .ok (.aload_n 0, 1) := by decide +kernel
theorem dX5_greatestToMeet_15 : decode cX5_greatestToMeet 15 = .ok (.getfield 19, 3) := by decide +kernel
theorem dX5_greatestToMeet_18 : decode cX5_greatestToMeet 18 = .ok (.iload 4, 2) := by decide +kernel
theorem dX5_greatestToMeet_20 : decode cX5_greatestToMeet 20 = .ok (.iaload, 1) := by decide +kernel
theorem dX5_greatestToMeet_21 : decode cX5_greatestToMeet 21 = .ok (.aload_n 2, 1) := by decide +kernel
theorem dX5_greatestToMeet_22 : decode cX5_greatestToMeet 22 = .ok (.getfield 51, 3) := by decide +kernel
theorem dX5_greatestToMeet_25 : decode cX5_greatestToMeet 25 = .ok (.if_icmp .ge 46, 3) := by decide +kernel
theorem dX5_greatestToMeet_28 : decode cX5_greatestToMeet 28 = .ok (.aload_n 1, 1) := by decide +kernel
theorem dX5_greatestToMeet_29 : decode cX5_greatestToMeet 29 = .ok (.getfield 57, 3) := by decide +kernel
theorem dX5_greatestToMeet_32 : decode cX5_greatestToMeet 32 = .ok (.iload 4, 2) := by decide +kernel
theorem dX5_greatestToMeet_34 : decode cX5_greatestToMeet 34 = .ok (.iaload, 1) := by decide +kernel
theorem dX5_greatestToMeet_35 : decode cX5_greatestToMeet 35 = .ok (.aload_n 2, 1) := by decide +kernel
theorem dX5_greatestToMeet_36 : decode cX5_greatestToMeet 36 = .ok (.getfield 57, 3) := by decide +kernel
theorem dX5_greatestToMeet_39 : decode cX5_greatestToMeet 39 = .ok (.aload_n 0, 1) := by decide +kernel
theorem dX5_greatestToMeet_40 : decode cX5_greatestToMeet 40 = .ok (.getfield 19, 3) := by decide +kernel
theorem dX5_greatestToMeet_43 : decode cX5_greatestToMeet 43 = .ok (.iload 4, 2) := by decide +kernel
theorem dX5_greatestToMeet_45 : decode cX5_greatestToMeet 45 = .ok (.iaload, 1) := by decide +kernel
theorem dX5_greatestToMeet_46 : decode cX5_greatestToMeet 46 = .ok (.iaload, 1) := by decide +kernel
theorem dX5_greatestToMeet_47 : decode cX5_greatestToMeet 47 = .ok (.iadd, 1) := by decide +kernel
theorem dX5_greatestToMeet_48 : decode cX5_greatestToMeet 48 = .ok (.istore 5, 2) := by decide +kernel
theorem dX5_greatestToMeet_50 : decode cX5_greatestToMeet 50 = .ok (.iload_n 3, 1) := by decide +kernel
theorem dX5_greatestToMeet_51 : decode cX5_greatestToMeet 51 = .ok (.ifCond .lt 17, 3) := by decide +kernel
theorem dX5_greatestToMeet_54 : decode cX5_greatestToMeet 54 = .ok (.aload_n 0, 1) := by decide +kernel
theorem dX5_greatestToMeet_55 : decode cX5_greatestToMeet 55 = .ok (.iload 5, 2) := by decide +kernel
theorem dX5_greatestToMeet_57 : decode cX5_greatestToMeet 57 = .ok (.invokevirtual 60, 3) := by decide +kernel
theorem dX5_greatestToMeet_60 : decode cX5_greatestToMeet 60 = .ok (.aload_n 0, 1) := by decide +kernel
theorem dX5_greatestToMeet_61 : decode cX5_greatestToMeet 61 = .ok (.iload_n 3, 1) := by decide +kernel
theorem dX5_greatestToMeet_62 : decode cX5_greatestToMeet 62 = .ok (.invokevirtual 60, 3) := by decide +kernel
theorem dX5_greatestToMeet_65 : decode cX5_greatestToMeet 65 = .ok (.if_icmp .le 6, 3) := by decide +kernel
theorem dX5_greatestToMeet_68 : decode cX5_greatestToMeet 68 = .ok (.iload 5, 2) := by decide +kernel
theorem dX5_greatestToMeet_70 : decode cX5_greatestToMeet 70 = .ok (.istore_n 3, 1) := by decide +kernel
theorem dX5_greatestToMeet_71 : decode cX5_greatestToMeet 71 = .ok (.iinc 4 1, 3) := by decide +kernel
theorem dX5_greatestToMeet_74 : decode cX5_greatestToMeet 74 = .ok (.goto (-69), 3) := by decide +kernel
theorem dX5_greatestToMeet_77 : decode cX5_greatestToMeet 77 = .ok (.iload_n 3, 1) := by decide +kernel
theorem dX5_greatestToMeet_78 : decode cX5_greatestToMeet 78 = .ok (.ireturn, 1) := by decide +kernel
theorem dX5_takeProducts_0 : decode cX5_takeProducts 0 = .ok (.iconst 0, 1) := by decide +kernel
theorem dX5_takeProducts_1 : decode cX5_takeProducts 1 = .ok (.istore 4, 2) := by decide +kernel
theorem dX5_takeProducts_3 : decode cX5_takeProducts 3 = .ok (.iconst 0, 1) := by decide +kernel
theorem dX5_takeProducts_4 : decode cX5_takeProducts 4 = .ok (.istore 5, 2) := by decide +kernel
theorem dX5_takeProducts_6 : decode cX5_takeProducts 6 = .ok (.iload 5, 2) := by decide +kernel
theorem dX5_takeProducts_8 : decode cX5_takeProducts 8 = .ok (.aload_n 1, 1) := by decide +kernel
theorem dX5_takeProducts_9 : decode cX5_takeProducts 9 = .ok (.getfield 51, 3) := by decide +kernel
theorem dX5_takeProducts_12 : decode cX5_takeProducts 12 = .ok (.if_icmp .ge 81, 3) := by decide +kernel
theorem dX5_takeProducts_15 : decode cX5_takeProducts 15 = .ok (.aload_n 0, 1) := by decide +kernel
theorem dX5_takeProducts_16 : decode cX5_takeProducts 16 = .ok (.getfield 19, 3) := by decide +kernel
theorem dX5_takeProducts_19 : decode cX5_takeProducts 19 = .ok (.iload 5, 2) := by decide +kernel
theorem dX5_takeProducts_21 : decode cX5_takeProducts 21 = .ok (.iaload, 1) := by decide +kernel
theorem dX5_takeProducts_22 : decode cX5_takeProducts 22 = .ok (.istore 6, 2) := by decide +kernel
theorem dX5_takeProducts_24 : decode cX5_takeProducts 24 = .ok (.iload 6, 2) := by decide +kernel
theorem dX5_takeProducts_26 : decode cX5_takeProducts 26 = .ok (.aload_n 2, 1) := by decide +kernel
theorem dX5_takeProducts_27 : decode cX5_takeProducts 27 = .ok (.getfield 51, 3) := by decide +kernel
theorem dX5_takeProducts_30 : decode cX5_takeProducts 30 = .ok (.if_icmp .ge 57, 3) := by decide +kernel
theorem dX5_takeProducts_33 : decode cX5_takeProducts 33 = .ok (.aload_n 1, 1) := by decide +kernel
theorem dX5_takeProducts_34 : decode cX5_takeProducts 34 = .ok (.getfield 57, 3) := by decide +kernel
theorem dX5_takeProducts_37 : decode cX5_takeProducts 37 = .ok (.iload 5, 2) := by decide +kernel
theorem dX5_takeProducts_39 : decode cX5_takeProducts 39 = .ok (.iaload, 1) := by decide +kernel
theorem dX5_takeProducts_40 : decode cX5_takeProducts 40 = .ok (.aload_n 2, 1) := by decide +kernel
theorem dX5_takeProducts_41 : decode cX5_takeProducts 41 = .ok (.getfield 57, 3) := by decide +kernel
theorem dX5_takeProducts_44 : decode cX5_takeProducts 44 = .ok (.iload 6, 2) := by decide +kernel
theorem dX5_takeProducts_46 : decode cX5_takeProducts 46 = .ok (.iaload, 1) := by decide +kernel
theorem dX5_takeProducts_47 : decode cX5_takeProducts 47 = .ok (.iadd, 1) := by decide +kernel
theorem dX5_takeProducts_48 : decode cX5_takeProducts 48 = .ok (.iload_n 3, 1) := by decide +kernel
theorem dX5_takeProducts_49 : decode cX5_takeProducts 49 = .ok (.if_icmp .ne 38, 3) := by decide +kernel
theorem dX5_takeProducts_52 : decode cX5_takeProducts 52 = .ok (.aload_n 0, 1) := by decide +kernel
theorem dX5_takeProducts_53 : decode cX5_takeProducts 53 = .ok (.iload 4, 2) := by decide +kernel
theorem dX5_takeProducts_55 : decode cX5_takeProducts 55 = .ok (.aload_n 1, 1) := by decide +kernel
theorem dX5_takeProducts_56 : decode cX5_takeProducts 56 = .ok (.getfield 54, 3) := by decide +kernel
theorem dX5_takeProducts_59 : decode cX5_takeProducts 59 = .ok (.iload 5, 2) := by decide +kernel
theorem dX5_takeProducts_61 : decode cX5_takeProducts 61 = .ok (.iaload, 1) := by decide +kernel
theorem dX5_takeProducts_62 : decode cX5_takeProducts 62 = .ok (.aload_n 2, 1) := by decide +kernel
theorem dX5_takeProducts_63 : decode cX5_takeProducts 63 = .ok (.getfield 54, 3) := by decide +kernel
theorem dX5_takeProducts_66 : decode cX5_takeProducts 66 = .ok (.iload 6, 2) := by decide +kernel
theorem dX5_takeProducts_68 : decode cX5_takeProducts 68 = .ok (.iaload, 1) := by decide +kernel
theorem dX5_takeProducts_69 : decode cX5_takeProducts 69 = .ok (.imul, 1) := by decide +kernel
theorem dX5_takeProducts_70 : decode cX5_takeProducts 70 = .ok (.iadd, 1) := by decide +kernel
theorem dX5_takeProducts_71 : decode cX5_takeProducts 71 = .ok (.invokevirtual 76, 3) := by decide +kernel
theorem dX5_takeProducts_74 : decode cX5_takeProducts 74 = .ok (.istore 4, 2) := by decide +kernel
theorem dX5_takeProducts_76 : decode cX5_takeProducts 76 = .ok (.aload_n 0, 1) := by decide +kernel
theorem dX5_takeProducts_77 : decode cX5_takeProducts 77 = .ok (.getfield 19, 3) := by decide +kernel
theorem dX5_takeProducts_80 : decode cX5_takeProducts 80 = .ok (.iload 5, 2) := by decide +kernel
theorem dX5_takeProducts_82 : decode cX5_takeProducts 82 = .ok (.dup2, 1) := by decide +kernel
theorem dX5_takeProducts_83 : decode cX5_takeProducts 83 = .ok (.iaload, 1) := by decide +kernel
theorem dX5_takeProducts_84 : decode cX5_takeProducts 84 = .ok (.iconst 1, 1) := by decide +kernel
theorem dX5_takeProducts_85 : decode cX5_takeProducts 85 = .ok (.iadd, 1) := by decide +kernel
theorem dX5_takeProducts_86 : decode cX5_takeProducts 86 = .ok (.iastore, 1) := by decide +kernel
theorem dX5_takeProducts_87 : decode cX5_takeProducts 87 = .ok (.iinc 5 1, 3) := by decide +kernel
theorem dX5_takeProducts_90 : decode cX5_takeProducts 90 = .ok (.goto (-84), 3) := by decide +kernel
theorem dX5_takeProducts_93 : decode cX5_takeProducts 93 = .ok (.iload 4, 2) := by decide +kernel
theorem dX5_takeProducts_95 : decode cX5_takeProducts 95 = .ok (.ireturn, 1) := by decide +kernel
theorem dX5_derive_0 : decode cX5_derive 0 = .ok (.aload_n 1, 1) := by decide +kernel
theorem dX5_derive_1 : decode cX5_derive 1 = .ok (.iconst 0, 1) := by decide +kernel
theorem dX5_derive_2 : decode cX5_derive 2 = .ok (.putfield 51, 3) := by decide +kernel
theorem dX5_derive_5 : decode cX5_derive 5 = .ok (.iconst 0, 1) := by decide +kernel
theorem dX5_derive_6 : decode cX5_derive 6 = .ok (.istore 4, 2) := by decide +kernel
theorem dX5_derive_8 : decode cX5_derive 8 = .ok (.iload 4, 2) := by decide +kernel
theorem dX5_derive_10 : decode cX5_derive 10 = .ok (.aload_n 2, 1) := by decide +kernel
theorem dX5_derive_11 : decode cX5_derive 11 = .ok (.getfield 51, 3) := by decide +kernel
theorem dX5_derive_14 : decode cX5_derive 14 = .ok (.if_icmp .ge 62, 3) := by decide +kernel
theorem dX5_derive_17 : decode cX5_derive 17 = .ok (.aload_n 2, 1) := by decide +kernel
theorem dX5_derive_18 : decode cX5_derive 18 = .ok (.getfield 57, 3) := by decide +kernel
theorem dX5_derive_21 : decode cX5_derive 21 = .ok (.iload 4, 2) := by decide +kernel
theorem dX5_derive_23 : decode cX5_derive 23 = .ok (.iaload, 1) := by decide +kernel
theorem dX5_derive_24 : decode cX5_derive 24 = .ok (.iload_n 3, 1) := by decide +kernel
theorem dX5_derive_25 : decode cX5_derive 25 = .ok (.invokestatic 102, 3) := by decide +kernel
theorem dX5_derive_28 : decode cX5_derive 28 = .ok (.istore 5, 2) := by decide +kernel
theorem dX5_derive_30 : decode cX5_derive 30 = .ok (.aload_n 0, 1) := by decide +kernel
theorem dX5_derive_31 : decode cX5_derive 31 = .ok (.aload_n 2, 1) := by decide +kernel
theorem dX5_derive_32 : decode cX5_derive 32 = .ok (.getfield 54, 3) := by decide +kernel
theorem dX5_derive_35 : decode cX5_derive 35 = .ok (.iload 4, 2) := by decide +kernel
theorem dX5_derive_37 : decode cX5_derive 37 = .ok (.iaload, 1) := by decide +kernel
theorem dX5_derive_38 : decode cX5_derive 38 = .ok (.iload 5, 2) := by decide +kernel
theorem dX5_derive_40 : decode cX5_derive 40 = .ok (.imul, 1) := by decide +kernel
theorem dX5_derive_41 : decode cX5_derive 41 = .ok (.invokevirtual 76, 3) := by decide +kernel
theorem dX5_derive_44 : decode cX5_derive 44 = .ok (.istore 6, 2) := by decide +kernel
theorem dX5_derive_46 : decode cX5_derive 46 = .ok (.iload 6, 2) := by decide +kernel
theorem dX5_derive_48 : decode cX5_derive 48 = .ok (.ifCond .eq 22, 3) := by decide +kernel
theorem dX5_derive_51 : decode cX5_derive 51 = .ok (.aload_n 1, 1) := by decide +kernel
theorem dX5_derive_52 : decode cX5_derive 52 = .ok (.iload 6, 2) := by decide +kernel
theorem dX5_derive_54 : decode cX5_derive 54 = .ok (.aload_n 2, 1) := by decide +kernel
theorem dX5_derive_55 : decode cX5_derive 55 = .ok (.getfield 57, 3) := by decide +kernel
theorem dX5_derive_58 : decode cX5_derive 58 = .ok (.iload 4, 2) := by decide +kernel
theorem dX5_derive_60 : decode cX5_derive 60 = .ok (.iaload, 1) := by decide +kernel
theorem dX5_derive_61 : decode cX5_derive 61 = .ok (.iload_n 3, 1) := by decide +kernel
theorem dX5_derive_62 : decode cX5_derive 62 = .ok (.invokestatic 105, 3) := by decide +kernel
theorem dX5_derive_65 : decode cX5_derive 65 = .ok (.isub, 1) := by decide +kernel
theorem dX5_derive_66 : decode cX5_derive 66 = .ok (.invokevirtual 79, 3) := by decide +kernel
theorem dX5_derive_69 : decode cX5_derive 69 = .ok (.pop, 1) := by decide +kernel
theorem dX5_derive_70 : decode cX5_derive 70 = .ok (.iinc 4 1, 3) := by decide +kernel
theorem dX5_derive_73 : decode cX5_derive 73 = .ok (.goto (-65), 3) := by decide +kernel
theorem dX5_derive_76 : decode cX5_derive 76 = .ok (.iconst 0, 1) := by decide +kernel
theorem dX5_derive_77 : decode cX5_derive 77 = .ok (.ireturn, 1) := by decide +kernel
theorem dX5_makeS_0 : decode cX5_makeS 0 = .ok (.aload_n 2, 1) := by decide +kernel
theorem dX5_makeS_1 : decode cX5_makeS 1 = .ok (.invokevirtual 108, 3) := by decide +kernel
theorem dX5_makeS_4 : decode cX5_makeS 4 = .ok (.aload_n 3, 1) := by decide +kernel
theorem dX5_makeS_5 : decode cX5_makeS 5 = .ok (.invokevirtual 108, 3) := by decide +kernel
theorem dX5_makeS_8 : decode cX5_makeS 8 = .ok (.invokestatic 112, 3) := by decide +kernel
theorem dX5_makeS_11 : decode cX5_makeS 11 = .ok (.istore 4, 2) := by decide +kernel
theorem dX5_makeS_13 : decode cX5_makeS 13 = .ok (.aload_n 0, 1) := by decide +kernel
theorem dX5_makeS_14 : decode cX5_makeS 14 = .ok (.aload_n 0, 1) := by decide +kernel
theorem dX5_makeS_15 : decode cX5_makeS 15 = .ok (.getfield 29, 3) := by decide +kernel
theorem dX5_makeS_18 : decode cX5_makeS 18 = .ok (.aload_n 0, 1) := by decide +kernel
theorem dX5_makeS_19 : decode cX5_makeS 19 = .ok (.getfield 25, 3) := by decide +kernel
theorem dX5_makeS_22 : decode cX5_makeS 22 = .ok (.aload_n 2, 1) := by decide +kernel
theorem dX5_makeS_23 : decode cX5_makeS 23 = .ok (.aload_n 0, 1) := by decide +kernel
theorem dX5_makeS_24 : decode cX5_makeS 24 = .ok (.aload_n 2, 1) := by decide +kernel
theorem dX5_makeS_25 : decode cX5_makeS 25 = .ok (.getfield 54, 3) := by decide +kernel
theorem dX5_makeS_28 : decode cX5_makeS 28 = .ok (.iconst 0, 1) := by decide +kernel
theorem dX5_makeS_29 : decode cX5_makeS 29 = .ok (.iaload, 1) := by decide +kernel
theorem dX5_makeS_30 : decode cX5_makeS 30 = .ok (.invokevirtual 115, 3) := by decide +kernel
theorem dX5_makeS_33 : decode cX5_makeS 33 = .ok (.iload 4, 2) := by decide +kernel
theorem dX5_makeS_35 : decode cX5_makeS 35 = .ok (.aload_n 2, 1) := by decide +kernel
theorem dX5_makeS_36 : decode cX5_makeS 36 = .ok (.invokevirtual 108, 3) := by decide +kernel
theorem dX5_makeS_39 : decode cX5_makeS 39 = .ok (.isub, 1) := by decide +kernel
theorem dX5_makeS_40 : decode cX5_makeS 40 = .ok (.invokevirtual 118, 3) := by decide +kernel
theorem dX5_makeS_43 : decode cX5_makeS 43 = .ok (.istore 5, 2) := by decide +kernel
theorem dX5_makeS_45 : decode cX5_makeS 45 = .ok (.iload 5, 2) := by decide +kernel
theorem dX5_makeS_47 : decode cX5_makeS 47 = .ok (.ifCond .eq 6, 3) := by decide +kernel
theorem dX5_makeS_50 : decode cX5_makeS 50 = .ok (.iload 5, 2) := by decide +kernel
theorem dX5_makeS_52 : decode cX5_makeS 52 = .ok (.ireturn, 1) := by decide +kernel
theorem dX5_makeS_53 : decode cX5_makeS 53 = .ok (.aload_n 0, 1) := by decide +kernel
theorem dX5_makeS_54 : decode cX5_makeS 54 = .ok (.aload_n 1, 1) := by decide +kernel
theorem dX5_makeS_55 : decode cX5_makeS 55 = .ok (.aload_n 0, 1) := by decide +kernel
theorem dX5_makeS_56 : decode cX5_makeS 56 = .ok (.getfield 29, 3) := by decide +kernel
theorem dX5_makeS_59 : decode cX5_makeS 59 = .ok (.aload_n 3, 1) := by decide +kernel
theorem dX5_makeS_60 : decode cX5_makeS 60 = .ok (.aload_n 0, 1) := by decide +kernel
theorem dX5_makeS_61 : decode cX5_makeS 61 = .ok (.getfield 32, 3) := by decide +kernel
theorem dX5_makeS_64 : decode cX5_makeS 64 = .ok (.aload_n 0, 1) := by decide +kernel
theorem dX5_makeS_65 : decode cX5_makeS 65 = .ok (.aload_n 3, 1) := by decide +kernel
theorem dX5_makeS_66 : decode cX5_makeS 66 = .ok (.getfield 54, 3) := by decide +kernel
theorem dX5_makeS_69 : decode cX5_makeS 69 = .ok (.iconst 0, 1) := by decide +kernel
theorem dX5_makeS_70 : decode cX5_makeS 70 = .ok (.iaload, 1) := by decide +kernel
theorem dX5_makeS_71 : decode cX5_makeS 71 = .ok (.invokevirtual 115, 3) := by decide +kernel
theorem dX5_makeS_74 : decode cX5_makeS 74 = .ok (.isub, 1) := by decide +kernel
theorem dX5_makeS_75 : decode cX5_makeS 75 = .ok (.iload 4, 2) := by decide +kernel
theorem dX5_makeS_77 : decode cX5_makeS 77 = .ok (.aload_n 3, 1) := by decide +kernel
theorem dX5_makeS_78 : decode cX5_makeS 78 = .ok (.invokevirtual 108, 3) := by decide +kernel
theorem dX5_makeS_81 : decode cX5_makeS 81 = .ok (.isub, 1) := by decide +kernel
theorem dX5_makeS_82 : decode cX5_makeS 82 = .ok (.invokevirtual 118, 3) := by decide +kernel
theorem dX5_makeS_85 : decode cX5_makeS 85 = .ok (.ireturn, 1) := by decide +kernel
theorem dX5_makeMonic_0 : decode cX5_makeMonic 0 = .ok (.aload_n 1, 1) := by decide +kernel
theorem dX5_makeMonic_1 : decode cX5_makeMonic 1 = .ok (.getfield 51, 3) := by decide +kernel
theorem dX5_makeMonic_4 : decode cX5_makeMonic 4 = .ok (.ifCond .eq 13, 3) := by decide +kernel
theorem dX5_makeMonic_7 : decode cX5_makeMonic 7 = .ok (.aload_n 1, 1) := by decide +kernel
theorem dX5_makeMonic_8 : decode cX5_makeMonic 8 = .ok (.getfield 54, 3) := by decide +kernel
theorem dX5_makeMonic_11 : decode cX5_makeMonic 11 = .ok (.iconst 0, 1) := by decide +kernel
theorem dX5_makeMonic_12 : decode cX5_makeMonic 12 = .ok (.iaload, 1) := by decide +kernel
theorem dX5_makeMonic_13 : decode cX5_makeMonic 13 = .ok (.iconst 1, 1) := by decide +kernel
theorem dX5_makeMonic_14 : decode cX5_makeMonic 14 = .ok (.if_icmp .ne 4, 3) := by decide +kernel
theorem dX5_makeMonic_17 : decode cX5_makeMonic 17 = .ok (.return_, 1) := by decide +kernel
theorem dX5_makeMonic_18 : decode cX5_makeMonic 18 = .ok (.aload_n 0, 1) := by decide +kernel
theorem dX5_makeMonic_19 : decode cX5_makeMonic 19 = .ok (.aload_n 1, 1) := by decide +kernel
theorem dX5_makeMonic_20 : decode cX5_makeMonic 20 = .ok (.getfield 54, 3) := by decide +kernel
theorem dX5_makeMonic_23 : decode cX5_makeMonic 23 = .ok (.iconst 0, 1) := by decide +kernel
theorem dX5_makeMonic_24 : decode cX5_makeMonic 24 = .ok (.iaload, 1) := by decide +kernel
theorem dX5_makeMonic_25 : decode cX5_makeMonic 25 = .ok (.invokevirtual 115, 3) := by decide +kernel
theorem dX5_makeMonic_28 : decode cX5_makeMonic 28 = .ok (.istore_n 2, 1) := by decide +kernel
theorem dX5_makeMonic_29 : decode cX5_makeMonic 29 = .ok (.iconst 0, 1) := by decide +kernel
theorem dX5_makeMonic_30 : decode cX5_makeMonic 30 = .ok (.istore_n 3, 1) := by decide +kernel
theorem dX5_makeMonic_31 : decode cX5_makeMonic 31 = .ok (.iload_n 3, 1) := by decide +kernel
theorem dX5_makeMonic_32 : decode cX5_makeMonic 32 = .ok (.aload_n 1, 1) := by decide +kernel
theorem dX5_makeMonic_33 : decode cX5_makeMonic 33 = .ok (.getfield 51, 3) := by decide +kernel
theorem dX5_makeMonic_36 : decode cX5_makeMonic 36 = .ok (.if_icmp .ge 27, 3) := by decide +kernel
theorem dX5_makeMonic_39 : decode cX5_makeMonic 39 = .ok (.aload_n 1, 1) := by decide +kernel
theorem dX5_makeMonic_40 : decode cX5_makeMonic 40 = .ok (.getfield 54, 3) := by decide +kernel
theorem dX5_makeMonic_43 : decode cX5_makeMonic 43 = .ok (.iload_n 3, 1) := by decide +kernel
theorem dX5_makeMonic_44 : decode cX5_makeMonic 44 = .ok (.aload_n 0, 1) := by decide +kernel
theorem dX5_makeMonic_45 : decode cX5_makeMonic 45 = .ok (.aload_n 1, 1) := by decide +kernel
theorem dX5_makeMonic_46 : decode cX5_makeMonic 46 = .ok (.getfield 54, 3) := by decide +kernel
theorem dX5_makeMonic_49 : decode cX5_makeMonic 49 = .ok (.iload_n 3, 1) := by decide +kernel
theorem dX5_makeMonic_50 : decode cX5_makeMonic 50 = .ok (.iaload, 1) := by decide +kernel
theorem dX5_makeMonic_51 : decode cX5_makeMonic 51 = .ok (.iload_n 2, 1) := by decide +kernel
theorem dX5_makeMonic_52 : decode cX5_makeMonic 52 = .ok (.imul, 1) := by decide +kernel
theorem dX5_makeMonic_53 : decode cX5_makeMonic 53 = .ok (.invokevirtual 76, 3) := by decide +kernel
theorem dX5_makeMonic_56 : decode cX5_makeMonic 56 = .ok (.iastore, 1) := by decide +kernel
theorem dX5_makeMonic_57 : decode cX5_makeMonic 57 = .ok (.iinc 3 1, 3) := by decide +kernel
theorem dX5_makeMonic_60 : decode cX5_makeMonic 60 = .ok (.goto (-29), 3) := by decide +kernel
theorem dX5_makeMonic_63 : decode cX5_makeMonic 63 = .ok (.return_, 1) := by decide +kernel
theorem dX5_setPoint_0 : decode cX5_setPoint 0 = .ok (.aload_n 0, 1) := by decide +kernel
theorem dX5_setPoint_1 : decode cX5_setPoint 1 = .ok (.getfield 15, 3) := by decide +kernel
theorem dX5_setPoint_4 : decode cX5_setPoint 4 = .ok (.iload_n 1, 1) := by decide +kernel
theorem dX5_setPoint_5 : decode cX5_setPoint 5 = .ok (.aload_n 0, 1) := by decide +kernel
theorem dX5_setPoint_6 : decode cX5_setPoint 6 = .ok (.iload_n 2, 1) := by decide +kernel
theorem dX5_setPoint_7 : decode cX5_setPoint 7 = .ok (.invokevirtual 76, 3) := by decide +kernel
theorem dX5_setPoint_10 : decode cX5_setPoint 10 = .ok (.iastore, 1) := by decide +kernel
theorem dX5_setPoint_11 : decode cX5_setPoint 11 = .ok (.return_, 1) := by decide +kernel
theorem dX5_setPointNumber_0 : decode cX5_setPointNumber 0 = .ok (.iload_n 1, 1) := by decide +kernel
theorem dX5_setPointNumber_1 : decode cX5_setPointNumber 1 = .ok (.istore_n 2, 1) := by decide +kernel
theorem dX5_setPointNumber_2 : decode cX5_setPointNumber 2 = .ok (.iconst 0, 1) := by decide +kernel
theorem dX5_setPointNumber_3 : decode cX5_setPointNumber 3 = .ok (.istore_n 3, 1) := by decide +kernel
theorem dX5_setPointNumber_4 : decode cX5_setPointNumber 4 = .ok (.iload_n 3, 1) := by decide +kernel
theorem dX5_setPointNumber_5 : decode cX5_setPointNumber 5 = .ok (.aload_n 0, 1) := by decide +kernel
theorem dX5_setPointNumber_6 : decode cX5_setPointNumber 6 = .ok (.getfield 35, 3) := by decide +kernel
theorem dX5_setPointNumber_9 : decode cX5_setPointNumber 9 = .ok (.if_icmp .ge 27, 3) := by decide +kernel
theorem dX5_setPointNumber_12 : decode cX5_setPointNumber 12 = .ok (.aload_n 0, 1) := by decide +kernel
theorem dX5_setPointNumber_13 : decode cX5_setPointNumber 13 = .ok (.iload_n 3, 1) := by decide +kernel
theorem dX5_setPointNumber_14 : decode cX5_setPointNumber 14 = .ok (.iload_n 2, 1) := by decide +kernel
theorem dX5_setPointNumber_15 : decode cX5_setPointNumber 15 = .ok (.aload_n 0, 1) := by decide +kernel
theorem dX5_setPointNumber_16 : decode cX5_setPointNumber 16 = .ok (.getfield 32, 3) := by decide +kernel
theorem dX5_setPointNumber_19 : decode cX5_setPointNumber 19 = .ok (.irem, 1) := by decide +kernel
theorem dX5_setPointNumber_20 : decode cX5_setPointNumber 20 = .ok (.invokevirtual 122, 3) := by decide +kernel
theorem dX5_setPointNumber_23 : decode cX5_setPointNumber 23 = .ok (.iload_n 2, 1) := by decide +kernel
theorem dX5_setPointNumber_24 : decode cX5_setPointNumber 24 = .ok (.aload_n 0, 1) := by decide +kernel
theorem dX5_setPointNumber_25 : decode cX5_setPointNumber 25 = .ok (.getfield 32, 3) := by decide +kernel
theorem dX5_setPointNumber_28 : decode cX5_setPointNumber 28 = .ok (.idiv, 1) := by decide +kernel
theorem dX5_setPointNumber_29 : decode cX5_setPointNumber 29 = .ok (.istore_n 2, 1) := by decide +kernel
theorem dX5_setPointNumber_30 : decode cX5_setPointNumber 30 = .ok (.iinc 3 1, 3) := by decide +kernel
theorem dX5_setPointNumber_33 : decode cX5_setPointNumber 33 = .ok (.goto (-29), 3) := by decide +kernel
theorem dX5_setPointNumber_36 : decode cX5_setPointNumber 36 = .ok (.return_, 1) := by decide +kernel
theorem dX5_pointsUpTo_0 : decode cX5_pointsUpTo 0 = .ok (.iconst 1, 1) := by decide +kernel
theorem dX5_pointsUpTo_1 : decode cX5_pointsUpTo 1 = .ok (.istore_n 2, 1) := by decide +kernel
theorem dX5_pointsUpTo_2 : decode cX5_pointsUpTo 2 = .ok (.iconst 0, 1) := by decide +kernel
theorem dX5_pointsUpTo_3 : decode cX5_pointsUpTo 3 = .ok (.istore_n 3, 1) := by decide +kernel
theorem dX5_pointsUpTo_4 : decode cX5_pointsUpTo 4 = .ok (.iload_n 3, 1) := by decide +kernel
theorem dX5_pointsUpTo_5 : decode cX5_pointsUpTo 5 = .ok (.aload_n 0, 1) := by decide +kernel
theorem dX5_pointsUpTo_6 : decode cX5_pointsUpTo 6 = .ok (.getfield 35, 3) := by decide +kernel
theorem dX5_pointsUpTo_9 : decode cX5_pointsUpTo 9 = .ok (.if_icmp .ge 21, 3) := by decide +kernel
theorem dX5_pointsUpTo_12 : decode cX5_pointsUpTo 12 = .ok (.iload_n 2, 1) := by decide +kernel
theorem dX5_pointsUpTo_13 : decode cX5_pointsUpTo 13 = .ok (.iload_n 1, 1) := by decide +kernel
theorem dX5_pointsUpTo_14 : decode cX5_pointsUpTo 14 = .ok (.if_icmp .gt 16, 3) := by decide +kernel
theorem dX5_pointsUpTo_17 : decode cX5_pointsUpTo 17 = .ok (.iload_n 2, 1) := by decide +kernel
theorem dX5_pointsUpTo_18 : decode cX5_pointsUpTo 18 = .ok (.aload_n 0, 1) := by decide +kernel
theorem dX5_pointsUpTo_19 : decode cX5_pointsUpTo 19 = .ok (.getfield 32, 3) := by decide +kernel
theorem dX5_pointsUpTo_22 : decode cX5_pointsUpTo 22 = .ok (.imul, 1) := by decide +kernel
theorem dX5_pointsUpTo_23 : decode cX5_pointsUpTo 23 = .ok (.istore_n 2, 1) := by decide +kernel
theorem dX5_pointsUpTo_24 : decode cX5_pointsUpTo 24 = .ok (.iinc 3 1, 3) := by decide +kernel
theorem dX5_pointsUpTo_27 : decode cX5_pointsUpTo 27 = .ok (.goto (-23), 3) := by decide +kernel
theorem dX5_pointsUpTo_30 : decode cX5_pointsUpTo 30 = .ok (.iload_n 2, 1) := by decide +kernel
theorem dX5_pointsUpTo_31 : decode cX5_pointsUpTo 31 = .ok (.ireturn, 1) := by decide +kernel
theorem dX5_valueAtPoint_0 : decode cX5_valueAtPoint 0 = .ok (.iconst 0, 1) := by decide +kernel
theorem dX5_valueAtPoint_1 : decode cX5_valueAtPoint 1 = .ok (.istore_n 2, 1) := by decide +kernel
theorem dX5_valueAtPoint_2 : decode cX5_valueAtPoint 2 = .ok (.iconst 0, 1) := by decide +kernel
theorem dX5_valueAtPoint_3 : decode cX5_valueAtPoint 3 = .ok (.istore_n 3, 1) := by decide +kernel
theorem dX5_valueAtPoint_4 : decode cX5_valueAtPoint 4 = .ok (.iload_n 3, 1) := by decide +kernel
theorem dX5_valueAtPoint_5 : decode cX5_valueAtPoint 5 = .ok (.aload_n 1, 1) := by decide +kernel
theorem dX5_valueAtPoint_6 : decode cX5_valueAtPoint 6 = .ok (.getfield 51, 3) := by decide +kernel
theorem dX5_valueAtPoint_9 : decode cX5_valueAtPoint 9 = .ok (.if_icmp .ge 75, 3) := by decide +kernel
theorem dX5_valueAtPoint_12 : decode cX5_valueAtPoint 12 = .ok (.aload_n 1, 1) := by decide +kernel
theorem dX5_valueAtPoint_13 : decode cX5_valueAtPoint 13 = .ok (.getfield 54, 3) := by decide +kernel
theorem dX5_valueAtPoint_16 : decode cX5_valueAtPoint 16 = .ok (.iload_n 3, 1) := by decide +kernel
theorem dX5_valueAtPoint_17 : decode cX5_valueAtPoint 17 = .ok (.iaload, 1) := by decide +kernel
theorem dX5_valueAtPoint_18 : decode cX5_valueAtPoint 18 = .ok (.istore 4, 2) := by decide +kernel
theorem dX5_valueAtPoint_20 : decode cX5_valueAtPoint 20 = .ok (.iconst 0, 1) := by decide +kernel
theorem dX5_valueAtPoint_21 : decode cX5_valueAtPoint 21 = .ok (.istore 5, 2) := by decide +kernel
theorem dX5_valueAtPoint_23 : decode cX5_valueAtPoint 23 = .ok (.iload 5, 2) := by decide +kernel
theorem dX5_valueAtPoint_25 : decode cX5_valueAtPoint 25 = .ok (.aload_n 0, 1) := by decide +kernel
theorem dX5_valueAtPoint_26 : decode cX5_valueAtPoint 26 = .ok (.getfield 35, 3) := by decide +kernel
theorem dX5_valueAtPoint_29 : decode cX5_valueAtPoint 29 = .ok (.if_icmp .ge 40, 3) := by decide +kernel
theorem dX5_valueAtPoint_32 : decode cX5_valueAtPoint 32 = .ok (.aload_n 0, 1) := by decide +kernel
theorem dX5_valueAtPoint_33 : decode cX5_valueAtPoint 33 = .ok (.iload 4, 2) := by decide +kernel
theorem dX5_valueAtPoint_35 : decode cX5_valueAtPoint 35 = .ok (.aload_n 0, 1) := by decide +kernel
theorem dX5_valueAtPoint_36 : decode cX5_valueAtPoint 36 = .ok (.aload_n 0, 1) := by decide +kernel
theorem dX5_valueAtPoint_37 : decode cX5_valueAtPoint 37 = .ok (.getfield 15, 3) := by decide +kernel
theorem dX5_valueAtPoint_40 : decode cX5_valueAtPoint 40 = .ok (.iload 5, 2) := by decide +kernel
theorem dX5_valueAtPoint_42 : decode cX5_valueAtPoint 42 = .ok (.iaload, 1) := by decide +kernel
theorem dX5_valueAtPoint_43 : decode cX5_valueAtPoint 43 = .ok (.aload_n 1, 1) := by decide +kernel
theorem dX5_valueAtPoint_44 : decode cX5_valueAtPoint 44 = .ok (.getfield 57, 3) := by decide +kernel
theorem dX5_valueAtPoint_47 : decode cX5_valueAtPoint 47 = .ok (.iload_n 3, 1) := by decide +kernel
theorem dX5_valueAtPoint_48 : decode cX5_valueAtPoint 48 = .ok (.iaload, 1) := by decide +kernel
theorem dX5_valueAtPoint_49 : decode cX5_valueAtPoint 49 = .ok (.iload 5, 2) := by decide +kernel
theorem dX5_valueAtPoint_51 : decode cX5_valueAtPoint 51 = .ok (.invokestatic 102, 3) := by decide +kernel
theorem dX5_valueAtPoint_54 : decode cX5_valueAtPoint 54 = .ok (.invokevirtual 48, 3) := by decide +kernel
theorem dX5_valueAtPoint_57 : decode cX5_valueAtPoint 57 = .ok (.imul, 1) := by decide +kernel
theorem dX5_valueAtPoint_58 : decode cX5_valueAtPoint 58 = .ok (.invokevirtual 76, 3) := by decide +kernel
theorem dX5_valueAtPoint_61 : decode cX5_valueAtPoint 61 = .ok (.istore 4, 2) := by decide +kernel
theorem dX5_valueAtPoint_63 : decode cX5_valueAtPoint 63 = .ok (.iinc 5 1, 3) := by decide +kernel
theorem dX5_valueAtPoint_66 : decode cX5_valueAtPoint 66 = .ok (.goto (-43), 3) := by decide +kernel
theorem dX5_valueAtPoint_69 : decode cX5_valueAtPoint 69 = .ok (.aload_n 0, 1) := by decide +kernel
theorem dX5_valueAtPoint_70 : decode cX5_valueAtPoint 70 = .ok (.iload_n 2, 1) := by decide +kernel
theorem dX5_valueAtPoint_71 : decode cX5_valueAtPoint 71 = .ok (.iload 4, 2) := by decide +kernel
theorem dX5_valueAtPoint_73 : decode cX5_valueAtPoint 73 = .ok (.iadd, 1) := by decide +kernel
theorem dX5_valueAtPoint_74 : decode cX5_valueAtPoint 74 = .ok (.invokevirtual 76, 3) := by decide +kernel
theorem dX5_valueAtPoint_77 : decode cX5_valueAtPoint 77 = .ok (.istore_n 2, 1) := by decide +kernel
theorem dX5_valueAtPoint_78 : decode cX5_valueAtPoint 78 = .ok (.iinc 3 1, 3) := by decide +kernel
theorem dX5_valueAtPoint_81 : decode cX5_valueAtPoint 81 = .ok (.goto (-77), 3) := by decide +kernel
theorem dX5_valueAtPoint_84 : decode cX5_valueAtPoint 84 = .ok (.iload_n 2, 1) := by decide +kernel
theorem dX5_valueAtPoint_85 : decode cX5_valueAtPoint 85 = .ok (.ireturn, 1) := by decide +kernel
theorem dX6_init_0 : decode cX6_init 0 = .ok (.aload_n 0, 1) := by decide +kernel
theorem dX6_init_1 : decode cX6_init 1 = .ok (.invokespecial 3, 3) := by decide +kernel
theorem dX6_init_4 : decode cX6_init 4 = .ok (.aload_n 0, 1) := by decide +kernel
theorem dX6_init_5 : decode cX6_init 5 = .ok (.bipush 24, 2) := by decide +kernel
theorem dX6_init_7 : decode cX6_init 7 = .ok (.anewarray 9, 3) := by decide +kernel
theorem dX6_init_10 : decode cX6_init 10 = .ok (.putfield 11, 3) := by decide +kernel
theorem dX6_init_13 : decode cX6_init 13 = .ok (.aload_n 0, 1) := by decide +kernel
theorem dX6_init_14 : decode cX6_init 14 = .ok (.bipush 24, 2) := by decide +kernel
theorem dX6_init_16 : decode cX6_init 16 = .ok (.newarray .boolean, 2) := by decide +kernel
theorem dX6_init_18 : decode cX6_init 18 = .ok (.putfield 17, 3) := by decide +kernel
theorem dX6_init_21 : decode cX6_init 21 = .ok (.iconst 0, 1) := by decide +kernel
theorem dX6_init_22 : decode cX6_init 22 = .ok (.istore_n 1, 1) := by decide +kernel
theorem dX6_init_23 : decode cX6_init 23 = .ok (.iload_n 1, 1) := by decide +kernel
theorem dX6_init_24 : decode cX6_init 24 = .ok (.bipush 24, 2) := by decide +kernel
theorem dX6_init_26 : decode cX6_init 26 = .ok (.if_icmp .ge 22, 3) := by decide +kernel
theorem dX6_init_29 : decode cX6_init 29 = .ok (.aload_n 0, 1) := by decide +kernel
theorem dX6_init_30 : decode cX6_init 30 = .ok (.getfield 11, 3) := by decide +kernel
theorem dX6_init_33 : decode cX6_init 33 = .ok (.iload_n 1, 1) := by decide +kernel
theorem dX6_init_34 : decode cX6_init 34 = .ok (.new 9, 3) := by decide +kernel
theorem dX6_init_37 : decode cX6_init 37 = .ok (.dup, 1) := by decide +kernel
theorem dX6_init_38 : decode cX6_init 38 = .ok (.invokespecial 21, 3) := by decide +kernel
theorem dX6_init_41 : decode cX6_init 41 = .ok (.aastore, 1) := by decide +kernel
theorem dX6_init_42 : decode cX6_init 42 = .ok (.iinc 1 1, 3) := by decide +kernel
theorem dX6_init_45 : decode cX6_init 45 = .ok (.goto (-22), 3) := by decide +kernel
theorem dX6_init_48 : decode cX6_init 48 = .ok (.return_, 1) := by decide +kernel
theorem dX6_at_0 : decode cX6_at 0 = .ok (.iload_n 1, 1) := by decide +kernel
theorem dX6_at_1 : decode cX6_at 1 = .ok (.ifCond .lt 27, 3) := by decide +kernel
theorem dX6_at_4 : decode cX6_at 4 = .ok (.iload_n 1, 1) := by decide +kernel
theorem dX6_at_5 : decode cX6_at 5 = .ok (.bipush 24, 2) := by decide +kernel
theorem dX6_at_7 : decode cX6_at 7 = .ok (.if_icmp .ge 21, 3) := by decide +kernel
theorem dX6_at_10 : decode cX6_at 10 = .ok (.aload_n 0, 1) := by decide +kernel
theorem dX6_at_11 : decode cX6_at 11 = .ok (.getfield 17, 3) := by decide +kernel
theorem dX6_at_14 : decode cX6_at 14 = .ok (.iload_n 1, 1) := by decide +kernel
theorem dX6_at_15 : decode cX6_at 15 = .ok (.baload, 1) := by decide +kernel
theorem dX6_at_16 : decode cX6_at 16 = .ok (.ifCond .eq 12, 3) := by decide +kernel
theorem dX6_at_19 : decode cX6_at 19 = .ok (.aload_n 0, 1) := by decide +kernel
theorem dX6_at_20 : decode cX6_at 20 = .ok (.getfield 11, 3) := by decide +kernel
theorem dX6_at_23 : decode cX6_at 23 = .ok (.iload_n 1, 1) := by decide +kernel
theorem dX6_at_24 : decode cX6_at 24 = .ok (.aaload, 1) := by decide +kernel
theorem dX6_at_25 : decode cX6_at 25 = .ok (.goto 4, 3) := by decide +kernel
theorem dX6_at_28 : decode cX6_at 28 = .ok (.aconst_null, 1) := by decide +kernel
theorem dX6_at_29 : decode cX6_at 29 = .ok (.areturn, 1) := by decide +kernel
theorem dX6_isFull_0 : decode cX6_isFull 0 = .ok (.aload_n 0, 1) := by decide +kernel
theorem dX6_isFull_1 : decode cX6_isFull 1 = .ok (.getfield 22, 3) := by decide +kernel
theorem dX6_isFull_4 : decode cX6_isFull 4 = .ok (.bipush 24, 2) := by decide +kernel
theorem dX6_isFull_6 : decode cX6_isFull 6 = .ok (.if_icmp .ne 7, 3) := by decide +kernel
theorem dX6_isFull_9 : decode cX6_isFull 9 = .ok (.iconst 1, 1) := by decide +kernel
theorem dX6_isFull_10 : decode cX6_isFull 10 = .ok (.goto 4, 3) := by decide +kernel
theorem dX6_isFull_13 : decode cX6_isFull 13 = .ok (.iconst 0, 1) := by decide +kernel
theorem dX6_isFull_14 : decode cX6_isFull 14 = .ok (.ireturn, 1) := by decide +kernel
theorem dX6_put_0 : decode cX6_put 0 = .ok (.iconst 0, 1) := by decide +kernel
theorem dX6_put_1 : decode cX6_put 1 = .ok (.istore_n 2, 1) := by decide +kernel
theorem dX6_put_2 : decode cX6_put 2 = .ok (.iload_n 2, 1) := by decide +kernel
theorem dX6_put_3 : decode cX6_put 3 = .ok (.bipush 24, 2) := by decide +kernel
theorem dX6_put_5 : decode cX6_put 5 = .ok (.if_icmp .ge 47, 3) := by decide +kernel
theorem dX6_put_8 : decode cX6_put 8 = .ok (.aload_n 0, 1) := by decide +kernel
theorem dX6_put_9 : decode cX6_put 9 = .ok (.getfield 17, 3) := by decide +kernel
theorem dX6_put_12 : decode cX6_put 12 = .ok (.iload_n 2, 1) := by decide +kernel
theorem dX6_put_13 : decode cX6_put 13 = .ok (.baload, 1) := by decide +kernel
theorem dX6_put_14 : decode cX6_put 14 = .ok (.ifCond .ne 32, 3) := by decide +kernel
theorem dX6_put_17 : decode cX6_put 17 = .ok (.aload_n 0, 1) := by decide +kernel
theorem dX6_put_18 : decode cX6_put 18 = .ok (.getfield 11, 3) := by decide +kernel
theorem dX6_put_21 : decode cX6_put 21 = .ok (.iload_n 2, 1) := by decide +kernel
theorem dX6_put_22 : decode cX6_put 22 = .ok (.aaload, 1) := by decide +kernel
theorem dX6_put_23 : decode cX6_put 23 = .ok (.aload_n 1, 1) := by decide +kernel
theorem dX6_put_24 : decode cX6_put 24 = .ok (.invokevirtual 26, 3) := by decide +kernel
theorem dX6_put_27 : decode cX6_put 27 = .ok (.aload_n 0, 1) := by decide +kernel
theorem dX6_put_28 : decode cX6_put 28 = .ok (.getfield 17, 3) := by decide +kernel
theorem dX6_put_31 : decode cX6_put 31 = .ok (.iload_n 2, 1) := by decide +kernel
theorem dX6_put_32 : decode cX6_put 32 = .ok (.iconst 1, 1) := by decide +kernel
theorem dX6_put_33 : decode cX6_put 33 = .ok (.bastore, 1) := by decide +kernel
theorem dX6_put_34 : decode cX6_put 34 = .ok (.aload_n 0, 1) := by decide +kernel
theorem dX6_put_35 : decode cX6_put 35 = .ok (.dup, 1) := by decide +kernel
theorem dX6_put_36 : decode cX6_put 36 = .ok (.getfield 22, 3) := by decide +kernel
theorem dX6_put_39 : decode cX6_put 39 = .ok (.iconst 1, 1) := by decide +kernel
theorem dX6_put_40 : decode cX6_put 40 = .ok (.iadd, 1) := by decide +kernel
theorem dX6_put_41 : decode cX6_put 41 = .ok (.putfield 22, 3) := by decide +kernel
theorem dX6_put_44 : decode cX6_put 44 = .ok (.iload_n 2, 1) := by decide +kernel
theorem dX6_put_45 : decode cX6_put 45 = .ok (.ireturn, 1) := by decide +kernel
theorem dX6_put_46 : decode cX6_put 46 = .ok (.iinc 2 1, 3) := by decide +kernel
theorem dX6_put_49 : decode cX6_put 49 = .ok (.goto (-47), 3) := by decide +kernel
theorem dX6_put_52 : decode cX6_put 52 = .ok (.bipush (-4), 2) := by decide +kernel
theorem dX6_put_54 : decode cX6_put 54 = .ok (.ireturn, 1) := by decide +kernel
theorem dX6_free_0 : decode cX6_free 0 = .ok (.aload_n 0, 1) := by decide +kernel
theorem dX6_free_1 : decode cX6_free 1 = .ok (.iload_n 1, 1) := by decide +kernel
theorem dX6_free_2 : decode cX6_free 2 = .ok (.invokevirtual 30, 3) := by decide +kernel
theorem dX6_free_5 : decode cX6_free 5 = .ok (.ifnull 20, 3) := by decide +kernel
theorem dX6_free_8 : decode cX6_free 8 = .ok (.aload_n 0, 1) := by decide +kernel
theorem dX6_free_9 : decode cX6_free 9 = .ok (.getfield 17, 3) := by decide +kernel
theorem dX6_free_12 : decode cX6_free 12 = .ok (.iload_n 1, 1) := by decide +kernel
theorem dX6_free_13 : decode cX6_free 13 = .ok (.iconst 0, 1) := by decide +kernel
theorem dX6_free_14 : decode cX6_free 14 = .ok (.bastore, 1) := by decide +kernel
theorem dX6_free_15 : decode cX6_free 15 = .ok (.aload_n 0, 1) := by decide +kernel
theorem dX6_free_16 : decode cX6_free 16 = .ok (.dup, 1) := by decide +kernel
theorem dX6_free_17 : decode cX6_free 17 = .ok (.getfield 22, 3) := by decide +kernel
theorem dX6_free_20 : decode cX6_free 20 = .ok (.iconst 1, 1) := by decide +kernel
theorem dX6_free_21 : decode cX6_free 21 = .ok (.isub, 1) := by decide +kernel
theorem dX6_free_22 : decode cX6_free 22 = .ok (.putfield 22, 3) := by decide +kernel
theorem dX6_free_25 : decode cX6_free 25 = .ok (.return_, 1) := by decide +kernel
theorem dX4_init_0 : decode cX4_init 0 = .ok (.aload_n 0, 1) := by decide +kernel
theorem dX4_init_1 : decode cX4_init 1 = .ok (.invokespecial 3, 3) := by decide +kernel
theorem dX4_init_4 : decode cX4_init 4 = .ok (.aload_n 0, 1) := by decide +kernel
theorem dX4_init_5 : decode cX4_init 5 = .ok (.new 9, 3) := by decide +kernel
theorem dX4_init_8 : decode cX4_init 8 = .ok (.dup, 1) := by decide +kernel
theorem dX4_init_9 : decode cX4_init 9 = .ok (.invokespecial 11, 3) := by decide +kernel
theorem dX4_init_12 : decode cX4_init 12 = .ok (.putfield 12, 3) := by decide +kernel
theorem dX4_init_15 : decode cX4_init 15 = .ok (.aload_n 0, 1) := by decide +kernel
theorem dX4_init_16 : decode cX4_init 16 = .ok (.new 9, 3) := by decide +kernel
theorem dX4_init_19 : decode cX4_init 19 = .ok (.dup, 1) := by decide +kernel
theorem dX4_init_20 : decode cX4_init 20 = .ok (.invokespecial 11, 3) := by decide +kernel
theorem dX4_init_23 : decode cX4_init 23 = .ok (.putfield 18, 3) := by decide +kernel
theorem dX4_init_26 : decode cX4_init 26 = .ok (.aload_n 0, 1) := by decide +kernel
theorem dX4_init_27 : decode cX4_init 27 = .ok (.new 9, 3) := by decide +kernel
theorem dX4_init_30 : decode cX4_init 30 = .ok (.dup, 1) := by decide +kernel
theorem dX4_init_31 : decode cX4_init 31 = .ok (.invokespecial 11, 3) := by decide +kernel
theorem dX4_init_34 : decode cX4_init 34 = .ok (.putfield 21, 3) := by decide +kernel
theorem dX4_init_37 : decode cX4_init 37 = .ok (.aload_n 0, 1) := by decide +kernel
theorem dX4_init_38 : decode cX4_init 38 = .ok (.sipush 500, 3) := by decide +kernel
theorem dX4_init_41 : decode cX4_init 41 = .ok (.putfield 24, 3) := by decide +kernel
theorem dX4_init_44 : decode cX4_init 44 = .ok (.aload_n 0, 1) := by decide +kernel
theorem dX4_init_45 : decode cX4_init 45 = .ok (.aload_n 1, 1) := by decide +kernel
theorem dX4_init_46 : decode cX4_init 46 = .ok (.putfield 28, 3) := by decide +kernel
theorem dX4_init_49 : decode cX4_init 49 = .ok (.return_, 1) := by decide +kernel
theorem dX4_begin_0 : decode cX4_begin 0 = .ok (.aload_n 0, 1) := by decide +kernel
theorem dX4_begin_1 : decode cX4_begin 1 = .ok (.iconst 0, 1) := by decide +kernel
theorem dX4_begin_2 : decode cX4_begin 2 = .ok (.putfield 32, 3) := by decide +kernel
theorem dX4_begin_5 : decode cX4_begin 5 = .ok (.return_, 1) := by decide +kernel
theorem dX4_leave_0 : decode cX4_leave 0 = .ok (.aload_n 0, 1) := by decide +kernel
theorem dX4_leave_1 : decode cX4_leave 1 = .ok (.getfield 12, 3) := by decide +kernel
theorem dX4_leave_4 : decode cX4_leave 4 = .ok (.aload_n 1, 1) := by decide +kernel
theorem dX4_leave_5 : decode cX4_leave 5 = .ok (.invokevirtual 35, 3) := by decide +kernel
theorem dX4_leave_8 : decode cX4_leave 8 = .ok (.aload_n 0, 1) := by decide +kernel
theorem dX4_leave_9 : decode cX4_leave 9 = .ok (.getfield 21, 3) := by decide +kernel
theorem dX4_leave_12 : decode cX4_leave 12 = .ok (.iconst 0, 1) := by decide +kernel
theorem dX4_leave_13 : decode cX4_leave 13 = .ok (.putfield 39, 3) := by decide +kernel
theorem dX4_leave_16 : decode cX4_leave 16 = .ok (.iconst 0, 1) := by decide +kernel
theorem dX4_leave_17 : decode cX4_leave 17 = .ok (.istore 5, 2) := by decide +kernel
theorem dX4_leave_19 : decode cX4_leave 19 = .ok (.iload 5, 2) := by decide +kernel
theorem dX4_leave_21 : decode cX4_leave 21 = .ok (.sipush 2041, 3) := by decide +kernel
theorem dX4_leave_24 : decode cX4_leave 24 = .ok (.if_icmp .ge 60, 3) := by decide +kernel
theorem dX4_leave_27 : decode cX4_leave 27 = .ok (.aload_n 0, 1) := by decide +kernel
theorem dX4_leave_28 : decode cX4_leave 28 = .ok (.getfield 12, 3) := by decide +kernel
theorem dX4_leave_31 : decode cX4_leave 31 = .ok (.getfield 39, 3) := by decide +kernel
theorem dX4_leave_34 : decode cX4_leave 34 = .ok (.ifCond .le 50, 3) := by decide +kernel
theorem dX4_leave_37 : decode cX4_leave 37 = .ok (.aload_n 0, 1) := by decide +kernel
theorem dX4_leave_38 : decode cX4_leave 38 = .ok (.aload_n 2, 1) := by decide +kernel
theorem dX4_leave_39 : decode cX4_leave 39 = .ok (.iload_n 3, 1) := by decide +kernel
theorem dX4_leave_40 : decode cX4_leave 40 = .ok (.iload 4, 2) := by decide +kernel
theorem dX4_leave_42 : decode cX4_leave 42 = .ok (.invokevirtual 42, 3) := by decide +kernel
theorem dX4_leave_45 : decode cX4_leave 45 = .ok (.istore 6, 2) := by decide +kernel
theorem dX4_leave_47 : decode cX4_leave 47 = .ok (.iload 6, 2) := by decide +kernel
theorem dX4_leave_49 : decode cX4_leave 49 = .ok (.iconst (-1), 1) := by decide +kernel
theorem dX4_leave_50 : decode cX4_leave 50 = .ok (.if_icmp .ne 10, 3) := by decide +kernel
theorem dX4_leave_53 : decode cX4_leave 53 = .ok (.aload_n 0, 1) := by decide +kernel
theorem dX4_leave_54 : decode cX4_leave 54 = .ok (.invokevirtual 46, 3) := by decide +kernel
theorem dX4_leave_57 : decode cX4_leave 57 = .ok (.goto 11, 3) := by decide +kernel
theorem dX4_leave_60 : decode cX4_leave 60 = .ok (.aload_n 0, 1) := by decide +kernel
theorem dX4_leave_61 : decode cX4_leave 61 = .ok (.aload_n 2, 1) := by decide +kernel
theorem dX4_leave_62 : decode cX4_leave 62 = .ok (.iload 6, 2) := by decide +kernel
theorem dX4_leave_64 : decode cX4_leave 64 = .ok (.aaload, 1) := by decide +kernel
theorem dX4_leave_65 : decode cX4_leave 65 = .ok (.invokevirtual 50, 3) := by decide +kernel
theorem dX4_leave_68 : decode cX4_leave 68 = .ok (.istore 7, 2) := by decide +kernel
theorem dX4_leave_70 : decode cX4_leave 70 = .ok (.iload 7, 2) := by decide +kernel
theorem dX4_leave_72 : decode cX4_leave 72 = .ok (.ifCond .eq 6, 3) := by decide +kernel
theorem dX4_leave_75 : decode cX4_leave 75 = .ok (.iload 7, 2) := by decide +kernel
theorem dX4_leave_77 : decode cX4_leave 77 = .ok (.ireturn, 1) := by decide +kernel
theorem dX4_leave_78 : decode cX4_leave 78 = .ok (.iinc 5 1, 3) := by decide +kernel
theorem dX4_leave_81 : decode cX4_leave 81 = .ok (.goto (-62), 3) := by decide +kernel
theorem dX4_leave_84 : decode cX4_leave 84 = .ok (.iconst 0, 1) := by decide +kernel
theorem dX4_leave_85 : decode cX4_leave 85 = .ok (.ireturn, 1) := by decide +kernel
theorem dX4_firstDividing_0 : decode cX4_firstDividing 0 = .ok (.iconst 0, 1) := by decide +kernel
theorem dX4_firstDividing_1 : decode cX4_firstDividing 1 = .ok (.istore 4, 2) := by decide +kernel
theorem dX4_firstDividing_3 : decode cX4_firstDividing 3 = .ok (.iload 4, 2) := by decide +kernel
theorem dX4_firstDividing_5 : decode cX4_firstDividing 5 = .ok (.iload_n 2, 1) := by decide +kernel
theorem dX4_firstDividing_6 : decode cX4_firstDividing 6 = .ok (.if_icmp .ge 38, 3) := by decide +kernel
theorem dX4_firstDividing_9 : decode cX4_firstDividing 9 = .ok (.iload 4, 2) := by decide +kernel
theorem dX4_firstDividing_11 : decode cX4_firstDividing 11 = .ok (.iload_n 3, 1) := by decide +kernel
theorem dX4_firstDividing_12 : decode cX4_firstDividing 12 = .ok (.if_icmp .eq 26, 3) := by decide +kernel
theorem dX4_firstDividing_15 : decode cX4_firstDividing 15 = .ok (.aload_n 1, 1) := by decide +kernel
theorem dX4_firstDividing_16 : decode cX4_firstDividing 16 = .ok (.iload 4, 2) := by decide +kernel
theorem dX4_firstDividing_18 : decode cX4_firstDividing 18 = .ok (.aaload, 1) := by decide +kernel
theorem dX4_firstDividing_19 : decode cX4_firstDividing 19 = .ok (.invokevirtual 54, 3) := by decide +kernel
theorem dX4_firstDividing_22 : decode cX4_firstDividing 22 = .ok (.aload_n 0, 1) := by decide +kernel
theorem dX4_firstDividing_23 : decode cX4_firstDividing 23 = .ok (.getfield 12, 3) := by decide +kernel
theorem dX4_firstDividing_26 : decode cX4_firstDividing 26 = .ok (.invokevirtual 54, 3) := by decide +kernel
theorem dX4_firstDividing_29 : decode cX4_firstDividing 29 = .ok (.invokestatic 57, 3) := by decide +kernel
theorem dX4_firstDividing_32 : decode cX4_firstDividing 32 = .ok (.ifCond .eq 6, 3) := by decide +kernel
theorem dX4_firstDividing_35 : decode cX4_firstDividing 35 = .ok (.iload 4, 2) := by decide +kernel
theorem dX4_firstDividing_37 : decode cX4_firstDividing 37 = .ok (.ireturn, 1) := by decide +kernel
theorem dX4_firstDividing_38 : decode cX4_firstDividing 38 = .ok (.iinc 4 1, 3) := by decide +kernel
theorem dX4_firstDividing_41 : decode cX4_firstDividing 41 = .ok (.goto (-38), 3) := by decide +kernel
theorem dX4_firstDividing_44 : decode cX4_firstDividing 44 = .ok (.iconst (-1), 1) := by decide +kernel
theorem dX4_firstDividing_45 : decode cX4_firstDividing 45 = .ok (.ireturn, 1) := by decide +kernel
theorem dX4_moveHead_0 : decode cX4_moveHead 0 = .ok (.aload_n 0, 1) := by decide +kernel
theorem dX4_moveHead_1 : decode cX4_moveHead 1 = .ok (.getfield 21, 3) := by decide +kernel
theorem dX4_moveHead_4 : decode cX4_moveHead 4 = .ok (.aload_n 0, 1) := by decide +kernel
theorem dX4_moveHead_5 : decode cX4_moveHead 5 = .ok (.getfield 12, 3) := by decide +kernel
theorem dX4_moveHead_8 : decode cX4_moveHead 8 = .ok (.getfield 63, 3) := by decide +kernel
theorem dX4_moveHead_11 : decode cX4_moveHead 11 = .ok (.iconst 0, 1) := by decide +kernel
theorem dX4_moveHead_12 : decode cX4_moveHead 12 = .ok (.iaload, 1) := by decide +kernel
theorem dX4_moveHead_13 : decode cX4_moveHead 13 = .ok (.aload_n 0, 1) := by decide +kernel
theorem dX4_moveHead_14 : decode cX4_moveHead 14 = .ok (.getfield 12, 3) := by decide +kernel
theorem dX4_moveHead_17 : decode cX4_moveHead 17 = .ok (.getfield 67, 3) := by decide +kernel
theorem dX4_moveHead_20 : decode cX4_moveHead 20 = .ok (.iconst 0, 1) := by decide +kernel
theorem dX4_moveHead_21 : decode cX4_moveHead 21 = .ok (.iaload, 1) := by decide +kernel
theorem dX4_moveHead_22 : decode cX4_moveHead 22 = .ok (.invokevirtual 70, 3) := by decide +kernel
theorem dX4_moveHead_25 : decode cX4_moveHead 25 = .ok (.ifCond .ne 6, 3) := by decide +kernel
theorem dX4_moveHead_28 : decode cX4_moveHead 28 = .ok (.bipush (-6), 2) := by decide +kernel
theorem dX4_moveHead_30 : decode cX4_moveHead 30 = .ok (.ireturn, 1) := by decide +kernel
theorem dX4_moveHead_31 : decode cX4_moveHead 31 = .ok (.aload_n 0, 1) := by decide +kernel
theorem dX4_moveHead_32 : decode cX4_moveHead 32 = .ok (.getfield 12, 3) := by decide +kernel
theorem dX4_moveHead_35 : decode cX4_moveHead 35 = .ok (.invokevirtual 73, 3) := by decide +kernel
theorem dX4_moveHead_38 : decode cX4_moveHead 38 = .ok (.iconst 0, 1) := by decide +kernel
theorem dX4_moveHead_39 : decode cX4_moveHead 39 = .ok (.ireturn, 1) := by decide +kernel
theorem dX4_lessenBy_0 : decode cX4_lessenBy 0 = .ok (.aload_n 0, 1) := by decide +kernel
theorem dX4_lessenBy_1 : decode cX4_lessenBy 1 = .ok (.getfield 32, 3) := by decide +kernel
theorem dX4_lessenBy_4 : decode cX4_lessenBy 4 = .ok (.aload_n 0, 1) := by decide +kernel
theorem dX4_lessenBy_5 : decode cX4_lessenBy 5 = .ok (.getfield 24, 3) := by decide +kernel
theorem dX4_lessenBy_8 : decode cX4_lessenBy 8 = .ok (.if_icmp .lt 6, 3) := by decide +kernel
theorem dX4_lessenBy_11 : decode cX4_lessenBy 11 = .ok (.bipush (-7), 2) := by decide +kernel
theorem dX4_lessenBy_13 : decode cX4_lessenBy 13 = .ok (.ireturn, 1) := by decide +kernel
theorem dX4_lessenBy_14 : decode cX4_lessenBy 14 = .ok (.aload_n 0, 1) := by decide +kernel
theorem dX4_lessenBy_15 : decode cX4_lessenBy 15 = .ok (.dup, 1) := by decide +kernel
theorem dX4_lessenBy_16 : decode cX4_lessenBy 16 = .ok (.getfield 32, 3) := by decide +kernel
theorem dX4_lessenBy_19 : decode cX4_lessenBy 19 = .ok (.iconst 1, 1) := by decide +kernel
theorem dX4_lessenBy_20 : decode cX4_lessenBy 20 = .ok (.iadd, 1) := by decide +kernel
theorem dX4_lessenBy_21 : decode cX4_lessenBy 21 = .ok (.putfield 32, 3) := by decide +kernel
theorem dX4_lessenBy_24 : decode cX4_lessenBy 24 = .ok (.aload_n 0, 1) := by decide +kernel
theorem dX4_lessenBy_25 : decode cX4_lessenBy 25 = .ok (.dup, 1) := by decide +kernel
theorem dX4_lessenBy_26 : decode cX4_lessenBy 26 = .ok (.getfield 76, 3) := by decide +kernel
theorem dX4_lessenBy_29 : decode cX4_lessenBy 29 = .ok (.iconst 1, 1) := by decide +kernel
theorem dX4_lessenBy_30 : decode cX4_lessenBy 30 = .ok (.iadd, 1) := by decide +kernel
theorem dX4_lessenBy_31 : decode cX4_lessenBy 31 = .ok (.putfield 76, 3) := by decide +kernel
theorem dX4_lessenBy_34 : decode cX4_lessenBy 34 = .ok (.aload_n 0, 1) := by decide +kernel
theorem dX4_lessenBy_35 : decode cX4_lessenBy 35 = .ok (.getfield 28, 3) := by decide +kernel
theorem dX4_lessenBy_38 : decode cX4_lessenBy 38 = .ok (.aload_n 0, 1) := by decide +kernel
theorem dX4_lessenBy_39 : decode cX4_lessenBy 39 = .ok (.getfield 18, 3) := by decide +kernel
theorem dX4_lessenBy_42 : decode cX4_lessenBy 42 = .ok (.aload_n 0, 1) := by decide +kernel
theorem dX4_lessenBy_43 : decode cX4_lessenBy 43 = .ok (.getfield 12, 3) := by decide +kernel
theorem dX4_lessenBy_46 : decode cX4_lessenBy 46 = .ok (.aload_n 1, 1) := by decide +kernel
theorem dX4_lessenBy_47 : decode cX4_lessenBy 47 = .ok (.aload_n 0, 1) := by decide +kernel
theorem dX4_lessenBy_48 : decode cX4_lessenBy 48 = .ok (.getfield 28, 3) := by decide +kernel
theorem dX4_lessenBy_51 : decode cX4_lessenBy 51 = .ok (.getfield 79, 3) := by decide +kernel
theorem dX4_lessenBy_54 : decode cX4_lessenBy 54 = .ok (.aload_n 0, 1) := by decide +kernel
theorem dX4_lessenBy_55 : decode cX4_lessenBy 55 = .ok (.getfield 12, 3) := by decide +kernel
theorem dX4_lessenBy_58 : decode cX4_lessenBy 58 = .ok (.getfield 63, 3) := by decide +kernel
theorem dX4_lessenBy_61 : decode cX4_lessenBy 61 = .ok (.iconst 0, 1) := by decide +kernel
theorem dX4_lessenBy_62 : decode cX4_lessenBy 62 = .ok (.iaload, 1) := by decide +kernel
theorem dX4_lessenBy_63 : decode cX4_lessenBy 63 = .ok (.isub, 1) := by decide +kernel
theorem dX4_lessenBy_64 : decode cX4_lessenBy 64 = .ok (.aload_n 0, 1) := by decide +kernel
theorem dX4_lessenBy_65 : decode cX4_lessenBy 65 = .ok (.getfield 12, 3) := by decide +kernel
theorem dX4_lessenBy_68 : decode cX4_lessenBy 68 = .ok (.invokevirtual 54, 3) := by decide +kernel
theorem dX4_lessenBy_71 : decode cX4_lessenBy 71 = .ok (.aload_n 1, 1) := by decide +kernel
theorem dX4_lessenBy_72 : decode cX4_lessenBy 72 = .ok (.invokevirtual 54, 3) := by decide +kernel
theorem dX4_lessenBy_75 : decode cX4_lessenBy 75 = .ok (.isub, 1) := by decide +kernel
theorem dX4_lessenBy_76 : decode cX4_lessenBy 76 = .ok (.invokevirtual 84, 3) := by decide +kernel
theorem dX4_lessenBy_79 : decode cX4_lessenBy 79 = .ok (.istore_n 2, 1) := by decide +kernel
theorem dX4_lessenBy_80 : decode cX4_lessenBy 80 = .ok (.iload_n 2, 1) := by decide +kernel
theorem dX4_lessenBy_81 : decode cX4_lessenBy 81 = .ok (.ifCond .eq 5, 3) := by decide +kernel
theorem dX4_lessenBy_84 : decode cX4_lessenBy 84 = .ok (.iload_n 2, 1) := by decide +kernel
theorem dX4_lessenBy_85 : decode cX4_lessenBy 85 = .ok (.ireturn, 1) := by decide +kernel
theorem dX4_lessenBy_86 : decode cX4_lessenBy 86 = .ok (.aload_n 0, 1) := by decide +kernel
theorem dX4_lessenBy_87 : decode cX4_lessenBy 87 = .ok (.getfield 12, 3) := by decide +kernel
theorem dX4_lessenBy_90 : decode cX4_lessenBy 90 = .ok (.astore_n 3, 1) := by decide +kernel
theorem dX4_lessenBy_91 : decode cX4_lessenBy 91 = .ok (.aload_n 0, 1) := by decide +kernel
theorem dX4_lessenBy_92 : decode cX4_lessenBy 92 = .ok (.aload_n 0, 1) := by decide +kernel
theorem dX4_lessenBy_93 : decode cX4_lessenBy 93 = .ok (.getfield 18, 3) := by decide +kernel
theorem dX4_lessenBy_96 : decode cX4_lessenBy 96 = .ok (.putfield 12, 3) := by decide +kernel
theorem dX4_lessenBy_99 : decode cX4_lessenBy 99 = .ok (.aload_n 0, 1) := by decide +kernel
theorem dX4_lessenBy_100 : decode cX4_lessenBy 100 = .ok (.aload_n 3, 1) := by decide +kernel
theorem dX4_lessenBy_101 : decode cX4_lessenBy 101 = .ok (.putfield 18, 3) := by decide +kernel
theorem dX4_lessenBy_104 : decode cX4_lessenBy 104 = .ok (.iconst 0, 1) := by decide +kernel
theorem dX4_lessenBy_105 : decode cX4_lessenBy 105 = .ok (.ireturn, 1) := by decide +kernel
theorem dX0_init_0 : decode cX0_init 0 = .ok (.aload_n 0, 1) := by decide +kernel
theorem dX0_init_1 : decode cX0_init 1 = .ok (.invokespecial 3, 3) := by decide +kernel
theorem dX0_init_4 : decode cX0_init 4 = .ok (.aload_n 0, 1) := by decide +kernel
theorem dX0_init_5 : decode cX0_init 5 = .ok (.new 9, 3) := by decide +kernel
theorem dX0_init_8 : decode cX0_init 8 = .ok (.dup, 1) := by decide +kernel
theorem dX0_init_9 : decode cX0_init 9 = .ok (.invokespecial 11, 3) := by decide +kernel
theorem dX0_init_12 : decode cX0_init 12 = .ok (.putfield 12, 3) := by decide +kernel
theorem dX0_init_15 : decode cX0_init 15 = .ok (.aload_n 0, 1) := by decide +kernel
theorem dX0_init_16 : decode cX0_init 16 = .ok (.bipush 18, 2) := by decide +kernel
theorem dX0_init_18 : decode cX0_init 18 = .ok (.anewarray 18, 3) := by decide +kernel
theorem dX0_init_21 : decode cX0_init 21 = .ok (.putfield 20, 3) := by decide +kernel
theorem dX0_init_24 : decode cX0_init 24 = .ok (.aload_n 0, 1) := by decide +kernel
theorem dX0_init_25 : decode cX0_init 25 = .ok (.bipush 18, 2) := by decide +kernel
theorem dX0_init_27 : decode cX0_init 27 = .ok (.anewarray 18, 3) := by decide +kernel
theorem dX0_init_30 : decode cX0_init 30 = .ok (.putfield 24, 3) := by decide +kernel
theorem dX0_init_33 : decode cX0_init 33 = .ok (.aload_n 0, 1) := by decide +kernel
theorem dX0_init_34 : decode cX0_init 34 = .ok (.bipush 18, 2) := by decide +kernel
theorem dX0_init_36 : decode cX0_init 36 = .ok (.newarray .int, 2) := by decide +kernel
theorem dX0_init_38 : decode cX0_init 38 = .ok (.putfield 27, 3) := by decide +kernel
theorem dX0_init_41 : decode cX0_init 41 = .ok (.aload_n 0, 1) := by decide +kernel
theorem dX0_init_42 : decode cX0_init 42 = .ok (.new 18, 3) := by decide +kernel
theorem dX0_init_45 : decode cX0_init 45 = .ok (.dup, 1) := by decide +kernel
theorem dX0_init_46 : decode cX0_init 46 = .ok (.invokespecial 31, 3) := by decide +kernel
theorem dX0_init_49 : decode cX0_init 49 = .ok (.putfield 32, 3) := by decide +kernel
theorem dX0_init_52 : decode cX0_init 52 = .ok (.aload_n 0, 1) := by decide +kernel
theorem dX0_init_53 : decode cX0_init 53 = .ok (.aload_n 1, 1) := by decide +kernel
theorem dX0_init_54 : decode cX0_init 54 = .ok (.putfield 36, 3) := by decide +kernel
theorem dX0_init_57 : decode cX0_init 57 = .ok (.aload_n 0, 1) := by decide +kernel
theorem dX0_init_58 : decode cX0_init 58 = .ok (.aload_n 2, 1) := by decide +kernel
theorem dX0_init_59 : decode cX0_init 59 = .ok (.putfield 40, 3) := by decide +kernel
theorem dX0_init_62 : decode cX0_init 62 = .ok (.iconst 0, 1) := by decide +kernel
theorem dX0_init_63 : decode cX0_init 63 = .ok (.istore_n 3, 1) := by decide +kernel
theorem dX0_init_64 : decode cX0_init 64 = .ok (.iload_n 3, 1) := by decide +kernel
theorem dX0_init_65 : decode cX0_init 65 = .ok (.bipush 18, 2) := by decide +kernel
theorem dX0_init_67 : decode cX0_init 67 = .ok (.if_icmp .ge 35, 3) := by decide +kernel
theorem dX0_init_70 : decode cX0_init 70 = .ok (.aload_n 0, 1) := by decide +kernel
theorem dX0_init_71 : decode cX0_init 71 = .ok (.getfield 20, 3) := by decide +kernel
theorem dX0_init_74 : decode cX0_init 74 = .ok (.iload_n 3, 1) := by decide +kernel
theorem dX0_init_75 : decode cX0_init 75 = .ok (.new 18, 3) := by decide +kernel
theorem dX0_init_78 : decode cX0_init 78 = .ok (.dup, 1) := by decide +kernel
theorem dX0_init_79 : decode cX0_init 79 = .ok (.invokespecial 31, 3) := by decide +kernel
theorem dX0_init_82 : decode cX0_init 82 = .ok (.aastore, 1) := by decide +kernel
theorem dX0_init_83 : decode cX0_init 83 = .ok (.aload_n 0, 1) := by decide +kernel
theorem dX0_init_84 : decode cX0_init 84 = .ok (.getfield 24, 3) := by decide +kernel
theorem dX0_init_87 : decode cX0_init 87 = .ok (.iload_n 3, 1) := by decide +kernel
theorem dX0_init_88 : decode cX0_init 88 = .ok (.new 18, 3) := by decide +kernel
theorem dX0_init_91 : decode cX0_init 91 = .ok (.dup, 1) := by decide +kernel
theorem dX0_init_92 : decode cX0_init 92 = .ok (.invokespecial 31, 3) := by decide +kernel
theorem dX0_init_95 : decode cX0_init 95 = .ok (.aastore, 1) := by decide +kernel
theorem dX0_init_96 : decode cX0_init 96 = .ok (.iinc 3 1, 3) := by decide +kernel
theorem dX0_init_99 : decode cX0_init 99 = .ok (.goto (-35), 3) := by decide +kernel
theorem dX0_init_102 : decode cX0_init 102 = .ok (.return_, 1) := by decide +kernel
theorem dX0_at_0 : decode cX0_at 0 = .ok (.iload_n 1, 1) := by decide +kernel
theorem dX0_at_1 : decode cX0_at 1 = .ok (.ifCond .lt 20, 3) := by decide +kernel
theorem dX0_at_4 : decode cX0_at 4 = .ok (.iload_n 1, 1) := by decide +kernel
theorem dX0_at_5 : decode cX0_at 5 = .ok (.aload_n 0, 1) := by decide +kernel
theorem dX0_at_6 : decode cX0_at 6 = .ok (.getfield 44, 3) := by decide +kernel
theorem dX0_at_9 : decode cX0_at 9 = .ok (.if_icmp .ge 12, 3) := by decide +kernel
theorem dX0_at_12 : decode cX0_at 12 = .ok (.aload_n 0, 1) := by decide +kernel
theorem dX0_at_13 : decode cX0_at 13 = .ok (.getfield 20, 3) := by decide +kernel
theorem dX0_at_16 : decode cX0_at 16 = .ok (.iload_n 1, 1) := by decide +kernel
theorem dX0_at_17 : decode cX0_at 17 = .ok (.aaload, 1) := by decide +kernel
theorem dX0_at_18 : decode cX0_at 18 = .ok (.goto 4, 3) := by decide +kernel
theorem dX0_at_21 : decode cX0_at 21 = .ok (.aconst_null, 1) := by decide +kernel
theorem dX0_at_22 : decode cX0_at 22 = .ok (.areturn, 1) := by decide +kernel
theorem dX0_isFull_0 : decode cX0_isFull 0 = .ok (.aload_n 0, 1) := by decide +kernel
theorem dX0_isFull_1 : decode cX0_isFull 1 = .ok (.getfield 44, 3) := by decide +kernel
theorem dX0_isFull_4 : decode cX0_isFull 4 = .ok (.bipush 18, 2) := by decide +kernel
theorem dX0_isFull_6 : decode cX0_isFull 6 = .ok (.if_icmp .lt 7, 3) := by decide +kernel
theorem dX0_isFull_9 : decode cX0_isFull 9 = .ok (.iconst 1, 1) := by decide +kernel
theorem dX0_isFull_10 : decode cX0_isFull 10 = .ok (.goto 4, 3) := by decide +kernel
theorem dX0_isFull_13 : decode cX0_isFull 13 = .ok (.iconst 0, 1) := by decide +kernel
theorem dX0_isFull_14 : decode cX0_isFull 14 = .ok (.ireturn, 1) := by decide +kernel
theorem dX0_empty_0 : decode cX0_empty 0 = .ok (.aload_n 0, 1) := by decide +kernel
theorem dX0_empty_1 : decode cX0_empty 1 = .ok (.getfield 44, 3) := by decide +kernel
theorem dX0_empty_4 : decode cX0_empty 4 = .ok (.istore_n 1, 1) := by decide +kernel
theorem dX0_empty_5 : decode cX0_empty 5 = .ok (.aload_n 0, 1) := by decide +kernel
theorem dX0_empty_6 : decode cX0_empty 6 = .ok (.iconst 0, 1) := by decide +kernel
theorem dX0_empty_7 : decode cX0_empty 7 = .ok (.putfield 44, 3) := by decide +kernel
theorem dX0_empty_10 : decode cX0_empty 10 = .ok (.aload_n 0, 1) := by decide +kernel
theorem dX0_empty_11 : decode cX0_empty 11 = .ok (.getfield 12, 3) := by decide +kernel
theorem dX0_empty_14 : decode cX0_empty 14 = .ok (.iconst 0, 1) := by decide +kernel
theorem dX0_empty_15 : decode cX0_empty 15 = .ok (.putfield 48, 3) := by decide +kernel
theorem dX0_empty_18 : decode cX0_empty 18 = .ok (.aload_n 0, 1) := by decide +kernel
theorem dX0_empty_19 : decode cX0_empty 19 = .ok (.iconst 0, 1) := by decide +kernel
theorem dX0_empty_20 : decode cX0_empty 20 = .ok (.putfield 49, 3) := by decide +kernel
theorem dX0_empty_23 : decode cX0_empty 23 = .ok (.iload_n 1, 1) := by decide +kernel
theorem dX0_empty_24 : decode cX0_empty 24 = .ok (.ireturn, 1) := by decide +kernel
theorem dX0_take_0 : decode cX0_take 0 = .ok (.aload_n 0, 1) := by decide +kernel
theorem dX0_take_1 : decode cX0_take 1 = .ok (.invokevirtual 53, 3) := by decide +kernel
theorem dX0_take_4 : decode cX0_take 4 = .ok (.ifCond .eq 6, 3) := by decide +kernel
theorem dX0_take_7 : decode cX0_take 7 = .ok (.bipush (-4), 2) := by decide +kernel
theorem dX0_take_9 : decode cX0_take 9 = .ok (.ireturn, 1) := by decide +kernel
theorem dX0_take_10 : decode cX0_take 10 = .ok (.aload_n 0, 1) := by decide +kernel
theorem dX0_take_11 : decode cX0_take 11 = .ok (.getfield 44, 3) := by decide +kernel
theorem dX0_take_14 : decode cX0_take 14 = .ok (.istore_n 2, 1) := by decide +kernel
theorem dX0_take_15 : decode cX0_take 15 = .ok (.aload_n 0, 1) := by decide +kernel
theorem dX0_take_16 : decode cX0_take 16 = .ok (.getfield 20, 3) := by decide +kernel
theorem dX0_take_19 : decode cX0_take 19 = .ok (.iload_n 2, 1) := by decide +kernel
theorem dX0_take_20 : decode cX0_take 20 = .ok (.aaload, 1) := by decide +kernel
theorem dX0_take_21 : decode cX0_take 21 = .ok (.aload_n 1, 1) := by decide +kernel
theorem dX0_take_22 : decode cX0_take 22 = .ok (.invokevirtual 57, 3) := by decide +kernel
theorem dX0_take_25 : decode cX0_take 25 = .ok (.aload_n 0, 1) := by decide +kernel
theorem dX0_take_26 : decode cX0_take 26 = .ok (.getfield 36, 3) := by decide +kernel
theorem dX0_take_29 : decode cX0_take 29 = .ok (.aload_n 0, 1) := by decide +kernel
theorem dX0_take_30 : decode cX0_take 30 = .ok (.getfield 20, 3) := by decide +kernel
theorem dX0_take_33 : decode cX0_take 33 = .ok (.iload_n 2, 1) := by decide +kernel
theorem dX0_take_34 : decode cX0_take 34 = .ok (.aaload, 1) := by decide +kernel
theorem dX0_take_35 : decode cX0_take 35 = .ok (.invokevirtual 61, 3) := by decide +kernel
theorem dX0_take_38 : decode cX0_take 38 = .ok (.aload_n 0, 1) := by decide +kernel
theorem dX0_take_39 : decode cX0_take 39 = .ok (.dup, 1) := by decide +kernel
theorem dX0_take_40 : decode cX0_take 40 = .ok (.getfield 44, 3) := by decide +kernel
theorem dX0_take_43 : decode cX0_take 43 = .ok (.iconst 1, 1) := by decide +kernel
theorem dX0_take_44 : decode cX0_take 44 = .ok (.iadd, 1) := by decide +kernel
theorem dX0_take_45 : decode cX0_take 45 = .ok (.putfield 44, 3) := by decide +kernel
theorem dX0_take_48 : decode cX0_take 48 = .ok (.aload_n 0, 1) := by decide +kernel
theorem dX0_take_49 : decode cX0_take 49 = .ok (.getfield 12, 3) := by decide +kernel
theorem dX0_take_52 : decode cX0_take 52 = .ok (.iload_n 2, 1) := by decide +kernel
theorem dX0_take_53 : decode cX0_take 53 = .ok (.invokevirtual 66, 3) := by decide +kernel
theorem dX0_take_56 : decode cX0_take 56 = .ok (.iload_n 2, 1) := by decide +kernel
theorem dX0_take_57 : decode cX0_take 57 = .ok (.ireturn, 1) := by decide +kernel
theorem dX0_workNext_0 : decode cX0_workNext 0 = .ok (.aload_n 0, 1) := by decide +kernel
theorem dX0_workNext_1 : decode cX0_workNext 1 = .ok (.getfield 40, 3) := by decide +kernel
theorem dX0_workNext_4 : decode cX0_workNext 4 = .ok (.invokevirtual 70, 3) := by decide +kernel
theorem dX0_workNext_7 : decode cX0_workNext 7 = .ok (.aload_n 0, 1) := by decide +kernel
theorem dX0_workNext_8 : decode cX0_workNext 8 = .ok (.invokevirtual 75, 3) := by decide +kernel
theorem dX0_workNext_11 : decode cX0_workNext 11 = .ok (.istore_n 1, 1) := by decide +kernel
theorem dX0_workNext_12 : decode cX0_workNext 12 = .ok (.aload_n 0, 1) := by decide +kernel
theorem dX0_workNext_13 : decode cX0_workNext 13 = .ok (.getfield 79, 3) := by decide +kernel
theorem dX0_workNext_16 : decode cX0_workNext 16 = .ok (.iconst 1, 1) := by decide +kernel
theorem dX0_workNext_17 : decode cX0_workNext 17 = .ok (.iand, 1) := by decide +kernel
theorem dX0_workNext_18 : decode cX0_workNext 18 = .ok (.ifCond .eq 24, 3) := by decide +kernel
theorem dX0_workNext_21 : decode cX0_workNext 21 = .ok (.aload_n 0, 1) := by decide +kernel
theorem dX0_workNext_22 : decode cX0_workNext 22 = .ok (.iload_n 1, 1) := by decide +kernel
theorem dX0_workNext_23 : decode cX0_workNext 23 = .ok (.invokevirtual 82, 3) := by decide +kernel
theorem dX0_workNext_26 : decode cX0_workNext 26 = .ok (.ifCond .eq 16, 3) := by decide +kernel
theorem dX0_workNext_29 : decode cX0_workNext 29 = .ok (.aload_n 0, 1) := by decide +kernel
theorem dX0_workNext_30 : decode cX0_workNext 30 = .ok (.dup, 1) := by decide +kernel
theorem dX0_workNext_31 : decode cX0_workNext 31 = .ok (.getfield 86, 3) := by decide +kernel
theorem dX0_workNext_34 : decode cX0_workNext 34 = .ok (.iconst 1, 1) := by decide +kernel
theorem dX0_workNext_35 : decode cX0_workNext 35 = .ok (.iadd, 1) := by decide +kernel
theorem dX0_workNext_36 : decode cX0_workNext 36 = .ok (.putfield 86, 3) := by decide +kernel
theorem dX0_workNext_39 : decode cX0_workNext 39 = .ok (.goto 45, 3) := by decide +kernel
theorem dX0_workNext_42 : decode cX0_workNext 42 = .ok (.aload_n 0, 1) := by decide +kernel
theorem dX0_workNext_43 : decode cX0_workNext 43 = .ok (.getfield 79, 3) := by decide +kernel
theorem dX0_workNext_46 : decode cX0_workNext 46 = .ok (.iconst 2, 1) := by decide +kernel
theorem dX0_workNext_47 : decode cX0_workNext 47 = .ok (.iand, 1) := by decide +kernel
theorem dX0_workNext_48 : decode cX0_workNext 48 = .ok (.ifCond .eq 24, 3) := by decide +kernel
theorem dX0_workNext_51 : decode cX0_workNext 51 = .ok (.aload_n 0, 1) := by decide +kernel
theorem dX0_workNext_52 : decode cX0_workNext 52 = .ok (.iload_n 1, 1) := by decide +kernel
theorem dX0_workNext_53 : decode cX0_workNext 53 = .ok (.invokevirtual 89, 3) := by decide +kernel
theorem dX0_workNext_56 : decode cX0_workNext 56 = .ok (.ifCond .eq 16, 3) := by decide +kernel
theorem dX0_workNext_59 : decode cX0_workNext 59 = .ok (.aload_n 0, 1) := by decide +kernel
theorem dX0_workNext_60 : decode cX0_workNext 60 = .ok (.dup, 1) := by decide +kernel
theorem dX0_workNext_61 : decode cX0_workNext 61 = .ok (.getfield 92, 3) := by decide +kernel
theorem dX0_workNext_64 : decode cX0_workNext 64 = .ok (.iconst 1, 1) := by decide +kernel
theorem dX0_workNext_65 : decode cX0_workNext 65 = .ok (.iadd, 1) := by decide +kernel
theorem dX0_workNext_66 : decode cX0_workNext 66 = .ok (.putfield 92, 3) := by decide +kernel
theorem dX0_workNext_69 : decode cX0_workNext 69 = .ok (.goto 15, 3) := by decide +kernel
theorem dX0_workNext_72 : decode cX0_workNext 72 = .ok (.aload_n 0, 1) := by decide +kernel
theorem dX0_workNext_73 : decode cX0_workNext 73 = .ok (.iload_n 1, 1) := by decide +kernel
theorem dX0_workNext_74 : decode cX0_workNext 74 = .ok (.invokevirtual 95, 3) := by decide +kernel
theorem dX0_workNext_77 : decode cX0_workNext 77 = .ok (.istore_n 2, 1) := by decide +kernel
theorem dX0_workNext_78 : decode cX0_workNext 78 = .ok (.iload_n 2, 1) := by decide +kernel
theorem dX0_workNext_79 : decode cX0_workNext 79 = .ok (.ifCond .eq 5, 3) := by decide +kernel
theorem dX0_workNext_82 : decode cX0_workNext 82 = .ok (.iload_n 2, 1) := by decide +kernel
theorem dX0_workNext_83 : decode cX0_workNext 83 = .ok (.ireturn, 1) := by decide +kernel
theorem dX0_workNext_84 : decode cX0_workNext 84 = .ok (.aload_n 0, 1) := by decide +kernel
theorem dX0_workNext_85 : decode cX0_workNext 85 = .ok (.getfield 12, 3) := by decide +kernel
theorem dX0_workNext_88 : decode cX0_workNext 88 = .ok (.iload_n 1, 1) := by decide +kernel
theorem dX0_workNext_89 : decode cX0_workNext 89 = .ok (.invokevirtual 99, 3) := by decide +kernel
theorem dX0_workNext_92 : decode cX0_workNext 92 = .ok (.iconst 0, 1) := by decide +kernel
theorem dX0_workNext_93 : decode cX0_workNext 93 = .ok (.ireturn, 1) := by decide +kernel
theorem dX0_nextPair_0 : decode cX0_nextPair 0 = .ok (.iconst 0, 1) := by decide +kernel
theorem dX0_nextPair_1 : decode cX0_nextPair 1 = .ok (.istore_n 1, 1) := by decide +kernel
theorem dX0_nextPair_2 : decode cX0_nextPair 2 = .ok (.aload_n 0, 1) := by decide +kernel
theorem dX0_nextPair_3 : decode cX0_nextPair 3 = .ok (.getfield 102, 3) := by decide +kernel
theorem dX0_nextPair_6 : decode cX0_nextPair 6 = .ok (.iconst 1, 1) := by decide +kernel
theorem dX0_nextPair_7 : decode cX0_nextPair 7 = .ok (.if_icmp .ne 51, 3) := by decide +kernel
theorem dX0_nextPair_10 : decode cX0_nextPair 10 = .ok (.iconst 1, 1) := by decide +kernel
theorem dX0_nextPair_11 : decode cX0_nextPair 11 = .ok (.istore_n 2, 1) := by decide +kernel
theorem dX0_nextPair_12 : decode cX0_nextPair 12 = .ok (.iload_n 2, 1) := by decide +kernel
theorem dX0_nextPair_13 : decode cX0_nextPair 13 = .ok (.aload_n 0, 1) := by decide +kernel
theorem dX0_nextPair_14 : decode cX0_nextPair 14 = .ok (.getfield 12, 3) := by decide +kernel
theorem dX0_nextPair_17 : decode cX0_nextPair 17 = .ok (.getfield 48, 3) := by decide +kernel
theorem dX0_nextPair_20 : decode cX0_nextPair 20 = .ok (.if_icmp .ge 38, 3) := by decide +kernel
theorem dX0_nextPair_23 : decode cX0_nextPair 23 = .ok (.aload_n 0, 1) := by decide +kernel
theorem dX0_nextPair_24 : decode cX0_nextPair 24 = .ok (.getfield 36, 3) := by decide +kernel
theorem dX0_nextPair_27 : decode cX0_nextPair 27 = .ok (.aload_n 0, 1) := by decide +kernel
theorem dX0_nextPair_28 : decode cX0_nextPair 28 = .ok (.iload_n 2, 1) := by decide +kernel
theorem dX0_nextPair_29 : decode cX0_nextPair 29 = .ok (.invokevirtual 105, 3) := by decide +kernel
theorem dX0_nextPair_32 : decode cX0_nextPair 32 = .ok (.invokevirtual 108, 3) := by decide +kernel
theorem dX0_nextPair_35 : decode cX0_nextPair 35 = .ok (.aload_n 0, 1) := by decide +kernel
theorem dX0_nextPair_36 : decode cX0_nextPair 36 = .ok (.getfield 36, 3) := by decide +kernel
theorem dX0_nextPair_39 : decode cX0_nextPair 39 = .ok (.aload_n 0, 1) := by decide +kernel
theorem dX0_nextPair_40 : decode cX0_nextPair 40 = .ok (.iload_n 1, 1) := by decide +kernel
theorem dX0_nextPair_41 : decode cX0_nextPair 41 = .ok (.invokevirtual 105, 3) := by decide +kernel
theorem dX0_nextPair_44 : decode cX0_nextPair 44 = .ok (.invokevirtual 108, 3) := by decide +kernel
theorem dX0_nextPair_47 : decode cX0_nextPair 47 = .ok (.if_icmp .ge 5, 3) := by decide +kernel
theorem dX0_nextPair_50 : decode cX0_nextPair 50 = .ok (.iload_n 2, 1) := by decide +kernel
theorem dX0_nextPair_51 : decode cX0_nextPair 51 = .ok (.istore_n 1, 1) := by decide +kernel
theorem dX0_nextPair_52 : decode cX0_nextPair 52 = .ok (.iinc 2 1, 3) := by decide +kernel
theorem dX0_nextPair_55 : decode cX0_nextPair 55 = .ok (.goto (-43), 3) := by decide +kernel
theorem dX0_nextPair_58 : decode cX0_nextPair 58 = .ok (.iload_n 1, 1) := by decide +kernel
theorem dX0_nextPair_59 : decode cX0_nextPair 59 = .ok (.ireturn, 1) := by decide +kernel
theorem dX0_multipleOf_0 : decode cX0_multipleOf 0 = .ok (.aload_n 0, 1) := by decide +kernel
theorem dX0_multipleOf_1 : decode cX0_multipleOf 1 = .ok (.getfield 20, 3) := by decide +kernel
theorem dX0_multipleOf_4 : decode cX0_multipleOf 4 = .ok (.aload_n 0, 1) := by decide +kernel
theorem dX0_multipleOf_5 : decode cX0_multipleOf 5 = .ok (.getfield 12, 3) := by decide +kernel
theorem dX0_multipleOf_8 : decode cX0_multipleOf 8 = .ok (.getfield 111, 3) := by decide +kernel
theorem dX0_multipleOf_11 : decode cX0_multipleOf 11 = .ok (.iload_n 1, 1) := by decide +kernel
theorem dX0_multipleOf_12 : decode cX0_multipleOf 12 = .ok (.iaload, 1) := by decide +kernel
theorem dX0_multipleOf_13 : decode cX0_multipleOf 13 = .ok (.aaload, 1) := by decide +kernel
theorem dX0_multipleOf_14 : decode cX0_multipleOf 14 = .ok (.invokevirtual 114, 3) := by decide +kernel
theorem dX0_multipleOf_17 : decode cX0_multipleOf 17 = .ok (.aload_n 0, 1) := by decide +kernel
theorem dX0_multipleOf_18 : decode cX0_multipleOf 18 = .ok (.getfield 20, 3) := by decide +kernel
theorem dX0_multipleOf_21 : decode cX0_multipleOf 21 = .ok (.aload_n 0, 1) := by decide +kernel
theorem dX0_multipleOf_22 : decode cX0_multipleOf 22 = .ok (.getfield 12, 3) := by decide +kernel
theorem dX0_multipleOf_25 : decode cX0_multipleOf 25 = .ok (.getfield 117, 3) := by decide +kernel
theorem dX0_multipleOf_28 : decode cX0_multipleOf 28 = .ok (.iload_n 1, 1) := by decide +kernel
theorem dX0_multipleOf_29 : decode cX0_multipleOf 29 = .ok (.iaload, 1) := by decide +kernel
theorem dX0_multipleOf_30 : decode cX0_multipleOf 30 = .ok (.aaload, 1) := by decide +kernel
theorem dX0_multipleOf_31 : decode cX0_multipleOf 31 = .ok (.invokevirtual 114, 3) := by decide +kernel
theorem dX0_multipleOf_34 : decode cX0_multipleOf 34 = .ok (.invokestatic 120, 3) := by decide +kernel
theorem dX0_multipleOf_37 : decode cX0_multipleOf 37 = .ok (.ireturn, 1) := by decide +kernel
theorem dX0_isCoprime_0 : decode cX0_isCoprime 0 = .ok (.aload_n 0, 1) := by decide +kernel
theorem dX0_isCoprime_1 : decode cX0_isCoprime 1 = .ok (.iload_n 1, 1) := by decide +kernel
theorem dX0_isCoprime_2 : decode cX0_isCoprime 2 = .ok (.invokevirtual 105, 3) := by decide +kernel
theorem dX0_isCoprime_5 : decode cX0_isCoprime 5 = .ok (.aload_n 0, 1) := by decide +kernel
theorem dX0_isCoprime_6 : decode cX0_isCoprime 6 = .ok (.getfield 20, 3) := by decide +kernel
theorem dX0_isCoprime_9 : decode cX0_isCoprime 9 = .ok (.aload_n 0, 1) := by decide +kernel
theorem dX0_isCoprime_10 : decode cX0_isCoprime 10 = .ok (.getfield 12, 3) := by decide +kernel
theorem dX0_isCoprime_13 : decode cX0_isCoprime 13 = .ok (.getfield 111, 3) := by decide +kernel
theorem dX0_isCoprime_16 : decode cX0_isCoprime 16 = .ok (.iload_n 1, 1) := by decide +kernel
theorem dX0_isCoprime_17 : decode cX0_isCoprime 17 = .ok (.iaload, 1) := by decide +kernel
theorem dX0_isCoprime_18 : decode cX0_isCoprime 18 = .ok (.aaload, 1) := by decide +kernel
theorem dX0_isCoprime_19 : decode cX0_isCoprime 19 = .ok (.invokevirtual 114, 3) := by decide +kernel
theorem dX0_isCoprime_22 : decode cX0_isCoprime 22 = .ok (.aload_n 0, 1) := by decide +kernel
theorem dX0_isCoprime_23 : decode cX0_isCoprime 23 = .ok (.getfield 20, 3) := by decide +kernel
theorem dX0_isCoprime_26 : decode cX0_isCoprime 26 = .ok (.aload_n 0, 1) := by decide +kernel
theorem dX0_isCoprime_27 : decode cX0_isCoprime 27 = .ok (.getfield 12, 3) := by decide +kernel
theorem dX0_isCoprime_30 : decode cX0_isCoprime 30 = .ok (.getfield 117, 3) := by decide +kernel
theorem dX0_isCoprime_33 : decode cX0_isCoprime 33 = .ok (.iload_n 1, 1) := by decide +kernel
theorem dX0_isCoprime_34 : decode cX0_isCoprime 34 = .ok (.iaload, 1) := by decide +kernel
theorem dX0_isCoprime_35 : decode cX0_isCoprime 35 = .ok (.aaload, 1) := by decide +kernel
theorem dX0_isCoprime_36 : decode cX0_isCoprime 36 = .ok (.invokevirtual 114, 3) := by decide +kernel
theorem dX0_isCoprime_39 : decode cX0_isCoprime 39 = .ok (.iadd, 1) := by decide +kernel
theorem dX0_isCoprime_40 : decode cX0_isCoprime 40 = .ok (.if_icmp .ne 7, 3) := by decide +kernel
theorem dX0_isCoprime_43 : decode cX0_isCoprime 43 = .ok (.iconst 1, 1) := by decide +kernel
theorem dX0_isCoprime_44 : decode cX0_isCoprime 44 = .ok (.goto 4, 3) := by decide +kernel
theorem dX0_isCoprime_47 : decode cX0_isCoprime 47 = .ok (.iconst 0, 1) := by decide +kernel
theorem dX0_isCoprime_48 : decode cX0_isCoprime 48 = .ok (.ireturn, 1) := by decide +kernel
theorem dX0_isChained_0 : decode cX0_isChained 0 = .ok (.aload_n 0, 1) := by decide +kernel
theorem dX0_isChained_1 : decode cX0_isChained 1 = .ok (.getfield 12, 3) := by decide +kernel
theorem dX0_isChained_4 : decode cX0_isChained 4 = .ok (.getfield 111, 3) := by decide +kernel
theorem dX0_isChained_7 : decode cX0_isChained 7 = .ok (.iload_n 1, 1) := by decide +kernel
theorem dX0_isChained_8 : decode cX0_isChained 8 = .ok (.iaload, 1) := by decide +kernel
theorem dX0_isChained_9 : decode cX0_isChained 9 = .ok (.istore_n 2, 1) := by decide +kernel
theorem dX0_isChained_10 : decode cX0_isChained 10 = .ok (.aload_n 0, 1) := by decide +kernel
theorem dX0_isChained_11 : decode cX0_isChained 11 = .ok (.getfield 12, 3) := by decide +kernel
theorem dX0_isChained_14 : decode cX0_isChained 14 = .ok (.getfield 117, 3) := by decide +kernel
theorem dX0_isChained_17 : decode cX0_isChained 17 = .ok (.iload_n 1, 1) := by decide +kernel
theorem dX0_isChained_18 : decode cX0_isChained 18 = .ok (.iaload, 1) := by decide +kernel
theorem dX0_isChained_19 : decode cX0_isChained 19 = .ok (.istore_n 3, 1) := by decide +kernel
theorem dX0_isChained_20 : decode cX0_isChained 20 = .ok (.aload_n 0, 1) := by decide +kernel
theorem dX0_isChained_21 : decode cX0_isChained 21 = .ok (.iload_n 1, 1) := by decide +kernel
theorem dX0_isChained_22 : decode cX0_isChained 22 = .ok (.invokevirtual 105, 3) := by decide +kernel
theorem dX0_isChained_25 : decode cX0_isChained 25 = .ok (.istore 4, 2) := by decide +kernel
theorem dX0_isChained_27 : decode cX0_isChained 27 = .ok (.iconst 0, 1) := by decide +kernel
theorem dX0_isChained_28 : decode cX0_isChained 28 = .ok (.istore 5, 2) := by decide +kernel
theorem dX0_isChained_30 : decode cX0_isChained 30 = .ok (.iload 5, 2) := by decide +kernel
theorem dX0_isChained_32 : decode cX0_isChained 32 = .ok (.aload_n 0, 1) := by decide +kernel
theorem dX0_isChained_33 : decode cX0_isChained 33 = .ok (.getfield 44, 3) := by decide +kernel
theorem dX0_isChained_36 : decode cX0_isChained 36 = .ok (.if_icmp .ge 67, 3) := by decide +kernel
theorem dX0_isChained_39 : decode cX0_isChained 39 = .ok (.iload 5, 2) := by decide +kernel
theorem dX0_isChained_41 : decode cX0_isChained 41 = .ok (.iload_n 2, 1) := by decide +kernel
theorem dX0_isChained_42 : decode cX0_isChained 42 = .ok (.if_icmp .eq 55, 3) := by decide +kernel
theorem dX0_isChained_45 : decode cX0_isChained 45 = .ok (.iload 5, 2) := by decide +kernel
theorem dX0_isChained_47 : decode cX0_isChained 47 = .ok (.iload_n 3, 1) := by decide +kernel
theorem dX0_isChained_48 : decode cX0_isChained 48 = .ok (.if_icmp .eq 49, 3) := by decide +kernel
theorem dX0_isChained_51 : decode cX0_isChained 51 = .ok (.aload_n 0, 1) := by decide +kernel
theorem dX0_isChained_52 : decode cX0_isChained 52 = .ok (.getfield 20, 3) := by decide +kernel
theorem dX0_isChained_55 : decode cX0_isChained 55 = .ok (.iload 5, 2) := by decide +kernel
theorem dX0_isChained_57 : decode cX0_isChained 57 = .ok (.aaload, 1) := by decide +kernel
theorem dX0_isChained_58 : decode cX0_isChained 58 = .ok (.invokevirtual 114, 3) := by decide +kernel
theorem dX0_isChained_61 : decode cX0_isChained 61 = .ok (.iload 4, 2) := by decide +kernel
theorem dX0_isChained_63 : decode cX0_isChained 63 = .ok (.invokestatic 126, 3) := by decide +kernel
theorem dX0_isChained_66 : decode cX0_isChained 66 = .ok (.ifCond .eq 31, 3) := by decide +kernel
theorem dX0_isChained_69 : decode cX0_isChained 69 = .ok (.aload_n 0, 1) := by decide +kernel
theorem dX0_isChained_70 : decode cX0_isChained 70 = .ok (.getfield 12, 3) := by decide +kernel
theorem dX0_isChained_73 : decode cX0_isChained 73 = .ok (.iload_n 2, 1) := by decide +kernel
theorem dX0_isChained_74 : decode cX0_isChained 74 = .ok (.iload 5, 2) := by decide +kernel
theorem dX0_isChained_76 : decode cX0_isChained 76 = .ok (.invokevirtual 130, 3) := by decide +kernel
theorem dX0_isChained_79 : decode cX0_isChained 79 = .ok (.ifCond .ne 18, 3) := by decide +kernel
theorem dX0_isChained_82 : decode cX0_isChained 82 = .ok (.aload_n 0, 1) := by decide +kernel
theorem dX0_isChained_83 : decode cX0_isChained 83 = .ok (.getfield 12, 3) := by decide +kernel
theorem dX0_isChained_86 : decode cX0_isChained 86 = .ok (.iload_n 3, 1) := by decide +kernel
theorem dX0_isChained_87 : decode cX0_isChained 87 = .ok (.iload 5, 2) := by decide +kernel
theorem dX0_isChained_89 : decode cX0_isChained 89 = .ok (.invokevirtual 130, 3) := by decide +kernel
theorem dX0_isChained_92 : decode cX0_isChained 92 = .ok (.ifCond .ne 5, 3) := by decide +kernel
theorem dX0_isChained_95 : decode cX0_isChained 95 = .ok (.iconst 1, 1) := by decide +kernel
theorem dX0_isChained_96 : decode cX0_isChained 96 = .ok (.ireturn, 1) := by decide +kernel
theorem dX0_isChained_97 : decode cX0_isChained 97 = .ok (.iinc 5 1, 3) := by decide +kernel
theorem dX0_isChained_100 : decode cX0_isChained 100 = .ok (.goto (-70), 3) := by decide +kernel
theorem dX0_isChained_103 : decode cX0_isChained 103 = .ok (.iconst 0, 1) := by decide +kernel
theorem dX0_isChained_104 : decode cX0_isChained 104 = .ok (.ireturn, 1) := by decide +kernel
theorem dX0_reduceS_0 : decode cX0_reduceS 0 = .ok (.aload_n 0, 1) := by decide +kernel
theorem dX0_reduceS_1 : decode cX0_reduceS 1 = .ok (.getfield 36, 3) := by decide +kernel
theorem dX0_reduceS_4 : decode cX0_reduceS 4 = .ok (.aload_n 0, 1) := by decide +kernel
theorem dX0_reduceS_5 : decode cX0_reduceS 5 = .ok (.getfield 32, 3) := by decide +kernel
theorem dX0_reduceS_8 : decode cX0_reduceS 8 = .ok (.aload_n 0, 1) := by decide +kernel
theorem dX0_reduceS_9 : decode cX0_reduceS 9 = .ok (.getfield 20, 3) := by decide +kernel
theorem dX0_reduceS_12 : decode cX0_reduceS 12 = .ok (.aload_n 0, 1) := by decide +kernel
theorem dX0_reduceS_13 : decode cX0_reduceS 13 = .ok (.getfield 12, 3) := by decide +kernel
theorem dX0_reduceS_16 : decode cX0_reduceS 16 = .ok (.getfield 111, 3) := by decide +kernel
theorem dX0_reduceS_19 : decode cX0_reduceS 19 = .ok (.iload_n 1, 1) := by decide +kernel
theorem dX0_reduceS_20 : decode cX0_reduceS 20 = .ok (.iaload, 1) := by decide +kernel
theorem dX0_reduceS_21 : decode cX0_reduceS 21 = .ok (.aaload, 1) := by decide +kernel
theorem dX0_reduceS_22 : decode cX0_reduceS 22 = .ok (.aload_n 0, 1) := by decide +kernel
theorem dX0_reduceS_23 : decode cX0_reduceS 23 = .ok (.getfield 20, 3) := by decide +kernel
theorem dX0_reduceS_26 : decode cX0_reduceS 26 = .ok (.aload_n 0, 1) := by decide +kernel
theorem dX0_reduceS_27 : decode cX0_reduceS 27 = .ok (.getfield 12, 3) := by decide +kernel
theorem dX0_reduceS_30 : decode cX0_reduceS 30 = .ok (.getfield 117, 3) := by decide +kernel
theorem dX0_reduceS_33 : decode cX0_reduceS 33 = .ok (.iload_n 1, 1) := by decide +kernel
theorem dX0_reduceS_34 : decode cX0_reduceS 34 = .ok (.iaload, 1) := by decide +kernel
theorem dX0_reduceS_35 : decode cX0_reduceS 35 = .ok (.aaload, 1) := by decide +kernel
theorem dX0_reduceS_36 : decode cX0_reduceS 36 = .ok (.invokevirtual 133, 3) := by decide +kernel
theorem dX0_reduceS_39 : decode cX0_reduceS 39 = .ok (.istore_n 2, 1) := by decide +kernel
theorem dX0_reduceS_40 : decode cX0_reduceS 40 = .ok (.iload_n 2, 1) := by decide +kernel
theorem dX0_reduceS_41 : decode cX0_reduceS 41 = .ok (.ifCond .ne 24, 3) := by decide +kernel
theorem dX0_reduceS_44 : decode cX0_reduceS 44 = .ok (.aload_n 0, 1) := by decide +kernel
theorem dX0_reduceS_45 : decode cX0_reduceS 45 = .ok (.getfield 40, 3) := by decide +kernel
theorem dX0_reduceS_48 : decode cX0_reduceS 48 = .ok (.aload_n 0, 1) := by decide +kernel
theorem dX0_reduceS_49 : decode cX0_reduceS 49 = .ok (.getfield 32, 3) := by decide +kernel
theorem dX0_reduceS_52 : decode cX0_reduceS 52 = .ok (.aload_n 0, 1) := by decide +kernel
theorem dX0_reduceS_53 : decode cX0_reduceS 53 = .ok (.getfield 20, 3) := by decide +kernel
theorem dX0_reduceS_56 : decode cX0_reduceS 56 = .ok (.aload_n 0, 1) := by decide +kernel
theorem dX0_reduceS_57 : decode cX0_reduceS 57 = .ok (.getfield 44, 3) := by decide +kernel
theorem dX0_reduceS_60 : decode cX0_reduceS 60 = .ok (.iconst (-1), 1) := by decide +kernel
theorem dX0_reduceS_61 : decode cX0_reduceS 61 = .ok (.invokevirtual 137, 3) := by decide +kernel
theorem dX0_reduceS_64 : decode cX0_reduceS 64 = .ok (.istore_n 2, 1) := by decide +kernel
theorem dX0_reduceS_65 : decode cX0_reduceS 65 = .ok (.iload_n 2, 1) := by decide +kernel
theorem dX0_reduceS_66 : decode cX0_reduceS 66 = .ok (.ifCond .eq 5, 3) := by decide +kernel
theorem dX0_reduceS_69 : decode cX0_reduceS 69 = .ok (.iload_n 2, 1) := by decide +kernel
theorem dX0_reduceS_70 : decode cX0_reduceS 70 = .ok (.ireturn, 1) := by decide +kernel
theorem dX0_reduceS_71 : decode cX0_reduceS 71 = .ok (.aload_n 0, 1) := by decide +kernel
theorem dX0_reduceS_72 : decode cX0_reduceS 72 = .ok (.getfield 40, 3) := by decide +kernel
theorem dX0_reduceS_75 : decode cX0_reduceS 75 = .ok (.getfield 141, 3) := by decide +kernel
theorem dX0_reduceS_78 : decode cX0_reduceS 78 = .ok (.getfield 144, 3) := by decide +kernel
theorem dX0_reduceS_81 : decode cX0_reduceS 81 = .ok (.ifCond .ne 15, 3) := by decide +kernel
theorem dX0_reduceS_84 : decode cX0_reduceS 84 = .ok (.aload_n 0, 1) := by decide +kernel
theorem dX0_reduceS_85 : decode cX0_reduceS 85 = .ok (.dup, 1) := by decide +kernel
theorem dX0_reduceS_86 : decode cX0_reduceS 86 = .ok (.getfield 145, 3) := by decide +kernel
theorem dX0_reduceS_89 : decode cX0_reduceS 89 = .ok (.iconst 1, 1) := by decide +kernel
theorem dX0_reduceS_90 : decode cX0_reduceS 90 = .ok (.iadd, 1) := by decide +kernel
theorem dX0_reduceS_91 : decode cX0_reduceS 91 = .ok (.putfield 145, 3) := by decide +kernel
theorem dX0_reduceS_94 : decode cX0_reduceS 94 = .ok (.iconst 0, 1) := by decide +kernel
theorem dX0_reduceS_95 : decode cX0_reduceS 95 = .ok (.ireturn, 1) := by decide +kernel
theorem dX0_reduceS_96 : decode cX0_reduceS 96 = .ok (.aload_n 0, 1) := by decide +kernel
theorem dX0_reduceS_97 : decode cX0_reduceS 97 = .ok (.aload_n 0, 1) := by decide +kernel
theorem dX0_reduceS_98 : decode cX0_reduceS 98 = .ok (.getfield 40, 3) := by decide +kernel
theorem dX0_reduceS_101 : decode cX0_reduceS 101 = .ok (.getfield 141, 3) := by decide +kernel
theorem dX0_reduceS_104 : decode cX0_reduceS 104 = .ok (.invokevirtual 148, 3) := by decide +kernel
theorem dX0_reduceS_107 : decode cX0_reduceS 107 = .ok (.bipush (-4), 2) := by decide +kernel
theorem dX0_reduceS_109 : decode cX0_reduceS 109 = .ok (.if_icmp .ne 6, 3) := by decide +kernel
theorem dX0_reduceS_112 : decode cX0_reduceS 112 = .ok (.bipush (-4), 2) := by decide +kernel
theorem dX0_reduceS_114 : decode cX0_reduceS 114 = .ok (.ireturn, 1) := by decide +kernel
theorem dX0_reduceS_115 : decode cX0_reduceS 115 = .ok (.aload_n 0, 1) := by decide +kernel
theorem dX0_reduceS_116 : decode cX0_reduceS 116 = .ok (.dup, 1) := by decide +kernel
theorem dX0_reduceS_117 : decode cX0_reduceS 117 = .ok (.getfield 152, 3) := by decide +kernel
theorem dX0_reduceS_120 : decode cX0_reduceS 120 = .ok (.iconst 1, 1) := by decide +kernel
theorem dX0_reduceS_121 : decode cX0_reduceS 121 = .ok (.iadd, 1) := by decide +kernel
theorem dX0_reduceS_122 : decode cX0_reduceS 122 = .ok (.putfield 152, 3) := by decide +kernel
theorem dX0_reduceS_125 : decode cX0_reduceS 125 = .ok (.iconst 0, 1) := by decide +kernel
theorem dX0_reduceS_126 : decode cX0_reduceS 126 = .ok (.ireturn, 1) := by decide +kernel
theorem dX0_makeTidy_0 : decode cX0_makeTidy 0 = .ok (.aload_n 0, 1) := by decide +kernel
theorem dX0_makeTidy_1 : decode cX0_makeTidy 1 = .ok (.getfield 40, 3) := by decide +kernel
theorem dX0_makeTidy_4 : decode cX0_makeTidy 4 = .ok (.invokevirtual 70, 3) := by decide +kernel
theorem dX0_makeTidy_7 : decode cX0_makeTidy 7 = .ok (.aload_n 0, 1) := by decide +kernel
theorem dX0_makeTidy_8 : decode cX0_makeTidy 8 = .ok (.invokevirtual 155, 3) := by decide +kernel
theorem dX0_makeTidy_11 : decode cX0_makeTidy 11 = .ok (.istore_n 1, 1) := by decide +kernel
theorem dX0_makeTidy_12 : decode cX0_makeTidy 12 = .ok (.iconst 0, 1) := by decide +kernel
theorem dX0_makeTidy_13 : decode cX0_makeTidy 13 = .ok (.istore_n 2, 1) := by decide +kernel
theorem dX0_makeTidy_14 : decode cX0_makeTidy 14 = .ok (.iload_n 2, 1) := by decide +kernel
theorem dX0_makeTidy_15 : decode cX0_makeTidy 15 = .ok (.iload_n 1, 1) := by decide +kernel
theorem dX0_makeTidy_16 : decode cX0_makeTidy 16 = .ok (.if_icmp .ge 29, 3) := by decide +kernel
theorem dX0_makeTidy_19 : decode cX0_makeTidy 19 = .ok (.aload_n 0, 1) := by decide +kernel
theorem dX0_makeTidy_20 : decode cX0_makeTidy 20 = .ok (.getfield 24, 3) := by decide +kernel
theorem dX0_makeTidy_23 : decode cX0_makeTidy 23 = .ok (.iload_n 2, 1) := by decide +kernel
theorem dX0_makeTidy_24 : decode cX0_makeTidy 24 = .ok (.aaload, 1) := by decide +kernel
theorem dX0_makeTidy_25 : decode cX0_makeTidy 25 = .ok (.aload_n 0, 1) := by decide +kernel
theorem dX0_makeTidy_26 : decode cX0_makeTidy 26 = .ok (.getfield 20, 3) := by decide +kernel
theorem dX0_makeTidy_29 : decode cX0_makeTidy 29 = .ok (.aload_n 0, 1) := by decide +kernel
theorem dX0_makeTidy_30 : decode cX0_makeTidy 30 = .ok (.getfield 27, 3) := by decide +kernel
theorem dX0_makeTidy_33 : decode cX0_makeTidy 33 = .ok (.iload_n 2, 1) := by decide +kernel
theorem dX0_makeTidy_34 : decode cX0_makeTidy 34 = .ok (.iaload, 1) := by decide +kernel
theorem dX0_makeTidy_35 : decode cX0_makeTidy 35 = .ok (.aaload, 1) := by decide +kernel
theorem dX0_makeTidy_36 : decode cX0_makeTidy 36 = .ok (.invokevirtual 57, 3) := by decide +kernel
theorem dX0_makeTidy_39 : decode cX0_makeTidy 39 = .ok (.iinc 2 1, 3) := by decide +kernel
theorem dX0_makeTidy_42 : decode cX0_makeTidy 42 = .ok (.goto (-28), 3) := by decide +kernel
theorem dX0_makeTidy_45 : decode cX0_makeTidy 45 = .ok (.iconst 0, 1) := by decide +kernel
theorem dX0_makeTidy_46 : decode cX0_makeTidy 46 = .ok (.istore_n 2, 1) := by decide +kernel
theorem dX0_makeTidy_47 : decode cX0_makeTidy 47 = .ok (.iload_n 2, 1) := by decide +kernel
theorem dX0_makeTidy_48 : decode cX0_makeTidy 48 = .ok (.iload_n 1, 1) := by decide +kernel
theorem dX0_makeTidy_49 : decode cX0_makeTidy 49 = .ok (.if_icmp .ge 22, 3) := by decide +kernel
theorem dX0_makeTidy_52 : decode cX0_makeTidy 52 = .ok (.aload_n 0, 1) := by decide +kernel
theorem dX0_makeTidy_53 : decode cX0_makeTidy 53 = .ok (.iload_n 2, 1) := by decide +kernel
theorem dX0_makeTidy_54 : decode cX0_makeTidy 54 = .ok (.iload_n 1, 1) := by decide +kernel
theorem dX0_makeTidy_55 : decode cX0_makeTidy 55 = .ok (.invokevirtual 158, 3) := by decide +kernel
theorem dX0_makeTidy_58 : decode cX0_makeTidy 58 = .ok (.istore_n 3, 1) := by decide +kernel
theorem dX0_makeTidy_59 : decode cX0_makeTidy 59 = .ok (.iload_n 3, 1) := by decide +kernel
theorem dX0_makeTidy_60 : decode cX0_makeTidy 60 = .ok (.ifCond .eq 5, 3) := by decide +kernel
theorem dX0_makeTidy_63 : decode cX0_makeTidy 63 = .ok (.iload_n 3, 1) := by decide +kernel
theorem dX0_makeTidy_64 : decode cX0_makeTidy 64 = .ok (.ireturn, 1) := by decide +kernel
theorem dX0_makeTidy_65 : decode cX0_makeTidy 65 = .ok (.iinc 2 1, 3) := by decide +kernel
theorem dX0_makeTidy_68 : decode cX0_makeTidy 68 = .ok (.goto (-21), 3) := by decide +kernel
theorem dX0_makeTidy_71 : decode cX0_makeTidy 71 = .ok (.aload_n 0, 1) := by decide +kernel
theorem dX0_makeTidy_72 : decode cX0_makeTidy 72 = .ok (.getfield 20, 3) := by decide +kernel
theorem dX0_makeTidy_75 : decode cX0_makeTidy 75 = .ok (.astore_n 2, 1) := by decide +kernel
theorem dX0_makeTidy_76 : decode cX0_makeTidy 76 = .ok (.aload_n 0, 1) := by decide +kernel
theorem dX0_makeTidy_77 : decode cX0_makeTidy 77 = .ok (.aload_n 0, 1) := by decide +kernel
theorem dX0_makeTidy_78 : decode cX0_makeTidy 78 = .ok (.getfield 24, 3) := by decide +kernel
theorem dX0_makeTidy_81 : decode cX0_makeTidy 81 = .ok (.putfield 20, 3) := by decide +kernel
theorem dX0_makeTidy_84 : decode cX0_makeTidy 84 = .ok (.aload_n 0, 1) := by decide +kernel
theorem dX0_makeTidy_85 : decode cX0_makeTidy 85 = .ok (.aload_n 2, 1) := by decide +kernel
theorem dX0_makeTidy_86 : decode cX0_makeTidy 86 = .ok (.putfield 24, 3) := by decide +kernel
theorem dX0_makeTidy_89 : decode cX0_makeTidy 89 = .ok (.aload_n 0, 1) := by decide +kernel
theorem dX0_makeTidy_90 : decode cX0_makeTidy 90 = .ok (.iload_n 1, 1) := by decide +kernel
theorem dX0_makeTidy_91 : decode cX0_makeTidy 91 = .ok (.putfield 44, 3) := by decide +kernel
theorem dX0_makeTidy_94 : decode cX0_makeTidy 94 = .ok (.aload_n 0, 1) := by decide +kernel
theorem dX0_makeTidy_95 : decode cX0_makeTidy 95 = .ok (.iconst 1, 1) := by decide +kernel
theorem dX0_makeTidy_96 : decode cX0_makeTidy 96 = .ok (.putfield 49, 3) := by decide +kernel
theorem dX0_makeTidy_99 : decode cX0_makeTidy 99 = .ok (.iload_n 1, 1) := by decide +kernel
theorem dX0_makeTidy_100 : decode cX0_makeTidy 100 = .ok (.ireturn, 1) := by decide +kernel
theorem dX0_sortThoseThatStay_0 : decode cX0_sortThoseThatStay 0 = .ok (.iconst 0, 1) := by decide +kernel
theorem dX0_sortThoseThatStay_1 : decode cX0_sortThoseThatStay 1 = .ok (.istore_n 1, 1) := by decide +kernel
theorem dX0_sortThoseThatStay_2 : decode cX0_sortThoseThatStay 2 = .ok (.iconst 0, 1) := by decide +kernel
theorem dX0_sortThoseThatStay_3 : decode cX0_sortThoseThatStay 3 = .ok (.istore_n 2, 1) := by decide +kernel
theorem dX0_sortThoseThatStay_4 : decode cX0_sortThoseThatStay 4 = .ok (.iload_n 2, 1) := by decide +kernel
theorem dX0_sortThoseThatStay_5 : decode cX0_sortThoseThatStay 5 = .ok (.aload_n 0, 1) := by decide +kernel
theorem dX0_sortThoseThatStay_6 : decode cX0_sortThoseThatStay 6 = .ok (.getfield 44, 3) := by decide +kernel
theorem dX0_sortThoseThatStay_9 : decode cX0_sortThoseThatStay 9 = .ok (.if_icmp .ge 95, 3) := by decide +kernel
theorem dX0_sortThoseThatStay_12 : decode cX0_sortThoseThatStay 12 = .ok (.aload_n 0, 1) := by decide +kernel
theorem dX0_sortThoseThatStay_13 : decode cX0_sortThoseThatStay 13 = .ok (.iload_n 2, 1) := by decide +kernel
theorem dX0_sortThoseThatStay_14 : decode cX0_sortThoseThatStay 14 = .ok (.invokevirtual 161, 3) := by decide +kernel
theorem dX0_sortThoseThatStay_17 : decode cX0_sortThoseThatStay 17 = .ok (.ifCond .ne 81, 3) := by decide +kernel
theorem dX0_sortThoseThatStay_20 : decode cX0_sortThoseThatStay 20 = .ok (.iload_n 1, 1) := by decide +kernel
theorem dX0_sortThoseThatStay_21 : decode cX0_sortThoseThatStay 21 = .ok (.istore_n 3, 1) := by decide +kernel
theorem dX0_sortThoseThatStay_22 : decode cX0_sortThoseThatStay 22 = .ok (.iload_n 3, 1) := by decide +kernel
end
section
theorem dX0_sortThoseThatStay_23 : decode cX0_sortThoseThatStay 23 = .ok (.ifCond .le 65, 3) := by decide +kernel
theorem dX0_sortThoseThatStay_26 : decode cX0_sortThoseThatStay 26 = .ok (.aload_n 0, 1) := by decide +kernel
theorem dX0_sortThoseThatStay_27 : decode cX0_sortThoseThatStay 27 = .ok (.getfield 36, 3) := by decide +kernel
theorem dX0_sortThoseThatStay_30 : decode cX0_sortThoseThatStay 30 = .ok (.aload_n 0, 1) := by decide +kernel
theorem dX0_sortThoseThatStay_31 : decode cX0_sortThoseThatStay 31 = .ok (.getfield 20, 3) := by decide +kernel
theorem dX0_sortThoseThatStay_34 : decode cX0_sortThoseThatStay 34 = .ok (.aload_n 0, 1) := by decide +kernel
theorem dX0_sortThoseThatStay_35 : decode cX0_sortThoseThatStay 35 = .ok (.getfield 27, 3) := by decide +kernel
theorem dX0_sortThoseThatStay_38 : decode cX0_sortThoseThatStay 38 = .ok (.iload_n 3, 1) := by decide +kernel
theorem dX0_sortThoseThatStay_39 : decode cX0_sortThoseThatStay 39 = .ok (.iconst 1, 1) := by decide +kernel
theorem dX0_sortThoseThatStay_40 : decode cX0_sortThoseThatStay 40 = .ok (.isub, 1) := by decide +kernel
theorem dX0_sortThoseThatStay_41 : decode cX0_sortThoseThatStay 41 = .ok (.iaload, 1) := by decide +kernel
theorem dX0_sortThoseThatStay_42 : decode cX0_sortThoseThatStay 42 = .ok (.aaload, 1) := by decide +kernel
theorem dX0_sortThoseThatStay_43 : decode cX0_sortThoseThatStay 43 = .ok (.invokevirtual 114, 3) := by decide +kernel
theorem dX0_sortThoseThatStay_46 : decode cX0_sortThoseThatStay 46 = .ok (.invokevirtual 108, 3) := by decide +kernel
theorem dX0_sortThoseThatStay_49 : decode cX0_sortThoseThatStay 49 = .ok (.aload_n 0, 1) := by decide +kernel
theorem dX0_sortThoseThatStay_50 : decode cX0_sortThoseThatStay 50 = .ok (.getfield 36, 3) := by decide +kernel
theorem dX0_sortThoseThatStay_53 : decode cX0_sortThoseThatStay 53 = .ok (.aload_n 0, 1) := by decide +kernel
theorem dX0_sortThoseThatStay_54 : decode cX0_sortThoseThatStay 54 = .ok (.getfield 20, 3) := by decide +kernel
theorem dX0_sortThoseThatStay_57 : decode cX0_sortThoseThatStay 57 = .ok (.iload_n 2, 1) := by decide +kernel
theorem dX0_sortThoseThatStay_58 : decode cX0_sortThoseThatStay 58 = .ok (.aaload, 1) := by decide +kernel
theorem dX0_sortThoseThatStay_59 : decode cX0_sortThoseThatStay 59 = .ok (.invokevirtual 114, 3) := by decide +kernel
theorem dX0_sortThoseThatStay_62 : decode cX0_sortThoseThatStay 62 = .ok (.invokevirtual 108, 3) := by decide +kernel
theorem dX0_sortThoseThatStay_65 : decode cX0_sortThoseThatStay 65 = .ok (.if_icmp .le 23, 3) := by decide +kernel
theorem dX0_sortThoseThatStay_68 : decode cX0_sortThoseThatStay 68 = .ok (.aload_n 0, 1) := by decide +kernel
theorem dX0_sortThoseThatStay_69 : decode cX0_sortThoseThatStay 69 = .ok (.getfield 27, 3) := by decide +kernel
theorem dX0_sortThoseThatStay_72 : decode cX0_sortThoseThatStay 72 = .ok (.iload_n 3, 1) := by decide +kernel
theorem dX0_sortThoseThatStay_73 : decode cX0_sortThoseThatStay 73 = .ok (.aload_n 0, 1) := by decide +kernel
theorem dX0_sortThoseThatStay_74 : decode cX0_sortThoseThatStay 74 = .ok (.getfield 27, 3) := by decide +kernel
theorem dX0_sortThoseThatStay_77 : decode cX0_sortThoseThatStay 77 = .ok (.iload_n 3, 1) := by decide +kernel
theorem dX0_sortThoseThatStay_78 : decode cX0_sortThoseThatStay 78 = .ok (.iconst 1, 1) := by decide +kernel
theorem dX0_sortThoseThatStay_79 : decode cX0_sortThoseThatStay 79 = .ok (.isub, 1) := by decide +kernel
theorem dX0_sortThoseThatStay_80 : decode cX0_sortThoseThatStay 80 = .ok (.iaload, 1) := by decide +kernel
theorem dX0_sortThoseThatStay_81 : decode cX0_sortThoseThatStay 81 = .ok (.iastore, 1) := by decide +kernel
theorem dX0_sortThoseThatStay_82 : decode cX0_sortThoseThatStay 82 = .ok (.iinc 3 (-1), 3) := by decide +kernel
theorem dX0_sortThoseThatStay_85 : decode cX0_sortThoseThatStay 85 = .ok (.goto (-63), 3) := by decide +kernel
theorem dX0_sortThoseThatStay_88 : decode cX0_sortThoseThatStay 88 = .ok (.aload_n 0, 1) := by decide +kernel
theorem dX0_sortThoseThatStay_89 : decode cX0_sortThoseThatStay 89 = .ok (.getfield 27, 3) := by decide +kernel
theorem dX0_sortThoseThatStay_92 : decode cX0_sortThoseThatStay 92 = .ok (.iload_n 3, 1) := by decide +kernel
theorem dX0_sortThoseThatStay_93 : decode cX0_sortThoseThatStay 93 = .ok (.iload_n 2, 1) := by decide +kernel
theorem dX0_sortThoseThatStay_94 : decode cX0_sortThoseThatStay 94 = .ok (.iastore, 1) := by decide +kernel
theorem dX0_sortThoseThatStay_95 : decode cX0_sortThoseThatStay 95 = .ok (.iinc 1 1, 3) := by decide +kernel
theorem dX0_sortThoseThatStay_98 : decode cX0_sortThoseThatStay 98 = .ok (.iinc 2 1, 3) := by decide +kernel
theorem dX0_sortThoseThatStay_101 : decode cX0_sortThoseThatStay 101 = .ok (.goto (-97), 3) := by decide +kernel
theorem dX0_sortThoseThatStay_104 : decode cX0_sortThoseThatStay 104 = .ok (.iload_n 1, 1) := by decide +kernel
theorem dX0_sortThoseThatStay_105 : decode cX0_sortThoseThatStay 105 = .ok (.ireturn, 1) := by decide +kernel
theorem dX0_isNeedless_0 : decode cX0_isNeedless 0 = .ok (.aload_n 0, 1) := by decide +kernel
theorem dX0_isNeedless_1 : decode cX0_isNeedless 1 = .ok (.getfield 20, 3) := by decide +kernel
theorem dX0_isNeedless_4 : decode cX0_isNeedless 4 = .ok (.iload_n 1, 1) := by decide +kernel
theorem dX0_isNeedless_5 : decode cX0_isNeedless 5 = .ok (.aaload, 1) := by decide +kernel
theorem dX0_isNeedless_6 : decode cX0_isNeedless 6 = .ok (.invokevirtual 114, 3) := by decide +kernel
theorem dX0_isNeedless_9 : decode cX0_isNeedless 9 = .ok (.istore_n 2, 1) := by decide +kernel
theorem dX0_isNeedless_10 : decode cX0_isNeedless 10 = .ok (.iconst 0, 1) := by decide +kernel
theorem dX0_isNeedless_11 : decode cX0_isNeedless 11 = .ok (.istore_n 3, 1) := by decide +kernel
theorem dX0_isNeedless_12 : decode cX0_isNeedless 12 = .ok (.iload_n 3, 1) := by decide +kernel
theorem dX0_isNeedless_13 : decode cX0_isNeedless 13 = .ok (.aload_n 0, 1) := by decide +kernel
theorem dX0_isNeedless_14 : decode cX0_isNeedless 14 = .ok (.getfield 44, 3) := by decide +kernel
theorem dX0_isNeedless_17 : decode cX0_isNeedless 17 = .ok (.if_icmp .ge 47, 3) := by decide +kernel
theorem dX0_isNeedless_20 : decode cX0_isNeedless 20 = .ok (.aload_n 0, 1) := by decide +kernel
theorem dX0_isNeedless_21 : decode cX0_isNeedless 21 = .ok (.getfield 20, 3) := by decide +kernel
theorem dX0_isNeedless_24 : decode cX0_isNeedless 24 = .ok (.iload_n 3, 1) := by decide +kernel
theorem dX0_isNeedless_25 : decode cX0_isNeedless 25 = .ok (.aaload, 1) := by decide +kernel
theorem dX0_isNeedless_26 : decode cX0_isNeedless 26 = .ok (.invokevirtual 114, 3) := by decide +kernel
theorem dX0_isNeedless_29 : decode cX0_isNeedless 29 = .ok (.istore 4, 2) := by decide +kernel
theorem dX0_isNeedless_31 : decode cX0_isNeedless 31 = .ok (.iload_n 3, 1) := by decide +kernel
theorem dX0_isNeedless_32 : decode cX0_isNeedless 32 = .ok (.iload_n 1, 1) := by decide +kernel
theorem dX0_isNeedless_33 : decode cX0_isNeedless 33 = .ok (.if_icmp .eq 25, 3) := by decide +kernel
theorem dX0_isNeedless_36 : decode cX0_isNeedless 36 = .ok (.iload 4, 2) := by decide +kernel
theorem dX0_isNeedless_38 : decode cX0_isNeedless 38 = .ok (.iload_n 2, 1) := by decide +kernel
theorem dX0_isNeedless_39 : decode cX0_isNeedless 39 = .ok (.invokestatic 126, 3) := by decide +kernel
theorem dX0_isNeedless_42 : decode cX0_isNeedless 42 = .ok (.ifCond .eq 16, 3) := by decide +kernel
theorem dX0_isNeedless_45 : decode cX0_isNeedless 45 = .ok (.iload 4, 2) := by decide +kernel
theorem dX0_isNeedless_47 : decode cX0_isNeedless 47 = .ok (.iload_n 2, 1) := by decide +kernel
theorem dX0_isNeedless_48 : decode cX0_isNeedless 48 = .ok (.if_icmp .ne 8, 3) := by decide +kernel
theorem dX0_isNeedless_51 : decode cX0_isNeedless 51 = .ok (.iload_n 3, 1) := by decide +kernel
theorem dX0_isNeedless_52 : decode cX0_isNeedless 52 = .ok (.iload_n 1, 1) := by decide +kernel
theorem dX0_isNeedless_53 : decode cX0_isNeedless 53 = .ok (.if_icmp .ge 5, 3) := by decide +kernel
theorem dX0_isNeedless_56 : decode cX0_isNeedless 56 = .ok (.iconst 1, 1) := by decide +kernel
theorem dX0_isNeedless_57 : decode cX0_isNeedless 57 = .ok (.ireturn, 1) := by decide +kernel
theorem dX0_isNeedless_58 : decode cX0_isNeedless 58 = .ok (.iinc 3 1, 3) := by decide +kernel
theorem dX0_isNeedless_61 : decode cX0_isNeedless 61 = .ok (.goto (-49), 3) := by decide +kernel
theorem dX0_isNeedless_64 : decode cX0_isNeedless 64 = .ok (.iconst 0, 1) := by decide +kernel
theorem dX0_isNeedless_65 : decode cX0_isNeedless 65 = .ok (.ireturn, 1) := by decide +kernel
theorem dX0_reduceTail_0 : decode cX0_reduceTail 0 = .ok (.aload_n 0, 1) := by decide +kernel
theorem dX0_reduceTail_1 : decode cX0_reduceTail 1 = .ok (.getfield 24, 3) := by decide +kernel
theorem dX0_reduceTail_4 : decode cX0_reduceTail 4 = .ok (.iload_n 1, 1) := by decide +kernel
theorem dX0_reduceTail_5 : decode cX0_reduceTail 5 = .ok (.aaload, 1) := by decide +kernel
theorem dX0_reduceTail_6 : decode cX0_reduceTail 6 = .ok (.astore_n 3, 1) := by decide +kernel
theorem dX0_reduceTail_7 : decode cX0_reduceTail 7 = .ok (.aload_n 0, 1) := by decide +kernel
theorem dX0_reduceTail_8 : decode cX0_reduceTail 8 = .ok (.getfield 32, 3) := by decide +kernel
theorem dX0_reduceTail_11 : decode cX0_reduceTail 11 = .ok (.aload_n 3, 1) := by decide +kernel
theorem dX0_reduceTail_12 : decode cX0_reduceTail 12 = .ok (.iconst 1, 1) := by decide +kernel
theorem dX0_reduceTail_13 : decode cX0_reduceTail 13 = .ok (.invokevirtual 164, 3) := by decide +kernel
theorem dX0_reduceTail_16 : decode cX0_reduceTail 16 = .ok (.aload_n 0, 1) := by decide +kernel
theorem dX0_reduceTail_17 : decode cX0_reduceTail 17 = .ok (.getfield 40, 3) := by decide +kernel
theorem dX0_reduceTail_20 : decode cX0_reduceTail 20 = .ok (.aload_n 0, 1) := by decide +kernel
theorem dX0_reduceTail_21 : decode cX0_reduceTail 21 = .ok (.getfield 32, 3) := by decide +kernel
theorem dX0_reduceTail_24 : decode cX0_reduceTail 24 = .ok (.aload_n 0, 1) := by decide +kernel
theorem dX0_reduceTail_25 : decode cX0_reduceTail 25 = .ok (.getfield 24, 3) := by decide +kernel
theorem dX0_reduceTail_28 : decode cX0_reduceTail 28 = .ok (.iload_n 2, 1) := by decide +kernel
theorem dX0_reduceTail_29 : decode cX0_reduceTail 29 = .ok (.iload_n 1, 1) := by decide +kernel
theorem dX0_reduceTail_30 : decode cX0_reduceTail 30 = .ok (.invokevirtual 137, 3) := by decide +kernel
theorem dX0_reduceTail_33 : decode cX0_reduceTail 33 = .ok (.istore 4, 2) := by decide +kernel
theorem dX0_reduceTail_35 : decode cX0_reduceTail 35 = .ok (.iload 4, 2) := by decide +kernel
theorem dX0_reduceTail_37 : decode cX0_reduceTail 37 = .ok (.ifCond .eq 6, 3) := by decide +kernel
theorem dX0_reduceTail_40 : decode cX0_reduceTail 40 = .ok (.iload 4, 2) := by decide +kernel
theorem dX0_reduceTail_42 : decode cX0_reduceTail 42 = .ok (.ireturn, 1) := by decide +kernel
theorem dX0_reduceTail_43 : decode cX0_reduceTail 43 = .ok (.aload_n 3, 1) := by decide +kernel
theorem dX0_reduceTail_44 : decode cX0_reduceTail 44 = .ok (.iconst 1, 1) := by decide +kernel
theorem dX0_reduceTail_45 : decode cX0_reduceTail 45 = .ok (.putfield 144, 3) := by decide +kernel
theorem dX0_reduceTail_48 : decode cX0_reduceTail 48 = .ok (.iconst 0, 1) := by decide +kernel
theorem dX0_reduceTail_49 : decode cX0_reduceTail 49 = .ok (.istore 5, 2) := by decide +kernel
theorem dX0_reduceTail_51 : decode cX0_reduceTail 51 = .ok (.iload 5, 2) := by decide +kernel
theorem dX0_reduceTail_53 : decode cX0_reduceTail 53 = .ok (.aload_n 0, 1) := by decide +kernel
theorem dX0_reduceTail_54 : decode cX0_reduceTail 54 = .ok (.getfield 40, 3) := by decide +kernel
theorem dX0_reduceTail_57 : decode cX0_reduceTail 57 = .ok (.getfield 141, 3) := by decide +kernel
theorem dX0_reduceTail_60 : decode cX0_reduceTail 60 = .ok (.getfield 144, 3) := by decide +kernel
theorem dX0_reduceTail_63 : decode cX0_reduceTail 63 = .ok (.if_icmp .ge 45, 3) := by decide +kernel
theorem dX0_reduceTail_66 : decode cX0_reduceTail 66 = .ok (.aload_n 3, 1) := by decide +kernel
theorem dX0_reduceTail_67 : decode cX0_reduceTail 67 = .ok (.aload_n 0, 1) := by decide +kernel
theorem dX0_reduceTail_68 : decode cX0_reduceTail 68 = .ok (.getfield 40, 3) := by decide +kernel
theorem dX0_reduceTail_71 : decode cX0_reduceTail 71 = .ok (.getfield 141, 3) := by decide +kernel
theorem dX0_reduceTail_74 : decode cX0_reduceTail 74 = .ok (.getfield 168, 3) := by decide +kernel
theorem dX0_reduceTail_77 : decode cX0_reduceTail 77 = .ok (.iload 5, 2) := by decide +kernel
theorem dX0_reduceTail_79 : decode cX0_reduceTail 79 = .ok (.iaload, 1) := by decide +kernel
theorem dX0_reduceTail_80 : decode cX0_reduceTail 80 = .ok (.aload_n 0, 1) := by decide +kernel
theorem dX0_reduceTail_81 : decode cX0_reduceTail 81 = .ok (.getfield 40, 3) := by decide +kernel
theorem dX0_reduceTail_84 : decode cX0_reduceTail 84 = .ok (.getfield 141, 3) := by decide +kernel
theorem dX0_reduceTail_87 : decode cX0_reduceTail 87 = .ok (.getfield 171, 3) := by decide +kernel
theorem dX0_reduceTail_90 : decode cX0_reduceTail 90 = .ok (.iload 5, 2) := by decide +kernel
theorem dX0_reduceTail_92 : decode cX0_reduceTail 92 = .ok (.iaload, 1) := by decide +kernel
theorem dX0_reduceTail_93 : decode cX0_reduceTail 93 = .ok (.invokevirtual 174, 3) := by decide +kernel
theorem dX0_reduceTail_96 : decode cX0_reduceTail 96 = .ok (.ifCond .ne 6, 3) := by decide +kernel
theorem dX0_reduceTail_99 : decode cX0_reduceTail 99 = .ok (.bipush (-6), 2) := by decide +kernel
theorem dX0_reduceTail_101 : decode cX0_reduceTail 101 = .ok (.ireturn, 1) := by decide +kernel
theorem dX0_reduceTail_102 : decode cX0_reduceTail 102 = .ok (.iinc 5 1, 3) := by decide +kernel
theorem dX0_reduceTail_105 : decode cX0_reduceTail 105 = .ok (.goto (-54), 3) := by decide +kernel
theorem dX0_reduceTail_108 : decode cX0_reduceTail 108 = .ok (.iconst 0, 1) := by decide +kernel
theorem dX0_reduceTail_109 : decode cX0_reduceTail 109 = .ok (.ireturn, 1) := by decide +kernel
theorem dX0_countWithoutFirst_0 : decode cX0_countWithoutFirst 0 = .ok (.iconst 0, 1) := by decide +kernel
theorem dX0_countWithoutFirst_1 : decode cX0_countWithoutFirst 1 = .ok (.istore_n 2, 1) := by decide +kernel
theorem dX0_countWithoutFirst_2 : decode cX0_countWithoutFirst 2 = .ok (.iconst 0, 1) := by decide +kernel
theorem dX0_countWithoutFirst_3 : decode cX0_countWithoutFirst 3 = .ok (.istore_n 3, 1) := by decide +kernel
theorem dX0_countWithoutFirst_4 : decode cX0_countWithoutFirst 4 = .ok (.iload_n 3, 1) := by decide +kernel
theorem dX0_countWithoutFirst_5 : decode cX0_countWithoutFirst 5 = .ok (.aload_n 0, 1) := by decide +kernel
theorem dX0_countWithoutFirst_6 : decode cX0_countWithoutFirst 6 = .ok (.getfield 44, 3) := by decide +kernel
theorem dX0_countWithoutFirst_9 : decode cX0_countWithoutFirst 9 = .ok (.if_icmp .ge 25, 3) := by decide +kernel
theorem dX0_countWithoutFirst_12 : decode cX0_countWithoutFirst 12 = .ok (.aload_n 0, 1) := by decide +kernel
theorem dX0_countWithoutFirst_13 : decode cX0_countWithoutFirst 13 = .ok (.getfield 20, 3) := by decide +kernel
theorem dX0_countWithoutFirst_16 : decode cX0_countWithoutFirst 16 = .ok (.iload_n 3, 1) := by decide +kernel
theorem dX0_countWithoutFirst_17 : decode cX0_countWithoutFirst 17 = .ok (.aaload, 1) := by decide +kernel
theorem dX0_countWithoutFirst_18 : decode cX0_countWithoutFirst 18 = .ok (.iload_n 1, 1) := by decide +kernel
theorem dX0_countWithoutFirst_19 : decode cX0_countWithoutFirst 19 = .ok (.invokestatic 177, 3) := by decide +kernel
theorem dX0_countWithoutFirst_22 : decode cX0_countWithoutFirst 22 = .ok (.ifCond .ne 6, 3) := by decide +kernel
theorem dX0_countWithoutFirst_25 : decode cX0_countWithoutFirst 25 = .ok (.iinc 2 1, 3) := by decide +kernel
theorem dX0_countWithoutFirst_28 : decode cX0_countWithoutFirst 28 = .ok (.iinc 3 1, 3) := by decide +kernel
theorem dX0_countWithoutFirst_31 : decode cX0_countWithoutFirst 31 = .ok (.goto (-27), 3) := by decide +kernel
theorem dX0_countWithoutFirst_34 : decode cX0_countWithoutFirst 34 = .ok (.iload_n 2, 1) := by decide +kernel
theorem dX0_countWithoutFirst_35 : decode cX0_countWithoutFirst 35 = .ok (.ireturn, 1) := by decide +kernel
theorem dX0_hasOneOfFirst_0 : decode cX0_hasOneOfFirst 0 = .ok (.iconst 0, 1) := by decide +kernel
theorem dX0_hasOneOfFirst_1 : decode cX0_hasOneOfFirst 1 = .ok (.istore_n 2, 1) := by decide +kernel
theorem dX0_hasOneOfFirst_2 : decode cX0_hasOneOfFirst 2 = .ok (.iload_n 2, 1) := by decide +kernel
theorem dX0_hasOneOfFirst_3 : decode cX0_hasOneOfFirst 3 = .ok (.aload_n 0, 1) := by decide +kernel
theorem dX0_hasOneOfFirst_4 : decode cX0_hasOneOfFirst 4 = .ok (.getfield 144, 3) := by decide +kernel
theorem dX0_hasOneOfFirst_7 : decode cX0_hasOneOfFirst 7 = .ok (.if_icmp .ge 37, 3) := by decide +kernel
theorem dX0_hasOneOfFirst_10 : decode cX0_hasOneOfFirst 10 = .ok (.iconst 0, 1) := by decide +kernel
theorem dX0_hasOneOfFirst_11 : decode cX0_hasOneOfFirst 11 = .ok (.istore_n 3, 1) := by decide +kernel
theorem dX0_hasOneOfFirst_12 : decode cX0_hasOneOfFirst 12 = .ok (.iload_n 3, 1) := by decide +kernel
theorem dX0_hasOneOfFirst_13 : decode cX0_hasOneOfFirst 13 = .ok (.iload_n 1, 1) := by decide +kernel
theorem dX0_hasOneOfFirst_14 : decode cX0_hasOneOfFirst 14 = .ok (.if_icmp .ge 24, 3) := by decide +kernel
theorem dX0_hasOneOfFirst_17 : decode cX0_hasOneOfFirst 17 = .ok (.aload_n 0, 1) := by decide +kernel
theorem dX0_hasOneOfFirst_18 : decode cX0_hasOneOfFirst 18 = .ok (.getfield 171, 3) := by decide +kernel
theorem dX0_hasOneOfFirst_21 : decode cX0_hasOneOfFirst 21 = .ok (.iload_n 2, 1) := by decide +kernel
theorem dX0_hasOneOfFirst_22 : decode cX0_hasOneOfFirst 22 = .ok (.iaload, 1) := by decide +kernel
theorem dX0_hasOneOfFirst_23 : decode cX0_hasOneOfFirst 23 = .ok (.iload_n 3, 1) := by decide +kernel
theorem dX0_hasOneOfFirst_24 : decode cX0_hasOneOfFirst 24 = .ok (.invokestatic 181, 3) := by decide +kernel
theorem dX0_hasOneOfFirst_27 : decode cX0_hasOneOfFirst 27 = .ok (.ifCond .le 5, 3) := by decide +kernel
theorem dX0_hasOneOfFirst_30 : decode cX0_hasOneOfFirst 30 = .ok (.iconst 1, 1) := by decide +kernel
theorem dX0_hasOneOfFirst_31 : decode cX0_hasOneOfFirst 31 = .ok (.ireturn, 1) := by decide +kernel
theorem dX0_hasOneOfFirst_32 : decode cX0_hasOneOfFirst 32 = .ok (.iinc 3 1, 3) := by decide +kernel
theorem dX0_hasOneOfFirst_35 : decode cX0_hasOneOfFirst 35 = .ok (.goto (-23), 3) := by decide +kernel
theorem dX0_hasOneOfFirst_38 : decode cX0_hasOneOfFirst 38 = .ok (.iinc 2 1, 3) := by decide +kernel
theorem dX0_hasOneOfFirst_41 : decode cX0_hasOneOfFirst 41 = .ok (.goto (-39), 3) := by decide +kernel
theorem dX0_hasOneOfFirst_44 : decode cX0_hasOneOfFirst 44 = .ok (.iconst 0, 1) := by decide +kernel
theorem dX0_hasOneOfFirst_45 : decode cX0_hasOneOfFirst 45 = .ok (.ireturn, 1) := by decide +kernel
theorem dX0_isZeroAtPoint_0 : decode cX0_isZeroAtPoint 0 = .ok (.iconst 0, 1) := by decide +kernel
theorem dX0_isZeroAtPoint_1 : decode cX0_isZeroAtPoint 1 = .ok (.istore_n 1, 1) := by decide +kernel
theorem dX0_isZeroAtPoint_2 : decode cX0_isZeroAtPoint 2 = .ok (.iload_n 1, 1) := by decide +kernel
theorem dX0_isZeroAtPoint_3 : decode cX0_isZeroAtPoint 3 = .ok (.aload_n 0, 1) := by decide +kernel
theorem dX0_isZeroAtPoint_4 : decode cX0_isZeroAtPoint 4 = .ok (.getfield 44, 3) := by decide +kernel
theorem dX0_isZeroAtPoint_7 : decode cX0_isZeroAtPoint 7 = .ok (.if_icmp .ge 27, 3) := by decide +kernel
theorem dX0_isZeroAtPoint_10 : decode cX0_isZeroAtPoint 10 = .ok (.aload_n 0, 1) := by decide +kernel
theorem dX0_isZeroAtPoint_11 : decode cX0_isZeroAtPoint 11 = .ok (.getfield 36, 3) := by decide +kernel
theorem dX0_isZeroAtPoint_14 : decode cX0_isZeroAtPoint 14 = .ok (.aload_n 0, 1) := by decide +kernel
theorem dX0_isZeroAtPoint_15 : decode cX0_isZeroAtPoint 15 = .ok (.getfield 20, 3) := by decide +kernel
theorem dX0_isZeroAtPoint_18 : decode cX0_isZeroAtPoint 18 = .ok (.iload_n 1, 1) := by decide +kernel
theorem dX0_isZeroAtPoint_19 : decode cX0_isZeroAtPoint 19 = .ok (.aaload, 1) := by decide +kernel
theorem dX0_isZeroAtPoint_20 : decode cX0_isZeroAtPoint 20 = .ok (.invokevirtual 184, 3) := by decide +kernel
theorem dX0_isZeroAtPoint_23 : decode cX0_isZeroAtPoint 23 = .ok (.ifCond .eq 5, 3) := by decide +kernel
theorem dX0_isZeroAtPoint_26 : decode cX0_isZeroAtPoint 26 = .ok (.iconst 0, 1) := by decide +kernel
theorem dX0_isZeroAtPoint_27 : decode cX0_isZeroAtPoint 27 = .ok (.ireturn, 1) := by decide +kernel
theorem dX0_isZeroAtPoint_28 : decode cX0_isZeroAtPoint 28 = .ok (.iinc 1 1, 3) := by decide +kernel
theorem dX0_isZeroAtPoint_31 : decode cX0_isZeroAtPoint 31 = .ok (.goto (-29), 3) := by decide +kernel
theorem dX0_isZeroAtPoint_34 : decode cX0_isZeroAtPoint 34 = .ok (.iconst 1, 1) := by decide +kernel
theorem dX0_isZeroAtPoint_35 : decode cX0_isZeroAtPoint 35 = .ok (.ireturn, 1) := by decide +kernel
theorem dX0_hasHeadDividing_0 : decode cX0_hasHeadDividing 0 = .ok (.iconst 0, 1) := by decide +kernel
theorem dX0_hasHeadDividing_1 : decode cX0_hasHeadDividing 1 = .ok (.istore_n 2, 1) := by decide +kernel
theorem dX0_hasHeadDividing_2 : decode cX0_hasHeadDividing 2 = .ok (.iload_n 2, 1) := by decide +kernel
theorem dX0_hasHeadDividing_3 : decode cX0_hasHeadDividing 3 = .ok (.aload_n 0, 1) := by decide +kernel
theorem dX0_hasHeadDividing_4 : decode cX0_hasHeadDividing 4 = .ok (.getfield 44, 3) := by decide +kernel
theorem dX0_hasHeadDividing_7 : decode cX0_hasHeadDividing 7 = .ok (.if_icmp .ge 27, 3) := by decide +kernel
theorem dX0_hasHeadDividing_10 : decode cX0_hasHeadDividing 10 = .ok (.aload_n 0, 1) := by decide +kernel
theorem dX0_hasHeadDividing_11 : decode cX0_hasHeadDividing 11 = .ok (.getfield 20, 3) := by decide +kernel
theorem dX0_hasHeadDividing_14 : decode cX0_hasHeadDividing 14 = .ok (.iload_n 2, 1) := by decide +kernel
theorem dX0_hasHeadDividing_15 : decode cX0_hasHeadDividing 15 = .ok (.aaload, 1) := by decide +kernel
theorem dX0_hasHeadDividing_16 : decode cX0_hasHeadDividing 16 = .ok (.invokevirtual 114, 3) := by decide +kernel
theorem dX0_hasHeadDividing_19 : decode cX0_hasHeadDividing 19 = .ok (.iload_n 1, 1) := by decide +kernel
theorem dX0_hasHeadDividing_20 : decode cX0_hasHeadDividing 20 = .ok (.invokestatic 126, 3) := by decide +kernel
theorem dX0_hasHeadDividing_23 : decode cX0_hasHeadDividing 23 = .ok (.ifCond .eq 5, 3) := by decide +kernel
theorem dX0_hasHeadDividing_26 : decode cX0_hasHeadDividing 26 = .ok (.iconst 1, 1) := by decide +kernel
theorem dX0_hasHeadDividing_27 : decode cX0_hasHeadDividing 27 = .ok (.ireturn, 1) := by decide +kernel
theorem dX0_hasHeadDividing_28 : decode cX0_hasHeadDividing 28 = .ok (.iinc 2 1, 3) := by decide +kernel
theorem dX0_hasHeadDividing_31 : decode cX0_hasHeadDividing 31 = .ok (.goto (-29), 3) := by decide +kernel
theorem dX0_hasHeadDividing_34 : decode cX0_hasHeadDividing 34 = .ok (.iconst 0, 1) := by decide +kernel
theorem dX0_hasHeadDividing_35 : decode cX0_hasHeadDividing 35 = .ok (.ireturn, 1) := by decide +kernel
theorem dX7_init_0 : decode cX7_init 0 = .ok (.aload_n 0, 1) := by decide +kernel
theorem dX7_init_1 : decode cX7_init 1 = .ok (.invokespecial 3, 3) := by decide +kernel
theorem dX7_init_4 : decode cX7_init 4 = .ok (.aload_n 0, 1) := by decide +kernel
theorem dX7_init_5 : decode cX7_init 5 = .ok (.sipush 300, 3) := by decide +kernel
theorem dX7_init_8 : decode cX7_init 8 = .ok (.newarray .int, 2) := by decide +kernel
theorem dX7_init_10 : decode cX7_init 10 = .ok (.putfield 9, 3) := by decide +kernel
theorem dX7_init_13 : decode cX7_init 13 = .ok (.aload_n 0, 1) := by decide +kernel
theorem dX7_init_14 : decode cX7_init 14 = .ok (.aload_n 1, 1) := by decide +kernel
theorem dX7_init_15 : decode cX7_init 15 = .ok (.putfield 15, 3) := by decide +kernel
theorem dX7_init_18 : decode cX7_init 18 = .ok (.aload_n 0, 1) := by decide +kernel
theorem dX7_init_19 : decode cX7_init 19 = .ok (.aload_n 2, 1) := by decide +kernel
theorem dX7_init_20 : decode cX7_init 20 = .ok (.putfield 19, 3) := by decide +kernel
theorem dX7_init_23 : decode cX7_init 23 = .ok (.return_, 1) := by decide +kernel
theorem dX7_find_0 : decode cX7_find 0 = .ok (.iconst 0, 1) := by decide +kernel
theorem dX7_find_1 : decode cX7_find 1 = .ok (.istore_n 1, 1) := by decide +kernel
theorem dX7_find_2 : decode cX7_find 2 = .ok (.aload_n 0, 1) := by decide +kernel
theorem dX7_find_3 : decode cX7_find 3 = .ok (.getfield 19, 3) := by decide +kernel
theorem dX7_find_6 : decode cX7_find 6 = .ok (.iconst 0, 1) := by decide +kernel
theorem dX7_find_7 : decode cX7_find 7 = .ok (.invokevirtual 23, 3) := by decide +kernel
theorem dX7_find_10 : decode cX7_find 10 = .ok (.ifCond .eq 7, 3) := by decide +kernel
theorem dX7_find_13 : decode cX7_find 13 = .ok (.iconst (-1), 1) := by decide +kernel
theorem dX7_find_14 : decode cX7_find 14 = .ok (.goto 4, 3) := by decide +kernel
theorem dX7_find_17 : decode cX7_find 17 = .ok (.iconst 0, 1) := by decide +kernel
theorem dX7_find_18 : decode cX7_find 18 = .ok (.istore_n 2, 1) := by decide +kernel
theorem dX7_find_19 : decode cX7_find 19 = .ok (.iload_n 2, 1) := by decide +kernel
theorem dX7_find_20 : decode cX7_find 20 = .ok (.ifCond .lt 37, 3) := by decide +kernel
theorem dX7_find_23 : decode cX7_find 23 = .ok (.iload_n 1, 1) := by decide +kernel
theorem dX7_find_24 : decode cX7_find 24 = .ok (.sipush 300, 3) := by decide +kernel
theorem dX7_find_27 : decode cX7_find 27 = .ok (.if_icmp .ge 10, 3) := by decide +kernel
theorem dX7_find_30 : decode cX7_find 30 = .ok (.iload_n 2, 1) := by decide +kernel
theorem dX7_find_31 : decode cX7_find 31 = .ok (.invokestatic 29, 3) := by decide +kernel
theorem dX7_find_34 : decode cX7_find 34 = .ok (.ifCond .eq 5, 3) := by decide +kernel
theorem dX7_find_37 : decode cX7_find 37 = .ok (.iconst (-1), 1) := by decide +kernel
theorem dX7_find_38 : decode cX7_find 38 = .ok (.ireturn, 1) := by decide +kernel
theorem dX7_find_39 : decode cX7_find 39 = .ok (.aload_n 0, 1) := by decide +kernel
theorem dX7_find_40 : decode cX7_find 40 = .ok (.iload_n 2, 1) := by decide +kernel
theorem dX7_find_41 : decode cX7_find 41 = .ok (.iload_n 1, 1) := by decide +kernel
theorem dX7_find_42 : decode cX7_find 42 = .ok (.invokevirtual 34, 3) := by decide +kernel
theorem dX7_find_45 : decode cX7_find 45 = .ok (.iinc 1 1, 3) := by decide +kernel
theorem dX7_find_48 : decode cX7_find 48 = .ok (.aload_n 0, 1) := by decide +kernel
theorem dX7_find_49 : decode cX7_find 49 = .ok (.iload_n 2, 1) := by decide +kernel
theorem dX7_find_50 : decode cX7_find 50 = .ok (.invokevirtual 38, 3) := by decide +kernel
theorem dX7_find_53 : decode cX7_find 53 = .ok (.istore_n 2, 1) := by decide +kernel
theorem dX7_find_54 : decode cX7_find 54 = .ok (.goto (-35), 3) := by decide +kernel
theorem dX7_find_57 : decode cX7_find 57 = .ok (.iload_n 1, 1) := by decide +kernel
theorem dX7_find_58 : decode cX7_find 58 = .ok (.ireturn, 1) := by decide +kernel
theorem dX7_nextBehind_0 : decode cX7_nextBehind 0 = .ok (.iload_n 1, 1) := by decide +kernel
theorem dX7_nextBehind_1 : decode cX7_nextBehind 1 = .ok (.istore_n 2, 1) := by decide +kernel
theorem dX7_nextBehind_2 : decode cX7_nextBehind 2 = .ok (.aload_n 0, 1) := by decide +kernel
theorem dX7_nextBehind_3 : decode cX7_nextBehind 3 = .ok (.getfield 15, 3) := by decide +kernel
theorem dX7_nextBehind_6 : decode cX7_nextBehind 6 = .ok (.getfield 42, 3) := by decide +kernel
theorem dX7_nextBehind_9 : decode cX7_nextBehind 9 = .ok (.iconst 1, 1) := by decide +kernel
theorem dX7_nextBehind_10 : decode cX7_nextBehind 10 = .ok (.isub, 1) := by decide +kernel
theorem dX7_nextBehind_11 : decode cX7_nextBehind 11 = .ok (.istore_n 3, 1) := by decide +kernel
theorem dX7_nextBehind_12 : decode cX7_nextBehind 12 = .ok (.iload_n 3, 1) := by decide +kernel
theorem dX7_nextBehind_13 : decode cX7_nextBehind 13 = .ok (.ifCond .lt 42, 3) := by decide +kernel
theorem dX7_nextBehind_16 : decode cX7_nextBehind 16 = .ok (.iload_n 2, 1) := by decide +kernel
theorem dX7_nextBehind_17 : decode cX7_nextBehind 17 = .ok (.iload_n 3, 1) := by decide +kernel
theorem dX7_nextBehind_18 : decode cX7_nextBehind 18 = .ok (.invokestatic 48, 3) := by decide +kernel
theorem dX7_nextBehind_21 : decode cX7_nextBehind 21 = .ok (.iadd, 1) := by decide +kernel
theorem dX7_nextBehind_22 : decode cX7_nextBehind 22 = .ok (.istore_n 2, 1) := by decide +kernel
theorem dX7_nextBehind_23 : decode cX7_nextBehind 23 = .ok (.aload_n 0, 1) := by decide +kernel
theorem dX7_nextBehind_24 : decode cX7_nextBehind 24 = .ok (.getfield 19, 3) := by decide +kernel
theorem dX7_nextBehind_27 : decode cX7_nextBehind 27 = .ok (.iload_n 2, 1) := by decide +kernel
theorem dX7_nextBehind_28 : decode cX7_nextBehind 28 = .ok (.invokevirtual 23, 3) := by decide +kernel
theorem dX7_nextBehind_31 : decode cX7_nextBehind 31 = .ok (.ifCond .ne 5, 3) := by decide +kernel
theorem dX7_nextBehind_34 : decode cX7_nextBehind 34 = .ok (.iload_n 2, 1) := by decide +kernel
theorem dX7_nextBehind_35 : decode cX7_nextBehind 35 = .ok (.ireturn, 1) := by decide +kernel
theorem dX7_nextBehind_36 : decode cX7_nextBehind 36 = .ok (.iload_n 2, 1) := by decide +kernel
theorem dX7_nextBehind_37 : decode cX7_nextBehind 37 = .ok (.iload_n 2, 1) := by decide +kernel
theorem dX7_nextBehind_38 : decode cX7_nextBehind 38 = .ok (.iload_n 3, 1) := by decide +kernel
theorem dX7_nextBehind_39 : decode cX7_nextBehind 39 = .ok (.invokestatic 51, 3) := by decide +kernel
theorem dX7_nextBehind_42 : decode cX7_nextBehind 42 = .ok (.iload_n 3, 1) := by decide +kernel
theorem dX7_nextBehind_43 : decode cX7_nextBehind 43 = .ok (.invokestatic 48, 3) := by decide +kernel
theorem dX7_nextBehind_46 : decode cX7_nextBehind 46 = .ok (.imul, 1) := by decide +kernel
theorem dX7_nextBehind_47 : decode cX7_nextBehind 47 = .ok (.isub, 1) := by decide +kernel
theorem dX7_nextBehind_48 : decode cX7_nextBehind 48 = .ok (.istore_n 2, 1) := by decide +kernel
theorem dX7_nextBehind_49 : decode cX7_nextBehind 49 = .ok (.iinc 3 (-1), 3) := by decide +kernel
theorem dX7_nextBehind_52 : decode cX7_nextBehind 52 = .ok (.goto (-40), 3) := by decide +kernel
theorem dX7_nextBehind_55 : decode cX7_nextBehind 55 = .ok (.iconst (-1), 1) := by decide +kernel
theorem dX7_nextBehind_56 : decode cX7_nextBehind 56 = .ok (.ireturn, 1) := by decide +kernel
theorem dX7_insert_0 : decode cX7_insert 0 = .ok (.aload_n 0, 1) := by decide +kernel
theorem dX7_insert_1 : decode cX7_insert 1 = .ok (.getfield 15, 3) := by decide +kernel
theorem dX7_insert_4 : decode cX7_insert 4 = .ok (.iload_n 1, 1) := by decide +kernel
theorem dX7_insert_5 : decode cX7_insert 5 = .ok (.invokevirtual 55, 3) := by decide +kernel
theorem dX7_insert_8 : decode cX7_insert 8 = .ok (.istore_n 3, 1) := by decide +kernel
theorem dX7_insert_9 : decode cX7_insert 9 = .ok (.iload_n 2, 1) := by decide +kernel
theorem dX7_insert_10 : decode cX7_insert 10 = .ok (.istore 4, 2) := by decide +kernel
theorem dX7_insert_12 : decode cX7_insert 12 = .ok (.iload 4, 2) := by decide +kernel
theorem dX7_insert_14 : decode cX7_insert 14 = .ok (.ifCond .le 45, 3) := by decide +kernel
theorem dX7_insert_17 : decode cX7_insert 17 = .ok (.aload_n 0, 1) := by decide +kernel
theorem dX7_insert_18 : decode cX7_insert 18 = .ok (.getfield 15, 3) := by decide +kernel
theorem dX7_insert_21 : decode cX7_insert 21 = .ok (.aload_n 0, 1) := by decide +kernel
theorem dX7_insert_22 : decode cX7_insert 22 = .ok (.getfield 9, 3) := by decide +kernel
theorem dX7_insert_25 : decode cX7_insert 25 = .ok (.iload 4, 2) := by decide +kernel
theorem dX7_insert_27 : decode cX7_insert 27 = .ok (.iconst 1, 1) := by decide +kernel
theorem dX7_insert_28 : decode cX7_insert 28 = .ok (.isub, 1) := by decide +kernel
theorem dX7_insert_29 : decode cX7_insert 29 = .ok (.iaload, 1) := by decide +kernel
theorem dX7_insert_30 : decode cX7_insert 30 = .ok (.invokevirtual 55, 3) := by decide +kernel
theorem dX7_insert_33 : decode cX7_insert 33 = .ok (.iload_n 3, 1) := by decide +kernel
theorem dX7_insert_34 : decode cX7_insert 34 = .ok (.if_icmp .le 25, 3) := by decide +kernel
theorem dX7_insert_37 : decode cX7_insert 37 = .ok (.aload_n 0, 1) := by decide +kernel
theorem dX7_insert_38 : decode cX7_insert 38 = .ok (.getfield 9, 3) := by decide +kernel
theorem dX7_insert_41 : decode cX7_insert 41 = .ok (.iload 4, 2) := by decide +kernel
theorem dX7_insert_43 : decode cX7_insert 43 = .ok (.aload_n 0, 1) := by decide +kernel
theorem dX7_insert_44 : decode cX7_insert 44 = .ok (.getfield 9, 3) := by decide +kernel
theorem dX7_insert_47 : decode cX7_insert 47 = .ok (.iload 4, 2) := by decide +kernel
theorem dX7_insert_49 : decode cX7_insert 49 = .ok (.iconst 1, 1) := by decide +kernel
theorem dX7_insert_50 : decode cX7_insert 50 = .ok (.isub, 1) := by decide +kernel
theorem dX7_insert_51 : decode cX7_insert 51 = .ok (.iaload, 1) := by decide +kernel
theorem dX7_insert_52 : decode cX7_insert 52 = .ok (.iastore, 1) := by decide +kernel
theorem dX7_insert_53 : decode cX7_insert 53 = .ok (.iinc 4 (-1), 3) := by decide +kernel
theorem dX7_insert_56 : decode cX7_insert 56 = .ok (.goto (-44), 3) := by decide +kernel
theorem dX7_insert_59 : decode cX7_insert 59 = .ok (.aload_n 0, 1) := by decide +kernel
theorem dX7_insert_60 : decode cX7_insert 60 = .ok (.getfield 9, 3) := by decide +kernel
theorem dX7_insert_63 : decode cX7_insert 63 = .ok (.iload 4, 2) := by decide +kernel
theorem dX7_insert_65 : decode cX7_insert 65 = .ok (.iload_n 1, 1) := by decide +kernel
theorem dX7_insert_66 : decode cX7_insert 66 = .ok (.iastore, 1) := by decide +kernel
theorem dX7_insert_67 : decode cX7_insert 67 = .ok (.return_, 1) := by decide +kernel
theorem dX8_init_0 : decode cX8_init 0 = .ok (.aload_n 0, 1) := by decide +kernel
theorem dX8_init_1 : decode cX8_init 1 = .ok (.invokespecial 3, 3) := by decide +kernel
theorem dX8_init_4 : decode cX8_init 4 = .ok (.aload_n 0, 1) := by decide +kernel
theorem dX8_init_5 : decode cX8_init 5 = .ok (.new 9, 3) := by decide +kernel
theorem dX8_init_8 : decode cX8_init 8 = .ok (.dup, 1) := by decide +kernel
theorem dX8_init_9 : decode cX8_init 9 = .ok (.iload_n 1, 1) := by decide +kernel
theorem dX8_init_10 : decode cX8_init 10 = .ok (.invokestatic 11, 3) := by decide +kernel
theorem dX8_init_13 : decode cX8_init 13 = .ok (.ifCond .eq 7, 3) := by decide +kernel
theorem dX8_init_16 : decode cX8_init 16 = .ok (.iload_n 1, 1) := by decide +kernel
theorem dX8_init_17 : decode cX8_init 17 = .ok (.goto 5, 3) := by decide +kernel
theorem dX8_init_20 : decode cX8_init 20 = .ok (.bipush 7, 2) := by decide +kernel
theorem dX8_init_22 : decode cX8_init 22 = .ok (.iload_n 2, 1) := by decide +kernel
theorem dX8_init_23 : decode cX8_init 23 = .ok (.iconst 1, 1) := by decide +kernel
theorem dX8_init_24 : decode cX8_init 24 = .ok (.if_icmp .lt 12, 3) := by decide +kernel
theorem dX8_init_27 : decode cX8_init 27 = .ok (.iload_n 2, 1) := by decide +kernel
theorem dX8_init_28 : decode cX8_init 28 = .ok (.iconst 4, 1) := by decide +kernel
theorem dX8_init_29 : decode cX8_init 29 = .ok (.if_icmp .gt 7, 3) := by decide +kernel
theorem dX8_init_32 : decode cX8_init 32 = .ok (.iload_n 2, 1) := by decide +kernel
theorem dX8_init_33 : decode cX8_init 33 = .ok (.goto 4, 3) := by decide +kernel
theorem dX8_init_36 : decode cX8_init 36 = .ok (.iconst 3, 1) := by decide +kernel
theorem dX8_init_37 : decode cX8_init 37 = .ok (.invokespecial 15, 3) := by decide +kernel
theorem dX8_init_40 : decode cX8_init 40 = .ok (.putfield 18, 3) := by decide +kernel
theorem dX8_init_43 : decode cX8_init 43 = .ok (.aload_n 0, 1) := by decide +kernel
theorem dX8_init_44 : decode cX8_init 44 = .ok (.new 22, 3) := by decide +kernel
theorem dX8_init_47 : decode cX8_init 47 = .ok (.dup, 1) := by decide +kernel
theorem dX8_init_48 : decode cX8_init 48 = .ok (.invokespecial 24, 3) := by decide +kernel
theorem dX8_init_51 : decode cX8_init 51 = .ok (.putfield 25, 3) := by decide +kernel
theorem dX8_init_54 : decode cX8_init 54 = .ok (.aload_n 0, 1) := by decide +kernel
theorem dX8_init_55 : decode cX8_init 55 = .ok (.new 22, 3) := by decide +kernel
theorem dX8_init_58 : decode cX8_init 58 = .ok (.dup, 1) := by decide +kernel
theorem dX8_init_59 : decode cX8_init 59 = .ok (.invokespecial 24, 3) := by decide +kernel
theorem dX8_init_62 : decode cX8_init 62 = .ok (.putfield 29, 3) := by decide +kernel
theorem dX8_init_65 : decode cX8_init 65 = .ok (.aload_n 0, 1) := by decide +kernel
theorem dX8_init_66 : decode cX8_init 66 = .ok (.getfield 29, 3) := by decide +kernel
theorem dX8_init_69 : decode cX8_init 69 = .ok (.iconst 1, 1) := by decide +kernel
theorem dX8_init_70 : decode cX8_init 70 = .ok (.iconst 0, 1) := by decide +kernel
theorem dX8_init_71 : decode cX8_init 71 = .ok (.invokevirtual 32, 3) := by decide +kernel
theorem dX8_init_74 : decode cX8_init 74 = .ok (.pop, 1) := by decide +kernel
theorem dX8_init_75 : decode cX8_init 75 = .ok (.aload_n 0, 1) := by decide +kernel
theorem dX8_init_76 : decode cX8_init 76 = .ok (.new 22, 3) := by decide +kernel
theorem dX8_init_79 : decode cX8_init 79 = .ok (.dup, 1) := by decide +kernel
theorem dX8_init_80 : decode cX8_init 80 = .ok (.invokespecial 24, 3) := by decide +kernel
theorem dX8_init_83 : decode cX8_init 83 = .ok (.putfield 36, 3) := by decide +kernel
theorem dX8_init_86 : decode cX8_init 86 = .ok (.aload_n 0, 1) := by decide +kernel
theorem dX8_init_87 : decode cX8_init 87 = .ok (.new 39, 3) := by decide +kernel
theorem dX8_init_90 : decode cX8_init 90 = .ok (.dup, 1) := by decide +kernel
theorem dX8_init_91 : decode cX8_init 91 = .ok (.invokespecial 41, 3) := by decide +kernel
theorem dX8_init_94 : decode cX8_init 94 = .ok (.putfield 42, 3) := by decide +kernel
theorem dX8_init_97 : decode cX8_init 97 = .ok (.aload_n 0, 1) := by decide +kernel
theorem dX8_init_98 : decode cX8_init 98 = .ok (.new 46, 3) := by decide +kernel
theorem dX8_init_101 : decode cX8_init 101 = .ok (.dup, 1) := by decide +kernel
theorem dX8_init_102 : decode cX8_init 102 = .ok (.aload_n 0, 1) := by decide +kernel
theorem dX8_init_103 : decode cX8_init 103 = .ok (.getfield 18, 3) := by decide +kernel
theorem dX8_init_106 : decode cX8_init 106 = .ok (.invokespecial 48, 3) := by decide +kernel
theorem dX8_init_109 : decode cX8_init 109 = .ok (.putfield 51, 3) := by decide +kernel
theorem dX8_init_112 : decode cX8_init 112 = .ok (.aload_n 0, 1) := by decide +kernel
theorem dX8_init_113 : decode cX8_init 113 = .ok (.new 55, 3) := by decide +kernel
theorem dX8_init_116 : decode cX8_init 116 = .ok (.dup, 1) := by decide +kernel
theorem dX8_init_117 : decode cX8_init 117 = .ok (.aload_n 0, 1) := by decide +kernel
theorem dX8_init_118 : decode cX8_init 118 = .ok (.getfield 18, 3) := by decide +kernel
theorem dX8_init_121 : decode cX8_init 121 = .ok (.aload_n 0, 1) := by decide +kernel
theorem dX8_init_122 : decode cX8_init 122 = .ok (.getfield 51, 3) := by decide +kernel
theorem dX8_init_125 : decode cX8_init 125 = .ok (.invokespecial 57, 3) := by decide +kernel
theorem dX8_init_128 : decode cX8_init 128 = .ok (.putfield 60, 3) := by decide +kernel
theorem dX8_init_131 : decode cX8_init 131 = .ok (.aload_n 0, 1) := by decide +kernel
theorem dX8_init_132 : decode cX8_init 132 = .ok (.new 64, 3) := by decide +kernel
theorem dX8_init_135 : decode cX8_init 135 = .ok (.dup, 1) := by decide +kernel
theorem dX8_init_136 : decode cX8_init 136 = .ok (.aload_n 0, 1) := by decide +kernel
theorem dX8_init_137 : decode cX8_init 137 = .ok (.getfield 18, 3) := by decide +kernel
theorem dX8_init_140 : decode cX8_init 140 = .ok (.aload_n 0, 1) := by decide +kernel
theorem dX8_init_141 : decode cX8_init 141 = .ok (.getfield 60, 3) := by decide +kernel
theorem dX8_init_144 : decode cX8_init 144 = .ok (.invokespecial 66, 3) := by decide +kernel
theorem dX8_init_147 : decode cX8_init 147 = .ok (.putfield 69, 3) := by decide +kernel
theorem dX8_init_150 : decode cX8_init 150 = .ok (.return_, 1) := by decide +kernel
theorem dX8_order_0 : decode cX8_order 0 = .ok (.iload_n 1, 1) := by decide +kernel
theorem dX8_order_1 : decode cX8_order 1 = .ok (.ifCond .lt 8, 3) := by decide +kernel
theorem dX8_order_4 : decode cX8_order 4 = .ok (.iload_n 1, 1) := by decide +kernel
theorem dX8_order_5 : decode cX8_order 5 = .ok (.iconst 3, 1) := by decide +kernel
theorem dX8_order_6 : decode cX8_order 6 = .ok (.if_icmp .le 6, 3) := by decide +kernel
theorem dX8_order_9 : decode cX8_order 9 = .ok (.bipush (-2), 2) := by decide +kernel
theorem dX8_order_11 : decode cX8_order 11 = .ok (.ireturn, 1) := by decide +kernel
theorem dX8_order_12 : decode cX8_order 12 = .ok (.aload_n 0, 1) := by decide +kernel
theorem dX8_order_13 : decode cX8_order 13 = .ok (.getfield 60, 3) := by decide +kernel
theorem dX8_order_16 : decode cX8_order 16 = .ok (.getfield 73, 3) := by decide +kernel
theorem dX8_order_19 : decode cX8_order 19 = .ok (.ifCond .le 6, 3) := by decide +kernel
theorem dX8_order_22 : decode cX8_order 22 = .ok (.bipush (-3), 2) := by decide +kernel
theorem dX8_order_24 : decode cX8_order 24 = .ok (.ireturn, 1) := by decide +kernel
theorem dX8_order_25 : decode cX8_order 25 = .ok (.aload_n 0, 1) := by decide +kernel
theorem dX8_order_26 : decode cX8_order 26 = .ok (.getfield 18, 3) := by decide +kernel
theorem dX8_order_29 : decode cX8_order 29 = .ok (.getfield 77, 3) := by decide +kernel
theorem dX8_order_32 : decode cX8_order 32 = .ok (.istore_n 2, 1) := by decide +kernel
theorem dX8_order_33 : decode cX8_order 33 = .ok (.aload_n 0, 1) := by decide +kernel
theorem dX8_order_34 : decode cX8_order 34 = .ok (.getfield 18, 3) := by decide +kernel
theorem dX8_order_37 : decode cX8_order 37 = .ok (.iload_n 1, 1) := by decide +kernel
theorem dX8_order_38 : decode cX8_order 38 = .ok (.putfield 77, 3) := by decide +kernel
theorem dX8_order_41 : decode cX8_order 41 = .ok (.aload_n 0, 1) := by decide +kernel
theorem dX8_order_42 : decode cX8_order 42 = .ok (.getfield 18, 3) := by decide +kernel
theorem dX8_order_45 : decode cX8_order 45 = .ok (.aload_n 0, 1) := by decide +kernel
theorem dX8_order_46 : decode cX8_order 46 = .ok (.getfield 25, 3) := by decide +kernel
theorem dX8_order_49 : decode cX8_order 49 = .ok (.invokevirtual 80, 3) := by decide +kernel
theorem dX8_order_52 : decode cX8_order 52 = .ok (.iconst 0, 1) := by decide +kernel
theorem dX8_order_53 : decode cX8_order 53 = .ok (.istore_n 3, 1) := by decide +kernel
theorem dX8_order_54 : decode cX8_order 54 = .ok (.iload_n 3, 1) := by decide +kernel
theorem dX8_order_55 : decode cX8_order 55 = .ok (.bipush 24, 2) := by decide +kernel
theorem dX8_order_57 : decode cX8_order 57 = .ok (.if_icmp .ge 33, 3) := by decide +kernel
theorem dX8_order_60 : decode cX8_order 60 = .ok (.aload_n 0, 1) := by decide +kernel
theorem dX8_order_61 : decode cX8_order 61 = .ok (.getfield 42, 3) := by decide +kernel
theorem dX8_order_64 : decode cX8_order 64 = .ok (.iload_n 3, 1) := by decide +kernel
theorem dX8_order_65 : decode cX8_order 65 = .ok (.invokevirtual 84, 3) := by decide +kernel
theorem dX8_order_68 : decode cX8_order 68 = .ok (.astore 4, 2) := by decide +kernel
theorem dX8_order_70 : decode cX8_order 70 = .ok (.aload 4, 2) := by decide +kernel
theorem dX8_order_72 : decode cX8_order 72 = .ok (.ifnull 12, 3) := by decide +kernel
theorem dX8_order_75 : decode cX8_order 75 = .ok (.aload_n 0, 1) := by decide +kernel
theorem dX8_order_76 : decode cX8_order 76 = .ok (.getfield 18, 3) := by decide +kernel
theorem dX8_order_79 : decode cX8_order 79 = .ok (.aload 4, 2) := by decide +kernel
theorem dX8_order_81 : decode cX8_order 81 = .ok (.invokevirtual 80, 3) := by decide +kernel
theorem dX8_order_84 : decode cX8_order 84 = .ok (.iinc 3 1, 3) := by decide +kernel
theorem dX8_order_87 : decode cX8_order 87 = .ok (.goto (-33), 3) := by decide +kernel
theorem dX8_order_90 : decode cX8_order 90 = .ok (.iload_n 2, 1) := by decide +kernel
theorem dX8_order_91 : decode cX8_order 91 = .ok (.ireturn, 1) := by decide +kernel
theorem dX8_term_0 : decode cX8_term 0 = .ok (.aload_n 0, 1) := by decide +kernel
theorem dX8_term_1 : decode cX8_term 1 = .ok (.getfield 18, 3) := by decide +kernel
theorem dX8_term_4 : decode cX8_term 4 = .ok (.iload_n 2, 1) := by decide +kernel
theorem dX8_term_5 : decode cX8_term 5 = .ok (.iconst 0, 1) := by decide +kernel
theorem dX8_term_6 : decode cX8_term 6 = .ok (.invokevirtual 88, 3) := by decide +kernel
theorem dX8_term_9 : decode cX8_term 9 = .ok (.ifCond .eq 41, 3) := by decide +kernel
theorem dX8_term_12 : decode cX8_term 12 = .ok (.aload_n 0, 1) := by decide +kernel
theorem dX8_term_13 : decode cX8_term 13 = .ok (.getfield 18, 3) := by decide +kernel
theorem dX8_term_16 : decode cX8_term 16 = .ok (.iload_n 3, 1) := by decide +kernel
theorem dX8_term_17 : decode cX8_term 17 = .ok (.iconst 1, 1) := by decide +kernel
theorem dX8_term_18 : decode cX8_term 18 = .ok (.invokevirtual 88, 3) := by decide +kernel
theorem dX8_term_21 : decode cX8_term 21 = .ok (.ifCond .eq 29, 3) := by decide +kernel
theorem dX8_term_24 : decode cX8_term 24 = .ok (.aload_n 0, 1) := by decide +kernel
theorem dX8_term_25 : decode cX8_term 25 = .ok (.getfield 18, 3) := by decide +kernel
theorem dX8_term_28 : decode cX8_term 28 = .ok (.iload 4, 2) := by decide +kernel
theorem dX8_term_30 : decode cX8_term 30 = .ok (.iconst 2, 1) := by decide +kernel
theorem dX8_term_31 : decode cX8_term 31 = .ok (.invokevirtual 88, 3) := by decide +kernel
theorem dX8_term_34 : decode cX8_term 34 = .ok (.ifCond .eq 16, 3) := by decide +kernel
theorem dX8_term_37 : decode cX8_term 37 = .ok (.aload_n 0, 1) := by decide +kernel
theorem dX8_term_38 : decode cX8_term 38 = .ok (.getfield 18, 3) := by decide +kernel
theorem dX8_term_41 : decode cX8_term 41 = .ok (.iload 5, 2) := by decide +kernel
theorem dX8_term_43 : decode cX8_term 43 = .ok (.iconst 3, 1) := by decide +kernel
theorem dX8_term_44 : decode cX8_term 44 = .ok (.invokevirtual 88, 3) := by decide +kernel
theorem dX8_term_47 : decode cX8_term 47 = .ok (.ifCond .ne 6, 3) := by decide +kernel
theorem dX8_term_50 : decode cX8_term 50 = .ok (.bipush (-2), 2) := by decide +kernel
theorem dX8_term_52 : decode cX8_term 52 = .ok (.ireturn, 1) := by decide +kernel
theorem dX8_term_53 : decode cX8_term 53 = .ok (.aload_n 0, 1) := by decide +kernel
theorem dX8_term_54 : decode cX8_term 54 = .ok (.getfield 18, 3) := by decide +kernel
theorem dX8_term_57 : decode cX8_term 57 = .ok (.aload_n 0, 1) := by decide +kernel
theorem dX8_term_58 : decode cX8_term 58 = .ok (.getfield 36, 3) := by decide +kernel
theorem dX8_term_61 : decode cX8_term 61 = .ok (.aload_n 0, 1) := by decide +kernel
theorem dX8_term_62 : decode cX8_term 62 = .ok (.getfield 25, 3) := by decide +kernel
theorem dX8_term_65 : decode cX8_term 65 = .ok (.aload_n 0, 1) := by decide +kernel
theorem dX8_term_66 : decode cX8_term 66 = .ok (.getfield 29, 3) := by decide +kernel
theorem dX8_term_69 : decode cX8_term 69 = .ok (.aload_n 0, 1) := by decide +kernel
theorem dX8_term_70 : decode cX8_term 70 = .ok (.getfield 18, 3) := by decide +kernel
theorem dX8_term_73 : decode cX8_term 73 = .ok (.iload_n 1, 1) := by decide +kernel
theorem dX8_term_74 : decode cX8_term 74 = .ok (.invokevirtual 91, 3) := by decide +kernel
theorem dX8_term_77 : decode cX8_term 77 = .ok (.iload_n 2, 1) := by decide +kernel
theorem dX8_term_78 : decode cX8_term 78 = .ok (.iload_n 3, 1) := by decide +kernel
theorem dX8_term_79 : decode cX8_term 79 = .ok (.iload 4, 2) := by decide +kernel
theorem dX8_term_81 : decode cX8_term 81 = .ok (.iload 5, 2) := by decide +kernel
theorem dX8_term_83 : decode cX8_term 83 = .ok (.invokestatic 95, 3) := by decide +kernel
theorem dX8_term_86 : decode cX8_term 86 = .ok (.invokevirtual 101, 3) := by decide +kernel
theorem dX8_term_89 : decode cX8_term 89 = .ok (.istore 6, 2) := by decide +kernel
theorem dX8_term_91 : decode cX8_term 91 = .ok (.iload 6, 2) := by decide +kernel
theorem dX8_term_93 : decode cX8_term 93 = .ok (.ifCond .eq 6, 3) := by decide +kernel
theorem dX8_term_96 : decode cX8_term 96 = .ok (.iload 6, 2) := by decide +kernel
theorem dX8_term_98 : decode cX8_term 98 = .ok (.ireturn, 1) := by decide +kernel
theorem dX8_term_99 : decode cX8_term 99 = .ok (.aload_n 0, 1) := by decide +kernel
theorem dX8_term_100 : decode cX8_term 100 = .ok (.getfield 25, 3) := by decide +kernel
theorem dX8_term_103 : decode cX8_term 103 = .ok (.aload_n 0, 1) := by decide +kernel
theorem dX8_term_104 : decode cX8_term 104 = .ok (.getfield 36, 3) := by decide +kernel
theorem dX8_term_107 : decode cX8_term 107 = .ok (.invokevirtual 105, 3) := by decide +kernel
theorem dX8_term_110 : decode cX8_term 110 = .ok (.aload_n 0, 1) := by decide +kernel
theorem dX8_term_111 : decode cX8_term 111 = .ok (.getfield 25, 3) := by decide +kernel
theorem dX8_term_114 : decode cX8_term 114 = .ok (.getfield 108, 3) := by decide +kernel
theorem dX8_term_117 : decode cX8_term 117 = .ok (.ireturn, 1) := by decide +kernel
theorem dX8_keep_0 : decode cX8_keep 0 = .ok (.aload_n 0, 1) := by decide +kernel
theorem dX8_keep_1 : decode cX8_keep 1 = .ok (.getfield 42, 3) := by decide +kernel
theorem dX8_keep_4 : decode cX8_keep 4 = .ok (.invokevirtual 109, 3) := by decide +kernel
theorem dX8_keep_7 : decode cX8_keep 7 = .ok (.ifCond .eq 6, 3) := by decide +kernel
theorem dX8_keep_10 : decode cX8_keep 10 = .ok (.bipush (-4), 2) := by decide +kernel
theorem dX8_keep_12 : decode cX8_keep 12 = .ok (.ireturn, 1) := by decide +kernel
theorem dX8_keep_13 : decode cX8_keep 13 = .ok (.aload_n 0, 1) := by decide +kernel
theorem dX8_keep_14 : decode cX8_keep 14 = .ok (.getfield 42, 3) := by decide +kernel
theorem dX8_keep_17 : decode cX8_keep 17 = .ok (.aload_n 0, 1) := by decide +kernel
theorem dX8_keep_18 : decode cX8_keep 18 = .ok (.getfield 25, 3) := by decide +kernel
theorem dX8_keep_21 : decode cX8_keep 21 = .ok (.invokevirtual 113, 3) := by decide +kernel
theorem dX8_keep_24 : decode cX8_keep 24 = .ok (.istore_n 1, 1) := by decide +kernel
theorem dX8_keep_25 : decode cX8_keep 25 = .ok (.aload_n 0, 1) := by decide +kernel
theorem dX8_keep_26 : decode cX8_keep 26 = .ok (.getfield 25, 3) := by decide +kernel
theorem dX8_keep_29 : decode cX8_keep 29 = .ok (.iconst 0, 1) := by decide +kernel
theorem dX8_keep_30 : decode cX8_keep 30 = .ok (.putfield 108, 3) := by decide +kernel
theorem dX8_keep_33 : decode cX8_keep 33 = .ok (.iload_n 1, 1) := by decide +kernel
theorem dX8_keep_34 : decode cX8_keep 34 = .ok (.ireturn, 1) := by decide +kernel
theorem dX8_drop_0 : decode cX8_drop 0 = .ok (.aload_n 0, 1) := by decide +kernel
theorem dX8_drop_1 : decode cX8_drop 1 = .ok (.getfield 42, 3) := by decide +kernel
theorem dX8_drop_4 : decode cX8_drop 4 = .ok (.iload_n 1, 1) := by decide +kernel
theorem dX8_drop_5 : decode cX8_drop 5 = .ok (.invokevirtual 84, 3) := by decide +kernel
theorem dX8_drop_8 : decode cX8_drop 8 = .ok (.astore_n 2, 1) := by decide +kernel
theorem dX8_drop_9 : decode cX8_drop 9 = .ok (.aload_n 2, 1) := by decide +kernel
theorem dX8_drop_10 : decode cX8_drop 10 = .ok (.ifnonnull 6, 3) := by decide +kernel
theorem dX8_drop_13 : decode cX8_drop 13 = .ok (.bipush (-2), 2) := by decide +kernel
theorem dX8_drop_15 : decode cX8_drop 15 = .ok (.ireturn, 1) := by decide +kernel
theorem dX8_drop_16 : decode cX8_drop 16 = .ok (.aload_n 0, 1) := by decide +kernel
theorem dX8_drop_17 : decode cX8_drop 17 = .ok (.getfield 42, 3) := by decide +kernel
theorem dX8_drop_20 : decode cX8_drop 20 = .ok (.iload_n 1, 1) := by decide +kernel
theorem dX8_drop_21 : decode cX8_drop 21 = .ok (.invokevirtual 117, 3) := by decide +kernel
theorem dX8_drop_24 : decode cX8_drop 24 = .ok (.aload_n 2, 1) := by decide +kernel
theorem dX8_drop_25 : decode cX8_drop 25 = .ok (.getfield 108, 3) := by decide +kernel
theorem dX8_drop_28 : decode cX8_drop 28 = .ok (.ireturn, 1) := by decide +kernel
theorem dX8_terms_0 : decode cX8_terms 0 = .ok (.aload_n 0, 1) := by decide +kernel
theorem dX8_terms_1 : decode cX8_terms 1 = .ok (.iload_n 1, 1) := by decide +kernel
theorem dX8_terms_2 : decode cX8_terms 2 = .ok (.invokevirtual 121, 3) := by decide +kernel
theorem dX8_terms_5 : decode cX8_terms 5 = .ok (.astore_n 2, 1) := by decide +kernel
theorem dX8_terms_6 : decode cX8_terms 6 = .ok (.aload_n 2, 1) := by decide +kernel
theorem dX8_terms_7 : decode cX8_terms 7 = .ok (.ifnonnull 8, 3) := by decide +kernel
theorem dX8_terms_10 : decode cX8_terms 10 = .ok (.bipush (-2), 2) := by decide +kernel
theorem dX8_terms_12 : decode cX8_terms 12 = .ok (.goto 7, 3) := by decide +kernel
theorem dX8_terms_15 : decode cX8_terms 15 = .ok (.aload_n 2, 1) := by decide +kernel
theorem dX8_terms_16 : decode cX8_terms 16 = .ok (.getfield 108, 3) := by decide +kernel
theorem dX8_terms_19 : decode cX8_terms 19 = .ok (.ireturn, 1) := by decide +kernel
theorem dX8_number_0 : decode cX8_number 0 = .ok (.aload_n 0, 1) := by decide +kernel
theorem dX8_number_1 : decode cX8_number 1 = .ok (.iload_n 1, 1) := by decide +kernel
theorem dX8_number_2 : decode cX8_number 2 = .ok (.invokevirtual 121, 3) := by decide +kernel
theorem dX8_number_5 : decode cX8_number 5 = .ok (.astore_n 3, 1) := by decide +kernel
theorem dX8_number_6 : decode cX8_number 6 = .ok (.aload_n 3, 1) := by decide +kernel
theorem dX8_number_7 : decode cX8_number 7 = .ok (.ifnull 15, 3) := by decide +kernel
theorem dX8_number_10 : decode cX8_number 10 = .ok (.iload_n 2, 1) := by decide +kernel
theorem dX8_number_11 : decode cX8_number 11 = .ok (.ifCond .lt 11, 3) := by decide +kernel
theorem dX8_number_14 : decode cX8_number 14 = .ok (.iload_n 2, 1) := by decide +kernel
theorem dX8_number_15 : decode cX8_number 15 = .ok (.aload_n 3, 1) := by decide +kernel
theorem dX8_number_16 : decode cX8_number 16 = .ok (.getfield 108, 3) := by decide +kernel
theorem dX8_number_19 : decode cX8_number 19 = .ok (.if_icmp .lt 8, 3) := by decide +kernel
theorem dX8_number_22 : decode cX8_number 22 = .ok (.bipush (-2), 2) := by decide +kernel
theorem dX8_number_24 : decode cX8_number 24 = .ok (.goto 9, 3) := by decide +kernel
theorem dX8_number_27 : decode cX8_number 27 = .ok (.aload_n 3, 1) := by decide +kernel
theorem dX8_number_28 : decode cX8_number 28 = .ok (.getfield 124, 3) := by decide +kernel
theorem dX8_number_31 : decode cX8_number 31 = .ok (.iload_n 2, 1) := by decide +kernel
theorem dX8_number_32 : decode cX8_number 32 = .ok (.iaload, 1) := by decide +kernel
theorem dX8_number_33 : decode cX8_number 33 = .ok (.ireturn, 1) := by decide +kernel
theorem dX8_exponent_0 : decode cX8_exponent 0 = .ok (.aload_n 0, 1) := by decide +kernel
theorem dX8_exponent_1 : decode cX8_exponent 1 = .ok (.iload_n 1, 1) := by decide +kernel
theorem dX8_exponent_2 : decode cX8_exponent 2 = .ok (.invokevirtual 121, 3) := by decide +kernel
theorem dX8_exponent_5 : decode cX8_exponent 5 = .ok (.astore 4, 2) := by decide +kernel
theorem dX8_exponent_7 : decode cX8_exponent 7 = .ok (.aload 4, 2) := by decide +kernel
theorem dX8_exponent_9 : decode cX8_exponent 9 = .ok (.ifnull 27, 3) := by decide +kernel
theorem dX8_exponent_12 : decode cX8_exponent 12 = .ok (.iload_n 2, 1) := by decide +kernel
theorem dX8_exponent_13 : decode cX8_exponent 13 = .ok (.ifCond .lt 23, 3) := by decide +kernel
theorem dX8_exponent_16 : decode cX8_exponent 16 = .ok (.iload_n 2, 1) := by decide +kernel
theorem dX8_exponent_17 : decode cX8_exponent 17 = .ok (.aload 4, 2) := by decide +kernel
theorem dX8_exponent_19 : decode cX8_exponent 19 = .ok (.getfield 108, 3) := by decide +kernel
theorem dX8_exponent_22 : decode cX8_exponent 22 = .ok (.if_icmp .ge 14, 3) := by decide +kernel
theorem dX8_exponent_25 : decode cX8_exponent 25 = .ok (.aload_n 0, 1) := by decide +kernel
theorem dX8_exponent_26 : decode cX8_exponent 26 = .ok (.getfield 18, 3) := by decide +kernel
theorem dX8_exponent_29 : decode cX8_exponent 29 = .ok (.iload_n 3, 1) := by decide +kernel
theorem dX8_exponent_30 : decode cX8_exponent 30 = .ok (.invokevirtual 128, 3) := by decide +kernel
theorem dX8_exponent_33 : decode cX8_exponent 33 = .ok (.ifCond .ne 8, 3) := by decide +kernel
theorem dX8_exponent_36 : decode cX8_exponent 36 = .ok (.bipush (-2), 2) := by decide +kernel
theorem dX8_exponent_38 : decode cX8_exponent 38 = .ok (.goto 14, 3) := by decide +kernel
theorem dX8_exponent_41 : decode cX8_exponent 41 = .ok (.aload 4, 2) := by decide +kernel
theorem dX8_exponent_43 : decode cX8_exponent 43 = .ok (.getfield 131, 3) := by decide +kernel
theorem dX8_exponent_46 : decode cX8_exponent 46 = .ok (.iload_n 2, 1) := by decide +kernel
theorem dX8_exponent_47 : decode cX8_exponent 47 = .ok (.iaload, 1) := by decide +kernel
theorem dX8_exponent_48 : decode cX8_exponent 48 = .ok (.iload_n 3, 1) := by decide +kernel
theorem dX8_exponent_49 : decode cX8_exponent 49 = .ok (.invokestatic 134, 3) := by decide +kernel
theorem dX8_exponent_52 : decode cX8_exponent 52 = .ok (.ireturn, 1) := by decide +kernel
theorem dX8_sum_0 : decode cX8_sum 0 = .ok (.aload_n 0, 1) := by decide +kernel
theorem dX8_sum_1 : decode cX8_sum 1 = .ok (.iload_n 1, 1) := by decide +kernel
theorem dX8_sum_2 : decode cX8_sum 2 = .ok (.invokevirtual 121, 3) := by decide +kernel
theorem dX8_sum_5 : decode cX8_sum 5 = .ok (.astore 4, 2) := by decide +kernel
theorem dX8_sum_7 : decode cX8_sum 7 = .ok (.aload_n 0, 1) := by decide +kernel
theorem dX8_sum_8 : decode cX8_sum 8 = .ok (.iload_n 2, 1) := by decide +kernel
theorem dX8_sum_9 : decode cX8_sum 9 = .ok (.invokevirtual 121, 3) := by decide +kernel
theorem dX8_sum_12 : decode cX8_sum 12 = .ok (.astore 5, 2) := by decide +kernel
theorem dX8_sum_14 : decode cX8_sum 14 = .ok (.aload 4, 2) := by decide +kernel
theorem dX8_sum_16 : decode cX8_sum 16 = .ok (.ifnull 8, 3) := by decide +kernel
theorem dX8_sum_19 : decode cX8_sum 19 = .ok (.aload 5, 2) := by decide +kernel
theorem dX8_sum_21 : decode cX8_sum 21 = .ok (.ifnonnull 6, 3) := by decide +kernel
theorem dX8_sum_24 : decode cX8_sum 24 = .ok (.bipush (-2), 2) := by decide +kernel
theorem dX8_sum_26 : decode cX8_sum 26 = .ok (.ireturn, 1) := by decide +kernel
theorem dX8_sum_27 : decode cX8_sum 27 = .ok (.aload_n 0, 1) := by decide +kernel
theorem dX8_sum_28 : decode cX8_sum 28 = .ok (.getfield 42, 3) := by decide +kernel
theorem dX8_sum_31 : decode cX8_sum 31 = .ok (.invokevirtual 109, 3) := by decide +kernel
theorem dX8_sum_34 : decode cX8_sum 34 = .ok (.ifCond .eq 6, 3) := by decide +kernel
theorem dX8_sum_37 : decode cX8_sum 37 = .ok (.bipush (-4), 2) := by decide +kernel
theorem dX8_sum_39 : decode cX8_sum 39 = .ok (.ireturn, 1) := by decide +kernel
theorem dX8_sum_40 : decode cX8_sum 40 = .ok (.aload_n 0, 1) := by decide +kernel
theorem dX8_sum_41 : decode cX8_sum 41 = .ok (.aload_n 0, 1) := by decide +kernel
theorem dX8_sum_42 : decode cX8_sum 42 = .ok (.getfield 18, 3) := by decide +kernel
theorem dX8_sum_45 : decode cX8_sum 45 = .ok (.aload_n 0, 1) := by decide +kernel
theorem dX8_sum_46 : decode cX8_sum 46 = .ok (.getfield 36, 3) := by decide +kernel
theorem dX8_sum_49 : decode cX8_sum 49 = .ok (.aload 4, 2) := by decide +kernel
theorem dX8_sum_51 : decode cX8_sum 51 = .ok (.aload 5, 2) := by decide +kernel
theorem dX8_sum_53 : decode cX8_sum 53 = .ok (.aload_n 0, 1) := by decide +kernel
theorem dX8_sum_54 : decode cX8_sum 54 = .ok (.getfield 18, 3) := by decide +kernel
theorem dX8_sum_57 : decode cX8_sum 57 = .ok (.iload_n 3, 1) := by decide +kernel
theorem dX8_sum_58 : decode cX8_sum 58 = .ok (.invokevirtual 91, 3) := by decide +kernel
theorem dX8_sum_61 : decode cX8_sum 61 = .ok (.iconst 0, 1) := by decide +kernel
theorem dX8_sum_62 : decode cX8_sum 62 = .ok (.invokevirtual 101, 3) := by decide +kernel
theorem dX8_sum_65 : decode cX8_sum 65 = .ok (.invokevirtual 138, 3) := by decide +kernel
theorem dX8_sum_68 : decode cX8_sum 68 = .ok (.ireturn, 1) := by decide +kernel
theorem dX8_product_0 : decode cX8_product 0 = .ok (.aload_n 0, 1) := by decide +kernel
theorem dX8_product_1 : decode cX8_product 1 = .ok (.iload_n 1, 1) := by decide +kernel
theorem dX8_product_2 : decode cX8_product 2 = .ok (.invokevirtual 121, 3) := by decide +kernel
theorem dX8_product_5 : decode cX8_product 5 = .ok (.astore_n 3, 1) := by decide +kernel
theorem dX8_product_6 : decode cX8_product 6 = .ok (.aload_n 0, 1) := by decide +kernel
theorem dX8_product_7 : decode cX8_product 7 = .ok (.iload_n 2, 1) := by decide +kernel
theorem dX8_product_8 : decode cX8_product 8 = .ok (.invokevirtual 121, 3) := by decide +kernel
theorem dX8_product_11 : decode cX8_product 11 = .ok (.astore 4, 2) := by decide +kernel
theorem dX8_product_13 : decode cX8_product 13 = .ok (.aload_n 3, 1) := by decide +kernel
theorem dX8_product_14 : decode cX8_product 14 = .ok (.ifnull 8, 3) := by decide +kernel
theorem dX8_product_17 : decode cX8_product 17 = .ok (.aload 4, 2) := by decide +kernel
theorem dX8_product_19 : decode cX8_product 19 = .ok (.ifnonnull 6, 3) := by decide +kernel
theorem dX8_product_22 : decode cX8_product 22 = .ok (.bipush (-2), 2) := by decide +kernel
theorem dX8_product_24 : decode cX8_product 24 = .ok (.ireturn, 1) := by decide +kernel
theorem dX8_product_25 : decode cX8_product 25 = .ok (.aload_n 0, 1) := by decide +kernel
theorem dX8_product_26 : decode cX8_product 26 = .ok (.getfield 42, 3) := by decide +kernel
theorem dX8_product_29 : decode cX8_product 29 = .ok (.invokevirtual 109, 3) := by decide +kernel
theorem dX8_product_32 : decode cX8_product 32 = .ok (.ifCond .eq 6, 3) := by decide +kernel
theorem dX8_product_35 : decode cX8_product 35 = .ok (.bipush (-4), 2) := by decide +kernel
theorem dX8_product_37 : decode cX8_product 37 = .ok (.ireturn, 1) := by decide +kernel
theorem dX8_product_38 : decode cX8_product 38 = .ok (.aload_n 0, 1) := by decide +kernel
theorem dX8_product_39 : decode cX8_product 39 = .ok (.aload_n 0, 1) := by decide +kernel
theorem dX8_product_40 : decode cX8_product 40 = .ok (.getfield 18, 3) := by decide +kernel
theorem dX8_product_43 : decode cX8_product 43 = .ok (.aload_n 0, 1) := by decide +kernel
theorem dX8_product_44 : decode cX8_product 44 = .ok (.getfield 36, 3) := by decide +kernel
theorem dX8_product_47 : decode cX8_product 47 = .ok (.aload_n 3, 1) := by decide +kernel
theorem dX8_product_48 : decode cX8_product 48 = .ok (.aload 4, 2) := by decide +kernel
theorem dX8_product_50 : decode cX8_product 50 = .ok (.invokevirtual 141, 3) := by decide +kernel
theorem dX8_product_53 : decode cX8_product 53 = .ok (.invokevirtual 138, 3) := by decide +kernel
theorem dX8_product_56 : decode cX8_product 56 = .ok (.ireturn, 1) := by decide +kernel
theorem dX8_derived_0 : decode cX8_derived 0 = .ok (.aload_n 0, 1) := by decide +kernel
theorem dX8_derived_1 : decode cX8_derived 1 = .ok (.iload_n 1, 1) := by decide +kernel
theorem dX8_derived_2 : decode cX8_derived 2 = .ok (.invokevirtual 121, 3) := by decide +kernel
theorem dX8_derived_5 : decode cX8_derived 5 = .ok (.astore_n 3, 1) := by decide +kernel
theorem dX8_derived_6 : decode cX8_derived 6 = .ok (.aload_n 3, 1) := by decide +kernel
theorem dX8_derived_7 : decode cX8_derived 7 = .ok (.ifnull 14, 3) := by decide +kernel
theorem dX8_derived_10 : decode cX8_derived 10 = .ok (.aload_n 0, 1) := by decide +kernel
theorem dX8_derived_11 : decode cX8_derived 11 = .ok (.getfield 18, 3) := by decide +kernel
theorem dX8_derived_14 : decode cX8_derived 14 = .ok (.iload_n 2, 1) := by decide +kernel
theorem dX8_derived_15 : decode cX8_derived 15 = .ok (.invokevirtual 128, 3) := by decide +kernel
theorem dX8_derived_18 : decode cX8_derived 18 = .ok (.ifCond .ne 6, 3) := by decide +kernel
theorem dX8_derived_21 : decode cX8_derived 21 = .ok (.bipush (-2), 2) := by decide +kernel
theorem dX8_derived_23 : decode cX8_derived 23 = .ok (.ireturn, 1) := by decide +kernel
theorem dX8_derived_24 : decode cX8_derived 24 = .ok (.aload_n 0, 1) := by decide +kernel
theorem dX8_derived_25 : decode cX8_derived 25 = .ok (.getfield 42, 3) := by decide +kernel
theorem dX8_derived_28 : decode cX8_derived 28 = .ok (.invokevirtual 109, 3) := by decide +kernel
theorem dX8_derived_31 : decode cX8_derived 31 = .ok (.ifCond .eq 6, 3) := by decide +kernel
theorem dX8_derived_34 : decode cX8_derived 34 = .ok (.bipush (-4), 2) := by decide +kernel
theorem dX8_derived_36 : decode cX8_derived 36 = .ok (.ireturn, 1) := by decide +kernel
theorem dX8_derived_37 : decode cX8_derived 37 = .ok (.aload_n 0, 1) := by decide +kernel
theorem dX8_derived_38 : decode cX8_derived 38 = .ok (.aload_n 0, 1) := by decide +kernel
theorem dX8_derived_39 : decode cX8_derived 39 = .ok (.getfield 18, 3) := by decide +kernel
theorem dX8_derived_42 : decode cX8_derived 42 = .ok (.aload_n 0, 1) := by decide +kernel
theorem dX8_derived_43 : decode cX8_derived 43 = .ok (.getfield 36, 3) := by decide +kernel
theorem dX8_derived_46 : decode cX8_derived 46 = .ok (.aload_n 3, 1) := by decide +kernel
theorem dX8_derived_47 : decode cX8_derived 47 = .ok (.iload_n 2, 1) := by decide +kernel
theorem dX8_derived_48 : decode cX8_derived 48 = .ok (.invokevirtual 145, 3) := by decide +kernel
theorem dX8_derived_51 : decode cX8_derived 51 = .ok (.invokevirtual 138, 3) := by decide +kernel
theorem dX8_derived_54 : decode cX8_derived 54 = .ok (.ireturn, 1) := by decide +kernel
theorem dX8_spair_0 : decode cX8_spair 0 = .ok (.aload_n 0, 1) := by decide +kernel
theorem dX8_spair_1 : decode cX8_spair 1 = .ok (.iload_n 1, 1) := by decide +kernel
theorem dX8_spair_2 : decode cX8_spair 2 = .ok (.invokevirtual 121, 3) := by decide +kernel
theorem dX8_spair_5 : decode cX8_spair 5 = .ok (.astore_n 3, 1) := by decide +kernel
theorem dX8_spair_6 : decode cX8_spair 6 = .ok (.aload_n 0, 1) := by decide +kernel
theorem dX8_spair_7 : decode cX8_spair 7 = .ok (.iload_n 2, 1) := by decide +kernel
theorem dX8_spair_8 : decode cX8_spair 8 = .ok (.invokevirtual 121, 3) := by decide +kernel
theorem dX8_spair_11 : decode cX8_spair 11 = .ok (.astore 4, 2) := by decide +kernel
theorem dX8_spair_13 : decode cX8_spair 13 = .ok (.aload_n 3, 1) := by decide +kernel
theorem dX8_spair_14 : decode cX8_spair 14 = .ok (.ifnull 23, 3) := by decide +kernel
theorem dX8_spair_17 : decode cX8_spair 17 = .ok (.aload 4, 2) := by decide +kernel
theorem dX8_spair_19 : decode cX8_spair 19 = .ok (.ifnull 18, 3) := by decide +kernel
theorem dX8_spair_22 : decode cX8_spair 22 = .ok (.aload_n 3, 1) := by decide +kernel
theorem dX8_spair_23 : decode cX8_spair 23 = .ok (.getfield 108, 3) := by decide +kernel
theorem dX8_spair_26 : decode cX8_spair 26 = .ok (.ifCond .eq 11, 3) := by decide +kernel
theorem dX8_spair_29 : decode cX8_spair 29 = .ok (.aload 4, 2) := by decide +kernel
theorem dX8_spair_31 : decode cX8_spair 31 = .ok (.getfield 108, 3) := by decide +kernel
theorem dX8_spair_34 : decode cX8_spair 34 = .ok (.ifCond .ne 6, 3) := by decide +kernel
theorem dX8_spair_37 : decode cX8_spair 37 = .ok (.bipush (-2), 2) := by decide +kernel
theorem dX8_spair_39 : decode cX8_spair 39 = .ok (.ireturn, 1) := by decide +kernel
theorem dX8_spair_40 : decode cX8_spair 40 = .ok (.aload_n 0, 1) := by decide +kernel
theorem dX8_spair_41 : decode cX8_spair 41 = .ok (.getfield 42, 3) := by decide +kernel
theorem dX8_spair_44 : decode cX8_spair 44 = .ok (.invokevirtual 109, 3) := by decide +kernel
theorem dX8_spair_47 : decode cX8_spair 47 = .ok (.ifCond .eq 6, 3) := by decide +kernel
theorem dX8_spair_50 : decode cX8_spair 50 = .ok (.bipush (-4), 2) := by decide +kernel
theorem dX8_spair_52 : decode cX8_spair 52 = .ok (.ireturn, 1) := by decide +kernel
theorem dX8_spair_53 : decode cX8_spair 53 = .ok (.aload_n 0, 1) := by decide +kernel
theorem dX8_spair_54 : decode cX8_spair 54 = .ok (.aload_n 0, 1) := by decide +kernel
theorem dX8_spair_55 : decode cX8_spair 55 = .ok (.getfield 18, 3) := by decide +kernel
theorem dX8_spair_58 : decode cX8_spair 58 = .ok (.aload_n 0, 1) := by decide +kernel
theorem dX8_spair_59 : decode cX8_spair 59 = .ok (.getfield 36, 3) := by decide +kernel
theorem dX8_spair_62 : decode cX8_spair 62 = .ok (.aload_n 3, 1) := by decide +kernel
theorem dX8_spair_63 : decode cX8_spair 63 = .ok (.aload 4, 2) := by decide +kernel
theorem dX8_spair_65 : decode cX8_spair 65 = .ok (.invokevirtual 149, 3) := by decide +kernel
theorem dX8_spair_68 : decode cX8_spair 68 = .ok (.invokevirtual 138, 3) := by decide +kernel
theorem dX8_spair_71 : decode cX8_spair 71 = .ok (.ireturn, 1) := by decide +kernel
theorem dX8_value_0 : decode cX8_value 0 = .ok (.aload_n 0, 1) := by decide +kernel
theorem dX8_value_1 : decode cX8_value 1 = .ok (.iload_n 1, 1) := by decide +kernel
theorem dX8_value_2 : decode cX8_value 2 = .ok (.invokevirtual 121, 3) := by decide +kernel
theorem dX8_value_5 : decode cX8_value 5 = .ok (.astore 6, 2) := by decide +kernel
theorem dX8_value_7 : decode cX8_value 7 = .ok (.aload 6, 2) := by decide +kernel
theorem dX8_value_9 : decode cX8_value 9 = .ok (.ifnonnull 6, 3) := by decide +kernel
theorem dX8_value_12 : decode cX8_value 12 = .ok (.bipush (-2), 2) := by decide +kernel
theorem dX8_value_14 : decode cX8_value 14 = .ok (.ireturn, 1) := by decide +kernel
theorem dX8_value_15 : decode cX8_value 15 = .ok (.aload_n 0, 1) := by decide +kernel
theorem dX8_value_16 : decode cX8_value 16 = .ok (.getfield 18, 3) := by decide +kernel
theorem dX8_value_19 : decode cX8_value 19 = .ok (.iconst 0, 1) := by decide +kernel
theorem dX8_value_20 : decode cX8_value 20 = .ok (.iload_n 2, 1) := by decide +kernel
theorem dX8_value_21 : decode cX8_value 21 = .ok (.invokevirtual 152, 3) := by decide +kernel
theorem dX8_value_24 : decode cX8_value 24 = .ok (.aload_n 0, 1) := by decide +kernel
theorem dX8_value_25 : decode cX8_value 25 = .ok (.getfield 18, 3) := by decide +kernel
theorem dX8_value_28 : decode cX8_value 28 = .ok (.iconst 1, 1) := by decide +kernel
theorem dX8_value_29 : decode cX8_value 29 = .ok (.iload_n 3, 1) := by decide +kernel
theorem dX8_value_30 : decode cX8_value 30 = .ok (.invokevirtual 152, 3) := by decide +kernel
theorem dX8_value_33 : decode cX8_value 33 = .ok (.aload_n 0, 1) := by decide +kernel
theorem dX8_value_34 : decode cX8_value 34 = .ok (.getfield 18, 3) := by decide +kernel
theorem dX8_value_37 : decode cX8_value 37 = .ok (.iconst 2, 1) := by decide +kernel
theorem dX8_value_38 : decode cX8_value 38 = .ok (.iload 4, 2) := by decide +kernel
theorem dX8_value_40 : decode cX8_value 40 = .ok (.invokevirtual 152, 3) := by decide +kernel
theorem dX8_value_43 : decode cX8_value 43 = .ok (.aload_n 0, 1) := by decide +kernel
theorem dX8_value_44 : decode cX8_value 44 = .ok (.getfield 18, 3) := by decide +kernel
theorem dX8_value_47 : decode cX8_value 47 = .ok (.iconst 3, 1) := by decide +kernel
theorem dX8_value_48 : decode cX8_value 48 = .ok (.iload 5, 2) := by decide +kernel
theorem dX8_value_50 : decode cX8_value 50 = .ok (.invokevirtual 152, 3) := by decide +kernel
theorem dX8_value_53 : decode cX8_value 53 = .ok (.aload_n 0, 1) := by decide +kernel
theorem dX8_value_54 : decode cX8_value 54 = .ok (.getfield 18, 3) := by decide +kernel
theorem dX8_value_57 : decode cX8_value 57 = .ok (.aload 6, 2) := by decide +kernel
theorem dX8_value_59 : decode cX8_value 59 = .ok (.invokevirtual 155, 3) := by decide +kernel
theorem dX8_value_62 : decode cX8_value 62 = .ok (.ireturn, 1) := by decide +kernel
theorem dX8_compare_0 : decode cX8_compare 0 = .ok (.aload_n 0, 1) := by decide +kernel
theorem dX8_compare_1 : decode cX8_compare 1 = .ok (.iload_n 1, 1) := by decide +kernel
theorem dX8_compare_2 : decode cX8_compare 2 = .ok (.invokevirtual 121, 3) := by decide +kernel
theorem dX8_compare_5 : decode cX8_compare 5 = .ok (.astore_n 3, 1) := by decide +kernel
theorem dX8_compare_6 : decode cX8_compare 6 = .ok (.aload_n 0, 1) := by decide +kernel
theorem dX8_compare_7 : decode cX8_compare 7 = .ok (.iload_n 2, 1) := by decide +kernel
theorem dX8_compare_8 : decode cX8_compare 8 = .ok (.invokevirtual 121, 3) := by decide +kernel
theorem dX8_compare_11 : decode cX8_compare 11 = .ok (.astore 4, 2) := by decide +kernel
theorem dX8_compare_13 : decode cX8_compare 13 = .ok (.aload_n 3, 1) := by decide +kernel
theorem dX8_compare_14 : decode cX8_compare 14 = .ok (.ifnull 8, 3) := by decide +kernel
theorem dX8_compare_17 : decode cX8_compare 17 = .ok (.aload 4, 2) := by decide +kernel
theorem dX8_compare_19 : decode cX8_compare 19 = .ok (.ifnonnull 8, 3) := by decide +kernel
theorem dX8_compare_22 : decode cX8_compare 22 = .ok (.bipush (-2), 2) := by decide +kernel
theorem dX8_compare_24 : decode cX8_compare 24 = .ok (.goto 13, 3) := by decide +kernel
theorem dX8_compare_27 : decode cX8_compare 27 = .ok (.aload_n 0, 1) := by decide +kernel
theorem dX8_compare_28 : decode cX8_compare 28 = .ok (.getfield 18, 3) := by decide +kernel
theorem dX8_compare_31 : decode cX8_compare 31 = .ok (.aload_n 3, 1) := by decide +kernel
theorem dX8_compare_32 : decode cX8_compare 32 = .ok (.aload 4, 2) := by decide +kernel
theorem dX8_compare_34 : decode cX8_compare 34 = .ok (.invokevirtual 158, 3) := by decide +kernel
theorem dX8_compare_37 : decode cX8_compare 37 = .ok (.ireturn, 1) := by decide +kernel
theorem dX8_fuel_0 : decode cX8_fuel 0 = .ok (.iload_n 1, 1) := by decide +kernel
theorem dX8_fuel_1 : decode cX8_fuel 1 = .ok (.ifCond .lt 10, 3) := by decide +kernel
theorem dX8_fuel_4 : decode cX8_fuel 4 = .ok (.iload_n 1, 1) := by decide +kernel
theorem dX8_fuel_5 : decode cX8_fuel 5 = .ok (.sipush 2000, 3) := by decide +kernel
theorem dX8_fuel_8 : decode cX8_fuel 8 = .ok (.if_icmp .le 6, 3) := by decide +kernel
theorem dX8_fuel_11 : decode cX8_fuel 11 = .ok (.bipush (-2), 2) := by decide +kernel
theorem dX8_fuel_13 : decode cX8_fuel 13 = .ok (.ireturn, 1) := by decide +kernel
theorem dX8_fuel_14 : decode cX8_fuel 14 = .ok (.aload_n 0, 1) := by decide +kernel
theorem dX8_fuel_15 : decode cX8_fuel 15 = .ok (.getfield 51, 3) := by decide +kernel
theorem dX8_fuel_18 : decode cX8_fuel 18 = .ok (.getfield 162, 3) := by decide +kernel
theorem dX8_fuel_21 : decode cX8_fuel 21 = .ok (.istore_n 2, 1) := by decide +kernel
theorem dX8_fuel_22 : decode cX8_fuel 22 = .ok (.aload_n 0, 1) := by decide +kernel
theorem dX8_fuel_23 : decode cX8_fuel 23 = .ok (.getfield 51, 3) := by decide +kernel
theorem dX8_fuel_26 : decode cX8_fuel 26 = .ok (.iload_n 1, 1) := by decide +kernel
theorem dX8_fuel_27 : decode cX8_fuel 27 = .ok (.putfield 162, 3) := by decide +kernel
theorem dX8_fuel_30 : decode cX8_fuel 30 = .ok (.iload_n 2, 1) := by decide +kernel
theorem dX8_fuel_31 : decode cX8_fuel 31 = .ok (.ireturn, 1) := by decide +kernel
theorem dX8_way_0 : decode cX8_way 0 = .ok (.iload_n 1, 1) := by decide +kernel
theorem dX8_way_1 : decode cX8_way 1 = .ok (.ifCond .lt 8, 3) := by decide +kernel
theorem dX8_way_4 : decode cX8_way 4 = .ok (.iload_n 1, 1) := by decide +kernel
theorem dX8_way_5 : decode cX8_way 5 = .ok (.iconst 1, 1) := by decide +kernel
theorem dX8_way_6 : decode cX8_way 6 = .ok (.if_icmp .le 6, 3) := by decide +kernel
theorem dX8_way_9 : decode cX8_way 9 = .ok (.bipush (-2), 2) := by decide +kernel
theorem dX8_way_11 : decode cX8_way 11 = .ok (.ireturn, 1) := by decide +kernel
theorem dX8_way_12 : decode cX8_way 12 = .ok (.aload_n 0, 1) := by decide +kernel
theorem dX8_way_13 : decode cX8_way 13 = .ok (.getfield 60, 3) := by decide +kernel
theorem dX8_way_16 : decode cX8_way 16 = .ok (.getfield 165, 3) := by decide +kernel
theorem dX8_way_19 : decode cX8_way 19 = .ok (.istore_n 2, 1) := by decide +kernel
theorem dX8_way_20 : decode cX8_way 20 = .ok (.aload_n 0, 1) := by decide +kernel
theorem dX8_way_21 : decode cX8_way 21 = .ok (.getfield 60, 3) := by decide +kernel
theorem dX8_way_24 : decode cX8_way 24 = .ok (.iload_n 1, 1) := by decide +kernel
theorem dX8_way_25 : decode cX8_way 25 = .ok (.putfield 165, 3) := by decide +kernel
theorem dX8_way_28 : decode cX8_way 28 = .ok (.iload_n 2, 1) := by decide +kernel
theorem dX8_way_29 : decode cX8_way 29 = .ok (.ireturn, 1) := by decide +kernel
theorem dX8_rules_0 : decode cX8_rules 0 = .ok (.iload_n 1, 1) := by decide +kernel
theorem dX8_rules_1 : decode cX8_rules 1 = .ok (.ifCond .lt 8, 3) := by decide +kernel
theorem dX8_rules_4 : decode cX8_rules 4 = .ok (.iload_n 1, 1) := by decide +kernel
theorem dX8_rules_5 : decode cX8_rules 5 = .ok (.iconst 3, 1) := by decide +kernel
theorem dX8_rules_6 : decode cX8_rules 6 = .ok (.if_icmp .le 6, 3) := by decide +kernel
theorem dX8_rules_9 : decode cX8_rules 9 = .ok (.bipush (-2), 2) := by decide +kernel
theorem dX8_rules_11 : decode cX8_rules 11 = .ok (.ireturn, 1) := by decide +kernel
theorem dX8_rules_12 : decode cX8_rules 12 = .ok (.aload_n 0, 1) := by decide +kernel
theorem dX8_rules_13 : decode cX8_rules 13 = .ok (.getfield 60, 3) := by decide +kernel
theorem dX8_rules_16 : decode cX8_rules 16 = .ok (.getfield 168, 3) := by decide +kernel
theorem dX8_rules_19 : decode cX8_rules 19 = .ok (.istore_n 2, 1) := by decide +kernel
theorem dX8_rules_20 : decode cX8_rules 20 = .ok (.aload_n 0, 1) := by decide +kernel
theorem dX8_rules_21 : decode cX8_rules 21 = .ok (.getfield 60, 3) := by decide +kernel
theorem dX8_rules_24 : decode cX8_rules 24 = .ok (.iload_n 1, 1) := by decide +kernel
theorem dX8_rules_25 : decode cX8_rules 25 = .ok (.putfield 168, 3) := by decide +kernel
theorem dX8_rules_28 : decode cX8_rules 28 = .ok (.iload_n 2, 1) := by decide +kernel
theorem dX8_rules_29 : decode cX8_rules 29 = .ok (.ireturn, 1) := by decide +kernel
theorem dX8_enter_0 : decode cX8_enter 0 = .ok (.aload_n 0, 1) := by decide +kernel
theorem dX8_enter_1 : decode cX8_enter 1 = .ok (.iload_n 1, 1) := by decide +kernel
theorem dX8_enter_2 : decode cX8_enter 2 = .ok (.invokevirtual 121, 3) := by decide +kernel
theorem dX8_enter_5 : decode cX8_enter 5 = .ok (.astore_n 2, 1) := by decide +kernel
theorem dX8_enter_6 : decode cX8_enter 6 = .ok (.aload_n 2, 1) := by decide +kernel
theorem dX8_enter_7 : decode cX8_enter 7 = .ok (.ifnull 10, 3) := by decide +kernel
theorem dX8_enter_10 : decode cX8_enter 10 = .ok (.aload_n 2, 1) := by decide +kernel
theorem dX8_enter_11 : decode cX8_enter 11 = .ok (.getfield 108, 3) := by decide +kernel
theorem dX8_enter_14 : decode cX8_enter 14 = .ok (.ifCond .ne 6, 3) := by decide +kernel
theorem dX8_enter_17 : decode cX8_enter 17 = .ok (.bipush (-2), 2) := by decide +kernel
theorem dX8_enter_19 : decode cX8_enter 19 = .ok (.ireturn, 1) := by decide +kernel
theorem dX8_enter_20 : decode cX8_enter 20 = .ok (.aload_n 0, 1) := by decide +kernel
theorem dX8_enter_21 : decode cX8_enter 21 = .ok (.getfield 60, 3) := by decide +kernel
theorem dX8_enter_24 : decode cX8_enter 24 = .ok (.invokevirtual 171, 3) := by decide +kernel
theorem dX8_enter_27 : decode cX8_enter 27 = .ok (.ifCond .eq 6, 3) := by decide +kernel
theorem dX8_enter_30 : decode cX8_enter 30 = .ok (.bipush (-4), 2) := by decide +kernel
theorem dX8_enter_32 : decode cX8_enter 32 = .ok (.ireturn, 1) := by decide +kernel
theorem dX8_enter_33 : decode cX8_enter 33 = .ok (.aload_n 0, 1) := by decide +kernel
theorem dX8_enter_34 : decode cX8_enter 34 = .ok (.getfield 60, 3) := by decide +kernel
theorem dX8_enter_37 : decode cX8_enter 37 = .ok (.iconst 0, 1) := by decide +kernel
theorem dX8_enter_38 : decode cX8_enter 38 = .ok (.putfield 172, 3) := by decide +kernel
theorem dX8_enter_41 : decode cX8_enter 41 = .ok (.aload_n 0, 1) := by decide +kernel
theorem dX8_enter_42 : decode cX8_enter 42 = .ok (.getfield 60, 3) := by decide +kernel
theorem dX8_enter_45 : decode cX8_enter 45 = .ok (.aload_n 2, 1) := by decide +kernel
theorem dX8_enter_46 : decode cX8_enter 46 = .ok (.invokevirtual 176, 3) := by decide +kernel
theorem dX8_enter_49 : decode cX8_enter 49 = .ok (.ireturn, 1) := by decide +kernel
theorem dX8_clear_0 : decode cX8_clear 0 = .ok (.aload_n 0, 1) := by decide +kernel
theorem dX8_clear_1 : decode cX8_clear 1 = .ok (.getfield 60, 3) := by decide +kernel
theorem dX8_clear_4 : decode cX8_clear 4 = .ok (.invokevirtual 179, 3) := by decide +kernel
theorem dX8_clear_7 : decode cX8_clear 7 = .ok (.ireturn, 1) := by decide +kernel
theorem dX8_work_0 : decode cX8_work 0 = .ok (.iload_n 1, 1) := by decide +kernel
theorem dX8_work_1 : decode cX8_work 1 = .ok (.iconst 1, 1) := by decide +kernel
theorem dX8_work_2 : decode cX8_work 2 = .ok (.if_icmp .lt 10, 3) := by decide +kernel
theorem dX8_work_5 : decode cX8_work 5 = .ok (.iload_n 1, 1) := by decide +kernel
theorem dX8_work_6 : decode cX8_work 6 = .ok (.sipush 200, 3) := by decide +kernel
theorem dX8_work_9 : decode cX8_work 9 = .ok (.if_icmp .le 6, 3) := by decide +kernel
theorem dX8_work_12 : decode cX8_work 12 = .ok (.bipush (-2), 2) := by decide +kernel
theorem dX8_work_14 : decode cX8_work 14 = .ok (.ireturn, 1) := by decide +kernel
theorem dX8_work_15 : decode cX8_work 15 = .ok (.aload_n 0, 1) := by decide +kernel
theorem dX8_work_16 : decode cX8_work 16 = .ok (.getfield 51, 3) := by decide +kernel
theorem dX8_work_19 : decode cX8_work 19 = .ok (.invokevirtual 183, 3) := by decide +kernel
theorem dX8_work_22 : decode cX8_work 22 = .ok (.iconst 0, 1) := by decide +kernel
theorem dX8_work_23 : decode cX8_work 23 = .ok (.istore_n 2, 1) := by decide +kernel
theorem dX8_work_24 : decode cX8_work 24 = .ok (.iload_n 2, 1) := by decide +kernel
theorem dX8_work_25 : decode cX8_work 25 = .ok (.iload_n 1, 1) := by decide +kernel
theorem dX8_work_26 : decode cX8_work 26 = .ok (.if_icmp .ge 36, 3) := by decide +kernel
theorem dX8_work_29 : decode cX8_work 29 = .ok (.aload_n 0, 1) := by decide +kernel
theorem dX8_work_30 : decode cX8_work 30 = .ok (.getfield 60, 3) := by decide +kernel
theorem dX8_work_33 : decode cX8_work 33 = .ok (.getfield 186, 3) := by decide +kernel
theorem dX8_work_36 : decode cX8_work 36 = .ok (.getfield 190, 3) := by decide +kernel
theorem dX8_work_39 : decode cX8_work 39 = .ok (.ifCond .le 23, 3) := by decide +kernel
theorem dX8_work_42 : decode cX8_work 42 = .ok (.aload_n 0, 1) := by decide +kernel
theorem dX8_work_43 : decode cX8_work 43 = .ok (.getfield 60, 3) := by decide +kernel
theorem dX8_work_46 : decode cX8_work 46 = .ok (.invokevirtual 193, 3) := by decide +kernel
theorem dX8_work_49 : decode cX8_work 49 = .ok (.istore_n 3, 1) := by decide +kernel
theorem dX8_work_50 : decode cX8_work 50 = .ok (.iload_n 3, 1) := by decide +kernel
theorem dX8_work_51 : decode cX8_work 51 = .ok (.ifCond .eq 5, 3) := by decide +kernel
theorem dX8_work_54 : decode cX8_work 54 = .ok (.iload_n 3, 1) := by decide +kernel
theorem dX8_work_55 : decode cX8_work 55 = .ok (.ireturn, 1) := by decide +kernel
theorem dX8_work_56 : decode cX8_work 56 = .ok (.iinc 2 1, 3) := by decide +kernel
theorem dX8_work_59 : decode cX8_work 59 = .ok (.goto (-35), 3) := by decide +kernel
theorem dX8_work_62 : decode cX8_work 62 = .ok (.iload_n 2, 1) := by decide +kernel
theorem dX8_work_63 : decode cX8_work 63 = .ok (.ireturn, 1) := by decide +kernel
theorem dX8_tidy_0 : decode cX8_tidy 0 = .ok (.aload_n 0, 1) := by decide +kernel
theorem dX8_tidy_1 : decode cX8_tidy 1 = .ok (.getfield 60, 3) := by decide +kernel
theorem dX8_tidy_4 : decode cX8_tidy 4 = .ok (.getfield 186, 3) := by decide +kernel
theorem dX8_tidy_7 : decode cX8_tidy 7 = .ok (.getfield 190, 3) := by decide +kernel
theorem dX8_tidy_10 : decode cX8_tidy 10 = .ok (.ifCond .le 8, 3) := by decide +kernel
theorem dX8_tidy_13 : decode cX8_tidy 13 = .ok (.bipush (-3), 2) := by decide +kernel
theorem dX8_tidy_15 : decode cX8_tidy 15 = .ok (.goto 10, 3) := by decide +kernel
theorem dX8_tidy_18 : decode cX8_tidy 18 = .ok (.aload_n 0, 1) := by decide +kernel
theorem dX8_tidy_19 : decode cX8_tidy 19 = .ok (.getfield 60, 3) := by decide +kernel
theorem dX8_tidy_22 : decode cX8_tidy 22 = .ok (.invokevirtual 196, 3) := by decide +kernel
theorem dX8_tidy_25 : decode cX8_tidy 25 = .ok (.ireturn, 1) := by decide +kernel
theorem dX8_left_0 : decode cX8_left 0 = .ok (.aload_n 0, 1) := by decide +kernel
theorem dX8_left_1 : decode cX8_left 1 = .ok (.iload_n 1, 1) := by decide +kernel
theorem dX8_left_2 : decode cX8_left 2 = .ok (.invokevirtual 121, 3) := by decide +kernel
theorem dX8_left_5 : decode cX8_left 5 = .ok (.astore_n 2, 1) := by decide +kernel
theorem dX8_left_6 : decode cX8_left 6 = .ok (.aload_n 2, 1) := by decide +kernel
theorem dX8_left_7 : decode cX8_left 7 = .ok (.ifnonnull 6, 3) := by decide +kernel
theorem dX8_left_10 : decode cX8_left 10 = .ok (.bipush (-2), 2) := by decide +kernel
theorem dX8_left_12 : decode cX8_left 12 = .ok (.ireturn, 1) := by decide +kernel
theorem dX8_left_13 : decode cX8_left 13 = .ok (.aload_n 0, 1) := by decide +kernel
theorem dX8_left_14 : decode cX8_left 14 = .ok (.getfield 51, 3) := by decide +kernel
theorem dX8_left_17 : decode cX8_left 17 = .ok (.invokevirtual 183, 3) := by decide +kernel
theorem dX8_left_20 : decode cX8_left 20 = .ok (.aload_n 0, 1) := by decide +kernel
theorem dX8_left_21 : decode cX8_left 21 = .ok (.getfield 42, 3) := by decide +kernel
theorem dX8_left_24 : decode cX8_left 24 = .ok (.invokevirtual 109, 3) := by decide +kernel
theorem dX8_left_27 : decode cX8_left 27 = .ok (.ifCond .eq 6, 3) := by decide +kernel
theorem dX8_left_30 : decode cX8_left 30 = .ok (.bipush (-4), 2) := by decide +kernel
theorem dX8_left_32 : decode cX8_left 32 = .ok (.ireturn, 1) := by decide +kernel
theorem dX8_left_33 : decode cX8_left 33 = .ok (.aload_n 0, 1) := by decide +kernel
theorem dX8_left_34 : decode cX8_left 34 = .ok (.getfield 51, 3) := by decide +kernel
theorem dX8_left_37 : decode cX8_left 37 = .ok (.aload_n 2, 1) := by decide +kernel
theorem dX8_left_38 : decode cX8_left 38 = .ok (.aload_n 0, 1) := by decide +kernel
theorem dX8_left_39 : decode cX8_left 39 = .ok (.getfield 60, 3) := by decide +kernel
theorem dX8_left_42 : decode cX8_left 42 = .ok (.getfield 199, 3) := by decide +kernel
theorem dX8_left_45 : decode cX8_left 45 = .ok (.aload_n 0, 1) := by decide +kernel
theorem dX8_left_46 : decode cX8_left 46 = .ok (.getfield 60, 3) := by decide +kernel
theorem dX8_left_49 : decode cX8_left 49 = .ok (.getfield 73, 3) := by decide +kernel
theorem dX8_left_52 : decode cX8_left 52 = .ok (.iconst (-1), 1) := by decide +kernel
theorem dX8_left_53 : decode cX8_left 53 = .ok (.invokevirtual 203, 3) := by decide +kernel
theorem dX8_left_56 : decode cX8_left 56 = .ok (.istore_n 3, 1) := by decide +kernel
theorem dX8_left_57 : decode cX8_left 57 = .ok (.iload_n 3, 1) := by decide +kernel
theorem dX8_left_58 : decode cX8_left 58 = .ok (.ifCond .eq 7, 3) := by decide +kernel
theorem dX8_left_61 : decode cX8_left 61 = .ok (.iload_n 3, 1) := by decide +kernel
theorem dX8_left_62 : decode cX8_left 62 = .ok (.goto 17, 3) := by decide +kernel
theorem dX8_left_65 : decode cX8_left 65 = .ok (.aload_n 0, 1) := by decide +kernel
theorem dX8_left_66 : decode cX8_left 66 = .ok (.getfield 42, 3) := by decide +kernel
theorem dX8_left_69 : decode cX8_left 69 = .ok (.aload_n 0, 1) := by decide +kernel
theorem dX8_left_70 : decode cX8_left 70 = .ok (.getfield 51, 3) := by decide +kernel
theorem dX8_left_73 : decode cX8_left 73 = .ok (.getfield 207, 3) := by decide +kernel
theorem dX8_left_76 : decode cX8_left 76 = .ok (.invokevirtual 113, 3) := by decide +kernel
theorem dX8_left_79 : decode cX8_left 79 = .ok (.ireturn, 1) := by decide +kernel
theorem dX8_member_0 : decode cX8_member 0 = .ok (.aload_n 0, 1) := by decide +kernel
theorem dX8_member_1 : decode cX8_member 1 = .ok (.iload_n 1, 1) := by decide +kernel
theorem dX8_member_2 : decode cX8_member 2 = .ok (.invokevirtual 121, 3) := by decide +kernel
theorem dX8_member_5 : decode cX8_member 5 = .ok (.astore_n 2, 1) := by decide +kernel
theorem dX8_member_6 : decode cX8_member 6 = .ok (.aload_n 2, 1) := by decide +kernel
theorem dX8_member_7 : decode cX8_member 7 = .ok (.ifnonnull 6, 3) := by decide +kernel
theorem dX8_member_10 : decode cX8_member 10 = .ok (.bipush (-2), 2) := by decide +kernel
theorem dX8_member_12 : decode cX8_member 12 = .ok (.ireturn, 1) := by decide +kernel
theorem dX8_member_13 : decode cX8_member 13 = .ok (.aload_n 0, 1) := by decide +kernel
theorem dX8_member_14 : decode cX8_member 14 = .ok (.getfield 60, 3) := by decide +kernel
theorem dX8_member_17 : decode cX8_member 17 = .ok (.getfield 172, 3) := by decide +kernel
theorem dX8_member_20 : decode cX8_member 20 = .ok (.ifCond .ne 6, 3) := by decide +kernel
theorem dX8_member_23 : decode cX8_member 23 = .ok (.bipush (-3), 2) := by decide +kernel
theorem dX8_member_25 : decode cX8_member 25 = .ok (.ireturn, 1) := by decide +kernel
theorem dX8_member_26 : decode cX8_member 26 = .ok (.aload_n 0, 1) := by decide +kernel
theorem dX8_member_27 : decode cX8_member 27 = .ok (.getfield 51, 3) := by decide +kernel
theorem dX8_member_30 : decode cX8_member 30 = .ok (.invokevirtual 183, 3) := by decide +kernel
theorem dX8_member_33 : decode cX8_member 33 = .ok (.aload_n 0, 1) := by decide +kernel
theorem dX8_member_34 : decode cX8_member 34 = .ok (.getfield 51, 3) := by decide +kernel
theorem dX8_member_37 : decode cX8_member 37 = .ok (.aload_n 2, 1) := by decide +kernel
theorem dX8_member_38 : decode cX8_member 38 = .ok (.aload_n 0, 1) := by decide +kernel
theorem dX8_member_39 : decode cX8_member 39 = .ok (.getfield 60, 3) := by decide +kernel
theorem dX8_member_42 : decode cX8_member 42 = .ok (.getfield 199, 3) := by decide +kernel
theorem dX8_member_45 : decode cX8_member 45 = .ok (.aload_n 0, 1) := by decide +kernel
theorem dX8_member_46 : decode cX8_member 46 = .ok (.getfield 60, 3) := by decide +kernel
theorem dX8_member_49 : decode cX8_member 49 = .ok (.getfield 73, 3) := by decide +kernel
theorem dX8_member_52 : decode cX8_member 52 = .ok (.iconst (-1), 1) := by decide +kernel
theorem dX8_member_53 : decode cX8_member 53 = .ok (.invokevirtual 203, 3) := by decide +kernel
theorem dX8_member_56 : decode cX8_member 56 = .ok (.istore_n 3, 1) := by decide +kernel
theorem dX8_member_57 : decode cX8_member 57 = .ok (.iload_n 3, 1) := by decide +kernel
theorem dX8_member_58 : decode cX8_member 58 = .ok (.ifCond .eq 5, 3) := by decide +kernel
theorem dX8_member_61 : decode cX8_member 61 = .ok (.iload_n 3, 1) := by decide +kernel
theorem dX8_member_62 : decode cX8_member 62 = .ok (.ireturn, 1) := by decide +kernel
theorem dX8_member_63 : decode cX8_member 63 = .ok (.aload_n 0, 1) := by decide +kernel
theorem dX8_member_64 : decode cX8_member 64 = .ok (.getfield 51, 3) := by decide +kernel
theorem dX8_member_67 : decode cX8_member 67 = .ok (.getfield 207, 3) := by decide +kernel
theorem dX8_member_70 : decode cX8_member 70 = .ok (.getfield 108, 3) := by decide +kernel
theorem dX8_member_73 : decode cX8_member 73 = .ok (.ifCond .ne 7, 3) := by decide +kernel
theorem dX8_member_76 : decode cX8_member 76 = .ok (.iconst 1, 1) := by decide +kernel
theorem dX8_member_77 : decode cX8_member 77 = .ok (.goto 4, 3) := by decide +kernel
theorem dX8_member_80 : decode cX8_member 80 = .ok (.iconst 0, 1) := by decide +kernel
theorem dX8_member_81 : decode cX8_member 81 = .ok (.ireturn, 1) := by decide +kernel
theorem dX8_pair_0 : decode cX8_pair 0 = .ok (.aload_n 0, 1) := by decide +kernel
theorem dX8_pair_1 : decode cX8_pair 1 = .ok (.getfield 60, 3) := by decide +kernel
theorem dX8_pair_4 : decode cX8_pair 4 = .ok (.getfield 186, 3) := by decide +kernel
theorem dX8_pair_7 : decode cX8_pair 7 = .ok (.astore_n 2, 1) := by decide +kernel
theorem dX8_pair_8 : decode cX8_pair 8 = .ok (.iload_n 1, 1) := by decide +kernel
theorem dX8_pair_9 : decode cX8_pair 9 = .ok (.ifCond .lt 11, 3) := by decide +kernel
theorem dX8_pair_12 : decode cX8_pair 12 = .ok (.iload_n 1, 1) := by decide +kernel
theorem dX8_pair_13 : decode cX8_pair 13 = .ok (.aload_n 2, 1) := by decide +kernel
theorem dX8_pair_14 : decode cX8_pair 14 = .ok (.getfield 190, 3) := by decide +kernel
theorem dX8_pair_17 : decode cX8_pair 17 = .ok (.if_icmp .lt 7, 3) := by decide +kernel
theorem dX8_pair_20 : decode cX8_pair 20 = .ok (.iconst (-1), 1) := by decide +kernel
theorem dX8_pair_21 : decode cX8_pair 21 = .ok (.goto 19, 3) := by decide +kernel
theorem dX8_pair_24 : decode cX8_pair 24 = .ok (.bipush 100, 2) := by decide +kernel
theorem dX8_pair_26 : decode cX8_pair 26 = .ok (.aload_n 2, 1) := by decide +kernel
theorem dX8_pair_27 : decode cX8_pair 27 = .ok (.getfield 210, 3) := by decide +kernel
theorem dX8_pair_30 : decode cX8_pair 30 = .ok (.iload_n 1, 1) := by decide +kernel
theorem dX8_pair_31 : decode cX8_pair 31 = .ok (.iaload, 1) := by decide +kernel
theorem dX8_pair_32 : decode cX8_pair 32 = .ok (.imul, 1) := by decide +kernel
theorem dX8_pair_33 : decode cX8_pair 33 = .ok (.aload_n 2, 1) := by decide +kernel
theorem dX8_pair_34 : decode cX8_pair 34 = .ok (.getfield 213, 3) := by decide +kernel
theorem dX8_pair_37 : decode cX8_pair 37 = .ok (.iload_n 1, 1) := by decide +kernel
theorem dX8_pair_38 : decode cX8_pair 38 = .ok (.iaload, 1) := by decide +kernel
theorem dX8_pair_39 : decode cX8_pair 39 = .ok (.iadd, 1) := by decide +kernel
theorem dX8_pair_40 : decode cX8_pair 40 = .ok (.ireturn, 1) := by decide +kernel
theorem dX8_standing_0 : decode cX8_standing 0 = .ok (.aload_n 0, 1) := by decide +kernel
theorem dX8_standing_1 : decode cX8_standing 1 = .ok (.getfield 60, 3) := by decide +kernel
theorem dX8_standing_4 : decode cX8_standing 4 = .ok (.getfield 172, 3) := by decide +kernel
theorem dX8_standing_7 : decode cX8_standing 7 = .ok (.ifCond .eq 13, 3) := by decide +kernel
theorem dX8_standing_10 : decode cX8_standing 10 = .ok (.aload_n 0, 1) := by decide +kernel
theorem dX8_standing_11 : decode cX8_standing 11 = .ok (.getfield 69, 3) := by decide +kernel
theorem dX8_standing_14 : decode cX8_standing 14 = .ok (.invokevirtual 216, 3) := by decide +kernel
theorem dX8_standing_17 : decode cX8_standing 17 = .ok (.goto 5, 3) := by decide +kernel
theorem dX8_standing_20 : decode cX8_standing 20 = .ok (.bipush (-3), 2) := by decide +kernel
theorem dX8_standing_22 : decode cX8_standing 22 = .ok (.ireturn, 1) := by decide +kernel
theorem dX8_stands_0 : decode cX8_stands 0 = .ok (.aload_n 0, 1) := by decide +kernel
theorem dX8_stands_1 : decode cX8_stands 1 = .ok (.getfield 60, 3) := by decide +kernel
theorem dX8_stands_4 : decode cX8_stands 4 = .ok (.getfield 172, 3) := by decide +kernel
theorem dX8_stands_7 : decode cX8_stands 7 = .ok (.ifCond .ne 6, 3) := by decide +kernel
theorem dX8_stands_10 : decode cX8_stands 10 = .ok (.bipush (-3), 2) := by decide +kernel
theorem dX8_stands_12 : decode cX8_stands 12 = .ok (.ireturn, 1) := by decide +kernel
theorem dX8_stands_13 : decode cX8_stands 13 = .ok (.aload_n 0, 1) := by decide +kernel
theorem dX8_stands_14 : decode cX8_stands 14 = .ok (.getfield 69, 3) := by decide +kernel
theorem dX8_stands_17 : decode cX8_stands 17 = .ok (.invokevirtual 216, 3) := by decide +kernel
theorem dX8_stands_20 : decode cX8_stands 20 = .ok (.istore_n 3, 1) := by decide +kernel
theorem dX8_stands_21 : decode cX8_stands 21 = .ok (.iload_n 1, 1) := by decide +kernel
theorem dX8_stands_22 : decode cX8_stands 22 = .ok (.ifCond .lt 19, 3) := by decide +kernel
theorem dX8_stands_25 : decode cX8_stands 25 = .ok (.iload_n 1, 1) := by decide +kernel
theorem dX8_stands_26 : decode cX8_stands 26 = .ok (.iload_n 3, 1) := by decide +kernel
theorem dX8_stands_27 : decode cX8_stands 27 = .ok (.if_icmp .ge 14, 3) := by decide +kernel
theorem dX8_stands_30 : decode cX8_stands 30 = .ok (.aload_n 0, 1) := by decide +kernel
theorem dX8_stands_31 : decode cX8_stands 31 = .ok (.getfield 18, 3) := by decide +kernel
theorem dX8_stands_34 : decode cX8_stands 34 = .ok (.iload_n 2, 1) := by decide +kernel
theorem dX8_stands_35 : decode cX8_stands 35 = .ok (.invokevirtual 128, 3) := by decide +kernel
theorem dX8_stands_38 : decode cX8_stands 38 = .ok (.ifCond .ne 8, 3) := by decide +kernel
theorem dX8_stands_41 : decode cX8_stands 41 = .ok (.bipush (-2), 2) := by decide +kernel
theorem dX8_stands_43 : decode cX8_stands 43 = .ok (.goto 16, 3) := by decide +kernel
theorem dX8_stands_46 : decode cX8_stands 46 = .ok (.aload_n 0, 1) := by decide +kernel
theorem dX8_stands_47 : decode cX8_stands 47 = .ok (.getfield 69, 3) := by decide +kernel
theorem dX8_stands_50 : decode cX8_stands 50 = .ok (.getfield 219, 3) := by decide +kernel
theorem dX8_stands_53 : decode cX8_stands 53 = .ok (.iload_n 1, 1) := by decide +kernel
theorem dX8_stands_54 : decode cX8_stands 54 = .ok (.iaload, 1) := by decide +kernel
theorem dX8_stands_55 : decode cX8_stands 55 = .ok (.iload_n 2, 1) := by decide +kernel
theorem dX8_stands_56 : decode cX8_stands 56 = .ok (.invokestatic 134, 3) := by decide +kernel
theorem dX8_stands_59 : decode cX8_stands 59 = .ok (.ireturn, 1) := by decide +kernel
theorem dX8_without_0 : decode cX8_without 0 = .ok (.iload_n 1, 1) := by decide +kernel
theorem dX8_without_1 : decode cX8_without 1 = .ok (.ifCond .lt 14, 3) := by decide +kernel
theorem dX8_without_4 : decode cX8_without 4 = .ok (.iload_n 1, 1) := by decide +kernel
theorem dX8_without_5 : decode cX8_without 5 = .ok (.aload_n 0, 1) := by decide +kernel
theorem dX8_without_6 : decode cX8_without 6 = .ok (.getfield 18, 3) := by decide +kernel
theorem dX8_without_9 : decode cX8_without 9 = .ok (.getfield 220, 3) := by decide +kernel
theorem dX8_without_12 : decode cX8_without 12 = .ok (.if_icmp .le 6, 3) := by decide +kernel
theorem dX8_without_15 : decode cX8_without 15 = .ok (.bipush (-2), 2) := by decide +kernel
theorem dX8_without_17 : decode cX8_without 17 = .ok (.ireturn, 1) := by decide +kernel
theorem dX8_without_18 : decode cX8_without 18 = .ok (.aload_n 0, 1) := by decide +kernel
theorem dX8_without_19 : decode cX8_without 19 = .ok (.getfield 60, 3) := by decide +kernel
theorem dX8_without_22 : decode cX8_without 22 = .ok (.getfield 172, 3) := by decide +kernel
theorem dX8_without_25 : decode cX8_without 25 = .ok (.ifCond .eq 14, 3) := by decide +kernel
theorem dX8_without_28 : decode cX8_without 28 = .ok (.aload_n 0, 1) := by decide +kernel
theorem dX8_without_29 : decode cX8_without 29 = .ok (.getfield 60, 3) := by decide +kernel
theorem dX8_without_32 : decode cX8_without 32 = .ok (.iload_n 1, 1) := by decide +kernel
theorem dX8_without_33 : decode cX8_without 33 = .ok (.invokevirtual 223, 3) := by decide +kernel
theorem dX8_without_36 : decode cX8_without 36 = .ok (.goto 5, 3) := by decide +kernel
theorem dX8_without_39 : decode cX8_without 39 = .ok (.bipush (-3), 2) := by decide +kernel
theorem dX8_without_41 : decode cX8_without 41 = .ok (.ireturn, 1) := by decide +kernel
theorem dX8_zeros_0 : decode cX8_zeros 0 = .ok (.aload_n 0, 1) := by decide +kernel
theorem dX8_zeros_1 : decode cX8_zeros 1 = .ok (.getfield 18, 3) := by decide +kernel
theorem dX8_zeros_4 : decode cX8_zeros 4 = .ok (.sipush 2500, 3) := by decide +kernel
theorem dX8_zeros_7 : decode cX8_zeros 7 = .ok (.invokevirtual 226, 3) := by decide +kernel
theorem dX8_zeros_10 : decode cX8_zeros 10 = .ok (.istore_n 1, 1) := by decide +kernel
theorem dX8_zeros_11 : decode cX8_zeros 11 = .ok (.iload_n 1, 1) := by decide +kernel
theorem dX8_zeros_12 : decode cX8_zeros 12 = .ok (.sipush 2500, 3) := by decide +kernel
theorem dX8_zeros_15 : decode cX8_zeros 15 = .ok (.if_icmp .le 6, 3) := by decide +kernel
theorem dX8_zeros_18 : decode cX8_zeros 18 = .ok (.bipush (-3), 2) := by decide +kernel
theorem dX8_zeros_20 : decode cX8_zeros 20 = .ok (.ireturn, 1) := by decide +kernel
theorem dX8_zeros_21 : decode cX8_zeros 21 = .ok (.iconst 0, 1) := by decide +kernel
theorem dX8_zeros_22 : decode cX8_zeros 22 = .ok (.istore_n 2, 1) := by decide +kernel
theorem dX8_zeros_23 : decode cX8_zeros 23 = .ok (.iconst 0, 1) := by decide +kernel
theorem dX8_zeros_24 : decode cX8_zeros 24 = .ok (.istore_n 3, 1) := by decide +kernel
theorem dX8_zeros_25 : decode cX8_zeros 25 = .ok (.iload_n 3, 1) := by decide +kernel
theorem dX8_zeros_26 : decode cX8_zeros 26 = .ok (.iload_n 1, 1) := by decide +kernel
theorem dX8_zeros_27 : decode cX8_zeros 27 = .ok (.if_icmp .ge 30, 3) := by decide +kernel
theorem dX8_zeros_30 : decode cX8_zeros 30 = .ok (.aload_n 0, 1) := by decide +kernel
theorem dX8_zeros_31 : decode cX8_zeros 31 = .ok (.getfield 18, 3) := by decide +kernel
theorem dX8_zeros_34 : decode cX8_zeros 34 = .ok (.iload_n 3, 1) := by decide +kernel
theorem dX8_zeros_35 : decode cX8_zeros 35 = .ok (.invokevirtual 229, 3) := by decide +kernel
theorem dX8_zeros_38 : decode cX8_zeros 38 = .ok (.aload_n 0, 1) := by decide +kernel
theorem dX8_zeros_39 : decode cX8_zeros 39 = .ok (.getfield 60, 3) := by decide +kernel
theorem dX8_zeros_42 : decode cX8_zeros 42 = .ok (.invokevirtual 232, 3) := by decide +kernel
theorem dX8_zeros_45 : decode cX8_zeros 45 = .ok (.ifCond .eq 6, 3) := by decide +kernel
theorem dX8_zeros_48 : decode cX8_zeros 48 = .ok (.iinc 2 1, 3) := by decide +kernel
theorem dX8_zeros_51 : decode cX8_zeros 51 = .ok (.iinc 3 1, 3) := by decide +kernel
theorem dX8_zeros_54 : decode cX8_zeros 54 = .ok (.goto (-29), 3) := by decide +kernel
theorem dX8_zeros_57 : decode cX8_zeros 57 = .ok (.iload_n 2, 1) := by decide +kernel
theorem dX8_zeros_58 : decode cX8_zeros 58 = .ok (.ireturn, 1) := by decide +kernel
theorem dX8_count_0 : decode cX8_count 0 = .ok (.iload_n 1, 1) := by decide +kernel
theorem dX8_count_1 : decode cX8_count 1 = .ok (.tableswitch 170 0 11 #[63, 71, 79, 87, 98, 106, 114, 122, 130, 138, 154, 162], 63) := by decide +kernel
theorem dX8_count_64 : decode cX8_count 64 = .ok (.aload_n 0, 1) := by decide +kernel
theorem dX8_count_65 : decode cX8_count 65 = .ok (.getfield 18, 3) := by decide +kernel
theorem dX8_count_68 : decode cX8_count 68 = .ok (.getfield 235, 3) := by decide +kernel
theorem dX8_count_71 : decode cX8_count 71 = .ok (.ireturn, 1) := by decide +kernel
theorem dX8_count_72 : decode cX8_count 72 = .ok (.aload_n 0, 1) := by decide +kernel
theorem dX8_count_73 : decode cX8_count 73 = .ok (.getfield 18, 3) := by decide +kernel
theorem dX8_count_76 : decode cX8_count 76 = .ok (.getfield 220, 3) := by decide +kernel
theorem dX8_count_79 : decode cX8_count 79 = .ok (.ireturn, 1) := by decide +kernel
theorem dX8_count_80 : decode cX8_count 80 = .ok (.aload_n 0, 1) := by decide +kernel
theorem dX8_count_81 : decode cX8_count 81 = .ok (.getfield 60, 3) := by decide +kernel
theorem dX8_count_84 : decode cX8_count 84 = .ok (.getfield 73, 3) := by decide +kernel
theorem dX8_count_87 : decode cX8_count 87 = .ok (.ireturn, 1) := by decide +kernel
theorem dX8_count_88 : decode cX8_count 88 = .ok (.aload_n 0, 1) := by decide +kernel
theorem dX8_count_89 : decode cX8_count 89 = .ok (.getfield 60, 3) := by decide +kernel
theorem dX8_count_92 : decode cX8_count 92 = .ok (.getfield 186, 3) := by decide +kernel
theorem dX8_count_95 : decode cX8_count 95 = .ok (.getfield 190, 3) := by decide +kernel
theorem dX8_count_98 : decode cX8_count 98 = .ok (.ireturn, 1) := by decide +kernel
theorem dX8_count_99 : decode cX8_count 99 = .ok (.aload_n 0, 1) := by decide +kernel
theorem dX8_count_100 : decode cX8_count 100 = .ok (.getfield 60, 3) := by decide +kernel
theorem dX8_count_103 : decode cX8_count 103 = .ok (.getfield 238, 3) := by decide +kernel
theorem dX8_count_106 : decode cX8_count 106 = .ok (.ireturn, 1) := by decide +kernel
theorem dX8_count_107 : decode cX8_count 107 = .ok (.aload_n 0, 1) := by decide +kernel
theorem dX8_count_108 : decode cX8_count 108 = .ok (.getfield 60, 3) := by decide +kernel
theorem dX8_count_111 : decode cX8_count 111 = .ok (.getfield 241, 3) := by decide +kernel
theorem dX8_count_114 : decode cX8_count 114 = .ok (.ireturn, 1) := by decide +kernel
theorem dX8_count_115 : decode cX8_count 115 = .ok (.aload_n 0, 1) := by decide +kernel
theorem dX8_count_116 : decode cX8_count 116 = .ok (.getfield 60, 3) := by decide +kernel
theorem dX8_count_119 : decode cX8_count 119 = .ok (.getfield 244, 3) := by decide +kernel
theorem dX8_count_122 : decode cX8_count 122 = .ok (.ireturn, 1) := by decide +kernel
theorem dX8_count_123 : decode cX8_count 123 = .ok (.aload_n 0, 1) := by decide +kernel
theorem dX8_count_124 : decode cX8_count 124 = .ok (.getfield 60, 3) := by decide +kernel
theorem dX8_count_127 : decode cX8_count 127 = .ok (.getfield 247, 3) := by decide +kernel
theorem dX8_count_130 : decode cX8_count 130 = .ok (.ireturn, 1) := by decide +kernel
theorem dX8_count_131 : decode cX8_count 131 = .ok (.aload_n 0, 1) := by decide +kernel
theorem dX8_count_132 : decode cX8_count 132 = .ok (.getfield 51, 3) := by decide +kernel
theorem dX8_count_135 : decode cX8_count 135 = .ok (.getfield 250, 3) := by decide +kernel
theorem dX8_count_138 : decode cX8_count 138 = .ok (.ireturn, 1) := by decide +kernel
theorem dX8_count_139 : decode cX8_count 139 = .ok (.aload_n 0, 1) := by decide +kernel
theorem dX8_count_140 : decode cX8_count 140 = .ok (.getfield 60, 3) := by decide +kernel
theorem dX8_count_143 : decode cX8_count 143 = .ok (.getfield 172, 3) := by decide +kernel
theorem dX8_count_146 : decode cX8_count 146 = .ok (.ifCond .eq 7, 3) := by decide +kernel
theorem dX8_count_149 : decode cX8_count 149 = .ok (.iconst 1, 1) := by decide +kernel
theorem dX8_count_150 : decode cX8_count 150 = .ok (.goto 4, 3) := by decide +kernel
theorem dX8_count_153 : decode cX8_count 153 = .ok (.iconst 0, 1) := by decide +kernel
theorem dX8_count_154 : decode cX8_count 154 = .ok (.ireturn, 1) := by decide +kernel
theorem dX8_count_155 : decode cX8_count 155 = .ok (.aload_n 0, 1) := by decide +kernel
theorem dX8_count_156 : decode cX8_count 156 = .ok (.getfield 42, 3) := by decide +kernel
theorem dX8_count_159 : decode cX8_count 159 = .ok (.getfield 253, 3) := by decide +kernel
theorem dX8_count_162 : decode cX8_count 162 = .ok (.ireturn, 1) := by decide +kernel
theorem dX8_count_163 : decode cX8_count 163 = .ok (.aload_n 0, 1) := by decide +kernel
theorem dX8_count_164 : decode cX8_count 164 = .ok (.getfield 51, 3) := by decide +kernel
theorem dX8_count_167 : decode cX8_count 167 = .ok (.getfield 256, 3) := by decide +kernel
theorem dX8_count_170 : decode cX8_count 170 = .ok (.ireturn, 1) := by decide +kernel
theorem dX8_count_171 : decode cX8_count 171 = .ok (.bipush (-2), 2) := by decide +kernel
theorem dX8_count_173 : decode cX8_count 173 = .ok (.ireturn, 1) := by decide +kernel
theorem dX8_digest_0 : decode cX8_digest 0 = .ok (.aload_n 0, 1) := by decide +kernel
theorem dX8_digest_1 : decode cX8_digest 1 = .ok (.ldc2_w 259, 3) := by decide +kernel
theorem dX8_digest_4 : decode cX8_digest 4 = .ok (.aload_n 0, 1) := by decide +kernel
theorem dX8_digest_5 : decode cX8_digest 5 = .ok (.getfield 25, 3) := by decide +kernel
theorem dX8_digest_8 : decode cX8_digest 8 = .ok (.invokevirtual 261, 3) := by decide +kernel
theorem dX8_digest_11 : decode cX8_digest 11 = .ok (.lstore_n 1, 1) := by decide +kernel
theorem dX8_digest_12 : decode cX8_digest 12 = .ok (.iconst 0, 1) := by decide +kernel
theorem dX8_digest_13 : decode cX8_digest 13 = .ok (.istore_n 3, 1) := by decide +kernel
theorem dX8_digest_14 : decode cX8_digest 14 = .ok (.iload_n 3, 1) := by decide +kernel
theorem dX8_digest_15 : decode cX8_digest 15 = .ok (.bipush 24, 2) := by decide +kernel
theorem dX8_digest_17 : decode cX8_digest 17 = .ok (.if_icmp .ge 39, 3) := by decide +kernel
theorem dX8_digest_20 : decode cX8_digest 20 = .ok (.aload_n 0, 1) := by decide +kernel
theorem dX8_digest_21 : decode cX8_digest 21 = .ok (.getfield 42, 3) := by decide +kernel
theorem dX8_digest_24 : decode cX8_digest 24 = .ok (.iload_n 3, 1) := by decide +kernel
theorem dX8_digest_25 : decode cX8_digest 25 = .ok (.invokevirtual 84, 3) := by decide +kernel
theorem dX8_digest_28 : decode cX8_digest 28 = .ok (.astore 4, 2) := by decide +kernel
theorem dX8_digest_30 : decode cX8_digest 30 = .ok (.aload 4, 2) := by decide +kernel
theorem dX8_digest_32 : decode cX8_digest 32 = .ok (.ifnull 18, 3) := by decide +kernel
theorem dX8_digest_35 : decode cX8_digest 35 = .ok (.aload_n 0, 1) := by decide +kernel
theorem dX8_digest_36 : decode cX8_digest 36 = .ok (.ldc2_w 265, 3) := by decide +kernel
theorem dX8_digest_39 : decode cX8_digest 39 = .ok (.lload_n 1, 1) := by decide +kernel
theorem dX8_digest_40 : decode cX8_digest 40 = .ok (.lmul, 1) := by decide +kernel
theorem dX8_digest_41 : decode cX8_digest 41 = .ok (.iload_n 3, 1) := by decide +kernel
theorem dX8_digest_42 : decode cX8_digest 42 = .ok (.i2l, 1) := by decide +kernel
theorem dX8_digest_43 : decode cX8_digest 43 = .ok (.ladd, 1) := by decide +kernel
theorem dX8_digest_44 : decode cX8_digest 44 = .ok (.aload 4, 2) := by decide +kernel
theorem dX8_digest_46 : decode cX8_digest 46 = .ok (.invokevirtual 261, 3) := by decide +kernel
theorem dX8_digest_49 : decode cX8_digest 49 = .ok (.lstore_n 1, 1) := by decide +kernel
theorem dX8_digest_50 : decode cX8_digest 50 = .ok (.iinc 3 1, 3) := by decide +kernel
theorem dX8_digest_53 : decode cX8_digest 53 = .ok (.goto (-39), 3) := by decide +kernel
theorem dX8_digest_56 : decode cX8_digest 56 = .ok (.iconst 0, 1) := by decide +kernel
theorem dX8_digest_57 : decode cX8_digest 57 = .ok (.istore_n 3, 1) := by decide +kernel
theorem dX8_digest_58 : decode cX8_digest 58 = .ok (.iload_n 3, 1) := by decide +kernel
theorem dX8_digest_59 : decode cX8_digest 59 = .ok (.aload_n 0, 1) := by decide +kernel
theorem dX8_digest_60 : decode cX8_digest 60 = .ok (.getfield 60, 3) := by decide +kernel
theorem dX8_digest_63 : decode cX8_digest 63 = .ok (.getfield 73, 3) := by decide +kernel
theorem dX8_digest_66 : decode cX8_digest 66 = .ok (.if_icmp .ge 24, 3) := by decide +kernel
theorem dX8_digest_69 : decode cX8_digest 69 = .ok (.aload_n 0, 1) := by decide +kernel
theorem dX8_digest_70 : decode cX8_digest 70 = .ok (.lload_n 1, 1) := by decide +kernel
theorem dX8_digest_71 : decode cX8_digest 71 = .ok (.aload_n 0, 1) := by decide +kernel
theorem dX8_digest_72 : decode cX8_digest 72 = .ok (.getfield 60, 3) := by decide +kernel
theorem dX8_digest_75 : decode cX8_digest 75 = .ok (.getfield 199, 3) := by decide +kernel
theorem dX8_digest_78 : decode cX8_digest 78 = .ok (.iload_n 3, 1) := by decide +kernel
theorem dX8_digest_79 : decode cX8_digest 79 = .ok (.aaload, 1) := by decide +kernel
theorem dX8_digest_80 : decode cX8_digest 80 = .ok (.invokevirtual 261, 3) := by decide +kernel
theorem dX8_digest_83 : decode cX8_digest 83 = .ok (.lstore_n 1, 1) := by decide +kernel
theorem dX8_digest_84 : decode cX8_digest 84 = .ok (.iinc 3 1, 3) := by decide +kernel
theorem dX8_digest_87 : decode cX8_digest 87 = .ok (.goto (-29), 3) := by decide +kernel
theorem dX8_digest_90 : decode cX8_digest 90 = .ok (.lload_n 1, 1) := by decide +kernel
theorem dX8_digest_91 : decode cX8_digest 91 = .ok (.lreturn, 1) := by decide +kernel
theorem dX8_digestOf_0 : decode cX8_digestOf 0 = .ok (.ldc2_w 265, 3) := by decide +kernel
theorem dX8_digestOf_3 : decode cX8_digestOf 3 = .ok (.lload_n 1, 1) := by decide +kernel
theorem dX8_digestOf_4 : decode cX8_digestOf 4 = .ok (.lmul, 1) := by decide +kernel
theorem dX8_digestOf_5 : decode cX8_digestOf 5 = .ok (.aload_n 3, 1) := by decide +kernel
theorem dX8_digestOf_6 : decode cX8_digestOf 6 = .ok (.getfield 108, 3) := by decide +kernel
theorem dX8_digestOf_9 : decode cX8_digestOf 9 = .ok (.i2l, 1) := by decide +kernel
theorem dX8_digestOf_10 : decode cX8_digestOf 10 = .ok (.ladd, 1) := by decide +kernel
theorem dX8_digestOf_11 : decode cX8_digestOf 11 = .ok (.lstore 4, 2) := by decide +kernel
theorem dX8_digestOf_13 : decode cX8_digestOf 13 = .ok (.iconst 0, 1) := by decide +kernel
theorem dX8_digestOf_14 : decode cX8_digestOf 14 = .ok (.istore 6, 2) := by decide +kernel
theorem dX8_digestOf_16 : decode cX8_digestOf 16 = .ok (.iload 6, 2) := by decide +kernel
theorem dX8_digestOf_18 : decode cX8_digestOf 18 = .ok (.aload_n 3, 1) := by decide +kernel
theorem dX8_digestOf_19 : decode cX8_digestOf 19 = .ok (.getfield 108, 3) := by decide +kernel
theorem dX8_digestOf_22 : decode cX8_digestOf 22 = .ok (.if_icmp .ge 69, 3) := by decide +kernel
theorem dX8_digestOf_25 : decode cX8_digestOf 25 = .ok (.ldc2_w 265, 3) := by decide +kernel
theorem dX8_digestOf_28 : decode cX8_digestOf 28 = .ok (.lload 4, 2) := by decide +kernel
theorem dX8_digestOf_30 : decode cX8_digestOf 30 = .ok (.lmul, 1) := by decide +kernel
theorem dX8_digestOf_31 : decode cX8_digestOf 31 = .ok (.aload_n 3, 1) := by decide +kernel
theorem dX8_digestOf_32 : decode cX8_digestOf 32 = .ok (.getfield 124, 3) := by decide +kernel
theorem dX8_digestOf_35 : decode cX8_digestOf 35 = .ok (.iload 6, 2) := by decide +kernel
theorem dX8_digestOf_37 : decode cX8_digestOf 37 = .ok (.iaload, 1) := by decide +kernel
theorem dX8_digestOf_38 : decode cX8_digestOf 38 = .ok (.i2l, 1) := by decide +kernel
theorem dX8_digestOf_39 : decode cX8_digestOf 39 = .ok (.ladd, 1) := by decide +kernel
theorem dX8_digestOf_40 : decode cX8_digestOf 40 = .ok (.lstore 4, 2) := by decide +kernel
theorem dX8_digestOf_42 : decode cX8_digestOf 42 = .ok (.iconst 0, 1) := by decide +kernel
theorem dX8_digestOf_43 : decode cX8_digestOf 43 = .ok (.istore 7, 2) := by decide +kernel
theorem dX8_digestOf_45 : decode cX8_digestOf 45 = .ok (.iload 7, 2) := by decide +kernel
theorem dX8_digestOf_47 : decode cX8_digestOf 47 = .ok (.aload_n 0, 1) := by decide +kernel
theorem dX8_digestOf_48 : decode cX8_digestOf 48 = .ok (.getfield 18, 3) := by decide +kernel
theorem dX8_digestOf_51 : decode cX8_digestOf 51 = .ok (.getfield 220, 3) := by decide +kernel
theorem dX8_digestOf_54 : decode cX8_digestOf 54 = .ok (.if_icmp .ge 31, 3) := by decide +kernel
theorem dX8_digestOf_57 : decode cX8_digestOf 57 = .ok (.ldc2_w 265, 3) := by decide +kernel
theorem dX8_digestOf_60 : decode cX8_digestOf 60 = .ok (.lload 4, 2) := by decide +kernel
theorem dX8_digestOf_62 : decode cX8_digestOf 62 = .ok (.lmul, 1) := by decide +kernel
theorem dX8_digestOf_63 : decode cX8_digestOf 63 = .ok (.aload_n 3, 1) := by decide +kernel
theorem dX8_digestOf_64 : decode cX8_digestOf 64 = .ok (.getfield 131, 3) := by decide +kernel
theorem dX8_digestOf_67 : decode cX8_digestOf 67 = .ok (.iload 6, 2) := by decide +kernel
theorem dX8_digestOf_69 : decode cX8_digestOf 69 = .ok (.iaload, 1) := by decide +kernel
theorem dX8_digestOf_70 : decode cX8_digestOf 70 = .ok (.iload 7, 2) := by decide +kernel
theorem dX8_digestOf_72 : decode cX8_digestOf 72 = .ok (.invokestatic 134, 3) := by decide +kernel
theorem dX8_digestOf_75 : decode cX8_digestOf 75 = .ok (.i2l, 1) := by decide +kernel
theorem dX8_digestOf_76 : decode cX8_digestOf 76 = .ok (.ladd, 1) := by decide +kernel
theorem dX8_digestOf_77 : decode cX8_digestOf 77 = .ok (.lstore 4, 2) := by decide +kernel
theorem dX8_digestOf_79 : decode cX8_digestOf 79 = .ok (.iinc 7 1, 3) := by decide +kernel
theorem dX8_digestOf_82 : decode cX8_digestOf 82 = .ok (.goto (-37), 3) := by decide +kernel
theorem dX8_digestOf_85 : decode cX8_digestOf 85 = .ok (.iinc 6 1, 3) := by decide +kernel
theorem dX8_digestOf_88 : decode cX8_digestOf 88 = .ok (.goto (-72), 3) := by decide +kernel
theorem dX8_digestOf_91 : decode cX8_digestOf 91 = .ok (.lload 4, 2) := by decide +kernel
theorem dX8_digestOf_93 : decode cX8_digestOf 93 = .ok (.lreturn, 1) := by decide +kernel
theorem dX8_polyAt_0 : decode cX8_polyAt 0 = .ok (.iload_n 1, 1) := by decide +kernel
theorem dX8_polyAt_1 : decode cX8_polyAt 1 = .ok (.iconst (-1), 1) := by decide +kernel
theorem dX8_polyAt_2 : decode cX8_polyAt 2 = .ok (.if_icmp .ne 8, 3) := by decide +kernel
theorem dX8_polyAt_5 : decode cX8_polyAt 5 = .ok (.aload_n 0, 1) := by decide +kernel
theorem dX8_polyAt_6 : decode cX8_polyAt 6 = .ok (.getfield 25, 3) := by decide +kernel
theorem dX8_polyAt_9 : decode cX8_polyAt 9 = .ok (.areturn, 1) := by decide +kernel
theorem dX8_polyAt_10 : decode cX8_polyAt 10 = .ok (.iload_n 1, 1) := by decide +kernel
theorem dX8_polyAt_11 : decode cX8_polyAt 11 = .ok (.bipush (-2), 2) := by decide +kernel
theorem dX8_polyAt_13 : decode cX8_polyAt 13 = .ok (.if_icmp .gt 17, 3) := by decide +kernel
theorem dX8_polyAt_16 : decode cX8_polyAt 16 = .ok (.aload_n 0, 1) := by decide +kernel
theorem dX8_polyAt_17 : decode cX8_polyAt 17 = .ok (.getfield 60, 3) := by decide +kernel
theorem dX8_polyAt_20 : decode cX8_polyAt 20 = .ok (.bipush (-2), 2) := by decide +kernel
theorem dX8_polyAt_22 : decode cX8_polyAt 22 = .ok (.iload_n 1, 1) := by decide +kernel
theorem dX8_polyAt_23 : decode cX8_polyAt 23 = .ok (.isub, 1) := by decide +kernel
theorem dX8_polyAt_24 : decode cX8_polyAt 24 = .ok (.invokevirtual 267, 3) := by decide +kernel
theorem dX8_polyAt_27 : decode cX8_polyAt 27 = .ok (.goto 11, 3) := by decide +kernel
theorem dX8_polyAt_30 : decode cX8_polyAt 30 = .ok (.aload_n 0, 1) := by decide +kernel
theorem dX8_polyAt_31 : decode cX8_polyAt 31 = .ok (.getfield 42, 3) := by decide +kernel
theorem dX8_polyAt_34 : decode cX8_polyAt 34 = .ok (.iload_n 1, 1) := by decide +kernel
theorem dX8_polyAt_35 : decode cX8_polyAt 35 = .ok (.invokevirtual 84, 3) := by decide +kernel
theorem dX8_polyAt_38 : decode cX8_polyAt 38 = .ok (.areturn, 1) := by decide +kernel
theorem dX8_putResult_0 : decode cX8_putResult 0 = .ok (.iload_n 1, 1) := by decide +kernel
theorem dX8_putResult_1 : decode cX8_putResult 1 = .ok (.ifCond .eq 7, 3) := by decide +kernel
theorem dX8_putResult_4 : decode cX8_putResult 4 = .ok (.iload_n 1, 1) := by decide +kernel
theorem dX8_putResult_5 : decode cX8_putResult 5 = .ok (.goto 14, 3) := by decide +kernel
theorem dX8_putResult_8 : decode cX8_putResult 8 = .ok (.aload_n 0, 1) := by decide +kernel
theorem dX8_putResult_9 : decode cX8_putResult 9 = .ok (.getfield 42, 3) := by decide +kernel
theorem dX8_putResult_12 : decode cX8_putResult 12 = .ok (.aload_n 0, 1) := by decide +kernel
theorem dX8_putResult_13 : decode cX8_putResult 13 = .ok (.getfield 36, 3) := by decide +kernel
theorem dX8_putResult_16 : decode cX8_putResult 16 = .ok (.invokevirtual 113, 3) := by decide +kernel
theorem dX8_putResult_19 : decode cX8_putResult 19 = .ok (.ireturn, 1) := by decide +kernel
theorem dX8_isPrimeInRange_0 : decode cX8_isPrimeInRange 0 = .ok (.iload_n 0, 1) := by decide +kernel
theorem dX8_isPrimeInRange_1 : decode cX8_isPrimeInRange 1 = .ok (.iconst 2, 1) := by decide +kernel
theorem dX8_isPrimeInRange_2 : decode cX8_isPrimeInRange 2 = .ok (.if_icmp .lt 10, 3) := by decide +kernel
theorem dX8_isPrimeInRange_5 : decode cX8_isPrimeInRange 5 = .ok (.iload_n 0, 1) := by decide +kernel
theorem dX8_isPrimeInRange_6 : decode cX8_isPrimeInRange 6 = .ok (.sipush 251, 3) := by decide +kernel
theorem dX8_isPrimeInRange_9 : decode cX8_isPrimeInRange 9 = .ok (.if_icmp .le 5, 3) := by decide +kernel
theorem dX8_isPrimeInRange_12 : decode cX8_isPrimeInRange 12 = .ok (.iconst 0, 1) := by decide +kernel
theorem dX8_isPrimeInRange_13 : decode cX8_isPrimeInRange 13 = .ok (.ireturn, 1) := by decide +kernel
theorem dX8_isPrimeInRange_14 : decode cX8_isPrimeInRange 14 = .ok (.iconst 2, 1) := by decide +kernel
theorem dX8_isPrimeInRange_15 : decode cX8_isPrimeInRange 15 = .ok (.istore_n 1, 1) := by decide +kernel
theorem dX8_isPrimeInRange_16 : decode cX8_isPrimeInRange 16 = .ok (.iload_n 1, 1) := by decide +kernel
theorem dX8_isPrimeInRange_17 : decode cX8_isPrimeInRange 17 = .ok (.iload_n 0, 1) := by decide +kernel
theorem dX8_isPrimeInRange_18 : decode cX8_isPrimeInRange 18 = .ok (.if_icmp .ge 17, 3) := by decide +kernel
theorem dX8_isPrimeInRange_21 : decode cX8_isPrimeInRange 21 = .ok (.iload_n 0, 1) := by decide +kernel
theorem dX8_isPrimeInRange_22 : decode cX8_isPrimeInRange 22 = .ok (.iload_n 1, 1) := by decide +kernel
theorem dX8_isPrimeInRange_23 : decode cX8_isPrimeInRange 23 = .ok (.irem, 1) := by decide +kernel
theorem dX8_isPrimeInRange_24 : decode cX8_isPrimeInRange 24 = .ok (.ifCond .ne 5, 3) := by decide +kernel
theorem dX8_isPrimeInRange_27 : decode cX8_isPrimeInRange 27 = .ok (.iconst 0, 1) := by decide +kernel
theorem dX8_isPrimeInRange_28 : decode cX8_isPrimeInRange 28 = .ok (.ireturn, 1) := by decide +kernel
theorem dX8_isPrimeInRange_29 : decode cX8_isPrimeInRange 29 = .ok (.iinc 1 1, 3) := by decide +kernel
theorem dX8_isPrimeInRange_32 : decode cX8_isPrimeInRange 32 = .ok (.goto (-16), 3) := by decide +kernel
theorem dX8_isPrimeInRange_35 : decode cX8_isPrimeInRange 35 = .ok (.iconst 1, 1) := by decide +kernel
theorem dX8_isPrimeInRange_36 : decode cX8_isPrimeInRange 36 = .ok (.ireturn, 1) := by decide +kernel
theorem dX9_init_0 : decode cX9_init 0 = .ok (.aload_n 0, 1) := by decide +kernel
theorem dX9_init_1 : decode cX9_init 1 = .ok (.invokespecial 1, 3) := by decide +kernel
theorem dX9_init_4 : decode cX9_init 4 = .ok (.aload_n 0, 1) := by decide +kernel
theorem dX9_init_5 : decode cX9_init 5 = .ok (.iconst 2, 1) := by decide +kernel
theorem dX9_init_6 : decode cX9_init 6 = .ok (.putfield 7, 3) := by decide +kernel
theorem dX9_init_9 : decode cX9_init 9 = .ok (.aload_n 0, 1) := by decide +kernel
theorem dX9_init_10 : decode cX9_init 10 = .ok (.bipush 61, 2) := by decide +kernel
theorem dX9_init_12 : decode cX9_init 12 = .ok (.newarray .int, 2) := by decide +kernel
theorem dX9_init_14 : decode cX9_init 14 = .ok (.putfield 13, 3) := by decide +kernel
theorem dX9_init_17 : decode cX9_init 17 = .ok (.aload_n 0, 1) := by decide +kernel
theorem dX9_init_18 : decode cX9_init 18 = .ok (.sipush 2440, 3) := by decide +kernel
theorem dX9_init_21 : decode cX9_init 21 = .ok (.newarray .int, 2) := by decide +kernel
theorem dX9_init_23 : decode cX9_init 23 = .ok (.putfield 17, 3) := by decide +kernel
theorem dX9_init_26 : decode cX9_init 26 = .ok (.aload_n 0, 1) := by decide +kernel
theorem dX9_init_27 : decode cX9_init 27 = .ok (.sipush 9760, 3) := by decide +kernel
theorem dX9_init_30 : decode cX9_init 30 = .ok (.newarray .int, 2) := by decide +kernel
theorem dX9_init_32 : decode cX9_init 32 = .ok (.putfield 20, 3) := by decide +kernel
theorem dX9_init_35 : decode cX9_init 35 = .ok (.aload_n 0, 1) := by decide +kernel
theorem dX9_init_36 : decode cX9_init 36 = .ok (.sipush 160, 3) := by decide +kernel
theorem dX9_init_39 : decode cX9_init 39 = .ok (.newarray .int, 2) := by decide +kernel
theorem dX9_init_41 : decode cX9_init 41 = .ok (.putfield 23, 3) := by decide +kernel
theorem dX9_init_44 : decode cX9_init 44 = .ok (.aload_n 0, 1) := by decide +kernel
theorem dX9_init_45 : decode cX9_init 45 = .ok (.sipush 160, 3) := by decide +kernel
theorem dX9_init_48 : decode cX9_init 48 = .ok (.newarray .int, 2) := by decide +kernel
theorem dX9_init_50 : decode cX9_init 50 = .ok (.putfield 26, 3) := by decide +kernel
theorem dX9_init_53 : decode cX9_init 53 = .ok (.aload_n 0, 1) := by decide +kernel
theorem dX9_init_54 : decode cX9_init 54 = .ok (.sipush 500, 3) := by decide +kernel
theorem dX9_init_57 : decode cX9_init 57 = .ok (.putfield 29, 3) := by decide +kernel
theorem dX9_init_60 : decode cX9_init 60 = .ok (.aload_n 0, 1) := by decide +kernel
theorem dX9_init_61 : decode cX9_init 61 = .ok (.sipush 1700, 3) := by decide +kernel
theorem dX9_init_64 : decode cX9_init 64 = .ok (.newarray .int, 2) := by decide +kernel
theorem dX9_init_66 : decode cX9_init 66 = .ok (.putfield 32, 3) := by decide +kernel
theorem dX9_init_69 : decode cX9_init 69 = .ok (.aload_n 0, 1) := by decide +kernel
theorem dX9_init_70 : decode cX9_init 70 = .ok (.sipush 6800, 3) := by decide +kernel
theorem dX9_init_73 : decode cX9_init 73 = .ok (.newarray .int, 2) := by decide +kernel
theorem dX9_init_75 : decode cX9_init 75 = .ok (.putfield 35, 3) := by decide +kernel
theorem dX9_init_78 : decode cX9_init 78 = .ok (.aload_n 0, 1) := by decide +kernel
theorem dX9_init_79 : decode cX9_init 79 = .ok (.iconst 4, 1) := by decide +kernel
theorem dX9_init_80 : decode cX9_init 80 = .ok (.newarray .int, 2) := by decide +kernel
theorem dX9_init_82 : decode cX9_init 82 = .ok (.putfield 38, 3) := by decide +kernel
theorem dX9_init_85 : decode cX9_init 85 = .ok (.aload_n 0, 1) := by decide +kernel
theorem dX9_init_86 : decode cX9_init 86 = .ok (.iconst 4, 1) := by decide +kernel
theorem dX9_init_87 : decode cX9_init 87 = .ok (.newarray .int, 2) := by decide +kernel
theorem dX9_init_89 : decode cX9_init 89 = .ok (.putfield 41, 3) := by decide +kernel
theorem dX9_init_92 : decode cX9_init 92 = .ok (.aload_n 0, 1) := by decide +kernel
theorem dX9_init_93 : decode cX9_init 93 = .ok (.iconst 4, 1) := by decide +kernel
theorem dX9_init_94 : decode cX9_init 94 = .ok (.newarray .int, 2) := by decide +kernel
theorem dX9_init_96 : decode cX9_init 96 = .ok (.putfield 44, 3) := by decide +kernel
theorem dX9_init_99 : decode cX9_init 99 = .ok (.aload_n 0, 1) := by decide +kernel
theorem dX9_init_100 : decode cX9_init 100 = .ok (.iconst 4, 1) := by decide +kernel
theorem dX9_init_101 : decode cX9_init 101 = .ok (.newarray .int, 2) := by decide +kernel
theorem dX9_init_103 : decode cX9_init 103 = .ok (.putfield 47, 3) := by decide +kernel
theorem dX9_init_106 : decode cX9_init 106 = .ok (.aload_n 0, 1) := by decide +kernel
theorem dX9_init_107 : decode cX9_init 107 = .ok (.bipush 18, 2) := by decide +kernel
theorem dX9_init_109 : decode cX9_init 109 = .ok (.newarray .int, 2) := by decide +kernel
theorem dX9_init_111 : decode cX9_init 111 = .ok (.putfield 50, 3) := by decide +kernel
theorem dX9_init_114 : decode cX9_init 114 = .ok (.aload_n 0, 1) := by decide +kernel
theorem dX9_init_115 : decode cX9_init 115 = .ok (.bipush 40, 2) := by decide +kernel
theorem dX9_init_117 : decode cX9_init 117 = .ok (.newarray .int, 2) := by decide +kernel
theorem dX9_init_119 : decode cX9_init 119 = .ok (.putfield 53, 3) := by decide +kernel
theorem dX9_init_122 : decode cX9_init 122 = .ok (.aload_n 0, 1) := by decide +kernel
theorem dX9_init_123 : decode cX9_init 123 = .ok (.sipush 160, 3) := by decide +kernel
theorem dX9_init_126 : decode cX9_init 126 = .ok (.newarray .int, 2) := by decide +kernel
theorem dX9_init_128 : decode cX9_init 128 = .ok (.putfield 56, 3) := by decide +kernel
theorem dX9_init_131 : decode cX9_init 131 = .ok (.aload_n 0, 1) := by decide +kernel
theorem dX9_init_132 : decode cX9_init 132 = .ok (.iconst 4, 1) := by decide +kernel
theorem dX9_init_133 : decode cX9_init 133 = .ok (.newarray .int, 2) := by decide +kernel
theorem dX9_init_135 : decode cX9_init 135 = .ok (.putfield 59, 3) := by decide +kernel
theorem dX9_init_138 : decode cX9_init 138 = .ok (.aload_n 0, 1) := by decide +kernel
theorem dX9_init_139 : decode cX9_init 139 = .ok (.sipush 1204, 3) := by decide +kernel
theorem dX9_init_142 : decode cX9_init 142 = .ok (.newarray .int, 2) := by decide +kernel
theorem dX9_init_144 : decode cX9_init 144 = .ok (.putfield 62, 3) := by decide +kernel
theorem dX9_init_147 : decode cX9_init 147 = .ok (.aload_n 0, 1) := by decide +kernel
theorem dX9_init_148 : decode cX9_init 148 = .ok (.iconst 4, 1) := by decide +kernel
theorem dX9_init_149 : decode cX9_init 149 = .ok (.newarray .int, 2) := by decide +kernel
theorem dX9_init_151 : decode cX9_init 151 = .ok (.putfield 65, 3) := by decide +kernel
theorem dX9_init_154 : decode cX9_init 154 = .ok (.aload_n 0, 1) := by decide +kernel
theorem dX9_init_155 : decode cX9_init 155 = .ok (.iload_n 1, 1) := by decide +kernel
theorem dX9_init_156 : decode cX9_init 156 = .ok (.invokestatic 68, 3) := by decide +kernel
theorem dX9_init_159 : decode cX9_init 159 = .ok (.ifCond .eq 7, 3) := by decide +kernel
theorem dX9_init_162 : decode cX9_init 162 = .ok (.iload_n 1, 1) := by decide +kernel
theorem dX9_init_163 : decode cX9_init 163 = .ok (.goto 5, 3) := by decide +kernel
theorem dX9_init_166 : decode cX9_init 166 = .ok (.bipush 7, 2) := by decide +kernel
theorem dX9_init_168 : decode cX9_init 168 = .ok (.putfield 72, 3) := by decide +kernel
theorem dX9_init_171 : decode cX9_init 171 = .ok (.aload_n 0, 1) := by decide +kernel
theorem dX9_init_172 : decode cX9_init 172 = .ok (.iload_n 2, 1) := by decide +kernel
theorem dX9_init_173 : decode cX9_init 173 = .ok (.iconst 1, 1) := by decide +kernel
theorem dX9_init_174 : decode cX9_init 174 = .ok (.if_icmp .lt 12, 3) := by decide +kernel
theorem dX9_init_177 : decode cX9_init 177 = .ok (.iload_n 2, 1) := by decide +kernel
theorem dX9_init_178 : decode cX9_init 178 = .ok (.iconst 4, 1) := by decide +kernel
theorem dX9_init_179 : decode cX9_init 179 = .ok (.if_icmp .gt 7, 3) := by decide +kernel
theorem dX9_init_182 : decode cX9_init 182 = .ok (.iload_n 2, 1) := by decide +kernel
theorem dX9_init_183 : decode cX9_init 183 = .ok (.goto 4, 3) := by decide +kernel
theorem dX9_init_186 : decode cX9_init 186 = .ok (.iconst 3, 1) := by decide +kernel
theorem dX9_init_187 : decode cX9_init 187 = .ok (.putfield 75, 3) := by decide +kernel
theorem dX9_init_190 : decode cX9_init 190 = .ok (.iconst 1, 1) := by decide +kernel
theorem dX9_init_191 : decode cX9_init 191 = .ok (.istore_n 3, 1) := by decide +kernel
theorem dX9_init_192 : decode cX9_init 192 = .ok (.iload_n 3, 1) := by decide +kernel
theorem dX9_init_193 : decode cX9_init 193 = .ok (.bipush 25, 2) := by decide +kernel
theorem dX9_init_195 : decode cX9_init 195 = .ok (.if_icmp .ge 16, 3) := by decide +kernel
theorem dX9_init_198 : decode cX9_init 198 = .ok (.aload_n 0, 1) := by decide +kernel
theorem dX9_init_199 : decode cX9_init 199 = .ok (.getfield 13, 3) := by decide +kernel
theorem dX9_init_202 : decode cX9_init 202 = .ok (.iload_n 3, 1) := by decide +kernel
theorem dX9_init_203 : decode cX9_init 203 = .ok (.iconst (-1), 1) := by decide +kernel
theorem dX9_init_204 : decode cX9_init 204 = .ok (.iastore, 1) := by decide +kernel
theorem dX9_init_205 : decode cX9_init 205 = .ok (.iinc 3 1, 3) := by decide +kernel
theorem dX9_init_208 : decode cX9_init 208 = .ok (.goto (-16), 3) := by decide +kernel
theorem dX9_init_211 : decode cX9_init 211 = .ok (.return_, 1) := by decide +kernel
theorem dX9_in_0 : decode cX9_in 0 = .ok (.iload_n 0, 1) := by decide +kernel
theorem dX9_in_1 : decode cX9_in 1 = .ok (.iload_n 1, 1) := by decide +kernel
theorem dX9_in_2 : decode cX9_in 2 = .ok (.if_icmp .lt 12, 3) := by decide +kernel
theorem dX9_in_5 : decode cX9_in 5 = .ok (.iload_n 0, 1) := by decide +kernel
theorem dX9_in_6 : decode cX9_in 6 = .ok (.iload_n 2, 1) := by decide +kernel
theorem dX9_in_7 : decode cX9_in 7 = .ok (.if_icmp .gt 7, 3) := by decide +kernel
theorem dX9_in_10 : decode cX9_in 10 = .ok (.iconst 1, 1) := by decide +kernel
theorem dX9_in_11 : decode cX9_in 11 = .ok (.goto 4, 3) := by decide +kernel
theorem dX9_in_14 : decode cX9_in 14 = .ok (.iconst 0, 1) := by decide +kernel
theorem dX9_in_15 : decode cX9_in 15 = .ok (.ireturn, 1) := by decide +kernel
theorem dX9_isPrime_0 : decode cX9_isPrime 0 = .ok (.iload_n 0, 1) := by decide +kernel
theorem dX9_isPrime_1 : decode cX9_isPrime 1 = .ok (.iconst 2, 1) := by decide +kernel
theorem dX9_isPrime_2 : decode cX9_isPrime 2 = .ok (.sipush 251, 3) := by decide +kernel
theorem dX9_isPrime_5 : decode cX9_isPrime 5 = .ok (.invokestatic 78, 3) := by decide +kernel
theorem dX9_isPrime_8 : decode cX9_isPrime 8 = .ok (.ifCond .ne 5, 3) := by decide +kernel
theorem dX9_isPrime_11 : decode cX9_isPrime 11 = .ok (.iconst 0, 1) := by decide +kernel
theorem dX9_isPrime_12 : decode cX9_isPrime 12 = .ok (.ireturn, 1) := by decide +kernel
theorem dX9_isPrime_13 : decode cX9_isPrime 13 = .ok (.iconst 2, 1) := by decide +kernel
theorem dX9_isPrime_14 : decode cX9_isPrime 14 = .ok (.istore_n 1, 1) := by decide +kernel
theorem dX9_isPrime_15 : decode cX9_isPrime 15 = .ok (.iload_n 1, 1) := by decide +kernel
theorem dX9_isPrime_16 : decode cX9_isPrime 16 = .ok (.iload_n 1, 1) := by decide +kernel
theorem dX9_isPrime_17 : decode cX9_isPrime 17 = .ok (.imul, 1) := by decide +kernel
theorem dX9_isPrime_18 : decode cX9_isPrime 18 = .ok (.iload_n 0, 1) := by decide +kernel
theorem dX9_isPrime_19 : decode cX9_isPrime 19 = .ok (.if_icmp .gt 17, 3) := by decide +kernel
theorem dX9_isPrime_22 : decode cX9_isPrime 22 = .ok (.iload_n 0, 1) := by decide +kernel
theorem dX9_isPrime_23 : decode cX9_isPrime 23 = .ok (.iload_n 1, 1) := by decide +kernel
theorem dX9_isPrime_24 : decode cX9_isPrime 24 = .ok (.irem, 1) := by decide +kernel
theorem dX9_isPrime_25 : decode cX9_isPrime 25 = .ok (.ifCond .ne 5, 3) := by decide +kernel
theorem dX9_isPrime_28 : decode cX9_isPrime 28 = .ok (.iconst 0, 1) := by decide +kernel
theorem dX9_isPrime_29 : decode cX9_isPrime 29 = .ok (.ireturn, 1) := by decide +kernel
theorem dX9_isPrime_30 : decode cX9_isPrime 30 = .ok (.iinc 1 1, 3) := by decide +kernel
theorem dX9_isPrime_33 : decode cX9_isPrime 33 = .ok (.goto (-18), 3) := by decide +kernel
theorem dX9_isPrime_36 : decode cX9_isPrime 36 = .ok (.iconst 1, 1) := by decide +kernel
theorem dX9_isPrime_37 : decode cX9_isPrime 37 = .ok (.ireturn, 1) := by decide +kernel
theorem dX9_rest_0 : decode cX9_rest 0 = .ok (.lload_n 1, 1) := by decide +kernel
theorem dX9_rest_1 : decode cX9_rest 1 = .ok (.aload_n 0, 1) := by decide +kernel
theorem dX9_rest_2 : decode cX9_rest 2 = .ok (.getfield 72, 3) := by decide +kernel
theorem dX9_rest_5 : decode cX9_rest 5 = .ok (.i2l, 1) := by decide +kernel
theorem dX9_rest_6 : decode cX9_rest 6 = .ok (.lrem, 1) := by decide +kernel
theorem dX9_rest_7 : decode cX9_rest 7 = .ok (.l2i, 1) := by decide +kernel
theorem dX9_rest_8 : decode cX9_rest 8 = .ok (.istore_n 3, 1) := by decide +kernel
theorem dX9_rest_9 : decode cX9_rest 9 = .ok (.iload_n 3, 1) := by decide +kernel
theorem dX9_rest_10 : decode cX9_rest 10 = .ok (.ifCond .ge 12, 3) := by decide +kernel
theorem dX9_rest_13 : decode cX9_rest 13 = .ok (.iload_n 3, 1) := by decide +kernel
theorem dX9_rest_14 : decode cX9_rest 14 = .ok (.aload_n 0, 1) := by decide +kernel
theorem dX9_rest_15 : decode cX9_rest 15 = .ok (.getfield 72, 3) := by decide +kernel
theorem dX9_rest_18 : decode cX9_rest 18 = .ok (.iadd, 1) := by decide +kernel
theorem dX9_rest_19 : decode cX9_rest 19 = .ok (.goto 4, 3) := by decide +kernel
theorem dX9_rest_22 : decode cX9_rest 22 = .ok (.iload_n 3, 1) := by decide +kernel
theorem dX9_rest_23 : decode cX9_rest 23 = .ok (.ireturn, 1) := by decide +kernel
theorem dX9_inverse_0 : decode cX9_inverse 0 = .ok (.iconst 1, 1) := by decide +kernel
theorem dX9_inverse_1 : decode cX9_inverse 1 = .ok (.istore_n 2, 1) := by decide +kernel
theorem dX9_inverse_2 : decode cX9_inverse 2 = .ok (.iload_n 2, 1) := by decide +kernel
theorem dX9_inverse_3 : decode cX9_inverse 3 = .ok (.iload_n 1, 1) := by decide +kernel
theorem dX9_inverse_4 : decode cX9_inverse 4 = .ok (.imul, 1) := by decide +kernel
theorem dX9_inverse_5 : decode cX9_inverse 5 = .ok (.aload_n 0, 1) := by decide +kernel
theorem dX9_inverse_6 : decode cX9_inverse 6 = .ok (.getfield 72, 3) := by decide +kernel
theorem dX9_inverse_9 : decode cX9_inverse 9 = .ok (.irem, 1) := by decide +kernel
theorem dX9_inverse_10 : decode cX9_inverse 10 = .ok (.iconst 1, 1) := by decide +kernel
theorem dX9_inverse_11 : decode cX9_inverse 11 = .ok (.if_icmp .eq 9, 3) := by decide +kernel
theorem dX9_inverse_14 : decode cX9_inverse 14 = .ok (.iinc 2 1, 3) := by decide +kernel
theorem dX9_inverse_17 : decode cX9_inverse 17 = .ok (.goto (-15), 3) := by decide +kernel
theorem dX9_inverse_20 : decode cX9_inverse 20 = .ok (.iload_n 2, 1) := by decide +kernel
theorem dX9_inverse_21 : decode cX9_inverse 21 = .ok (.ireturn, 1) := by decide +kernel
theorem dX9_reversed_0 : decode cX9_reversed 0 = .ok (.iconst 0, 1) := by decide +kernel
theorem dX9_reversed_1 : decode cX9_reversed 1 = .ok (.istore 6, 2) := by decide +kernel
theorem dX9_reversed_3 : decode cX9_reversed 3 = .ok (.iload 4, 2) := by decide +kernel
theorem dX9_reversed_5 : decode cX9_reversed 5 = .ok (.istore 7, 2) := by decide +kernel
theorem dX9_reversed_7 : decode cX9_reversed 7 = .ok (.iload 7, 2) := by decide +kernel
theorem dX9_reversed_9 : decode cX9_reversed 9 = .ok (.iload 5, 2) := by decide +kernel
theorem dX9_reversed_11 : decode cX9_reversed 11 = .ok (.if_icmp .ge 27, 3) := by decide +kernel
theorem dX9_reversed_14 : decode cX9_reversed 14 = .ok (.iload 6, 2) := by decide +kernel
theorem dX9_reversed_16 : decode cX9_reversed 16 = .ok (.aload_n 0, 1) := by decide +kernel
theorem dX9_reversed_17 : decode cX9_reversed 17 = .ok (.iload_n 1, 1) := by decide +kernel
theorem dX9_reversed_18 : decode cX9_reversed 18 = .ok (.iload 7, 2) := by decide +kernel
theorem dX9_reversed_20 : decode cX9_reversed 20 = .ok (.iadd, 1) := by decide +kernel
theorem dX9_reversed_21 : decode cX9_reversed 21 = .ok (.iaload, 1) := by decide +kernel
theorem dX9_reversed_22 : decode cX9_reversed 22 = .ok (.aload_n 2, 1) := by decide +kernel
theorem dX9_reversed_23 : decode cX9_reversed 23 = .ok (.iload_n 3, 1) := by decide +kernel
theorem dX9_reversed_24 : decode cX9_reversed 24 = .ok (.iload 7, 2) := by decide +kernel
theorem dX9_reversed_26 : decode cX9_reversed 26 = .ok (.iadd, 1) := by decide +kernel
theorem dX9_reversed_27 : decode cX9_reversed 27 = .ok (.iaload, 1) := by decide +kernel
theorem dX9_reversed_28 : decode cX9_reversed 28 = .ok (.isub, 1) := by decide +kernel
theorem dX9_reversed_29 : decode cX9_reversed 29 = .ok (.iadd, 1) := by decide +kernel
theorem dX9_reversed_30 : decode cX9_reversed 30 = .ok (.istore 6, 2) := by decide +kernel
theorem dX9_reversed_32 : decode cX9_reversed 32 = .ok (.iinc 7 1, 3) := by decide +kernel
theorem dX9_reversed_35 : decode cX9_reversed 35 = .ok (.goto (-28), 3) := by decide +kernel
theorem dX9_reversed_38 : decode cX9_reversed 38 = .ok (.iload 6, 2) := by decide +kernel
theorem dX9_reversed_40 : decode cX9_reversed 40 = .ok (.ifCond .eq 14, 3) := by decide +kernel
theorem dX9_reversed_43 : decode cX9_reversed 43 = .ok (.iload 6, 2) := by decide +kernel
theorem dX9_reversed_45 : decode cX9_reversed 45 = .ok (.ifCond .ge 7, 3) := by decide +kernel
theorem dX9_reversed_48 : decode cX9_reversed 48 = .ok (.iconst (-1), 1) := by decide +kernel
theorem dX9_reversed_49 : decode cX9_reversed 49 = .ok (.goto 4, 3) := by decide +kernel
theorem dX9_reversed_52 : decode cX9_reversed 52 = .ok (.iconst 1, 1) := by decide +kernel
theorem dX9_reversed_53 : decode cX9_reversed 53 = .ok (.ireturn, 1) := by decide +kernel
theorem dX9_reversed_54 : decode cX9_reversed 54 = .ok (.iload 5, 2) := by decide +kernel
theorem dX9_reversed_56 : decode cX9_reversed 56 = .ok (.iconst 1, 1) := by decide +kernel
theorem dX9_reversed_57 : decode cX9_reversed 57 = .ok (.isub, 1) := by decide +kernel
theorem dX9_reversed_58 : decode cX9_reversed 58 = .ok (.istore 7, 2) := by decide +kernel
theorem dX9_reversed_60 : decode cX9_reversed 60 = .ok (.iload 7, 2) := by decide +kernel
theorem dX9_reversed_62 : decode cX9_reversed 62 = .ok (.iload 4, 2) := by decide +kernel
theorem dX9_reversed_64 : decode cX9_reversed 64 = .ok (.if_icmp .lt 45, 3) := by decide +kernel
theorem dX9_reversed_67 : decode cX9_reversed 67 = .ok (.aload_n 0, 1) := by decide +kernel
theorem dX9_reversed_68 : decode cX9_reversed 68 = .ok (.iload_n 1, 1) := by decide +kernel
theorem dX9_reversed_69 : decode cX9_reversed 69 = .ok (.iload 7, 2) := by decide +kernel
theorem dX9_reversed_71 : decode cX9_reversed 71 = .ok (.iadd, 1) := by decide +kernel
theorem dX9_reversed_72 : decode cX9_reversed 72 = .ok (.iaload, 1) := by decide +kernel
theorem dX9_reversed_73 : decode cX9_reversed 73 = .ok (.aload_n 2, 1) := by decide +kernel
theorem dX9_reversed_74 : decode cX9_reversed 74 = .ok (.iload_n 3, 1) := by decide +kernel
theorem dX9_reversed_75 : decode cX9_reversed 75 = .ok (.iload 7, 2) := by decide +kernel
theorem dX9_reversed_77 : decode cX9_reversed 77 = .ok (.iadd, 1) := by decide +kernel
theorem dX9_reversed_78 : decode cX9_reversed 78 = .ok (.iaload, 1) := by decide +kernel
theorem dX9_reversed_79 : decode cX9_reversed 79 = .ok (.if_icmp .eq 24, 3) := by decide +kernel
theorem dX9_reversed_82 : decode cX9_reversed 82 = .ok (.aload_n 0, 1) := by decide +kernel
theorem dX9_reversed_83 : decode cX9_reversed 83 = .ok (.iload_n 1, 1) := by decide +kernel
theorem dX9_reversed_84 : decode cX9_reversed 84 = .ok (.iload 7, 2) := by decide +kernel
theorem dX9_reversed_86 : decode cX9_reversed 86 = .ok (.iadd, 1) := by decide +kernel
theorem dX9_reversed_87 : decode cX9_reversed 87 = .ok (.iaload, 1) := by decide +kernel
theorem dX9_reversed_88 : decode cX9_reversed 88 = .ok (.aload_n 2, 1) := by decide +kernel
theorem dX9_reversed_89 : decode cX9_reversed 89 = .ok (.iload_n 3, 1) := by decide +kernel
theorem dX9_reversed_90 : decode cX9_reversed 90 = .ok (.iload 7, 2) := by decide +kernel
theorem dX9_reversed_92 : decode cX9_reversed 92 = .ok (.iadd, 1) := by decide +kernel
theorem dX9_reversed_93 : decode cX9_reversed 93 = .ok (.iaload, 1) := by decide +kernel
theorem dX9_reversed_94 : decode cX9_reversed 94 = .ok (.if_icmp .ge 7, 3) := by decide +kernel
theorem dX9_reversed_97 : decode cX9_reversed 97 = .ok (.iconst 1, 1) := by decide +kernel
theorem dX9_reversed_98 : decode cX9_reversed 98 = .ok (.goto 4, 3) := by decide +kernel
theorem dX9_reversed_101 : decode cX9_reversed 101 = .ok (.iconst (-1), 1) := by decide +kernel
theorem dX9_reversed_102 : decode cX9_reversed 102 = .ok (.ireturn, 1) := by decide +kernel
theorem dX9_reversed_103 : decode cX9_reversed 103 = .ok (.iinc 7 (-1), 3) := by decide +kernel
theorem dX9_reversed_106 : decode cX9_reversed 106 = .ok (.goto (-46), 3) := by decide +kernel
theorem dX9_reversed_109 : decode cX9_reversed 109 = .ok (.iconst 0, 1) := by decide +kernel
theorem dX9_reversed_110 : decode cX9_reversed 110 = .ok (.ireturn, 1) := by decide +kernel
theorem dX9_lexed_0 : decode cX9_lexed 0 = .ok (.iconst 0, 1) := by decide +kernel
theorem dX9_lexed_1 : decode cX9_lexed 1 = .ok (.istore 4, 2) := by decide +kernel
theorem dX9_lexed_3 : decode cX9_lexed 3 = .ok (.iload 4, 2) := by decide +kernel
theorem dX9_lexed_5 : decode cX9_lexed 5 = .ok (.iconst 4, 1) := by decide +kernel
theorem dX9_lexed_6 : decode cX9_lexed 6 = .ok (.if_icmp .ge 45, 3) := by decide +kernel
theorem dX9_lexed_9 : decode cX9_lexed 9 = .ok (.aload_n 0, 1) := by decide +kernel
theorem dX9_lexed_10 : decode cX9_lexed 10 = .ok (.iload_n 1, 1) := by decide +kernel
theorem dX9_lexed_11 : decode cX9_lexed 11 = .ok (.iload 4, 2) := by decide +kernel
theorem dX9_lexed_13 : decode cX9_lexed 13 = .ok (.iadd, 1) := by decide +kernel
theorem dX9_lexed_14 : decode cX9_lexed 14 = .ok (.iaload, 1) := by decide +kernel
theorem dX9_lexed_15 : decode cX9_lexed 15 = .ok (.aload_n 2, 1) := by decide +kernel
theorem dX9_lexed_16 : decode cX9_lexed 16 = .ok (.iload_n 3, 1) := by decide +kernel
theorem dX9_lexed_17 : decode cX9_lexed 17 = .ok (.iload 4, 2) := by decide +kernel
theorem dX9_lexed_19 : decode cX9_lexed 19 = .ok (.iadd, 1) := by decide +kernel
theorem dX9_lexed_20 : decode cX9_lexed 20 = .ok (.iaload, 1) := by decide +kernel
theorem dX9_lexed_21 : decode cX9_lexed 21 = .ok (.if_icmp .eq 24, 3) := by decide +kernel
theorem dX9_lexed_24 : decode cX9_lexed 24 = .ok (.aload_n 0, 1) := by decide +kernel
theorem dX9_lexed_25 : decode cX9_lexed 25 = .ok (.iload_n 1, 1) := by decide +kernel
theorem dX9_lexed_26 : decode cX9_lexed 26 = .ok (.iload 4, 2) := by decide +kernel
theorem dX9_lexed_28 : decode cX9_lexed 28 = .ok (.iadd, 1) := by decide +kernel
theorem dX9_lexed_29 : decode cX9_lexed 29 = .ok (.iaload, 1) := by decide +kernel
theorem dX9_lexed_30 : decode cX9_lexed 30 = .ok (.aload_n 2, 1) := by decide +kernel
theorem dX9_lexed_31 : decode cX9_lexed 31 = .ok (.iload_n 3, 1) := by decide +kernel
theorem dX9_lexed_32 : decode cX9_lexed 32 = .ok (.iload 4, 2) := by decide +kernel
theorem dX9_lexed_34 : decode cX9_lexed 34 = .ok (.iadd, 1) := by decide +kernel
theorem dX9_lexed_35 : decode cX9_lexed 35 = .ok (.iaload, 1) := by decide +kernel
theorem dX9_lexed_36 : decode cX9_lexed 36 = .ok (.if_icmp .ge 7, 3) := by decide +kernel
theorem dX9_lexed_39 : decode cX9_lexed 39 = .ok (.iconst (-1), 1) := by decide +kernel
theorem dX9_lexed_40 : decode cX9_lexed 40 = .ok (.goto 4, 3) := by decide +kernel
theorem dX9_lexed_43 : decode cX9_lexed 43 = .ok (.iconst 1, 1) := by decide +kernel
theorem dX9_lexed_44 : decode cX9_lexed 44 = .ok (.ireturn, 1) := by decide +kernel
theorem dX9_lexed_45 : decode cX9_lexed 45 = .ok (.iinc 4 1, 3) := by decide +kernel
theorem dX9_lexed_48 : decode cX9_lexed 48 = .ok (.goto (-45), 3) := by decide +kernel
theorem dX9_lexed_51 : decode cX9_lexed 51 = .ok (.iconst 0, 1) := by decide +kernel
theorem dX9_lexed_52 : decode cX9_lexed 52 = .ok (.ireturn, 1) := by decide +kernel
theorem dX9_stand_0 : decode cX9_stand 0 = .ok (.aload_n 0, 1) := by decide +kernel
theorem dX9_stand_1 : decode cX9_stand 1 = .ok (.getfield 7, 3) := by decide +kernel
theorem dX9_stand_4 : decode cX9_stand 4 = .ok (.ifCond .ne 12, 3) := by decide +kernel
theorem dX9_stand_7 : decode cX9_stand 7 = .ok (.aload_n 1, 1) := by decide +kernel
theorem dX9_stand_8 : decode cX9_stand 8 = .ok (.iload_n 2, 1) := by decide +kernel
theorem dX9_stand_9 : decode cX9_stand 9 = .ok (.aload_n 3, 1) := by decide +kernel
theorem dX9_stand_10 : decode cX9_stand 10 = .ok (.iload 4, 2) := by decide +kernel
theorem dX9_stand_12 : decode cX9_stand 12 = .ok (.invokestatic 82, 3) := by decide +kernel
theorem dX9_stand_15 : decode cX9_stand 15 = .ok (.ireturn, 1) := by decide +kernel
theorem dX9_stand_16 : decode cX9_stand 16 = .ok (.aload_n 0, 1) := by decide +kernel
theorem dX9_stand_17 : decode cX9_stand 17 = .ok (.getfield 7, 3) := by decide +kernel
theorem dX9_stand_20 : decode cX9_stand 20 = .ok (.iconst 2, 1) := by decide +kernel
theorem dX9_stand_21 : decode cX9_stand 21 = .ok (.if_icmp .ne 14, 3) := by decide +kernel
theorem dX9_stand_24 : decode cX9_stand 24 = .ok (.aload_n 1, 1) := by decide +kernel
theorem dX9_stand_25 : decode cX9_stand 25 = .ok (.iload_n 2, 1) := by decide +kernel
theorem dX9_stand_26 : decode cX9_stand 26 = .ok (.aload_n 3, 1) := by decide +kernel
theorem dX9_stand_27 : decode cX9_stand 27 = .ok (.iload 4, 2) := by decide +kernel
theorem dX9_stand_29 : decode cX9_stand 29 = .ok (.iconst 0, 1) := by decide +kernel
theorem dX9_stand_30 : decode cX9_stand 30 = .ok (.iconst 4, 1) := by decide +kernel
theorem dX9_stand_31 : decode cX9_stand 31 = .ok (.invokestatic 86, 3) := by decide +kernel
theorem dX9_stand_34 : decode cX9_stand 34 = .ok (.ireturn, 1) := by decide +kernel
theorem dX9_stand_35 : decode cX9_stand 35 = .ok (.aload_n 0, 1) := by decide +kernel
theorem dX9_stand_36 : decode cX9_stand 36 = .ok (.getfield 7, 3) := by decide +kernel
theorem dX9_stand_39 : decode cX9_stand 39 = .ok (.iconst 1, 1) := by decide +kernel
theorem dX9_stand_40 : decode cX9_stand 40 = .ok (.if_icmp .ne 67, 3) := by decide +kernel
theorem dX9_stand_43 : decode cX9_stand 43 = .ok (.iconst 0, 1) := by decide +kernel
theorem dX9_stand_44 : decode cX9_stand 44 = .ok (.istore 5, 2) := by decide +kernel
theorem dX9_stand_46 : decode cX9_stand 46 = .ok (.iconst 0, 1) := by decide +kernel
theorem dX9_stand_47 : decode cX9_stand 47 = .ok (.istore 6, 2) := by decide +kernel
theorem dX9_stand_49 : decode cX9_stand 49 = .ok (.iload 6, 2) := by decide +kernel
theorem dX9_stand_51 : decode cX9_stand 51 = .ok (.iconst 4, 1) := by decide +kernel
theorem dX9_stand_52 : decode cX9_stand 52 = .ok (.if_icmp .ge 28, 3) := by decide +kernel
theorem dX9_stand_55 : decode cX9_stand 55 = .ok (.iload 5, 2) := by decide +kernel
theorem dX9_stand_57 : decode cX9_stand 57 = .ok (.aload_n 1, 1) := by decide +kernel
theorem dX9_stand_58 : decode cX9_stand 58 = .ok (.iload_n 2, 1) := by decide +kernel
theorem dX9_stand_59 : decode cX9_stand 59 = .ok (.iload 6, 2) := by decide +kernel
theorem dX9_stand_61 : decode cX9_stand 61 = .ok (.iadd, 1) := by decide +kernel
theorem dX9_stand_62 : decode cX9_stand 62 = .ok (.iaload, 1) := by decide +kernel
theorem dX9_stand_63 : decode cX9_stand 63 = .ok (.aload_n 3, 1) := by decide +kernel
theorem dX9_stand_64 : decode cX9_stand 64 = .ok (.iload 4, 2) := by decide +kernel
theorem dX9_stand_66 : decode cX9_stand 66 = .ok (.iload 6, 2) := by decide +kernel
theorem dX9_stand_68 : decode cX9_stand 68 = .ok (.iadd, 1) := by decide +kernel
theorem dX9_stand_69 : decode cX9_stand 69 = .ok (.iaload, 1) := by decide +kernel
theorem dX9_stand_70 : decode cX9_stand 70 = .ok (.isub, 1) := by decide +kernel
theorem dX9_stand_71 : decode cX9_stand 71 = .ok (.iadd, 1) := by decide +kernel
theorem dX9_stand_72 : decode cX9_stand 72 = .ok (.istore 5, 2) := by decide +kernel
theorem dX9_stand_74 : decode cX9_stand 74 = .ok (.iinc 6 1, 3) := by decide +kernel
theorem dX9_stand_77 : decode cX9_stand 77 = .ok (.goto (-28), 3) := by decide +kernel
theorem dX9_stand_80 : decode cX9_stand 80 = .ok (.iload 5, 2) := by decide +kernel
theorem dX9_stand_82 : decode cX9_stand 82 = .ok (.ifCond .eq 16, 3) := by decide +kernel
theorem dX9_stand_85 : decode cX9_stand 85 = .ok (.iload 5, 2) := by decide +kernel
theorem dX9_stand_87 : decode cX9_stand 87 = .ok (.ifCond .ge 7, 3) := by decide +kernel
theorem dX9_stand_90 : decode cX9_stand 90 = .ok (.iconst (-1), 1) := by decide +kernel
theorem dX9_stand_91 : decode cX9_stand 91 = .ok (.goto 15, 3) := by decide +kernel
theorem dX9_stand_94 : decode cX9_stand 94 = .ok (.iconst 1, 1) := by decide +kernel
theorem dX9_stand_95 : decode cX9_stand 95 = .ok (.goto 11, 3) := by decide +kernel
theorem dX9_stand_98 : decode cX9_stand 98 = .ok (.aload_n 1, 1) := by decide +kernel
theorem dX9_stand_99 : decode cX9_stand 99 = .ok (.iload_n 2, 1) := by decide +kernel
theorem dX9_stand_100 : decode cX9_stand 100 = .ok (.aload_n 3, 1) := by decide +kernel
theorem dX9_stand_101 : decode cX9_stand 101 = .ok (.iload 4, 2) := by decide +kernel
theorem dX9_stand_103 : decode cX9_stand 103 = .ok (.invokestatic 82, 3) := by decide +kernel
theorem dX9_stand_106 : decode cX9_stand 106 = .ok (.ireturn, 1) := by decide +kernel
theorem dX9_stand_107 : decode cX9_stand 107 = .ok (.aload_n 1, 1) := by decide +kernel
theorem dX9_stand_108 : decode cX9_stand 108 = .ok (.iload_n 2, 1) := by decide +kernel
theorem dX9_stand_109 : decode cX9_stand 109 = .ok (.aload_n 3, 1) := by decide +kernel
theorem dX9_stand_110 : decode cX9_stand 110 = .ok (.iload 4, 2) := by decide +kernel
theorem dX9_stand_112 : decode cX9_stand 112 = .ok (.iconst 0, 1) := by decide +kernel
theorem dX9_stand_113 : decode cX9_stand 113 = .ok (.iconst 2, 1) := by decide +kernel
theorem dX9_stand_114 : decode cX9_stand 114 = .ok (.invokestatic 86, 3) := by decide +kernel
theorem dX9_stand_117 : decode cX9_stand 117 = .ok (.istore 5, 2) := by decide +kernel
theorem dX9_stand_119 : decode cX9_stand 119 = .ok (.iload 5, 2) := by decide +kernel
theorem dX9_stand_121 : decode cX9_stand 121 = .ok (.ifCond .eq 8, 3) := by decide +kernel
theorem dX9_stand_124 : decode cX9_stand 124 = .ok (.iload 5, 2) := by decide +kernel
theorem dX9_stand_126 : decode cX9_stand 126 = .ok (.goto 13, 3) := by decide +kernel
theorem dX9_stand_129 : decode cX9_stand 129 = .ok (.aload_n 1, 1) := by decide +kernel
theorem dX9_stand_130 : decode cX9_stand 130 = .ok (.iload_n 2, 1) := by decide +kernel
theorem dX9_stand_131 : decode cX9_stand 131 = .ok (.aload_n 3, 1) := by decide +kernel
theorem dX9_stand_132 : decode cX9_stand 132 = .ok (.iload 4, 2) := by decide +kernel
theorem dX9_stand_134 : decode cX9_stand 134 = .ok (.iconst 2, 1) := by decide +kernel
theorem dX9_stand_135 : decode cX9_stand 135 = .ok (.iconst 4, 1) := by decide +kernel
theorem dX9_stand_136 : decode cX9_stand 136 = .ok (.invokestatic 86, 3) := by decide +kernel
theorem dX9_stand_139 : decode cX9_stand 139 = .ok (.ireturn, 1) := by decide +kernel
theorem dX9_divides_0 : decode cX9_divides 0 = .ok (.iconst 1, 1) := by decide +kernel
theorem dX9_divides_1 : decode cX9_divides 1 = .ok (.istore 4, 2) := by decide +kernel
theorem dX9_divides_3 : decode cX9_divides 3 = .ok (.iconst 0, 1) := by decide +kernel
theorem dX9_divides_4 : decode cX9_divides 4 = .ok (.istore 5, 2) := by decide +kernel
theorem dX9_divides_6 : decode cX9_divides 6 = .ok (.iload 5, 2) := by decide +kernel
theorem dX9_divides_8 : decode cX9_divides 8 = .ok (.iconst 4, 1) := by decide +kernel
theorem dX9_divides_9 : decode cX9_divides 9 = .ok (.if_icmp .ge 34, 3) := by decide +kernel
theorem dX9_divides_12 : decode cX9_divides 12 = .ok (.iload 4, 2) := by decide +kernel
theorem dX9_divides_14 : decode cX9_divides 14 = .ok (.aload_n 0, 1) := by decide +kernel
theorem dX9_divides_15 : decode cX9_divides 15 = .ok (.iload_n 1, 1) := by decide +kernel
theorem dX9_divides_16 : decode cX9_divides 16 = .ok (.iload 5, 2) := by decide +kernel
theorem dX9_divides_18 : decode cX9_divides 18 = .ok (.iadd, 1) := by decide +kernel
theorem dX9_divides_19 : decode cX9_divides 19 = .ok (.iaload, 1) := by decide +kernel
theorem dX9_divides_20 : decode cX9_divides 20 = .ok (.aload_n 2, 1) := by decide +kernel
theorem dX9_divides_21 : decode cX9_divides 21 = .ok (.iload_n 3, 1) := by decide +kernel
theorem dX9_divides_22 : decode cX9_divides 22 = .ok (.iload 5, 2) := by decide +kernel
theorem dX9_divides_24 : decode cX9_divides 24 = .ok (.iadd, 1) := by decide +kernel
theorem dX9_divides_25 : decode cX9_divides 25 = .ok (.iaload, 1) := by decide +kernel
theorem dX9_divides_26 : decode cX9_divides 26 = .ok (.if_icmp .gt 7, 3) := by decide +kernel
theorem dX9_divides_29 : decode cX9_divides 29 = .ok (.iconst 1, 1) := by decide +kernel
theorem dX9_divides_30 : decode cX9_divides 30 = .ok (.goto 4, 3) := by decide +kernel
theorem dX9_divides_33 : decode cX9_divides 33 = .ok (.iconst 0, 1) := by decide +kernel
theorem dX9_divides_34 : decode cX9_divides 34 = .ok (.iand, 1) := by decide +kernel
theorem dX9_divides_35 : decode cX9_divides 35 = .ok (.istore 4, 2) := by decide +kernel
theorem dX9_divides_37 : decode cX9_divides 37 = .ok (.iinc 5 1, 3) := by decide +kernel
theorem dX9_divides_40 : decode cX9_divides 40 = .ok (.goto (-34), 3) := by decide +kernel
theorem dX9_divides_43 : decode cX9_divides 43 = .ok (.iload 4, 2) := by decide +kernel
theorem dX9_divides_45 : decode cX9_divides 45 = .ok (.ireturn, 1) := by decide +kernel
theorem dX9_add_0 : decode cX9_add 0 = .ok (.iconst 0, 1) := by decide +kernel
theorem dX9_add_1 : decode cX9_add 1 = .ok (.istore_n 2, 1) := by decide +kernel
theorem dX9_add_2 : decode cX9_add 2 = .ok (.iconst 1, 1) := by decide +kernel
theorem dX9_add_3 : decode cX9_add 3 = .ok (.istore_n 3, 1) := by decide +kernel
theorem dX9_add_4 : decode cX9_add 4 = .ok (.iload_n 2, 1) := by decide +kernel
theorem dX9_add_5 : decode cX9_add 5 = .ok (.aload_n 0, 1) := by decide +kernel
theorem dX9_add_6 : decode cX9_add 6 = .ok (.getfield 90, 3) := by decide +kernel
theorem dX9_add_9 : decode cX9_add 9 = .ok (.if_icmp .ge 39, 3) := by decide +kernel
theorem dX9_add_12 : decode cX9_add 12 = .ok (.iload_n 3, 1) := by decide +kernel
theorem dX9_add_13 : decode cX9_add 13 = .ok (.ifCond .le 35, 3) := by decide +kernel
theorem dX9_add_16 : decode cX9_add 16 = .ok (.aload_n 0, 1) := by decide +kernel
theorem dX9_add_17 : decode cX9_add 17 = .ok (.aload_n 0, 1) := by decide +kernel
theorem dX9_add_18 : decode cX9_add 18 = .ok (.getfield 35, 3) := by decide +kernel
theorem dX9_add_21 : decode cX9_add 21 = .ok (.iconst 4, 1) := by decide +kernel
theorem dX9_add_22 : decode cX9_add 22 = .ok (.iload_n 2, 1) := by decide +kernel
theorem dX9_add_23 : decode cX9_add 23 = .ok (.imul, 1) := by decide +kernel
theorem dX9_add_24 : decode cX9_add 24 = .ok (.aload_n 0, 1) := by decide +kernel
theorem dX9_add_25 : decode cX9_add 25 = .ok (.getfield 38, 3) := by decide +kernel
theorem dX9_add_28 : decode cX9_add 28 = .ok (.iconst 0, 1) := by decide +kernel
theorem dX9_add_29 : decode cX9_add 29 = .ok (.invokevirtual 93, 3) := by decide +kernel
theorem dX9_add_32 : decode cX9_add 32 = .ok (.istore_n 3, 1) := by decide +kernel
theorem dX9_add_33 : decode cX9_add 33 = .ok (.iload_n 2, 1) := by decide +kernel
theorem dX9_add_34 : decode cX9_add 34 = .ok (.iload_n 3, 1) := by decide +kernel
theorem dX9_add_35 : decode cX9_add 35 = .ok (.ifCond .le 7, 3) := by decide +kernel
theorem dX9_add_38 : decode cX9_add 38 = .ok (.iconst 1, 1) := by decide +kernel
theorem dX9_add_39 : decode cX9_add 39 = .ok (.goto 4, 3) := by decide +kernel
theorem dX9_add_42 : decode cX9_add 42 = .ok (.iconst 0, 1) := by decide +kernel
theorem dX9_add_43 : decode cX9_add 43 = .ok (.iadd, 1) := by decide +kernel
theorem dX9_add_44 : decode cX9_add 44 = .ok (.istore_n 2, 1) := by decide +kernel
theorem dX9_add_45 : decode cX9_add 45 = .ok (.goto (-41), 3) := by decide +kernel
theorem dX9_add_48 : decode cX9_add 48 = .ok (.iload_n 2, 1) := by decide +kernel
theorem dX9_add_49 : decode cX9_add 49 = .ok (.aload_n 0, 1) := by decide +kernel
theorem dX9_add_50 : decode cX9_add 50 = .ok (.getfield 90, 3) := by decide +kernel
theorem dX9_add_53 : decode cX9_add 53 = .ok (.if_icmp .ge 27, 3) := by decide +kernel
theorem dX9_add_56 : decode cX9_add 56 = .ok (.iload_n 3, 1) := by decide +kernel
theorem dX9_add_57 : decode cX9_add 57 = .ok (.ifCond .ne 23, 3) := by decide +kernel
theorem dX9_add_60 : decode cX9_add 60 = .ok (.aload_n 0, 1) := by decide +kernel
theorem dX9_add_61 : decode cX9_add 61 = .ok (.getfield 32, 3) := by decide +kernel
theorem dX9_add_64 : decode cX9_add 64 = .ok (.iload_n 2, 1) := by decide +kernel
theorem dX9_add_65 : decode cX9_add 65 = .ok (.aload_n 0, 1) := by decide +kernel
theorem dX9_add_66 : decode cX9_add 66 = .ok (.getfield 32, 3) := by decide +kernel
theorem dX9_add_69 : decode cX9_add 69 = .ok (.iload_n 2, 1) := by decide +kernel
theorem dX9_add_70 : decode cX9_add 70 = .ok (.iaload, 1) := by decide +kernel
theorem dX9_add_71 : decode cX9_add 71 = .ok (.iload_n 1, 1) := by decide +kernel
theorem dX9_add_72 : decode cX9_add 72 = .ok (.iadd, 1) := by decide +kernel
theorem dX9_add_73 : decode cX9_add 73 = .ok (.aload_n 0, 1) := by decide +kernel
theorem dX9_add_74 : decode cX9_add 74 = .ok (.getfield 72, 3) := by decide +kernel
theorem dX9_add_77 : decode cX9_add 77 = .ok (.irem, 1) := by decide +kernel
theorem dX9_add_78 : decode cX9_add 78 = .ok (.iastore, 1) := by decide +kernel
theorem dX9_add_79 : decode cX9_add 79 = .ok (.return_, 1) := by decide +kernel
theorem dX9_add_80 : decode cX9_add 80 = .ok (.aload_n 0, 1) := by decide +kernel
theorem dX9_add_81 : decode cX9_add 81 = .ok (.getfield 90, 3) := by decide +kernel
theorem dX9_add_84 : decode cX9_add 84 = .ok (.istore 4, 2) := by decide +kernel
theorem dX9_add_86 : decode cX9_add 86 = .ok (.iload 4, 2) := by decide +kernel
theorem dX9_add_88 : decode cX9_add 88 = .ok (.iload_n 2, 1) := by decide +kernel
theorem dX9_add_89 : decode cX9_add 89 = .ok (.if_icmp .le 66, 3) := by decide +kernel
theorem dX9_add_92 : decode cX9_add 92 = .ok (.aload_n 0, 1) := by decide +kernel
theorem dX9_add_93 : decode cX9_add 93 = .ok (.getfield 32, 3) := by decide +kernel
theorem dX9_add_96 : decode cX9_add 96 = .ok (.iload 4, 2) := by decide +kernel
theorem dX9_add_98 : decode cX9_add 98 = .ok (.aload_n 0, 1) := by decide +kernel
theorem dX9_add_99 : decode cX9_add 99 = .ok (.getfield 32, 3) := by decide +kernel
theorem dX9_add_102 : decode cX9_add 102 = .ok (.iload 4, 2) := by decide +kernel
theorem dX9_add_104 : decode cX9_add 104 = .ok (.iconst 1, 1) := by decide +kernel
theorem dX9_add_105 : decode cX9_add 105 = .ok (.isub, 1) := by decide +kernel
theorem dX9_add_106 : decode cX9_add 106 = .ok (.iaload, 1) := by decide +kernel
theorem dX9_add_107 : decode cX9_add 107 = .ok (.iastore, 1) := by decide +kernel
theorem dX9_add_108 : decode cX9_add 108 = .ok (.iconst 0, 1) := by decide +kernel
theorem dX9_add_109 : decode cX9_add 109 = .ok (.istore 5, 2) := by decide +kernel
theorem dX9_add_111 : decode cX9_add 111 = .ok (.iload 5, 2) := by decide +kernel
theorem dX9_add_113 : decode cX9_add 113 = .ok (.iconst 4, 1) := by decide +kernel
theorem dX9_add_114 : decode cX9_add 114 = .ok (.if_icmp .ge 35, 3) := by decide +kernel
theorem dX9_add_117 : decode cX9_add 117 = .ok (.aload_n 0, 1) := by decide +kernel
theorem dX9_add_118 : decode cX9_add 118 = .ok (.getfield 35, 3) := by decide +kernel
theorem dX9_add_121 : decode cX9_add 121 = .ok (.iconst 4, 1) := by decide +kernel
theorem dX9_add_122 : decode cX9_add 122 = .ok (.iload 4, 2) := by decide +kernel
theorem dX9_add_124 : decode cX9_add 124 = .ok (.imul, 1) := by decide +kernel
theorem dX9_add_125 : decode cX9_add 125 = .ok (.iload 5, 2) := by decide +kernel
theorem dX9_add_127 : decode cX9_add 127 = .ok (.iadd, 1) := by decide +kernel
theorem dX9_add_128 : decode cX9_add 128 = .ok (.aload_n 0, 1) := by decide +kernel
theorem dX9_add_129 : decode cX9_add 129 = .ok (.getfield 35, 3) := by decide +kernel
theorem dX9_add_132 : decode cX9_add 132 = .ok (.iconst 4, 1) := by decide +kernel
theorem dX9_add_133 : decode cX9_add 133 = .ok (.iload 4, 2) := by decide +kernel
theorem dX9_add_135 : decode cX9_add 135 = .ok (.imul, 1) := by decide +kernel
theorem dX9_add_136 : decode cX9_add 136 = .ok (.iconst 4, 1) := by decide +kernel
theorem dX9_add_137 : decode cX9_add 137 = .ok (.isub, 1) := by decide +kernel
theorem dX9_add_138 : decode cX9_add 138 = .ok (.iload 5, 2) := by decide +kernel
theorem dX9_add_140 : decode cX9_add 140 = .ok (.iadd, 1) := by decide +kernel
theorem dX9_add_141 : decode cX9_add 141 = .ok (.iaload, 1) := by decide +kernel
theorem dX9_add_142 : decode cX9_add 142 = .ok (.iastore, 1) := by decide +kernel
theorem dX9_add_143 : decode cX9_add 143 = .ok (.iinc 5 1, 3) := by decide +kernel
theorem dX9_add_146 : decode cX9_add 146 = .ok (.goto (-35), 3) := by decide +kernel
theorem dX9_add_149 : decode cX9_add 149 = .ok (.iinc 4 (-1), 3) := by decide +kernel
theorem dX9_add_152 : decode cX9_add 152 = .ok (.goto (-66), 3) := by decide +kernel
theorem dX9_add_155 : decode cX9_add 155 = .ok (.aload_n 0, 1) := by decide +kernel
theorem dX9_add_156 : decode cX9_add 156 = .ok (.getfield 32, 3) := by decide +kernel
theorem dX9_add_159 : decode cX9_add 159 = .ok (.iload_n 2, 1) := by decide +kernel
theorem dX9_add_160 : decode cX9_add 160 = .ok (.iload_n 1, 1) := by decide +kernel
theorem dX9_add_161 : decode cX9_add 161 = .ok (.iastore, 1) := by decide +kernel
theorem dX9_add_162 : decode cX9_add 162 = .ok (.iconst 0, 1) := by decide +kernel
theorem dX9_add_163 : decode cX9_add 163 = .ok (.istore 4, 2) := by decide +kernel
theorem dX9_add_165 : decode cX9_add 165 = .ok (.iload 4, 2) := by decide +kernel
theorem dX9_add_167 : decode cX9_add 167 = .ok (.iconst 4, 1) := by decide +kernel
theorem dX9_add_168 : decode cX9_add 168 = .ok (.if_icmp .ge 27, 3) := by decide +kernel
theorem dX9_add_171 : decode cX9_add 171 = .ok (.aload_n 0, 1) := by decide +kernel
theorem dX9_add_172 : decode cX9_add 172 = .ok (.getfield 35, 3) := by decide +kernel
theorem dX9_add_175 : decode cX9_add 175 = .ok (.iconst 4, 1) := by decide +kernel
theorem dX9_add_176 : decode cX9_add 176 = .ok (.iload_n 2, 1) := by decide +kernel
theorem dX9_add_177 : decode cX9_add 177 = .ok (.imul, 1) := by decide +kernel
theorem dX9_add_178 : decode cX9_add 178 = .ok (.iload 4, 2) := by decide +kernel
theorem dX9_add_180 : decode cX9_add 180 = .ok (.iadd, 1) := by decide +kernel
theorem dX9_add_181 : decode cX9_add 181 = .ok (.aload_n 0, 1) := by decide +kernel
theorem dX9_add_182 : decode cX9_add 182 = .ok (.getfield 38, 3) := by decide +kernel
theorem dX9_add_185 : decode cX9_add 185 = .ok (.iload 4, 2) := by decide +kernel
theorem dX9_add_187 : decode cX9_add 187 = .ok (.iaload, 1) := by decide +kernel
theorem dX9_add_188 : decode cX9_add 188 = .ok (.iastore, 1) := by decide +kernel
theorem dX9_add_189 : decode cX9_add 189 = .ok (.iinc 4 1, 3) := by decide +kernel
theorem dX9_add_192 : decode cX9_add 192 = .ok (.goto (-27), 3) := by decide +kernel
theorem dX9_add_195 : decode cX9_add 195 = .ok (.aload_n 0, 1) := by decide +kernel
theorem dX9_add_196 : decode cX9_add 196 = .ok (.dup, 1) := by decide +kernel
theorem dX9_add_197 : decode cX9_add 197 = .ok (.getfield 90, 3) := by decide +kernel
theorem dX9_add_200 : decode cX9_add 200 = .ok (.iconst 1, 1) := by decide +kernel
theorem dX9_add_201 : decode cX9_add 201 = .ok (.iadd, 1) := by decide +kernel
theorem dX9_add_202 : decode cX9_add 202 = .ok (.putfield 90, 3) := by decide +kernel
theorem dX9_add_205 : decode cX9_add 205 = .ok (.return_, 1) := by decide +kernel
theorem dX9_addTimes_0 : decode cX9_addTimes 0 = .ok (.iconst 0, 1) := by decide +kernel
theorem dX9_addTimes_1 : decode cX9_addTimes 1 = .ok (.istore_n 3, 1) := by decide +kernel
theorem dX9_addTimes_2 : decode cX9_addTimes 2 = .ok (.iload_n 3, 1) := by decide +kernel
theorem dX9_addTimes_3 : decode cX9_addTimes 3 = .ok (.aload_n 0, 1) := by decide +kernel
theorem dX9_addTimes_4 : decode cX9_addTimes 4 = .ok (.getfield 13, 3) := by decide +kernel
theorem dX9_addTimes_7 : decode cX9_addTimes 7 = .ok (.iload_n 1, 1) := by decide +kernel
theorem dX9_addTimes_8 : decode cX9_addTimes 8 = .ok (.iaload, 1) := by decide +kernel
theorem dX9_addTimes_9 : decode cX9_addTimes 9 = .ok (.if_icmp .ge 56, 3) := by decide +kernel
theorem dX9_addTimes_12 : decode cX9_addTimes 12 = .ok (.iconst 0, 1) := by decide +kernel
theorem dX9_addTimes_13 : decode cX9_addTimes 13 = .ok (.istore 4, 2) := by decide +kernel
theorem dX9_addTimes_15 : decode cX9_addTimes 15 = .ok (.iload 4, 2) := by decide +kernel
theorem dX9_addTimes_17 : decode cX9_addTimes 17 = .ok (.iconst 4, 1) := by decide +kernel
theorem dX9_addTimes_18 : decode cX9_addTimes 18 = .ok (.if_icmp .ge 41, 3) := by decide +kernel
theorem dX9_addTimes_21 : decode cX9_addTimes 21 = .ok (.aload_n 0, 1) := by decide +kernel
theorem dX9_addTimes_22 : decode cX9_addTimes 22 = .ok (.getfield 20, 3) := by decide +kernel
theorem dX9_addTimes_25 : decode cX9_addTimes 25 = .ok (.sipush 160, 3) := by decide +kernel
theorem dX9_addTimes_28 : decode cX9_addTimes 28 = .ok (.iload_n 1, 1) := by decide +kernel
theorem dX9_addTimes_29 : decode cX9_addTimes 29 = .ok (.imul, 1) := by decide +kernel
theorem dX9_addTimes_30 : decode cX9_addTimes 30 = .ok (.iconst 4, 1) := by decide +kernel
theorem dX9_addTimes_31 : decode cX9_addTimes 31 = .ok (.iload_n 3, 1) := by decide +kernel
theorem dX9_addTimes_32 : decode cX9_addTimes 32 = .ok (.imul, 1) := by decide +kernel
theorem dX9_addTimes_33 : decode cX9_addTimes 33 = .ok (.iadd, 1) := by decide +kernel
theorem dX9_addTimes_34 : decode cX9_addTimes 34 = .ok (.iload 4, 2) := by decide +kernel
theorem dX9_addTimes_36 : decode cX9_addTimes 36 = .ok (.iadd, 1) := by decide +kernel
theorem dX9_addTimes_37 : decode cX9_addTimes 37 = .ok (.iaload, 1) := by decide +kernel
theorem dX9_addTimes_38 : decode cX9_addTimes 38 = .ok (.aload_n 0, 1) := by decide +kernel
theorem dX9_addTimes_39 : decode cX9_addTimes 39 = .ok (.getfield 41, 3) := by decide +kernel
theorem dX9_addTimes_42 : decode cX9_addTimes 42 = .ok (.iload 4, 2) := by decide +kernel
theorem dX9_addTimes_44 : decode cX9_addTimes 44 = .ok (.iaload, 1) := by decide +kernel
theorem dX9_addTimes_45 : decode cX9_addTimes 45 = .ok (.iadd, 1) := by decide +kernel
theorem dX9_addTimes_46 : decode cX9_addTimes 46 = .ok (.bipush 30, 2) := by decide +kernel
theorem dX9_addTimes_48 : decode cX9_addTimes 48 = .ok (.if_icmp .le 5, 3) := by decide +kernel
theorem dX9_addTimes_51 : decode cX9_addTimes 51 = .ok (.iconst 0, 1) := by decide +kernel
theorem dX9_addTimes_52 : decode cX9_addTimes 52 = .ok (.ireturn, 1) := by decide +kernel
theorem dX9_addTimes_53 : decode cX9_addTimes 53 = .ok (.iinc 4 1, 3) := by decide +kernel
theorem dX9_addTimes_56 : decode cX9_addTimes 56 = .ok (.goto (-41), 3) := by decide +kernel
theorem dX9_addTimes_59 : decode cX9_addTimes 59 = .ok (.iinc 3 1, 3) := by decide +kernel
theorem dX9_addTimes_62 : decode cX9_addTimes 62 = .ok (.goto (-60), 3) := by decide +kernel
theorem dX9_addTimes_65 : decode cX9_addTimes 65 = .ok (.iconst 0, 1) := by decide +kernel
theorem dX9_addTimes_66 : decode cX9_addTimes 66 = .ok (.istore_n 3, 1) := by decide +kernel
theorem dX9_addTimes_67 : decode cX9_addTimes 67 = .ok (.iload_n 3, 1) := by decide +kernel
theorem dX9_addTimes_68 : decode cX9_addTimes 68 = .ok (.aload_n 0, 1) := by decide +kernel
theorem dX9_addTimes_69 : decode cX9_addTimes 69 = .ok (.getfield 13, 3) := by decide +kernel
theorem dX9_addTimes_72 : decode cX9_addTimes 72 = .ok (.iload_n 1, 1) := by decide +kernel
theorem dX9_addTimes_73 : decode cX9_addTimes 73 = .ok (.iaload, 1) := by decide +kernel
theorem dX9_addTimes_74 : decode cX9_addTimes 74 = .ok (.if_icmp .ge 82, 3) := by decide +kernel
theorem dX9_addTimes_77 : decode cX9_addTimes 77 = .ok (.iload_n 2, 1) := by decide +kernel
theorem dX9_addTimes_78 : decode cX9_addTimes 78 = .ok (.ifCond .eq 78, 3) := by decide +kernel
theorem dX9_addTimes_81 : decode cX9_addTimes 81 = .ok (.iconst 0, 1) := by decide +kernel
theorem dX9_addTimes_82 : decode cX9_addTimes 82 = .ok (.istore 4, 2) := by decide +kernel
theorem dX9_addTimes_84 : decode cX9_addTimes 84 = .ok (.iload 4, 2) := by decide +kernel
theorem dX9_addTimes_86 : decode cX9_addTimes 86 = .ok (.iconst 4, 1) := by decide +kernel
theorem dX9_addTimes_87 : decode cX9_addTimes 87 = .ok (.if_icmp .ge 41, 3) := by decide +kernel
theorem dX9_addTimes_90 : decode cX9_addTimes 90 = .ok (.aload_n 0, 1) := by decide +kernel
theorem dX9_addTimes_91 : decode cX9_addTimes 91 = .ok (.getfield 38, 3) := by decide +kernel
end
section
theorem dX9_addTimes_94 : decode cX9_addTimes 94 = .ok (.iload 4, 2) := by decide +kernel
theorem dX9_addTimes_96 : decode cX9_addTimes 96 = .ok (.aload_n 0, 1) := by decide +kernel
theorem dX9_addTimes_97 : decode cX9_addTimes 97 = .ok (.getfield 20, 3) := by decide +kernel
theorem dX9_addTimes_100 : decode cX9_addTimes 100 = .ok (.sipush 160, 3) := by decide +kernel
theorem dX9_addTimes_103 : decode cX9_addTimes 103 = .ok (.iload_n 1, 1) := by decide +kernel
theorem dX9_addTimes_104 : decode cX9_addTimes 104 = .ok (.imul, 1) := by decide +kernel
theorem dX9_addTimes_105 : decode cX9_addTimes 105 = .ok (.iconst 4, 1) := by decide +kernel
theorem dX9_addTimes_106 : decode cX9_addTimes 106 = .ok (.iload_n 3, 1) := by decide +kernel
theorem dX9_addTimes_107 : decode cX9_addTimes 107 = .ok (.imul, 1) := by decide +kernel
theorem dX9_addTimes_108 : decode cX9_addTimes 108 = .ok (.iadd, 1) := by decide +kernel
theorem dX9_addTimes_109 : decode cX9_addTimes 109 = .ok (.iload 4, 2) := by decide +kernel
theorem dX9_addTimes_111 : decode cX9_addTimes 111 = .ok (.iadd, 1) := by decide +kernel
theorem dX9_addTimes_112 : decode cX9_addTimes 112 = .ok (.iaload, 1) := by decide +kernel
theorem dX9_addTimes_113 : decode cX9_addTimes 113 = .ok (.aload_n 0, 1) := by decide +kernel
theorem dX9_addTimes_114 : decode cX9_addTimes 114 = .ok (.getfield 41, 3) := by decide +kernel
theorem dX9_addTimes_117 : decode cX9_addTimes 117 = .ok (.iload 4, 2) := by decide +kernel
theorem dX9_addTimes_119 : decode cX9_addTimes 119 = .ok (.iaload, 1) := by decide +kernel
theorem dX9_addTimes_120 : decode cX9_addTimes 120 = .ok (.iadd, 1) := by decide +kernel
theorem dX9_addTimes_121 : decode cX9_addTimes 121 = .ok (.iastore, 1) := by decide +kernel
theorem dX9_addTimes_122 : decode cX9_addTimes 122 = .ok (.iinc 4 1, 3) := by decide +kernel
theorem dX9_addTimes_125 : decode cX9_addTimes 125 = .ok (.goto (-41), 3) := by decide +kernel
theorem dX9_addTimes_128 : decode cX9_addTimes 128 = .ok (.aload_n 0, 1) := by decide +kernel
theorem dX9_addTimes_129 : decode cX9_addTimes 129 = .ok (.aload_n 0, 1) := by decide +kernel
theorem dX9_addTimes_130 : decode cX9_addTimes 130 = .ok (.getfield 17, 3) := by decide +kernel
theorem dX9_addTimes_133 : decode cX9_addTimes 133 = .ok (.bipush 40, 2) := by decide +kernel
theorem dX9_addTimes_135 : decode cX9_addTimes 135 = .ok (.iload_n 1, 1) := by decide +kernel
theorem dX9_addTimes_136 : decode cX9_addTimes 136 = .ok (.imul, 1) := by decide +kernel
theorem dX9_addTimes_137 : decode cX9_addTimes 137 = .ok (.iload_n 3, 1) := by decide +kernel
theorem dX9_addTimes_138 : decode cX9_addTimes 138 = .ok (.iadd, 1) := by decide +kernel
theorem dX9_addTimes_139 : decode cX9_addTimes 139 = .ok (.iaload, 1) := by decide +kernel
theorem dX9_addTimes_140 : decode cX9_addTimes 140 = .ok (.iload_n 2, 1) := by decide +kernel
theorem dX9_addTimes_141 : decode cX9_addTimes 141 = .ok (.imul, 1) := by decide +kernel
theorem dX9_addTimes_142 : decode cX9_addTimes 142 = .ok (.aload_n 0, 1) := by decide +kernel
theorem dX9_addTimes_143 : decode cX9_addTimes 143 = .ok (.getfield 72, 3) := by decide +kernel
theorem dX9_addTimes_146 : decode cX9_addTimes 146 = .ok (.irem, 1) := by decide +kernel
theorem dX9_addTimes_147 : decode cX9_addTimes 147 = .ok (.invokevirtual 96, 3) := by decide +kernel
theorem dX9_addTimes_150 : decode cX9_addTimes 150 = .ok (.iinc 3 1, 3) := by decide +kernel
theorem dX9_addTimes_153 : decode cX9_addTimes 153 = .ok (.goto (-86), 3) := by decide +kernel
theorem dX9_addTimes_156 : decode cX9_addTimes 156 = .ok (.iconst 1, 1) := by decide +kernel
theorem dX9_addTimes_157 : decode cX9_addTimes 157 = .ok (.ireturn, 1) := by decide +kernel
theorem dX9_byOne_0 : decode cX9_byOne 0 = .ok (.iconst 0, 1) := by decide +kernel
theorem dX9_byOne_1 : decode cX9_byOne 1 = .ok (.istore_n 1, 1) := by decide +kernel
theorem dX9_byOne_2 : decode cX9_byOne 2 = .ok (.iload_n 1, 1) := by decide +kernel
theorem dX9_byOne_3 : decode cX9_byOne 3 = .ok (.iconst 4, 1) := by decide +kernel
theorem dX9_byOne_4 : decode cX9_byOne 4 = .ok (.if_icmp .ge 16, 3) := by decide +kernel
theorem dX9_byOne_7 : decode cX9_byOne 7 = .ok (.aload_n 0, 1) := by decide +kernel
theorem dX9_byOne_8 : decode cX9_byOne 8 = .ok (.getfield 41, 3) := by decide +kernel
theorem dX9_byOne_11 : decode cX9_byOne 11 = .ok (.iload_n 1, 1) := by decide +kernel
theorem dX9_byOne_12 : decode cX9_byOne 12 = .ok (.iconst 0, 1) := by decide +kernel
theorem dX9_byOne_13 : decode cX9_byOne 13 = .ok (.iastore, 1) := by decide +kernel
theorem dX9_byOne_14 : decode cX9_byOne 14 = .ok (.iinc 1 1, 3) := by decide +kernel
theorem dX9_byOne_17 : decode cX9_byOne 17 = .ok (.goto (-15), 3) := by decide +kernel
theorem dX9_byOne_20 : decode cX9_byOne 20 = .ok (.return_, 1) := by decide +kernel
theorem dX9_clean_0 : decode cX9_clean 0 = .ok (.iconst 0, 1) := by decide +kernel
theorem dX9_clean_1 : decode cX9_clean 1 = .ok (.istore_n 1, 1) := by decide +kernel
theorem dX9_clean_2 : decode cX9_clean 2 = .ok (.iconst 0, 1) := by decide +kernel
theorem dX9_clean_3 : decode cX9_clean 3 = .ok (.istore_n 2, 1) := by decide +kernel
theorem dX9_clean_4 : decode cX9_clean 4 = .ok (.iload_n 2, 1) := by decide +kernel
theorem dX9_clean_5 : decode cX9_clean 5 = .ok (.aload_n 0, 1) := by decide +kernel
theorem dX9_clean_6 : decode cX9_clean 6 = .ok (.getfield 90, 3) := by decide +kernel
theorem dX9_clean_9 : decode cX9_clean 9 = .ok (.if_icmp .ge 66, 3) := by decide +kernel
theorem dX9_clean_12 : decode cX9_clean 12 = .ok (.aload_n 0, 1) := by decide +kernel
theorem dX9_clean_13 : decode cX9_clean 13 = .ok (.getfield 32, 3) := by decide +kernel
theorem dX9_clean_16 : decode cX9_clean 16 = .ok (.iload_n 2, 1) := by decide +kernel
theorem dX9_clean_17 : decode cX9_clean 17 = .ok (.iaload, 1) := by decide +kernel
theorem dX9_clean_18 : decode cX9_clean 18 = .ok (.ifCond .eq 51, 3) := by decide +kernel
theorem dX9_clean_21 : decode cX9_clean 21 = .ok (.aload_n 0, 1) := by decide +kernel
theorem dX9_clean_22 : decode cX9_clean 22 = .ok (.getfield 32, 3) := by decide +kernel
theorem dX9_clean_25 : decode cX9_clean 25 = .ok (.iload_n 1, 1) := by decide +kernel
theorem dX9_clean_26 : decode cX9_clean 26 = .ok (.aload_n 0, 1) := by decide +kernel
theorem dX9_clean_27 : decode cX9_clean 27 = .ok (.getfield 32, 3) := by decide +kernel
theorem dX9_clean_30 : decode cX9_clean 30 = .ok (.iload_n 2, 1) := by decide +kernel
theorem dX9_clean_31 : decode cX9_clean 31 = .ok (.iaload, 1) := by decide +kernel
theorem dX9_clean_32 : decode cX9_clean 32 = .ok (.iastore, 1) := by decide +kernel
theorem dX9_clean_33 : decode cX9_clean 33 = .ok (.iconst 0, 1) := by decide +kernel
theorem dX9_clean_34 : decode cX9_clean 34 = .ok (.istore_n 3, 1) := by decide +kernel
theorem dX9_clean_35 : decode cX9_clean 35 = .ok (.iload_n 3, 1) := by decide +kernel
theorem dX9_clean_36 : decode cX9_clean 36 = .ok (.iconst 4, 1) := by decide +kernel
theorem dX9_clean_37 : decode cX9_clean 37 = .ok (.if_icmp .ge 29, 3) := by decide +kernel
theorem dX9_clean_40 : decode cX9_clean 40 = .ok (.aload_n 0, 1) := by decide +kernel
theorem dX9_clean_41 : decode cX9_clean 41 = .ok (.getfield 35, 3) := by decide +kernel
theorem dX9_clean_44 : decode cX9_clean 44 = .ok (.iconst 4, 1) := by decide +kernel
theorem dX9_clean_45 : decode cX9_clean 45 = .ok (.iload_n 1, 1) := by decide +kernel
theorem dX9_clean_46 : decode cX9_clean 46 = .ok (.imul, 1) := by decide +kernel
theorem dX9_clean_47 : decode cX9_clean 47 = .ok (.iload_n 3, 1) := by decide +kernel
theorem dX9_clean_48 : decode cX9_clean 48 = .ok (.iadd, 1) := by decide +kernel
theorem dX9_clean_49 : decode cX9_clean 49 = .ok (.aload_n 0, 1) := by decide +kernel
theorem dX9_clean_50 : decode cX9_clean 50 = .ok (.getfield 35, 3) := by decide +kernel
theorem dX9_clean_53 : decode cX9_clean 53 = .ok (.iconst 4, 1) := by decide +kernel
theorem dX9_clean_54 : decode cX9_clean 54 = .ok (.iload_n 2, 1) := by decide +kernel
theorem dX9_clean_55 : decode cX9_clean 55 = .ok (.imul, 1) := by decide +kernel
theorem dX9_clean_56 : decode cX9_clean 56 = .ok (.iload_n 3, 1) := by decide +kernel
theorem dX9_clean_57 : decode cX9_clean 57 = .ok (.iadd, 1) := by decide +kernel
theorem dX9_clean_58 : decode cX9_clean 58 = .ok (.iaload, 1) := by decide +kernel
theorem dX9_clean_59 : decode cX9_clean 59 = .ok (.iastore, 1) := by decide +kernel
theorem dX9_clean_60 : decode cX9_clean 60 = .ok (.iinc 3 1, 3) := by decide +kernel
theorem dX9_clean_63 : decode cX9_clean 63 = .ok (.goto (-28), 3) := by decide +kernel
theorem dX9_clean_66 : decode cX9_clean 66 = .ok (.iinc 1 1, 3) := by decide +kernel
theorem dX9_clean_69 : decode cX9_clean 69 = .ok (.iinc 2 1, 3) := by decide +kernel
theorem dX9_clean_72 : decode cX9_clean 72 = .ok (.goto (-68), 3) := by decide +kernel
theorem dX9_clean_75 : decode cX9_clean 75 = .ok (.aload_n 0, 1) := by decide +kernel
theorem dX9_clean_76 : decode cX9_clean 76 = .ok (.iload_n 1, 1) := by decide +kernel
theorem dX9_clean_77 : decode cX9_clean 77 = .ok (.putfield 90, 3) := by decide +kernel
theorem dX9_clean_80 : decode cX9_clean 80 = .ok (.return_, 1) := by decide +kernel
theorem dX9_lay_0 : decode cX9_lay 0 = .ok (.aload_n 0, 1) := by decide +kernel
theorem dX9_lay_1 : decode cX9_lay 1 = .ok (.getfield 13, 3) := by decide +kernel
theorem dX9_lay_4 : decode cX9_lay 4 = .ok (.iload_n 1, 1) := by decide +kernel
theorem dX9_lay_5 : decode cX9_lay 5 = .ok (.aload_n 0, 1) := by decide +kernel
theorem dX9_lay_6 : decode cX9_lay 6 = .ok (.getfield 90, 3) := by decide +kernel
theorem dX9_lay_9 : decode cX9_lay 9 = .ok (.iastore, 1) := by decide +kernel
theorem dX9_lay_10 : decode cX9_lay 10 = .ok (.iconst 0, 1) := by decide +kernel
theorem dX9_lay_11 : decode cX9_lay 11 = .ok (.istore_n 3, 1) := by decide +kernel
theorem dX9_lay_12 : decode cX9_lay 12 = .ok (.iload_n 3, 1) := by decide +kernel
theorem dX9_lay_13 : decode cX9_lay 13 = .ok (.aload_n 0, 1) := by decide +kernel
theorem dX9_lay_14 : decode cX9_lay 14 = .ok (.getfield 90, 3) := by decide +kernel
theorem dX9_lay_17 : decode cX9_lay 17 = .ok (.if_icmp .ge 76, 3) := by decide +kernel
theorem dX9_lay_20 : decode cX9_lay 20 = .ok (.aload_n 0, 1) := by decide +kernel
theorem dX9_lay_21 : decode cX9_lay 21 = .ok (.getfield 17, 3) := by decide +kernel
theorem dX9_lay_24 : decode cX9_lay 24 = .ok (.bipush 40, 2) := by decide +kernel
theorem dX9_lay_26 : decode cX9_lay 26 = .ok (.iload_n 1, 1) := by decide +kernel
theorem dX9_lay_27 : decode cX9_lay 27 = .ok (.imul, 1) := by decide +kernel
theorem dX9_lay_28 : decode cX9_lay 28 = .ok (.iload_n 3, 1) := by decide +kernel
theorem dX9_lay_29 : decode cX9_lay 29 = .ok (.iadd, 1) := by decide +kernel
theorem dX9_lay_30 : decode cX9_lay 30 = .ok (.aload_n 0, 1) := by decide +kernel
theorem dX9_lay_31 : decode cX9_lay 31 = .ok (.getfield 32, 3) := by decide +kernel
theorem dX9_lay_34 : decode cX9_lay 34 = .ok (.iload_n 3, 1) := by decide +kernel
theorem dX9_lay_35 : decode cX9_lay 35 = .ok (.iaload, 1) := by decide +kernel
theorem dX9_lay_36 : decode cX9_lay 36 = .ok (.iload_n 2, 1) := by decide +kernel
theorem dX9_lay_37 : decode cX9_lay 37 = .ok (.imul, 1) := by decide +kernel
theorem dX9_lay_38 : decode cX9_lay 38 = .ok (.aload_n 0, 1) := by decide +kernel
theorem dX9_lay_39 : decode cX9_lay 39 = .ok (.getfield 72, 3) := by decide +kernel
theorem dX9_lay_42 : decode cX9_lay 42 = .ok (.irem, 1) := by decide +kernel
theorem dX9_lay_43 : decode cX9_lay 43 = .ok (.iastore, 1) := by decide +kernel
theorem dX9_lay_44 : decode cX9_lay 44 = .ok (.iconst 0, 1) := by decide +kernel
theorem dX9_lay_45 : decode cX9_lay 45 = .ok (.istore 4, 2) := by decide +kernel
theorem dX9_lay_47 : decode cX9_lay 47 = .ok (.iload 4, 2) := by decide +kernel
theorem dX9_lay_49 : decode cX9_lay 49 = .ok (.iconst 4, 1) := by decide +kernel
theorem dX9_lay_50 : decode cX9_lay 50 = .ok (.if_icmp .ge 37, 3) := by decide +kernel
theorem dX9_lay_53 : decode cX9_lay 53 = .ok (.aload_n 0, 1) := by decide +kernel
theorem dX9_lay_54 : decode cX9_lay 54 = .ok (.getfield 20, 3) := by decide +kernel
theorem dX9_lay_57 : decode cX9_lay 57 = .ok (.sipush 160, 3) := by decide +kernel
theorem dX9_lay_60 : decode cX9_lay 60 = .ok (.iload_n 1, 1) := by decide +kernel
theorem dX9_lay_61 : decode cX9_lay 61 = .ok (.imul, 1) := by decide +kernel
theorem dX9_lay_62 : decode cX9_lay 62 = .ok (.iconst 4, 1) := by decide +kernel
theorem dX9_lay_63 : decode cX9_lay 63 = .ok (.iload_n 3, 1) := by decide +kernel
theorem dX9_lay_64 : decode cX9_lay 64 = .ok (.imul, 1) := by decide +kernel
theorem dX9_lay_65 : decode cX9_lay 65 = .ok (.iadd, 1) := by decide +kernel
theorem dX9_lay_66 : decode cX9_lay 66 = .ok (.iload 4, 2) := by decide +kernel
theorem dX9_lay_68 : decode cX9_lay 68 = .ok (.iadd, 1) := by decide +kernel
theorem dX9_lay_69 : decode cX9_lay 69 = .ok (.aload_n 0, 1) := by decide +kernel
theorem dX9_lay_70 : decode cX9_lay 70 = .ok (.getfield 35, 3) := by decide +kernel
theorem dX9_lay_73 : decode cX9_lay 73 = .ok (.iconst 4, 1) := by decide +kernel
theorem dX9_lay_74 : decode cX9_lay 74 = .ok (.iload_n 3, 1) := by decide +kernel
theorem dX9_lay_75 : decode cX9_lay 75 = .ok (.imul, 1) := by decide +kernel
theorem dX9_lay_76 : decode cX9_lay 76 = .ok (.iload 4, 2) := by decide +kernel
theorem dX9_lay_78 : decode cX9_lay 78 = .ok (.iadd, 1) := by decide +kernel
theorem dX9_lay_79 : decode cX9_lay 79 = .ok (.iaload, 1) := by decide +kernel
theorem dX9_lay_80 : decode cX9_lay 80 = .ok (.iastore, 1) := by decide +kernel
theorem dX9_lay_81 : decode cX9_lay 81 = .ok (.iinc 4 1, 3) := by decide +kernel
theorem dX9_lay_84 : decode cX9_lay 84 = .ok (.goto (-37), 3) := by decide +kernel
theorem dX9_lay_87 : decode cX9_lay 87 = .ok (.iinc 3 1, 3) := by decide +kernel
theorem dX9_lay_90 : decode cX9_lay 90 = .ok (.goto (-78), 3) := by decide +kernel
theorem dX9_lay_93 : decode cX9_lay 93 = .ok (.return_, 1) := by decide +kernel
theorem dX9_fetch_0 : decode cX9_fetch 0 = .ok (.aload_n 0, 1) := by decide +kernel
theorem dX9_fetch_1 : decode cX9_fetch 1 = .ok (.aload_n 0, 1) := by decide +kernel
theorem dX9_fetch_2 : decode cX9_fetch 2 = .ok (.getfield 13, 3) := by decide +kernel
theorem dX9_fetch_5 : decode cX9_fetch 5 = .ok (.iload_n 1, 1) := by decide +kernel
theorem dX9_fetch_6 : decode cX9_fetch 6 = .ok (.iaload, 1) := by decide +kernel
theorem dX9_fetch_7 : decode cX9_fetch 7 = .ok (.putfield 90, 3) := by decide +kernel
theorem dX9_fetch_10 : decode cX9_fetch 10 = .ok (.iconst 0, 1) := by decide +kernel
theorem dX9_fetch_11 : decode cX9_fetch 11 = .ok (.istore_n 2, 1) := by decide +kernel
theorem dX9_fetch_12 : decode cX9_fetch 12 = .ok (.iload_n 2, 1) := by decide +kernel
theorem dX9_fetch_13 : decode cX9_fetch 13 = .ok (.aload_n 0, 1) := by decide +kernel
theorem dX9_fetch_14 : decode cX9_fetch 14 = .ok (.getfield 90, 3) := by decide +kernel
theorem dX9_fetch_17 : decode cX9_fetch 17 = .ok (.if_icmp .ge 65, 3) := by decide +kernel
theorem dX9_fetch_20 : decode cX9_fetch 20 = .ok (.aload_n 0, 1) := by decide +kernel
theorem dX9_fetch_21 : decode cX9_fetch 21 = .ok (.getfield 32, 3) := by decide +kernel
theorem dX9_fetch_24 : decode cX9_fetch 24 = .ok (.iload_n 2, 1) := by decide +kernel
theorem dX9_fetch_25 : decode cX9_fetch 25 = .ok (.aload_n 0, 1) := by decide +kernel
theorem dX9_fetch_26 : decode cX9_fetch 26 = .ok (.getfield 17, 3) := by decide +kernel
theorem dX9_fetch_29 : decode cX9_fetch 29 = .ok (.bipush 40, 2) := by decide +kernel
theorem dX9_fetch_31 : decode cX9_fetch 31 = .ok (.iload_n 1, 1) := by decide +kernel
theorem dX9_fetch_32 : decode cX9_fetch 32 = .ok (.imul, 1) := by decide +kernel
theorem dX9_fetch_33 : decode cX9_fetch 33 = .ok (.iload_n 2, 1) := by decide +kernel
theorem dX9_fetch_34 : decode cX9_fetch 34 = .ok (.iadd, 1) := by decide +kernel
theorem dX9_fetch_35 : decode cX9_fetch 35 = .ok (.iaload, 1) := by decide +kernel
theorem dX9_fetch_36 : decode cX9_fetch 36 = .ok (.iastore, 1) := by decide +kernel
theorem dX9_fetch_37 : decode cX9_fetch 37 = .ok (.iconst 0, 1) := by decide +kernel
theorem dX9_fetch_38 : decode cX9_fetch 38 = .ok (.istore_n 3, 1) := by decide +kernel
theorem dX9_fetch_39 : decode cX9_fetch 39 = .ok (.iload_n 3, 1) := by decide +kernel
theorem dX9_fetch_40 : decode cX9_fetch 40 = .ok (.iconst 4, 1) := by decide +kernel
theorem dX9_fetch_41 : decode cX9_fetch 41 = .ok (.if_icmp .ge 35, 3) := by decide +kernel
theorem dX9_fetch_44 : decode cX9_fetch 44 = .ok (.aload_n 0, 1) := by decide +kernel
theorem dX9_fetch_45 : decode cX9_fetch 45 = .ok (.getfield 35, 3) := by decide +kernel
theorem dX9_fetch_48 : decode cX9_fetch 48 = .ok (.iconst 4, 1) := by decide +kernel
theorem dX9_fetch_49 : decode cX9_fetch 49 = .ok (.iload_n 2, 1) := by decide +kernel
theorem dX9_fetch_50 : decode cX9_fetch 50 = .ok (.imul, 1) := by decide +kernel
theorem dX9_fetch_51 : decode cX9_fetch 51 = .ok (.iload_n 3, 1) := by decide +kernel
theorem dX9_fetch_52 : decode cX9_fetch 52 = .ok (.iadd, 1) := by decide +kernel
theorem dX9_fetch_53 : decode cX9_fetch 53 = .ok (.aload_n 0, 1) := by decide +kernel
theorem dX9_fetch_54 : decode cX9_fetch 54 = .ok (.getfield 20, 3) := by decide +kernel
theorem dX9_fetch_57 : decode cX9_fetch 57 = .ok (.sipush 160, 3) := by decide +kernel
theorem dX9_fetch_60 : decode cX9_fetch 60 = .ok (.iload_n 1, 1) := by decide +kernel
theorem dX9_fetch_61 : decode cX9_fetch 61 = .ok (.imul, 1) := by decide +kernel
theorem dX9_fetch_62 : decode cX9_fetch 62 = .ok (.iconst 4, 1) := by decide +kernel
theorem dX9_fetch_63 : decode cX9_fetch 63 = .ok (.iload_n 2, 1) := by decide +kernel
theorem dX9_fetch_64 : decode cX9_fetch 64 = .ok (.imul, 1) := by decide +kernel
theorem dX9_fetch_65 : decode cX9_fetch 65 = .ok (.iadd, 1) := by decide +kernel
theorem dX9_fetch_66 : decode cX9_fetch 66 = .ok (.iload_n 3, 1) := by decide +kernel
theorem dX9_fetch_67 : decode cX9_fetch 67 = .ok (.iadd, 1) := by decide +kernel
theorem dX9_fetch_68 : decode cX9_fetch 68 = .ok (.iaload, 1) := by decide +kernel
theorem dX9_fetch_69 : decode cX9_fetch 69 = .ok (.iastore, 1) := by decide +kernel
theorem dX9_fetch_70 : decode cX9_fetch 70 = .ok (.iinc 3 1, 3) := by decide +kernel
theorem dX9_fetch_73 : decode cX9_fetch 73 = .ok (.goto (-34), 3) := by decide +kernel
theorem dX9_fetch_76 : decode cX9_fetch 76 = .ok (.iinc 2 1, 3) := by decide +kernel
theorem dX9_fetch_79 : decode cX9_fetch 79 = .ok (.goto (-67), 3) := by decide +kernel
theorem dX9_fetch_82 : decode cX9_fetch 82 = .ok (.return_, 1) := by decide +kernel
theorem dX9_copy_0 : decode cX9_copy 0 = .ok (.aload_n 0, 1) := by decide +kernel
theorem dX9_copy_1 : decode cX9_copy 1 = .ok (.iload_n 1, 1) := by decide +kernel
theorem dX9_copy_2 : decode cX9_copy 2 = .ok (.invokevirtual 100, 3) := by decide +kernel
theorem dX9_copy_5 : decode cX9_copy 5 = .ok (.aload_n 0, 1) := by decide +kernel
theorem dX9_copy_6 : decode cX9_copy 6 = .ok (.iload_n 2, 1) := by decide +kernel
theorem dX9_copy_7 : decode cX9_copy 7 = .ok (.iconst 1, 1) := by decide +kernel
theorem dX9_copy_8 : decode cX9_copy 8 = .ok (.invokevirtual 103, 3) := by decide +kernel
theorem dX9_copy_11 : decode cX9_copy 11 = .ok (.return_, 1) := by decide +kernel
theorem dX9_placeOf_0 : decode cX9_placeOf 0 = .ok (.iload_n 1, 1) := by decide +kernel
theorem dX9_placeOf_1 : decode cX9_placeOf 1 = .ok (.iconst (-1), 1) := by decide +kernel
theorem dX9_placeOf_2 : decode cX9_placeOf 2 = .ok (.if_icmp .ne 5, 3) := by decide +kernel
theorem dX9_placeOf_5 : decode cX9_placeOf 5 = .ok (.iconst 0, 1) := by decide +kernel
theorem dX9_placeOf_6 : decode cX9_placeOf 6 = .ok (.ireturn, 1) := by decide +kernel
theorem dX9_placeOf_7 : decode cX9_placeOf 7 = .ok (.iload_n 1, 1) := by decide +kernel
theorem dX9_placeOf_8 : decode cX9_placeOf 8 = .ok (.ifCond .lt 30, 3) := by decide +kernel
theorem dX9_placeOf_11 : decode cX9_placeOf 11 = .ok (.iload_n 1, 1) := by decide +kernel
theorem dX9_placeOf_12 : decode cX9_placeOf 12 = .ok (.bipush 24, 2) := by decide +kernel
theorem dX9_placeOf_14 : decode cX9_placeOf 14 = .ok (.if_icmp .ge 21, 3) := by decide +kernel
theorem dX9_placeOf_17 : decode cX9_placeOf 17 = .ok (.aload_n 0, 1) := by decide +kernel
theorem dX9_placeOf_18 : decode cX9_placeOf 18 = .ok (.getfield 13, 3) := by decide +kernel
theorem dX9_placeOf_21 : decode cX9_placeOf 21 = .ok (.iconst 1, 1) := by decide +kernel
theorem dX9_placeOf_22 : decode cX9_placeOf 22 = .ok (.iload_n 1, 1) := by decide +kernel
theorem dX9_placeOf_23 : decode cX9_placeOf 23 = .ok (.iadd, 1) := by decide +kernel
theorem dX9_placeOf_24 : decode cX9_placeOf 24 = .ok (.iaload, 1) := by decide +kernel
theorem dX9_placeOf_25 : decode cX9_placeOf 25 = .ok (.iconst (-1), 1) := by decide +kernel
theorem dX9_placeOf_26 : decode cX9_placeOf 26 = .ok (.if_icmp .eq 9, 3) := by decide +kernel
theorem dX9_placeOf_29 : decode cX9_placeOf 29 = .ok (.iconst 1, 1) := by decide +kernel
theorem dX9_placeOf_30 : decode cX9_placeOf 30 = .ok (.iload_n 1, 1) := by decide +kernel
theorem dX9_placeOf_31 : decode cX9_placeOf 31 = .ok (.iadd, 1) := by decide +kernel
theorem dX9_placeOf_32 : decode cX9_placeOf 32 = .ok (.goto 5, 3) := by decide +kernel
theorem dX9_placeOf_35 : decode cX9_placeOf 35 = .ok (.bipush (-2), 2) := by decide +kernel
theorem dX9_placeOf_37 : decode cX9_placeOf 37 = .ok (.ireturn, 1) := by decide +kernel
theorem dX9_placeOf_38 : decode cX9_placeOf 38 = .ok (.iload_n 1, 1) := by decide +kernel
theorem dX9_placeOf_39 : decode cX9_placeOf 39 = .ok (.iconst (-1), 1) := by decide +kernel
theorem dX9_placeOf_40 : decode cX9_placeOf 40 = .ok (.aload_n 0, 1) := by decide +kernel
theorem dX9_placeOf_41 : decode cX9_placeOf 41 = .ok (.getfield 107, 3) := by decide +kernel
theorem dX9_placeOf_44 : decode cX9_placeOf 44 = .ok (.isub, 1) := by decide +kernel
theorem dX9_placeOf_45 : decode cX9_placeOf 45 = .ok (.if_icmp .lt 10, 3) := by decide +kernel
theorem dX9_placeOf_48 : decode cX9_placeOf 48 = .ok (.bipush 23, 2) := by decide +kernel
theorem dX9_placeOf_50 : decode cX9_placeOf 50 = .ok (.iload_n 1, 1) := by decide +kernel
theorem dX9_placeOf_51 : decode cX9_placeOf 51 = .ok (.isub, 1) := by decide +kernel
theorem dX9_placeOf_52 : decode cX9_placeOf 52 = .ok (.goto 5, 3) := by decide +kernel
theorem dX9_placeOf_55 : decode cX9_placeOf 55 = .ok (.bipush (-2), 2) := by decide +kernel
theorem dX9_placeOf_57 : decode cX9_placeOf 57 = .ok (.ireturn, 1) := by decide +kernel
theorem dX9_free_0 : decode cX9_free 0 = .ok (.iconst 1, 1) := by decide +kernel
theorem dX9_free_1 : decode cX9_free 1 = .ok (.istore_n 1, 1) := by decide +kernel
theorem dX9_free_2 : decode cX9_free 2 = .ok (.iload_n 1, 1) := by decide +kernel
theorem dX9_free_3 : decode cX9_free 3 = .ok (.bipush 25, 2) := by decide +kernel
theorem dX9_free_5 : decode cX9_free 5 = .ok (.if_icmp .ge 19, 3) := by decide +kernel
theorem dX9_free_8 : decode cX9_free 8 = .ok (.aload_n 0, 1) := by decide +kernel
theorem dX9_free_9 : decode cX9_free 9 = .ok (.getfield 13, 3) := by decide +kernel
theorem dX9_free_12 : decode cX9_free 12 = .ok (.iload_n 1, 1) := by decide +kernel
theorem dX9_free_13 : decode cX9_free 13 = .ok (.iaload, 1) := by decide +kernel
theorem dX9_free_14 : decode cX9_free 14 = .ok (.iconst (-1), 1) := by decide +kernel
theorem dX9_free_15 : decode cX9_free 15 = .ok (.if_icmp .eq 9, 3) := by decide +kernel
theorem dX9_free_18 : decode cX9_free 18 = .ok (.iinc 1 1, 3) := by decide +kernel
theorem dX9_free_21 : decode cX9_free 21 = .ok (.goto (-19), 3) := by decide +kernel
theorem dX9_free_24 : decode cX9_free 24 = .ok (.iload_n 1, 1) := by decide +kernel
theorem dX9_free_25 : decode cX9_free 25 = .ok (.ireturn, 1) := by decide +kernel
theorem dX9_shelve_0 : decode cX9_shelve 0 = .ok (.aload_n 0, 1) := by decide +kernel
theorem dX9_shelve_1 : decode cX9_shelve 1 = .ok (.invokevirtual 110, 3) := by decide +kernel
theorem dX9_shelve_4 : decode cX9_shelve 4 = .ok (.aload_n 0, 1) := by decide +kernel
theorem dX9_shelve_5 : decode cX9_shelve 5 = .ok (.getfield 90, 3) := by decide +kernel
theorem dX9_shelve_8 : decode cX9_shelve 8 = .ok (.bipush 40, 2) := by decide +kernel
theorem dX9_shelve_10 : decode cX9_shelve 10 = .ok (.if_icmp .le 6, 3) := by decide +kernel
theorem dX9_shelve_13 : decode cX9_shelve 13 = .ok (.bipush (-6), 2) := by decide +kernel
theorem dX9_shelve_15 : decode cX9_shelve 15 = .ok (.ireturn, 1) := by decide +kernel
theorem dX9_shelve_16 : decode cX9_shelve 16 = .ok (.aload_n 0, 1) := by decide +kernel
theorem dX9_shelve_17 : decode cX9_shelve 17 = .ok (.iload_n 1, 1) := by decide +kernel
theorem dX9_shelve_18 : decode cX9_shelve 18 = .ok (.iconst 1, 1) := by decide +kernel
theorem dX9_shelve_19 : decode cX9_shelve 19 = .ok (.invokevirtual 103, 3) := by decide +kernel
theorem dX9_shelve_22 : decode cX9_shelve 22 = .ok (.iload_n 1, 1) := by decide +kernel
theorem dX9_shelve_23 : decode cX9_shelve 23 = .ok (.iconst 1, 1) := by decide +kernel
theorem dX9_shelve_24 : decode cX9_shelve 24 = .ok (.isub, 1) := by decide +kernel
theorem dX9_shelve_25 : decode cX9_shelve 25 = .ok (.ireturn, 1) := by decide +kernel
theorem dX9_order_0 : decode cX9_order 0 = .ok (.iload_n 1, 1) := by decide +kernel
theorem dX9_order_1 : decode cX9_order 1 = .ok (.iconst 0, 1) := by decide +kernel
theorem dX9_order_2 : decode cX9_order 2 = .ok (.iconst 3, 1) := by decide +kernel
theorem dX9_order_3 : decode cX9_order 3 = .ok (.invokestatic 78, 3) := by decide +kernel
theorem dX9_order_6 : decode cX9_order 6 = .ok (.ifCond .ne 6, 3) := by decide +kernel
theorem dX9_order_9 : decode cX9_order 9 = .ok (.bipush (-2), 2) := by decide +kernel
theorem dX9_order_11 : decode cX9_order 11 = .ok (.ireturn, 1) := by decide +kernel
theorem dX9_order_12 : decode cX9_order 12 = .ok (.aload_n 0, 1) := by decide +kernel
theorem dX9_order_13 : decode cX9_order 13 = .ok (.getfield 107, 3) := by decide +kernel
theorem dX9_order_16 : decode cX9_order 16 = .ok (.ifCond .le 6, 3) := by decide +kernel
theorem dX9_order_19 : decode cX9_order 19 = .ok (.bipush (-3), 2) := by decide +kernel
theorem dX9_order_21 : decode cX9_order 21 = .ok (.ireturn, 1) := by decide +kernel
theorem dX9_order_22 : decode cX9_order 22 = .ok (.aload_n 0, 1) := by decide +kernel
theorem dX9_order_23 : decode cX9_order 23 = .ok (.getfield 7, 3) := by decide +kernel
theorem dX9_order_26 : decode cX9_order 26 = .ok (.istore_n 2, 1) := by decide +kernel
theorem dX9_order_27 : decode cX9_order 27 = .ok (.aload_n 0, 1) := by decide +kernel
theorem dX9_order_28 : decode cX9_order 28 = .ok (.iload_n 1, 1) := by decide +kernel
theorem dX9_order_29 : decode cX9_order 29 = .ok (.putfield 7, 3) := by decide +kernel
theorem dX9_order_32 : decode cX9_order 32 = .ok (.aload_n 0, 1) := by decide +kernel
theorem dX9_order_33 : decode cX9_order 33 = .ok (.invokevirtual 113, 3) := by decide +kernel
theorem dX9_order_36 : decode cX9_order 36 = .ok (.iconst 0, 1) := by decide +kernel
theorem dX9_order_37 : decode cX9_order 37 = .ok (.istore_n 3, 1) := by decide +kernel
theorem dX9_order_38 : decode cX9_order 38 = .ok (.iload_n 3, 1) := by decide +kernel
theorem dX9_order_39 : decode cX9_order 39 = .ok (.bipush 25, 2) := by decide +kernel
theorem dX9_order_41 : decode cX9_order 41 = .ok (.if_icmp .ge 37, 3) := by decide +kernel
theorem dX9_order_44 : decode cX9_order 44 = .ok (.aload_n 0, 1) := by decide +kernel
theorem dX9_order_45 : decode cX9_order 45 = .ok (.getfield 13, 3) := by decide +kernel
theorem dX9_order_48 : decode cX9_order 48 = .ok (.iload_n 3, 1) := by decide +kernel
theorem dX9_order_49 : decode cX9_order 49 = .ok (.iaload, 1) := by decide +kernel
theorem dX9_order_50 : decode cX9_order 50 = .ok (.ifCond .le 22, 3) := by decide +kernel
theorem dX9_order_53 : decode cX9_order 53 = .ok (.aload_n 0, 1) := by decide +kernel
theorem dX9_order_54 : decode cX9_order 54 = .ok (.iconst 0, 1) := by decide +kernel
theorem dX9_order_55 : decode cX9_order 55 = .ok (.putfield 90, 3) := by decide +kernel
theorem dX9_order_58 : decode cX9_order 58 = .ok (.aload_n 0, 1) := by decide +kernel
theorem dX9_order_59 : decode cX9_order 59 = .ok (.iload_n 3, 1) := by decide +kernel
theorem dX9_order_60 : decode cX9_order 60 = .ok (.iconst 1, 1) := by decide +kernel
theorem dX9_order_61 : decode cX9_order 61 = .ok (.invokevirtual 116, 3) := by decide +kernel
theorem dX9_order_64 : decode cX9_order 64 = .ok (.istore 4, 2) := by decide +kernel
theorem dX9_order_66 : decode cX9_order 66 = .ok (.aload_n 0, 1) := by decide +kernel
theorem dX9_order_67 : decode cX9_order 67 = .ok (.iload_n 3, 1) := by decide +kernel
theorem dX9_order_68 : decode cX9_order 68 = .ok (.iconst 1, 1) := by decide +kernel
theorem dX9_order_69 : decode cX9_order 69 = .ok (.invokevirtual 103, 3) := by decide +kernel
theorem dX9_order_72 : decode cX9_order 72 = .ok (.iinc 3 1, 3) := by decide +kernel
theorem dX9_order_75 : decode cX9_order 75 = .ok (.goto (-37), 3) := by decide +kernel
theorem dX9_order_78 : decode cX9_order 78 = .ok (.iload_n 2, 1) := by decide +kernel
theorem dX9_order_79 : decode cX9_order 79 = .ok (.ireturn, 1) := by decide +kernel
theorem dX9_term_0 : decode cX9_term 0 = .ok (.iload_n 2, 1) := by decide +kernel
theorem dX9_term_1 : decode cX9_term 1 = .ok (.iconst 0, 1) := by decide +kernel
theorem dX9_term_2 : decode cX9_term 2 = .ok (.bipush 30, 2) := by decide +kernel
theorem dX9_term_4 : decode cX9_term 4 = .ok (.invokestatic 78, 3) := by decide +kernel
theorem dX9_term_7 : decode cX9_term 7 = .ok (.ifCond .eq 75, 3) := by decide +kernel
theorem dX9_term_10 : decode cX9_term 10 = .ok (.iload_n 3, 1) := by decide +kernel
theorem dX9_term_11 : decode cX9_term 11 = .ok (.iconst 0, 1) := by decide +kernel
theorem dX9_term_12 : decode cX9_term 12 = .ok (.aload_n 0, 1) := by decide +kernel
theorem dX9_term_13 : decode cX9_term 13 = .ok (.getfield 75, 3) := by decide +kernel
theorem dX9_term_16 : decode cX9_term 16 = .ok (.iconst 2, 1) := by decide +kernel
theorem dX9_term_17 : decode cX9_term 17 = .ok (.if_icmp .ge 7, 3) := by decide +kernel
theorem dX9_term_20 : decode cX9_term 20 = .ok (.iconst 0, 1) := by decide +kernel
theorem dX9_term_21 : decode cX9_term 21 = .ok (.goto 5, 3) := by decide +kernel
theorem dX9_term_24 : decode cX9_term 24 = .ok (.bipush 30, 2) := by decide +kernel
theorem dX9_term_26 : decode cX9_term 26 = .ok (.invokestatic 78, 3) := by decide +kernel
theorem dX9_term_29 : decode cX9_term 29 = .ok (.ifCond .eq 53, 3) := by decide +kernel
theorem dX9_term_32 : decode cX9_term 32 = .ok (.iload 4, 2) := by decide +kernel
theorem dX9_term_34 : decode cX9_term 34 = .ok (.iconst 0, 1) := by decide +kernel
theorem dX9_term_35 : decode cX9_term 35 = .ok (.aload_n 0, 1) := by decide +kernel
theorem dX9_term_36 : decode cX9_term 36 = .ok (.getfield 75, 3) := by decide +kernel
theorem dX9_term_39 : decode cX9_term 39 = .ok (.iconst 3, 1) := by decide +kernel
theorem dX9_term_40 : decode cX9_term 40 = .ok (.if_icmp .ge 7, 3) := by decide +kernel
theorem dX9_term_43 : decode cX9_term 43 = .ok (.iconst 0, 1) := by decide +kernel
theorem dX9_term_44 : decode cX9_term 44 = .ok (.goto 5, 3) := by decide +kernel
theorem dX9_term_47 : decode cX9_term 47 = .ok (.bipush 30, 2) := by decide +kernel
theorem dX9_term_49 : decode cX9_term 49 = .ok (.invokestatic 78, 3) := by decide +kernel
theorem dX9_term_52 : decode cX9_term 52 = .ok (.ifCond .eq 30, 3) := by decide +kernel
theorem dX9_term_55 : decode cX9_term 55 = .ok (.iload 5, 2) := by decide +kernel
theorem dX9_term_57 : decode cX9_term 57 = .ok (.iconst 0, 1) := by decide +kernel
theorem dX9_term_58 : decode cX9_term 58 = .ok (.aload_n 0, 1) := by decide +kernel
theorem dX9_term_59 : decode cX9_term 59 = .ok (.getfield 75, 3) := by decide +kernel
theorem dX9_term_62 : decode cX9_term 62 = .ok (.iconst 4, 1) := by decide +kernel
theorem dX9_term_63 : decode cX9_term 63 = .ok (.if_icmp .ge 7, 3) := by decide +kernel
theorem dX9_term_66 : decode cX9_term 66 = .ok (.iconst 0, 1) := by decide +kernel
theorem dX9_term_67 : decode cX9_term 67 = .ok (.goto 5, 3) := by decide +kernel
theorem dX9_term_70 : decode cX9_term 70 = .ok (.bipush 30, 2) := by decide +kernel
theorem dX9_term_72 : decode cX9_term 72 = .ok (.invokestatic 78, 3) := by decide +kernel
theorem dX9_term_75 : decode cX9_term 75 = .ok (.ifCond .eq 7, 3) := by decide +kernel
theorem dX9_term_78 : decode cX9_term 78 = .ok (.iconst 1, 1) := by decide +kernel
theorem dX9_term_79 : decode cX9_term 79 = .ok (.goto 4, 3) := by decide +kernel
theorem dX9_term_82 : decode cX9_term 82 = .ok (.iconst 0, 1) := by decide +kernel
theorem dX9_term_83 : decode cX9_term 83 = .ok (.istore 6, 2) := by decide +kernel
theorem dX9_term_85 : decode cX9_term 85 = .ok (.iload 6, 2) := by decide +kernel
theorem dX9_term_87 : decode cX9_term 87 = .ok (.ifCond .ne 6, 3) := by decide +kernel
theorem dX9_term_90 : decode cX9_term 90 = .ok (.bipush (-2), 2) := by decide +kernel
theorem dX9_term_92 : decode cX9_term 92 = .ok (.ireturn, 1) := by decide +kernel
theorem dX9_term_93 : decode cX9_term 93 = .ok (.aload_n 0, 1) := by decide +kernel
theorem dX9_term_94 : decode cX9_term 94 = .ok (.iconst 0, 1) := by decide +kernel
theorem dX9_term_95 : decode cX9_term 95 = .ok (.invokevirtual 100, 3) := by decide +kernel
theorem dX9_term_98 : decode cX9_term 98 = .ok (.aload_n 0, 1) := by decide +kernel
theorem dX9_term_99 : decode cX9_term 99 = .ok (.getfield 38, 3) := by decide +kernel
theorem dX9_term_102 : decode cX9_term 102 = .ok (.iconst 0, 1) := by decide +kernel
theorem dX9_term_103 : decode cX9_term 103 = .ok (.iload_n 2, 1) := by decide +kernel
theorem dX9_term_104 : decode cX9_term 104 = .ok (.iastore, 1) := by decide +kernel
theorem dX9_term_105 : decode cX9_term 105 = .ok (.aload_n 0, 1) := by decide +kernel
theorem dX9_term_106 : decode cX9_term 106 = .ok (.getfield 38, 3) := by decide +kernel
theorem dX9_term_109 : decode cX9_term 109 = .ok (.iconst 1, 1) := by decide +kernel
theorem dX9_term_110 : decode cX9_term 110 = .ok (.iload_n 3, 1) := by decide +kernel
theorem dX9_term_111 : decode cX9_term 111 = .ok (.iastore, 1) := by decide +kernel
theorem dX9_term_112 : decode cX9_term 112 = .ok (.aload_n 0, 1) := by decide +kernel
theorem dX9_term_113 : decode cX9_term 113 = .ok (.getfield 38, 3) := by decide +kernel
theorem dX9_term_116 : decode cX9_term 116 = .ok (.iconst 2, 1) := by decide +kernel
theorem dX9_term_117 : decode cX9_term 117 = .ok (.iload 4, 2) := by decide +kernel
theorem dX9_term_119 : decode cX9_term 119 = .ok (.iastore, 1) := by decide +kernel
theorem dX9_term_120 : decode cX9_term 120 = .ok (.aload_n 0, 1) := by decide +kernel
theorem dX9_term_121 : decode cX9_term 121 = .ok (.getfield 38, 3) := by decide +kernel
theorem dX9_term_124 : decode cX9_term 124 = .ok (.iconst 3, 1) := by decide +kernel
theorem dX9_term_125 : decode cX9_term 125 = .ok (.iload 5, 2) := by decide +kernel
theorem dX9_term_127 : decode cX9_term 127 = .ok (.iastore, 1) := by decide +kernel
theorem dX9_term_128 : decode cX9_term 128 = .ok (.aload_n 0, 1) := by decide +kernel
theorem dX9_term_129 : decode cX9_term 129 = .ok (.aload_n 0, 1) := by decide +kernel
theorem dX9_term_130 : decode cX9_term 130 = .ok (.iload_n 1, 1) := by decide +kernel
theorem dX9_term_131 : decode cX9_term 131 = .ok (.i2l, 1) := by decide +kernel
theorem dX9_term_132 : decode cX9_term 132 = .ok (.invokevirtual 120, 3) := by decide +kernel
theorem dX9_term_135 : decode cX9_term 135 = .ok (.invokevirtual 96, 3) := by decide +kernel
theorem dX9_term_138 : decode cX9_term 138 = .ok (.aload_n 0, 1) := by decide +kernel
theorem dX9_term_139 : decode cX9_term 139 = .ok (.invokevirtual 110, 3) := by decide +kernel
theorem dX9_term_142 : decode cX9_term 142 = .ok (.aload_n 0, 1) := by decide +kernel
theorem dX9_term_143 : decode cX9_term 143 = .ok (.getfield 90, 3) := by decide +kernel
theorem dX9_term_146 : decode cX9_term 146 = .ok (.bipush 40, 2) := by decide +kernel
theorem dX9_term_148 : decode cX9_term 148 = .ok (.if_icmp .le 6, 3) := by decide +kernel
theorem dX9_term_151 : decode cX9_term 151 = .ok (.bipush (-6), 2) := by decide +kernel
theorem dX9_term_153 : decode cX9_term 153 = .ok (.ireturn, 1) := by decide +kernel
theorem dX9_term_154 : decode cX9_term 154 = .ok (.aload_n 0, 1) := by decide +kernel
theorem dX9_term_155 : decode cX9_term 155 = .ok (.iconst 0, 1) := by decide +kernel
theorem dX9_term_156 : decode cX9_term 156 = .ok (.iconst 1, 1) := by decide +kernel
theorem dX9_term_157 : decode cX9_term 157 = .ok (.invokevirtual 103, 3) := by decide +kernel
theorem dX9_term_160 : decode cX9_term 160 = .ok (.aload_n 0, 1) := by decide +kernel
theorem dX9_term_161 : decode cX9_term 161 = .ok (.getfield 90, 3) := by decide +kernel
theorem dX9_term_164 : decode cX9_term 164 = .ok (.ireturn, 1) := by decide +kernel
theorem dX9_keep_0 : decode cX9_keep 0 = .ok (.aload_n 0, 1) := by decide +kernel
theorem dX9_keep_1 : decode cX9_keep 1 = .ok (.invokevirtual 124, 3) := by decide +kernel
theorem dX9_keep_4 : decode cX9_keep 4 = .ok (.istore_n 1, 1) := by decide +kernel
theorem dX9_keep_5 : decode cX9_keep 5 = .ok (.iload_n 1, 1) := by decide +kernel
theorem dX9_keep_6 : decode cX9_keep 6 = .ok (.bipush 25, 2) := by decide +kernel
theorem dX9_keep_8 : decode cX9_keep 8 = .ok (.if_icmp .ne 6, 3) := by decide +kernel
theorem dX9_keep_11 : decode cX9_keep 11 = .ok (.bipush (-4), 2) := by decide +kernel
theorem dX9_keep_13 : decode cX9_keep 13 = .ok (.ireturn, 1) := by decide +kernel
theorem dX9_keep_14 : decode cX9_keep 14 = .ok (.aload_n 0, 1) := by decide +kernel
theorem dX9_keep_15 : decode cX9_keep 15 = .ok (.iconst 0, 1) := by decide +kernel
theorem dX9_keep_16 : decode cX9_keep 16 = .ok (.iload_n 1, 1) := by decide +kernel
theorem dX9_keep_17 : decode cX9_keep 17 = .ok (.invokevirtual 128, 3) := by decide +kernel
theorem dX9_keep_20 : decode cX9_keep 20 = .ok (.aload_n 0, 1) := by decide +kernel
theorem dX9_keep_21 : decode cX9_keep 21 = .ok (.getfield 13, 3) := by decide +kernel
theorem dX9_keep_24 : decode cX9_keep 24 = .ok (.iconst 0, 1) := by decide +kernel
theorem dX9_keep_25 : decode cX9_keep 25 = .ok (.iconst 0, 1) := by decide +kernel
theorem dX9_keep_26 : decode cX9_keep 26 = .ok (.iastore, 1) := by decide +kernel
theorem dX9_keep_27 : decode cX9_keep 27 = .ok (.iload_n 1, 1) := by decide +kernel
theorem dX9_keep_28 : decode cX9_keep 28 = .ok (.iconst 1, 1) := by decide +kernel
theorem dX9_keep_29 : decode cX9_keep 29 = .ok (.isub, 1) := by decide +kernel
theorem dX9_keep_30 : decode cX9_keep 30 = .ok (.ireturn, 1) := by decide +kernel
theorem dX9_drop_0 : decode cX9_drop 0 = .ok (.iload_n 1, 1) := by decide +kernel
theorem dX9_drop_1 : decode cX9_drop 1 = .ok (.iconst 0, 1) := by decide +kernel
theorem dX9_drop_2 : decode cX9_drop 2 = .ok (.bipush 23, 2) := by decide +kernel
theorem dX9_drop_4 : decode cX9_drop 4 = .ok (.invokestatic 78, 3) := by decide +kernel
theorem dX9_drop_7 : decode cX9_drop 7 = .ok (.ifCond .eq 15, 3) := by decide +kernel
theorem dX9_drop_10 : decode cX9_drop 10 = .ok (.aload_n 0, 1) := by decide +kernel
theorem dX9_drop_11 : decode cX9_drop 11 = .ok (.getfield 13, 3) := by decide +kernel
theorem dX9_drop_14 : decode cX9_drop 14 = .ok (.iconst 1, 1) := by decide +kernel
theorem dX9_drop_15 : decode cX9_drop 15 = .ok (.iload_n 1, 1) := by decide +kernel
theorem dX9_drop_16 : decode cX9_drop 16 = .ok (.iadd, 1) := by decide +kernel
theorem dX9_drop_17 : decode cX9_drop 17 = .ok (.iaload, 1) := by decide +kernel
theorem dX9_drop_18 : decode cX9_drop 18 = .ok (.iconst (-1), 1) := by decide +kernel
theorem dX9_drop_19 : decode cX9_drop 19 = .ok (.if_icmp .ne 6, 3) := by decide +kernel
theorem dX9_drop_22 : decode cX9_drop 22 = .ok (.bipush (-2), 2) := by decide +kernel
theorem dX9_drop_24 : decode cX9_drop 24 = .ok (.ireturn, 1) := by decide +kernel
theorem dX9_drop_25 : decode cX9_drop 25 = .ok (.aload_n 0, 1) := by decide +kernel
theorem dX9_drop_26 : decode cX9_drop 26 = .ok (.getfield 13, 3) := by decide +kernel
theorem dX9_drop_29 : decode cX9_drop 29 = .ok (.iconst 1, 1) := by decide +kernel
theorem dX9_drop_30 : decode cX9_drop 30 = .ok (.iload_n 1, 1) := by decide +kernel
theorem dX9_drop_31 : decode cX9_drop 31 = .ok (.iadd, 1) := by decide +kernel
theorem dX9_drop_32 : decode cX9_drop 32 = .ok (.iaload, 1) := by decide +kernel
theorem dX9_drop_33 : decode cX9_drop 33 = .ok (.istore_n 2, 1) := by decide +kernel
theorem dX9_drop_34 : decode cX9_drop 34 = .ok (.aload_n 0, 1) := by decide +kernel
theorem dX9_drop_35 : decode cX9_drop 35 = .ok (.getfield 13, 3) := by decide +kernel
theorem dX9_drop_38 : decode cX9_drop 38 = .ok (.iconst 1, 1) := by decide +kernel
theorem dX9_drop_39 : decode cX9_drop 39 = .ok (.iload_n 1, 1) := by decide +kernel
theorem dX9_drop_40 : decode cX9_drop 40 = .ok (.iadd, 1) := by decide +kernel
theorem dX9_drop_41 : decode cX9_drop 41 = .ok (.iconst (-1), 1) := by decide +kernel
theorem dX9_drop_42 : decode cX9_drop 42 = .ok (.iastore, 1) := by decide +kernel
theorem dX9_drop_43 : decode cX9_drop 43 = .ok (.iload_n 2, 1) := by decide +kernel
theorem dX9_drop_44 : decode cX9_drop 44 = .ok (.ireturn, 1) := by decide +kernel
theorem dX9_terms_0 : decode cX9_terms 0 = .ok (.aload_n 0, 1) := by decide +kernel
theorem dX9_terms_1 : decode cX9_terms 1 = .ok (.iload_n 1, 1) := by decide +kernel
theorem dX9_terms_2 : decode cX9_terms 2 = .ok (.invokevirtual 131, 3) := by decide +kernel
theorem dX9_terms_5 : decode cX9_terms 5 = .ok (.istore_n 2, 1) := by decide +kernel
theorem dX9_terms_6 : decode cX9_terms 6 = .ok (.iload_n 2, 1) := by decide +kernel
theorem dX9_terms_7 : decode cX9_terms 7 = .ok (.ifCond .ge 8, 3) := by decide +kernel
theorem dX9_terms_10 : decode cX9_terms 10 = .ok (.bipush (-2), 2) := by decide +kernel
theorem dX9_terms_12 : decode cX9_terms 12 = .ok (.goto 9, 3) := by decide +kernel
theorem dX9_terms_15 : decode cX9_terms 15 = .ok (.aload_n 0, 1) := by decide +kernel
theorem dX9_terms_16 : decode cX9_terms 16 = .ok (.getfield 13, 3) := by decide +kernel
theorem dX9_terms_19 : decode cX9_terms 19 = .ok (.iload_n 2, 1) := by decide +kernel
theorem dX9_terms_20 : decode cX9_terms 20 = .ok (.iaload, 1) := by decide +kernel
theorem dX9_terms_21 : decode cX9_terms 21 = .ok (.ireturn, 1) := by decide +kernel
theorem dX9_number_0 : decode cX9_number 0 = .ok (.aload_n 0, 1) := by decide +kernel
theorem dX9_number_1 : decode cX9_number 1 = .ok (.iload_n 1, 1) := by decide +kernel
theorem dX9_number_2 : decode cX9_number 2 = .ok (.invokevirtual 131, 3) := by decide +kernel
theorem dX9_number_5 : decode cX9_number 5 = .ok (.istore_n 3, 1) := by decide +kernel
theorem dX9_number_6 : decode cX9_number 6 = .ok (.iload_n 3, 1) := by decide +kernel
theorem dX9_number_7 : decode cX9_number 7 = .ok (.ifCond .lt 19, 3) := by decide +kernel
theorem dX9_number_10 : decode cX9_number 10 = .ok (.iload_n 2, 1) := by decide +kernel
theorem dX9_number_11 : decode cX9_number 11 = .ok (.iconst 0, 1) := by decide +kernel
theorem dX9_number_12 : decode cX9_number 12 = .ok (.aload_n 0, 1) := by decide +kernel
theorem dX9_number_13 : decode cX9_number 13 = .ok (.getfield 13, 3) := by decide +kernel
theorem dX9_number_16 : decode cX9_number 16 = .ok (.iload_n 3, 1) := by decide +kernel
theorem dX9_number_17 : decode cX9_number 17 = .ok (.iaload, 1) := by decide +kernel
theorem dX9_number_18 : decode cX9_number 18 = .ok (.iconst 1, 1) := by decide +kernel
theorem dX9_number_19 : decode cX9_number 19 = .ok (.isub, 1) := by decide +kernel
theorem dX9_number_20 : decode cX9_number 20 = .ok (.invokestatic 78, 3) := by decide +kernel
theorem dX9_number_23 : decode cX9_number 23 = .ok (.ifCond .ne 8, 3) := by decide +kernel
theorem dX9_number_26 : decode cX9_number 26 = .ok (.bipush (-2), 2) := by decide +kernel
theorem dX9_number_28 : decode cX9_number 28 = .ok (.goto 14, 3) := by decide +kernel
theorem dX9_number_31 : decode cX9_number 31 = .ok (.aload_n 0, 1) := by decide +kernel
theorem dX9_number_32 : decode cX9_number 32 = .ok (.getfield 17, 3) := by decide +kernel
theorem dX9_number_35 : decode cX9_number 35 = .ok (.bipush 40, 2) := by decide +kernel
theorem dX9_number_37 : decode cX9_number 37 = .ok (.iload_n 3, 1) := by decide +kernel
theorem dX9_number_38 : decode cX9_number 38 = .ok (.imul, 1) := by decide +kernel
theorem dX9_number_39 : decode cX9_number 39 = .ok (.iload_n 2, 1) := by decide +kernel
theorem dX9_number_40 : decode cX9_number 40 = .ok (.iadd, 1) := by decide +kernel
theorem dX9_number_41 : decode cX9_number 41 = .ok (.iaload, 1) := by decide +kernel
theorem dX9_number_42 : decode cX9_number 42 = .ok (.ireturn, 1) := by decide +kernel
theorem dX9_exponent_0 : decode cX9_exponent 0 = .ok (.aload_n 0, 1) := by decide +kernel
theorem dX9_exponent_1 : decode cX9_exponent 1 = .ok (.iload_n 1, 1) := by decide +kernel
theorem dX9_exponent_2 : decode cX9_exponent 2 = .ok (.invokevirtual 131, 3) := by decide +kernel
theorem dX9_exponent_5 : decode cX9_exponent 5 = .ok (.istore 4, 2) := by decide +kernel
theorem dX9_exponent_7 : decode cX9_exponent 7 = .ok (.iload 4, 2) := by decide +kernel
theorem dX9_exponent_9 : decode cX9_exponent 9 = .ok (.ifCond .lt 34, 3) := by decide +kernel
theorem dX9_exponent_12 : decode cX9_exponent 12 = .ok (.iload_n 2, 1) := by decide +kernel
theorem dX9_exponent_13 : decode cX9_exponent 13 = .ok (.iconst 0, 1) := by decide +kernel
theorem dX9_exponent_14 : decode cX9_exponent 14 = .ok (.aload_n 0, 1) := by decide +kernel
theorem dX9_exponent_15 : decode cX9_exponent 15 = .ok (.getfield 13, 3) := by decide +kernel
theorem dX9_exponent_18 : decode cX9_exponent 18 = .ok (.iload 4, 2) := by decide +kernel
theorem dX9_exponent_20 : decode cX9_exponent 20 = .ok (.iaload, 1) := by decide +kernel
theorem dX9_exponent_21 : decode cX9_exponent 21 = .ok (.iconst 1, 1) := by decide +kernel
theorem dX9_exponent_22 : decode cX9_exponent 22 = .ok (.isub, 1) := by decide +kernel
theorem dX9_exponent_23 : decode cX9_exponent 23 = .ok (.invokestatic 78, 3) := by decide +kernel
theorem dX9_exponent_26 : decode cX9_exponent 26 = .ok (.ifCond .eq 17, 3) := by decide +kernel
theorem dX9_exponent_29 : decode cX9_exponent 29 = .ok (.iload_n 3, 1) := by decide +kernel
theorem dX9_exponent_30 : decode cX9_exponent 30 = .ok (.iconst 0, 1) := by decide +kernel
theorem dX9_exponent_31 : decode cX9_exponent 31 = .ok (.aload_n 0, 1) := by decide +kernel
theorem dX9_exponent_32 : decode cX9_exponent 32 = .ok (.getfield 75, 3) := by decide +kernel
theorem dX9_exponent_35 : decode cX9_exponent 35 = .ok (.iconst 1, 1) := by decide +kernel
theorem dX9_exponent_36 : decode cX9_exponent 36 = .ok (.isub, 1) := by decide +kernel
theorem dX9_exponent_37 : decode cX9_exponent 37 = .ok (.invokestatic 78, 3) := by decide +kernel
theorem dX9_exponent_40 : decode cX9_exponent 40 = .ok (.ifCond .ne 8, 3) := by decide +kernel
theorem dX9_exponent_43 : decode cX9_exponent 43 = .ok (.bipush (-2), 2) := by decide +kernel
theorem dX9_exponent_45 : decode cX9_exponent 45 = .ok (.goto 20, 3) := by decide +kernel
theorem dX9_exponent_48 : decode cX9_exponent 48 = .ok (.aload_n 0, 1) := by decide +kernel
theorem dX9_exponent_49 : decode cX9_exponent 49 = .ok (.getfield 20, 3) := by decide +kernel
theorem dX9_exponent_52 : decode cX9_exponent 52 = .ok (.sipush 160, 3) := by decide +kernel
theorem dX9_exponent_55 : decode cX9_exponent 55 = .ok (.iload 4, 2) := by decide +kernel
theorem dX9_exponent_57 : decode cX9_exponent 57 = .ok (.imul, 1) := by decide +kernel
theorem dX9_exponent_58 : decode cX9_exponent 58 = .ok (.iconst 4, 1) := by decide +kernel
theorem dX9_exponent_59 : decode cX9_exponent 59 = .ok (.iload_n 2, 1) := by decide +kernel
theorem dX9_exponent_60 : decode cX9_exponent 60 = .ok (.imul, 1) := by decide +kernel
theorem dX9_exponent_61 : decode cX9_exponent 61 = .ok (.iadd, 1) := by decide +kernel
theorem dX9_exponent_62 : decode cX9_exponent 62 = .ok (.iload_n 3, 1) := by decide +kernel
theorem dX9_exponent_63 : decode cX9_exponent 63 = .ok (.iadd, 1) := by decide +kernel
theorem dX9_exponent_64 : decode cX9_exponent 64 = .ok (.iaload, 1) := by decide +kernel
theorem dX9_exponent_65 : decode cX9_exponent 65 = .ok (.ireturn, 1) := by decide +kernel
theorem dX9_sum_0 : decode cX9_sum 0 = .ok (.aload_n 0, 1) := by decide +kernel
theorem dX9_sum_1 : decode cX9_sum 1 = .ok (.iload_n 1, 1) := by decide +kernel
theorem dX9_sum_2 : decode cX9_sum 2 = .ok (.invokevirtual 131, 3) := by decide +kernel
theorem dX9_sum_5 : decode cX9_sum 5 = .ok (.istore 4, 2) := by decide +kernel
theorem dX9_sum_7 : decode cX9_sum 7 = .ok (.aload_n 0, 1) := by decide +kernel
theorem dX9_sum_8 : decode cX9_sum 8 = .ok (.iload_n 2, 1) := by decide +kernel
theorem dX9_sum_9 : decode cX9_sum 9 = .ok (.invokevirtual 131, 3) := by decide +kernel
theorem dX9_sum_12 : decode cX9_sum 12 = .ok (.istore 5, 2) := by decide +kernel
theorem dX9_sum_14 : decode cX9_sum 14 = .ok (.iload 4, 2) := by decide +kernel
theorem dX9_sum_16 : decode cX9_sum 16 = .ok (.ifCond .lt 8, 3) := by decide +kernel
theorem dX9_sum_19 : decode cX9_sum 19 = .ok (.iload 5, 2) := by decide +kernel
theorem dX9_sum_21 : decode cX9_sum 21 = .ok (.ifCond .ge 6, 3) := by decide +kernel
theorem dX9_sum_24 : decode cX9_sum 24 = .ok (.bipush (-2), 2) := by decide +kernel
theorem dX9_sum_26 : decode cX9_sum 26 = .ok (.ireturn, 1) := by decide +kernel
theorem dX9_sum_27 : decode cX9_sum 27 = .ok (.aload_n 0, 1) := by decide +kernel
theorem dX9_sum_28 : decode cX9_sum 28 = .ok (.invokevirtual 124, 3) := by decide +kernel
theorem dX9_sum_31 : decode cX9_sum 31 = .ok (.istore 6, 2) := by decide +kernel
theorem dX9_sum_33 : decode cX9_sum 33 = .ok (.iload 6, 2) := by decide +kernel
theorem dX9_sum_35 : decode cX9_sum 35 = .ok (.bipush 25, 2) := by decide +kernel
theorem dX9_sum_37 : decode cX9_sum 37 = .ok (.if_icmp .ne 6, 3) := by decide +kernel
theorem dX9_sum_40 : decode cX9_sum 40 = .ok (.bipush (-4), 2) := by decide +kernel
theorem dX9_sum_42 : decode cX9_sum 42 = .ok (.ireturn, 1) := by decide +kernel
theorem dX9_sum_43 : decode cX9_sum 43 = .ok (.aload_n 0, 1) := by decide +kernel
theorem dX9_sum_44 : decode cX9_sum 44 = .ok (.iload 4, 2) := by decide +kernel
theorem dX9_sum_46 : decode cX9_sum 46 = .ok (.invokevirtual 100, 3) := by decide +kernel
theorem dX9_sum_49 : decode cX9_sum 49 = .ok (.aload_n 0, 1) := by decide +kernel
theorem dX9_sum_50 : decode cX9_sum 50 = .ok (.invokevirtual 113, 3) := by decide +kernel
theorem dX9_sum_53 : decode cX9_sum 53 = .ok (.aload_n 0, 1) := by decide +kernel
theorem dX9_sum_54 : decode cX9_sum 54 = .ok (.iload 5, 2) := by decide +kernel
theorem dX9_sum_56 : decode cX9_sum 56 = .ok (.aload_n 0, 1) := by decide +kernel
theorem dX9_sum_57 : decode cX9_sum 57 = .ok (.iload_n 3, 1) := by decide +kernel
theorem dX9_sum_58 : decode cX9_sum 58 = .ok (.i2l, 1) := by decide +kernel
theorem dX9_sum_59 : decode cX9_sum 59 = .ok (.invokevirtual 120, 3) := by decide +kernel
theorem dX9_sum_62 : decode cX9_sum 62 = .ok (.invokevirtual 116, 3) := by decide +kernel
theorem dX9_sum_65 : decode cX9_sum 65 = .ok (.istore 7, 2) := by decide +kernel
theorem dX9_sum_67 : decode cX9_sum 67 = .ok (.aload_n 0, 1) := by decide +kernel
theorem dX9_sum_68 : decode cX9_sum 68 = .ok (.iload 6, 2) := by decide +kernel
theorem dX9_sum_70 : decode cX9_sum 70 = .ok (.invokevirtual 135, 3) := by decide +kernel
theorem dX9_sum_73 : decode cX9_sum 73 = .ok (.ireturn, 1) := by decide +kernel
theorem dX9_product_0 : decode cX9_product 0 = .ok (.aload_n 0, 1) := by decide +kernel
theorem dX9_product_1 : decode cX9_product 1 = .ok (.iload_n 1, 1) := by decide +kernel
theorem dX9_product_2 : decode cX9_product 2 = .ok (.invokevirtual 131, 3) := by decide +kernel
theorem dX9_product_5 : decode cX9_product 5 = .ok (.istore_n 3, 1) := by decide +kernel
theorem dX9_product_6 : decode cX9_product 6 = .ok (.aload_n 0, 1) := by decide +kernel
theorem dX9_product_7 : decode cX9_product 7 = .ok (.iload_n 2, 1) := by decide +kernel
theorem dX9_product_8 : decode cX9_product 8 = .ok (.invokevirtual 131, 3) := by decide +kernel
theorem dX9_product_11 : decode cX9_product 11 = .ok (.istore 4, 2) := by decide +kernel
theorem dX9_product_13 : decode cX9_product 13 = .ok (.iload_n 3, 1) := by decide +kernel
theorem dX9_product_14 : decode cX9_product 14 = .ok (.ifCond .lt 8, 3) := by decide +kernel
theorem dX9_product_17 : decode cX9_product 17 = .ok (.iload 4, 2) := by decide +kernel
theorem dX9_product_19 : decode cX9_product 19 = .ok (.ifCond .ge 6, 3) := by decide +kernel
theorem dX9_product_22 : decode cX9_product 22 = .ok (.bipush (-2), 2) := by decide +kernel
theorem dX9_product_24 : decode cX9_product 24 = .ok (.ireturn, 1) := by decide +kernel
theorem dX9_product_25 : decode cX9_product 25 = .ok (.aload_n 0, 1) := by decide +kernel
theorem dX9_product_26 : decode cX9_product 26 = .ok (.invokevirtual 124, 3) := by decide +kernel
theorem dX9_product_29 : decode cX9_product 29 = .ok (.istore 5, 2) := by decide +kernel
theorem dX9_product_31 : decode cX9_product 31 = .ok (.iload 5, 2) := by decide +kernel
theorem dX9_product_33 : decode cX9_product 33 = .ok (.bipush 25, 2) := by decide +kernel
theorem dX9_product_35 : decode cX9_product 35 = .ok (.if_icmp .ne 6, 3) := by decide +kernel
theorem dX9_product_38 : decode cX9_product 38 = .ok (.bipush (-4), 2) := by decide +kernel
theorem dX9_product_40 : decode cX9_product 40 = .ok (.ireturn, 1) := by decide +kernel
theorem dX9_product_41 : decode cX9_product 41 = .ok (.aload_n 0, 1) := by decide +kernel
theorem dX9_product_42 : decode cX9_product 42 = .ok (.iconst 0, 1) := by decide +kernel
theorem dX9_product_43 : decode cX9_product 43 = .ok (.putfield 90, 3) := by decide +kernel
theorem dX9_product_46 : decode cX9_product 46 = .ok (.iconst 0, 1) := by decide +kernel
theorem dX9_product_47 : decode cX9_product 47 = .ok (.istore 6, 2) := by decide +kernel
theorem dX9_product_49 : decode cX9_product 49 = .ok (.iload 6, 2) := by decide +kernel
theorem dX9_product_51 : decode cX9_product 51 = .ok (.aload_n 0, 1) := by decide +kernel
theorem dX9_product_52 : decode cX9_product 52 = .ok (.getfield 13, 3) := by decide +kernel
theorem dX9_product_55 : decode cX9_product 55 = .ok (.iload_n 3, 1) := by decide +kernel
theorem dX9_product_56 : decode cX9_product 56 = .ok (.iaload, 1) := by decide +kernel
theorem dX9_product_57 : decode cX9_product 57 = .ok (.if_icmp .ge 73, 3) := by decide +kernel
theorem dX9_product_60 : decode cX9_product 60 = .ok (.iconst 0, 1) := by decide +kernel
theorem dX9_product_61 : decode cX9_product 61 = .ok (.istore 7, 2) := by decide +kernel
theorem dX9_product_63 : decode cX9_product 63 = .ok (.iload 7, 2) := by decide +kernel
theorem dX9_product_65 : decode cX9_product 65 = .ok (.iconst 4, 1) := by decide +kernel
theorem dX9_product_66 : decode cX9_product 66 = .ok (.if_icmp .ge 34, 3) := by decide +kernel
theorem dX9_product_69 : decode cX9_product 69 = .ok (.aload_n 0, 1) := by decide +kernel
theorem dX9_product_70 : decode cX9_product 70 = .ok (.getfield 41, 3) := by decide +kernel
theorem dX9_product_73 : decode cX9_product 73 = .ok (.iload 7, 2) := by decide +kernel
theorem dX9_product_75 : decode cX9_product 75 = .ok (.aload_n 0, 1) := by decide +kernel
theorem dX9_product_76 : decode cX9_product 76 = .ok (.getfield 20, 3) := by decide +kernel
theorem dX9_product_79 : decode cX9_product 79 = .ok (.sipush 160, 3) := by decide +kernel
theorem dX9_product_82 : decode cX9_product 82 = .ok (.iload_n 3, 1) := by decide +kernel
theorem dX9_product_83 : decode cX9_product 83 = .ok (.imul, 1) := by decide +kernel
theorem dX9_product_84 : decode cX9_product 84 = .ok (.iconst 4, 1) := by decide +kernel
theorem dX9_product_85 : decode cX9_product 85 = .ok (.iload 6, 2) := by decide +kernel
theorem dX9_product_87 : decode cX9_product 87 = .ok (.imul, 1) := by decide +kernel
theorem dX9_product_88 : decode cX9_product 88 = .ok (.iadd, 1) := by decide +kernel
theorem dX9_product_89 : decode cX9_product 89 = .ok (.iload 7, 2) := by decide +kernel
theorem dX9_product_91 : decode cX9_product 91 = .ok (.iadd, 1) := by decide +kernel
theorem dX9_product_92 : decode cX9_product 92 = .ok (.iaload, 1) := by decide +kernel
theorem dX9_product_93 : decode cX9_product 93 = .ok (.iastore, 1) := by decide +kernel
theorem dX9_product_94 : decode cX9_product 94 = .ok (.iinc 7 1, 3) := by decide +kernel
theorem dX9_product_97 : decode cX9_product 97 = .ok (.goto (-34), 3) := by decide +kernel
theorem dX9_product_100 : decode cX9_product 100 = .ok (.aload_n 0, 1) := by decide +kernel
theorem dX9_product_101 : decode cX9_product 101 = .ok (.iload 4, 2) := by decide +kernel
theorem dX9_product_103 : decode cX9_product 103 = .ok (.aload_n 0, 1) := by decide +kernel
theorem dX9_product_104 : decode cX9_product 104 = .ok (.getfield 17, 3) := by decide +kernel
theorem dX9_product_107 : decode cX9_product 107 = .ok (.bipush 40, 2) := by decide +kernel
theorem dX9_product_109 : decode cX9_product 109 = .ok (.iload_n 3, 1) := by decide +kernel
theorem dX9_product_110 : decode cX9_product 110 = .ok (.imul, 1) := by decide +kernel
theorem dX9_product_111 : decode cX9_product 111 = .ok (.iload 6, 2) := by decide +kernel
theorem dX9_product_113 : decode cX9_product 113 = .ok (.iadd, 1) := by decide +kernel
theorem dX9_product_114 : decode cX9_product 114 = .ok (.iaload, 1) := by decide +kernel
theorem dX9_product_115 : decode cX9_product 115 = .ok (.invokevirtual 116, 3) := by decide +kernel
theorem dX9_product_118 : decode cX9_product 118 = .ok (.ifCond .ne 6, 3) := by decide +kernel
theorem dX9_product_121 : decode cX9_product 121 = .ok (.bipush (-5), 2) := by decide +kernel
theorem dX9_product_123 : decode cX9_product 123 = .ok (.ireturn, 1) := by decide +kernel
theorem dX9_product_124 : decode cX9_product 124 = .ok (.iinc 6 1, 3) := by decide +kernel
theorem dX9_product_127 : decode cX9_product 127 = .ok (.goto (-78), 3) := by decide +kernel
theorem dX9_product_130 : decode cX9_product 130 = .ok (.aload_n 0, 1) := by decide +kernel
theorem dX9_product_131 : decode cX9_product 131 = .ok (.iload 5, 2) := by decide +kernel
theorem dX9_product_133 : decode cX9_product 133 = .ok (.invokevirtual 135, 3) := by decide +kernel
theorem dX9_product_136 : decode cX9_product 136 = .ok (.ireturn, 1) := by decide +kernel
theorem dX9_derived_0 : decode cX9_derived 0 = .ok (.aload_n 0, 1) := by decide +kernel
theorem dX9_derived_1 : decode cX9_derived 1 = .ok (.iload_n 1, 1) := by decide +kernel
theorem dX9_derived_2 : decode cX9_derived 2 = .ok (.invokevirtual 131, 3) := by decide +kernel
theorem dX9_derived_5 : decode cX9_derived 5 = .ok (.istore_n 3, 1) := by decide +kernel
theorem dX9_derived_6 : decode cX9_derived 6 = .ok (.iload_n 3, 1) := by decide +kernel
theorem dX9_derived_7 : decode cX9_derived 7 = .ok (.ifCond .lt 17, 3) := by decide +kernel
theorem dX9_derived_10 : decode cX9_derived 10 = .ok (.iload_n 2, 1) := by decide +kernel
theorem dX9_derived_11 : decode cX9_derived 11 = .ok (.iconst 0, 1) := by decide +kernel
theorem dX9_derived_12 : decode cX9_derived 12 = .ok (.aload_n 0, 1) := by decide +kernel
theorem dX9_derived_13 : decode cX9_derived 13 = .ok (.getfield 75, 3) := by decide +kernel
theorem dX9_derived_16 : decode cX9_derived 16 = .ok (.iconst 1, 1) := by decide +kernel
theorem dX9_derived_17 : decode cX9_derived 17 = .ok (.isub, 1) := by decide +kernel
theorem dX9_derived_18 : decode cX9_derived 18 = .ok (.invokestatic 78, 3) := by decide +kernel
theorem dX9_derived_21 : decode cX9_derived 21 = .ok (.ifCond .ne 6, 3) := by decide +kernel
theorem dX9_derived_24 : decode cX9_derived 24 = .ok (.bipush (-2), 2) := by decide +kernel
theorem dX9_derived_26 : decode cX9_derived 26 = .ok (.ireturn, 1) := by decide +kernel
theorem dX9_derived_27 : decode cX9_derived 27 = .ok (.aload_n 0, 1) := by decide +kernel
theorem dX9_derived_28 : decode cX9_derived 28 = .ok (.invokevirtual 124, 3) := by decide +kernel
theorem dX9_derived_31 : decode cX9_derived 31 = .ok (.istore 4, 2) := by decide +kernel
theorem dX9_derived_33 : decode cX9_derived 33 = .ok (.iload 4, 2) := by decide +kernel
theorem dX9_derived_35 : decode cX9_derived 35 = .ok (.bipush 25, 2) := by decide +kernel
theorem dX9_derived_37 : decode cX9_derived 37 = .ok (.if_icmp .ne 6, 3) := by decide +kernel
theorem dX9_derived_40 : decode cX9_derived 40 = .ok (.bipush (-4), 2) := by decide +kernel
theorem dX9_derived_42 : decode cX9_derived 42 = .ok (.ireturn, 1) := by decide +kernel
theorem dX9_derived_43 : decode cX9_derived 43 = .ok (.aload_n 0, 1) := by decide +kernel
theorem dX9_derived_44 : decode cX9_derived 44 = .ok (.iconst 0, 1) := by decide +kernel
theorem dX9_derived_45 : decode cX9_derived 45 = .ok (.putfield 90, 3) := by decide +kernel
theorem dX9_derived_48 : decode cX9_derived 48 = .ok (.iconst 0, 1) := by decide +kernel
theorem dX9_derived_49 : decode cX9_derived 49 = .ok (.istore 5, 2) := by decide +kernel
theorem dX9_derived_51 : decode cX9_derived 51 = .ok (.iload 5, 2) := by decide +kernel
theorem dX9_derived_53 : decode cX9_derived 53 = .ok (.aload_n 0, 1) := by decide +kernel
theorem dX9_derived_54 : decode cX9_derived 54 = .ok (.getfield 13, 3) := by decide +kernel
theorem dX9_derived_57 : decode cX9_derived 57 = .ok (.iload_n 3, 1) := by decide +kernel
theorem dX9_derived_58 : decode cX9_derived 58 = .ok (.iaload, 1) := by decide +kernel
theorem dX9_derived_59 : decode cX9_derived 59 = .ok (.if_icmp .ge 113, 3) := by decide +kernel
theorem dX9_derived_62 : decode cX9_derived 62 = .ok (.aload_n 0, 1) := by decide +kernel
theorem dX9_derived_63 : decode cX9_derived 63 = .ok (.getfield 20, 3) := by decide +kernel
theorem dX9_derived_66 : decode cX9_derived 66 = .ok (.sipush 160, 3) := by decide +kernel
theorem dX9_derived_69 : decode cX9_derived 69 = .ok (.iload_n 3, 1) := by decide +kernel
theorem dX9_derived_70 : decode cX9_derived 70 = .ok (.imul, 1) := by decide +kernel
theorem dX9_derived_71 : decode cX9_derived 71 = .ok (.iconst 4, 1) := by decide +kernel
theorem dX9_derived_72 : decode cX9_derived 72 = .ok (.iload 5, 2) := by decide +kernel
theorem dX9_derived_74 : decode cX9_derived 74 = .ok (.imul, 1) := by decide +kernel
theorem dX9_derived_75 : decode cX9_derived 75 = .ok (.iadd, 1) := by decide +kernel
theorem dX9_derived_76 : decode cX9_derived 76 = .ok (.iload_n 2, 1) := by decide +kernel
theorem dX9_derived_77 : decode cX9_derived 77 = .ok (.iadd, 1) := by decide +kernel
theorem dX9_derived_78 : decode cX9_derived 78 = .ok (.iaload, 1) := by decide +kernel
theorem dX9_derived_79 : decode cX9_derived 79 = .ok (.istore 6, 2) := by decide +kernel
theorem dX9_derived_81 : decode cX9_derived 81 = .ok (.aload_n 0, 1) := by decide +kernel
theorem dX9_derived_82 : decode cX9_derived 82 = .ok (.getfield 17, 3) := by decide +kernel
theorem dX9_derived_85 : decode cX9_derived 85 = .ok (.bipush 40, 2) := by decide +kernel
theorem dX9_derived_87 : decode cX9_derived 87 = .ok (.iload_n 3, 1) := by decide +kernel
theorem dX9_derived_88 : decode cX9_derived 88 = .ok (.imul, 1) := by decide +kernel
theorem dX9_derived_89 : decode cX9_derived 89 = .ok (.iload 5, 2) := by decide +kernel
theorem dX9_derived_91 : decode cX9_derived 91 = .ok (.iadd, 1) := by decide +kernel
theorem dX9_derived_92 : decode cX9_derived 92 = .ok (.iaload, 1) := by decide +kernel
theorem dX9_derived_93 : decode cX9_derived 93 = .ok (.iload 6, 2) := by decide +kernel
theorem dX9_derived_95 : decode cX9_derived 95 = .ok (.imul, 1) := by decide +kernel
theorem dX9_derived_96 : decode cX9_derived 96 = .ok (.aload_n 0, 1) := by decide +kernel
theorem dX9_derived_97 : decode cX9_derived 97 = .ok (.getfield 72, 3) := by decide +kernel
theorem dX9_derived_100 : decode cX9_derived 100 = .ok (.irem, 1) := by decide +kernel
theorem dX9_derived_101 : decode cX9_derived 101 = .ok (.istore 7, 2) := by decide +kernel
theorem dX9_derived_103 : decode cX9_derived 103 = .ok (.iload 7, 2) := by decide +kernel
theorem dX9_derived_105 : decode cX9_derived 105 = .ok (.ifCond .eq 61, 3) := by decide +kernel
theorem dX9_derived_108 : decode cX9_derived 108 = .ok (.iconst 0, 1) := by decide +kernel
theorem dX9_derived_109 : decode cX9_derived 109 = .ok (.istore 8, 2) := by decide +kernel
theorem dX9_derived_111 : decode cX9_derived 111 = .ok (.iload 8, 2) := by decide +kernel
theorem dX9_derived_113 : decode cX9_derived 113 = .ok (.iconst 4, 1) := by decide +kernel
theorem dX9_derived_114 : decode cX9_derived 114 = .ok (.if_icmp .ge 46, 3) := by decide +kernel
theorem dX9_derived_117 : decode cX9_derived 117 = .ok (.aload_n 0, 1) := by decide +kernel
theorem dX9_derived_118 : decode cX9_derived 118 = .ok (.getfield 38, 3) := by decide +kernel
theorem dX9_derived_121 : decode cX9_derived 121 = .ok (.iload 8, 2) := by decide +kernel
theorem dX9_derived_123 : decode cX9_derived 123 = .ok (.aload_n 0, 1) := by decide +kernel
theorem dX9_derived_124 : decode cX9_derived 124 = .ok (.getfield 20, 3) := by decide +kernel
theorem dX9_derived_127 : decode cX9_derived 127 = .ok (.sipush 160, 3) := by decide +kernel
theorem dX9_derived_130 : decode cX9_derived 130 = .ok (.iload_n 3, 1) := by decide +kernel
theorem dX9_derived_131 : decode cX9_derived 131 = .ok (.imul, 1) := by decide +kernel
theorem dX9_derived_132 : decode cX9_derived 132 = .ok (.iconst 4, 1) := by decide +kernel
theorem dX9_derived_133 : decode cX9_derived 133 = .ok (.iload 5, 2) := by decide +kernel
theorem dX9_derived_135 : decode cX9_derived 135 = .ok (.imul, 1) := by decide +kernel
theorem dX9_derived_136 : decode cX9_derived 136 = .ok (.iadd, 1) := by decide +kernel
theorem dX9_derived_137 : decode cX9_derived 137 = .ok (.iload 8, 2) := by decide +kernel
theorem dX9_derived_139 : decode cX9_derived 139 = .ok (.iadd, 1) := by decide +kernel
theorem dX9_derived_140 : decode cX9_derived 140 = .ok (.iaload, 1) := by decide +kernel
theorem dX9_derived_141 : decode cX9_derived 141 = .ok (.iload 8, 2) := by decide +kernel
theorem dX9_derived_143 : decode cX9_derived 143 = .ok (.iload_n 2, 1) := by decide +kernel
theorem dX9_derived_144 : decode cX9_derived 144 = .ok (.if_icmp .ne 7, 3) := by decide +kernel
theorem dX9_derived_147 : decode cX9_derived 147 = .ok (.iconst 1, 1) := by decide +kernel
theorem dX9_derived_148 : decode cX9_derived 148 = .ok (.goto 4, 3) := by decide +kernel
theorem dX9_derived_151 : decode cX9_derived 151 = .ok (.iconst 0, 1) := by decide +kernel
theorem dX9_derived_152 : decode cX9_derived 152 = .ok (.isub, 1) := by decide +kernel
theorem dX9_derived_153 : decode cX9_derived 153 = .ok (.iastore, 1) := by decide +kernel
theorem dX9_derived_154 : decode cX9_derived 154 = .ok (.iinc 8 1, 3) := by decide +kernel
theorem dX9_derived_157 : decode cX9_derived 157 = .ok (.goto (-46), 3) := by decide +kernel
theorem dX9_derived_160 : decode cX9_derived 160 = .ok (.aload_n 0, 1) := by decide +kernel
theorem dX9_derived_161 : decode cX9_derived 161 = .ok (.iload 7, 2) := by decide +kernel
theorem dX9_derived_163 : decode cX9_derived 163 = .ok (.invokevirtual 96, 3) := by decide +kernel
theorem dX9_derived_166 : decode cX9_derived 166 = .ok (.iinc 5 1, 3) := by decide +kernel
theorem dX9_derived_169 : decode cX9_derived 169 = .ok (.goto (-118), 3) := by decide +kernel
theorem dX9_derived_172 : decode cX9_derived 172 = .ok (.aload_n 0, 1) := by decide +kernel
theorem dX9_derived_173 : decode cX9_derived 173 = .ok (.iload 4, 2) := by decide +kernel
theorem dX9_derived_175 : decode cX9_derived 175 = .ok (.invokevirtual 135, 3) := by decide +kernel
theorem dX9_derived_178 : decode cX9_derived 178 = .ok (.ireturn, 1) := by decide +kernel
theorem dX9_leastOf_0 : decode cX9_leastOf 0 = .ok (.iconst 0, 1) := by decide +kernel
theorem dX9_leastOf_1 : decode cX9_leastOf 1 = .ok (.istore_n 3, 1) := by decide +kernel
theorem dX9_leastOf_2 : decode cX9_leastOf 2 = .ok (.iload_n 3, 1) := by decide +kernel
theorem dX9_leastOf_3 : decode cX9_leastOf 3 = .ok (.iconst 4, 1) := by decide +kernel
theorem dX9_leastOf_4 : decode cX9_leastOf 4 = .ok (.if_icmp .ge 57, 3) := by decide +kernel
theorem dX9_leastOf_7 : decode cX9_leastOf 7 = .ok (.aload_n 0, 1) := by decide +kernel
theorem dX9_leastOf_8 : decode cX9_leastOf 8 = .ok (.getfield 20, 3) := by decide +kernel
theorem dX9_leastOf_11 : decode cX9_leastOf 11 = .ok (.sipush 160, 3) := by decide +kernel
theorem dX9_leastOf_14 : decode cX9_leastOf 14 = .ok (.iload_n 1, 1) := by decide +kernel
theorem dX9_leastOf_15 : decode cX9_leastOf 15 = .ok (.imul, 1) := by decide +kernel
theorem dX9_leastOf_16 : decode cX9_leastOf 16 = .ok (.iload_n 3, 1) := by decide +kernel
theorem dX9_leastOf_17 : decode cX9_leastOf 17 = .ok (.iadd, 1) := by decide +kernel
theorem dX9_leastOf_18 : decode cX9_leastOf 18 = .ok (.iaload, 1) := by decide +kernel
theorem dX9_leastOf_19 : decode cX9_leastOf 19 = .ok (.istore 4, 2) := by decide +kernel
theorem dX9_leastOf_21 : decode cX9_leastOf 21 = .ok (.aload_n 0, 1) := by decide +kernel
theorem dX9_leastOf_22 : decode cX9_leastOf 22 = .ok (.getfield 20, 3) := by decide +kernel
theorem dX9_leastOf_25 : decode cX9_leastOf 25 = .ok (.sipush 160, 3) := by decide +kernel
theorem dX9_leastOf_28 : decode cX9_leastOf 28 = .ok (.iload_n 2, 1) := by decide +kernel
theorem dX9_leastOf_29 : decode cX9_leastOf 29 = .ok (.imul, 1) := by decide +kernel
theorem dX9_leastOf_30 : decode cX9_leastOf 30 = .ok (.iload_n 3, 1) := by decide +kernel
theorem dX9_leastOf_31 : decode cX9_leastOf 31 = .ok (.iadd, 1) := by decide +kernel
theorem dX9_leastOf_32 : decode cX9_leastOf 32 = .ok (.iaload, 1) := by decide +kernel
theorem dX9_leastOf_33 : decode cX9_leastOf 33 = .ok (.istore 5, 2) := by decide +kernel
theorem dX9_leastOf_35 : decode cX9_leastOf 35 = .ok (.aload_n 0, 1) := by decide +kernel
theorem dX9_leastOf_36 : decode cX9_leastOf 36 = .ok (.getfield 44, 3) := by decide +kernel
theorem dX9_leastOf_39 : decode cX9_leastOf 39 = .ok (.iload_n 3, 1) := by decide +kernel
theorem dX9_leastOf_40 : decode cX9_leastOf 40 = .ok (.iload 4, 2) := by decide +kernel
theorem dX9_leastOf_42 : decode cX9_leastOf 42 = .ok (.iload 5, 2) := by decide +kernel
theorem dX9_leastOf_44 : decode cX9_leastOf 44 = .ok (.if_icmp .le 8, 3) := by decide +kernel
theorem dX9_leastOf_47 : decode cX9_leastOf 47 = .ok (.iload 4, 2) := by decide +kernel
theorem dX9_leastOf_49 : decode cX9_leastOf 49 = .ok (.goto 5, 3) := by decide +kernel
theorem dX9_leastOf_52 : decode cX9_leastOf 52 = .ok (.iload 5, 2) := by decide +kernel
theorem dX9_leastOf_54 : decode cX9_leastOf 54 = .ok (.iastore, 1) := by decide +kernel
theorem dX9_leastOf_55 : decode cX9_leastOf 55 = .ok (.iinc 3 1, 3) := by decide +kernel
theorem dX9_leastOf_58 : decode cX9_leastOf 58 = .ok (.goto (-56), 3) := by decide +kernel
theorem dX9_leastOf_61 : decode cX9_leastOf 61 = .ok (.return_, 1) := by decide +kernel
theorem dX9_makeS_0 : decode cX9_makeS 0 = .ok (.aload_n 0, 1) := by decide +kernel
theorem dX9_makeS_1 : decode cX9_makeS 1 = .ok (.iload_n 1, 1) := by decide +kernel
theorem dX9_makeS_2 : decode cX9_makeS 2 = .ok (.iload_n 2, 1) := by decide +kernel
theorem dX9_makeS_3 : decode cX9_makeS 3 = .ok (.invokevirtual 138, 3) := by decide +kernel
theorem dX9_makeS_6 : decode cX9_makeS 6 = .ok (.aload_n 0, 1) := by decide +kernel
theorem dX9_makeS_7 : decode cX9_makeS 7 = .ok (.iconst 0, 1) := by decide +kernel
theorem dX9_makeS_8 : decode cX9_makeS 8 = .ok (.putfield 90, 3) := by decide +kernel
theorem dX9_makeS_11 : decode cX9_makeS 11 = .ok (.iconst 0, 1) := by decide +kernel
theorem dX9_makeS_12 : decode cX9_makeS 12 = .ok (.istore_n 3, 1) := by decide +kernel
theorem dX9_makeS_13 : decode cX9_makeS 13 = .ok (.iload_n 3, 1) := by decide +kernel
theorem dX9_makeS_14 : decode cX9_makeS 14 = .ok (.iconst 2, 1) := by decide +kernel
theorem dX9_makeS_15 : decode cX9_makeS 15 = .ok (.if_icmp .ge 113, 3) := by decide +kernel
theorem dX9_makeS_18 : decode cX9_makeS 18 = .ok (.iload_n 3, 1) := by decide +kernel
theorem dX9_makeS_19 : decode cX9_makeS 19 = .ok (.ifCond .ne 7, 3) := by decide +kernel
theorem dX9_makeS_22 : decode cX9_makeS 22 = .ok (.iload_n 1, 1) := by decide +kernel
theorem dX9_makeS_23 : decode cX9_makeS 23 = .ok (.goto 4, 3) := by decide +kernel
theorem dX9_makeS_26 : decode cX9_makeS 26 = .ok (.iload_n 2, 1) := by decide +kernel
theorem dX9_makeS_27 : decode cX9_makeS 27 = .ok (.istore 4, 2) := by decide +kernel
theorem dX9_makeS_29 : decode cX9_makeS 29 = .ok (.iconst 0, 1) := by decide +kernel
theorem dX9_makeS_30 : decode cX9_makeS 30 = .ok (.istore 5, 2) := by decide +kernel
theorem dX9_makeS_32 : decode cX9_makeS 32 = .ok (.iload 5, 2) := by decide +kernel
theorem dX9_makeS_34 : decode cX9_makeS 34 = .ok (.iconst 4, 1) := by decide +kernel
theorem dX9_makeS_35 : decode cX9_makeS 35 = .ok (.if_icmp .ge 38, 3) := by decide +kernel
theorem dX9_makeS_38 : decode cX9_makeS 38 = .ok (.aload_n 0, 1) := by decide +kernel
theorem dX9_makeS_39 : decode cX9_makeS 39 = .ok (.getfield 41, 3) := by decide +kernel
theorem dX9_makeS_42 : decode cX9_makeS 42 = .ok (.iload 5, 2) := by decide +kernel
theorem dX9_makeS_44 : decode cX9_makeS 44 = .ok (.aload_n 0, 1) := by decide +kernel
theorem dX9_makeS_45 : decode cX9_makeS 45 = .ok (.getfield 44, 3) := by decide +kernel
theorem dX9_makeS_48 : decode cX9_makeS 48 = .ok (.iload 5, 2) := by decide +kernel
theorem dX9_makeS_50 : decode cX9_makeS 50 = .ok (.iaload, 1) := by decide +kernel
theorem dX9_makeS_51 : decode cX9_makeS 51 = .ok (.aload_n 0, 1) := by decide +kernel
theorem dX9_makeS_52 : decode cX9_makeS 52 = .ok (.getfield 20, 3) := by decide +kernel
theorem dX9_makeS_55 : decode cX9_makeS 55 = .ok (.sipush 160, 3) := by decide +kernel
theorem dX9_makeS_58 : decode cX9_makeS 58 = .ok (.iload 4, 2) := by decide +kernel
theorem dX9_makeS_60 : decode cX9_makeS 60 = .ok (.imul, 1) := by decide +kernel
theorem dX9_makeS_61 : decode cX9_makeS 61 = .ok (.iload 5, 2) := by decide +kernel
theorem dX9_makeS_63 : decode cX9_makeS 63 = .ok (.iadd, 1) := by decide +kernel
theorem dX9_makeS_64 : decode cX9_makeS 64 = .ok (.iaload, 1) := by decide +kernel
theorem dX9_makeS_65 : decode cX9_makeS 65 = .ok (.isub, 1) := by decide +kernel
theorem dX9_makeS_66 : decode cX9_makeS 66 = .ok (.iastore, 1) := by decide +kernel
theorem dX9_makeS_67 : decode cX9_makeS 67 = .ok (.iinc 5 1, 3) := by decide +kernel
theorem dX9_makeS_70 : decode cX9_makeS 70 = .ok (.goto (-38), 3) := by decide +kernel
theorem dX9_makeS_73 : decode cX9_makeS 73 = .ok (.aload_n 0, 1) := by decide +kernel
theorem dX9_makeS_74 : decode cX9_makeS 74 = .ok (.aload_n 0, 1) := by decide +kernel
theorem dX9_makeS_75 : decode cX9_makeS 75 = .ok (.getfield 17, 3) := by decide +kernel
theorem dX9_makeS_78 : decode cX9_makeS 78 = .ok (.bipush 40, 2) := by decide +kernel
theorem dX9_makeS_80 : decode cX9_makeS 80 = .ok (.iload 4, 2) := by decide +kernel
theorem dX9_makeS_82 : decode cX9_makeS 82 = .ok (.imul, 1) := by decide +kernel
theorem dX9_makeS_83 : decode cX9_makeS 83 = .ok (.iaload, 1) := by decide +kernel
theorem dX9_makeS_84 : decode cX9_makeS 84 = .ok (.invokevirtual 141, 3) := by decide +kernel
theorem dX9_makeS_87 : decode cX9_makeS 87 = .ok (.istore 5, 2) := by decide +kernel
theorem dX9_makeS_89 : decode cX9_makeS 89 = .ok (.aload_n 0, 1) := by decide +kernel
theorem dX9_makeS_90 : decode cX9_makeS 90 = .ok (.iload 4, 2) := by decide +kernel
theorem dX9_makeS_92 : decode cX9_makeS 92 = .ok (.iload_n 3, 1) := by decide +kernel
theorem dX9_makeS_93 : decode cX9_makeS 93 = .ok (.ifCond .ne 8, 3) := by decide +kernel
theorem dX9_makeS_96 : decode cX9_makeS 96 = .ok (.iload 5, 2) := by decide +kernel
theorem dX9_makeS_98 : decode cX9_makeS 98 = .ok (.goto 15, 3) := by decide +kernel
theorem dX9_makeS_101 : decode cX9_makeS 101 = .ok (.aload_n 0, 1) := by decide +kernel
theorem dX9_makeS_102 : decode cX9_makeS 102 = .ok (.getfield 72, 3) := by decide +kernel
theorem dX9_makeS_105 : decode cX9_makeS 105 = .ok (.iload 5, 2) := by decide +kernel
theorem dX9_makeS_107 : decode cX9_makeS 107 = .ok (.isub, 1) := by decide +kernel
theorem dX9_makeS_108 : decode cX9_makeS 108 = .ok (.aload_n 0, 1) := by decide +kernel
theorem dX9_makeS_109 : decode cX9_makeS 109 = .ok (.getfield 72, 3) := by decide +kernel
theorem dX9_makeS_112 : decode cX9_makeS 112 = .ok (.irem, 1) := by decide +kernel
theorem dX9_makeS_113 : decode cX9_makeS 113 = .ok (.invokevirtual 116, 3) := by decide +kernel
theorem dX9_makeS_116 : decode cX9_makeS 116 = .ok (.ifCond .ne 6, 3) := by decide +kernel
theorem dX9_makeS_119 : decode cX9_makeS 119 = .ok (.bipush (-5), 2) := by decide +kernel
theorem dX9_makeS_121 : decode cX9_makeS 121 = .ok (.ireturn, 1) := by decide +kernel
theorem dX9_makeS_122 : decode cX9_makeS 122 = .ok (.iinc 3 1, 3) := by decide +kernel
theorem dX9_makeS_125 : decode cX9_makeS 125 = .ok (.goto (-112), 3) := by decide +kernel
theorem dX9_makeS_128 : decode cX9_makeS 128 = .ok (.aload_n 0, 1) := by decide +kernel
theorem dX9_makeS_129 : decode cX9_makeS 129 = .ok (.invokevirtual 110, 3) := by decide +kernel
theorem dX9_makeS_132 : decode cX9_makeS 132 = .ok (.aload_n 0, 1) := by decide +kernel
theorem dX9_makeS_133 : decode cX9_makeS 133 = .ok (.getfield 90, 3) := by decide +kernel
theorem dX9_makeS_136 : decode cX9_makeS 136 = .ok (.bipush 40, 2) := by decide +kernel
theorem dX9_makeS_138 : decode cX9_makeS 138 = .ok (.if_icmp .le 8, 3) := by decide +kernel
theorem dX9_makeS_141 : decode cX9_makeS 141 = .ok (.bipush (-6), 2) := by decide +kernel
theorem dX9_makeS_143 : decode cX9_makeS 143 = .ok (.goto 4, 3) := by decide +kernel
theorem dX9_makeS_146 : decode cX9_makeS 146 = .ok (.iconst 0, 1) := by decide +kernel
theorem dX9_makeS_147 : decode cX9_makeS 147 = .ok (.ireturn, 1) := by decide +kernel
theorem dX9_spair_0 : decode cX9_spair 0 = .ok (.aload_n 0, 1) := by decide +kernel
theorem dX9_spair_1 : decode cX9_spair 1 = .ok (.iload_n 1, 1) := by decide +kernel
theorem dX9_spair_2 : decode cX9_spair 2 = .ok (.invokevirtual 131, 3) := by decide +kernel
theorem dX9_spair_5 : decode cX9_spair 5 = .ok (.istore_n 3, 1) := by decide +kernel
theorem dX9_spair_6 : decode cX9_spair 6 = .ok (.aload_n 0, 1) := by decide +kernel
theorem dX9_spair_7 : decode cX9_spair 7 = .ok (.iload_n 2, 1) := by decide +kernel
theorem dX9_spair_8 : decode cX9_spair 8 = .ok (.invokevirtual 131, 3) := by decide +kernel
theorem dX9_spair_11 : decode cX9_spair 11 = .ok (.istore 4, 2) := by decide +kernel
theorem dX9_spair_13 : decode cX9_spair 13 = .ok (.iload_n 3, 1) := by decide +kernel
theorem dX9_spair_14 : decode cX9_spair 14 = .ok (.ifCond .lt 27, 3) := by decide +kernel
theorem dX9_spair_17 : decode cX9_spair 17 = .ok (.iload 4, 2) := by decide +kernel
theorem dX9_spair_19 : decode cX9_spair 19 = .ok (.ifCond .lt 22, 3) := by decide +kernel
theorem dX9_spair_22 : decode cX9_spair 22 = .ok (.aload_n 0, 1) := by decide +kernel
theorem dX9_spair_23 : decode cX9_spair 23 = .ok (.getfield 13, 3) := by decide +kernel
theorem dX9_spair_26 : decode cX9_spair 26 = .ok (.iload_n 3, 1) := by decide +kernel
theorem dX9_spair_27 : decode cX9_spair 27 = .ok (.iaload, 1) := by decide +kernel
theorem dX9_spair_28 : decode cX9_spair 28 = .ok (.ifCond .eq 13, 3) := by decide +kernel
theorem dX9_spair_31 : decode cX9_spair 31 = .ok (.aload_n 0, 1) := by decide +kernel
theorem dX9_spair_32 : decode cX9_spair 32 = .ok (.getfield 13, 3) := by decide +kernel
theorem dX9_spair_35 : decode cX9_spair 35 = .ok (.iload 4, 2) := by decide +kernel
theorem dX9_spair_37 : decode cX9_spair 37 = .ok (.iaload, 1) := by decide +kernel
theorem dX9_spair_38 : decode cX9_spair 38 = .ok (.ifCond .ne 6, 3) := by decide +kernel
theorem dX9_spair_41 : decode cX9_spair 41 = .ok (.bipush (-2), 2) := by decide +kernel
theorem dX9_spair_43 : decode cX9_spair 43 = .ok (.ireturn, 1) := by decide +kernel
theorem dX9_spair_44 : decode cX9_spair 44 = .ok (.aload_n 0, 1) := by decide +kernel
theorem dX9_spair_45 : decode cX9_spair 45 = .ok (.invokevirtual 124, 3) := by decide +kernel
theorem dX9_spair_48 : decode cX9_spair 48 = .ok (.istore 5, 2) := by decide +kernel
theorem dX9_spair_50 : decode cX9_spair 50 = .ok (.iload 5, 2) := by decide +kernel
theorem dX9_spair_52 : decode cX9_spair 52 = .ok (.bipush 25, 2) := by decide +kernel
theorem dX9_spair_54 : decode cX9_spair 54 = .ok (.if_icmp .ne 6, 3) := by decide +kernel
theorem dX9_spair_57 : decode cX9_spair 57 = .ok (.bipush (-4), 2) := by decide +kernel
theorem dX9_spair_59 : decode cX9_spair 59 = .ok (.ireturn, 1) := by decide +kernel
theorem dX9_spair_60 : decode cX9_spair 60 = .ok (.aload_n 0, 1) := by decide +kernel
theorem dX9_spair_61 : decode cX9_spair 61 = .ok (.iload_n 3, 1) := by decide +kernel
theorem dX9_spair_62 : decode cX9_spair 62 = .ok (.iload 4, 2) := by decide +kernel
theorem dX9_spair_64 : decode cX9_spair 64 = .ok (.invokevirtual 144, 3) := by decide +kernel
theorem dX9_spair_67 : decode cX9_spair 67 = .ok (.istore 6, 2) := by decide +kernel
theorem dX9_spair_69 : decode cX9_spair 69 = .ok (.iload 6, 2) := by decide +kernel
theorem dX9_spair_71 : decode cX9_spair 71 = .ok (.ifCond .ge 8, 3) := by decide +kernel
theorem dX9_spair_74 : decode cX9_spair 74 = .ok (.iload 6, 2) := by decide +kernel
theorem dX9_spair_76 : decode cX9_spair 76 = .ok (.goto 9, 3) := by decide +kernel
theorem dX9_spair_79 : decode cX9_spair 79 = .ok (.aload_n 0, 1) := by decide +kernel
theorem dX9_spair_80 : decode cX9_spair 80 = .ok (.iload 5, 2) := by decide +kernel
theorem dX9_spair_82 : decode cX9_spair 82 = .ok (.invokevirtual 135, 3) := by decide +kernel
theorem dX9_spair_85 : decode cX9_spair 85 = .ok (.ireturn, 1) := by decide +kernel
theorem dX9_valueAt_0 : decode cX9_valueAt 0 = .ok (.iconst 0, 1) := by decide +kernel
theorem dX9_valueAt_1 : decode cX9_valueAt 1 = .ok (.istore_n 2, 1) := by decide +kernel
theorem dX9_valueAt_2 : decode cX9_valueAt 2 = .ok (.iconst 0, 1) := by decide +kernel
theorem dX9_valueAt_3 : decode cX9_valueAt 3 = .ok (.istore_n 3, 1) := by decide +kernel
theorem dX9_valueAt_4 : decode cX9_valueAt 4 = .ok (.iload_n 3, 1) := by decide +kernel
theorem dX9_valueAt_5 : decode cX9_valueAt 5 = .ok (.aload_n 0, 1) := by decide +kernel
theorem dX9_valueAt_6 : decode cX9_valueAt 6 = .ok (.getfield 13, 3) := by decide +kernel
theorem dX9_valueAt_9 : decode cX9_valueAt 9 = .ok (.iload_n 1, 1) := by decide +kernel
theorem dX9_valueAt_10 : decode cX9_valueAt 10 = .ok (.iaload, 1) := by decide +kernel
theorem dX9_valueAt_11 : decode cX9_valueAt 11 = .ok (.if_icmp .ge 95, 3) := by decide +kernel
theorem dX9_valueAt_14 : decode cX9_valueAt 14 = .ok (.aload_n 0, 1) := by decide +kernel
theorem dX9_valueAt_15 : decode cX9_valueAt 15 = .ok (.getfield 17, 3) := by decide +kernel
theorem dX9_valueAt_18 : decode cX9_valueAt 18 = .ok (.bipush 40, 2) := by decide +kernel
theorem dX9_valueAt_20 : decode cX9_valueAt 20 = .ok (.iload_n 1, 1) := by decide +kernel
theorem dX9_valueAt_21 : decode cX9_valueAt 21 = .ok (.imul, 1) := by decide +kernel
theorem dX9_valueAt_22 : decode cX9_valueAt 22 = .ok (.iload_n 3, 1) := by decide +kernel
theorem dX9_valueAt_23 : decode cX9_valueAt 23 = .ok (.iadd, 1) := by decide +kernel
theorem dX9_valueAt_24 : decode cX9_valueAt 24 = .ok (.iaload, 1) := by decide +kernel
theorem dX9_valueAt_25 : decode cX9_valueAt 25 = .ok (.istore 4, 2) := by decide +kernel
theorem dX9_valueAt_27 : decode cX9_valueAt 27 = .ok (.iconst 0, 1) := by decide +kernel
theorem dX9_valueAt_28 : decode cX9_valueAt 28 = .ok (.istore 5, 2) := by decide +kernel
theorem dX9_valueAt_30 : decode cX9_valueAt 30 = .ok (.iload 5, 2) := by decide +kernel
theorem dX9_valueAt_32 : decode cX9_valueAt 32 = .ok (.iconst 4, 1) := by decide +kernel
theorem dX9_valueAt_33 : decode cX9_valueAt 33 = .ok (.if_icmp .ge 57, 3) := by decide +kernel
theorem dX9_valueAt_36 : decode cX9_valueAt 36 = .ok (.iconst 0, 1) := by decide +kernel
theorem dX9_valueAt_37 : decode cX9_valueAt 37 = .ok (.istore 6, 2) := by decide +kernel
theorem dX9_valueAt_39 : decode cX9_valueAt 39 = .ok (.iload 6, 2) := by decide +kernel
theorem dX9_valueAt_41 : decode cX9_valueAt 41 = .ok (.aload_n 0, 1) := by decide +kernel
theorem dX9_valueAt_42 : decode cX9_valueAt 42 = .ok (.getfield 20, 3) := by decide +kernel
theorem dX9_valueAt_45 : decode cX9_valueAt 45 = .ok (.sipush 160, 3) := by decide +kernel
theorem dX9_valueAt_48 : decode cX9_valueAt 48 = .ok (.iload_n 1, 1) := by decide +kernel
theorem dX9_valueAt_49 : decode cX9_valueAt 49 = .ok (.imul, 1) := by decide +kernel
theorem dX9_valueAt_50 : decode cX9_valueAt 50 = .ok (.iconst 4, 1) := by decide +kernel
theorem dX9_valueAt_51 : decode cX9_valueAt 51 = .ok (.iload_n 3, 1) := by decide +kernel
theorem dX9_valueAt_52 : decode cX9_valueAt 52 = .ok (.imul, 1) := by decide +kernel
theorem dX9_valueAt_53 : decode cX9_valueAt 53 = .ok (.iadd, 1) := by decide +kernel
theorem dX9_valueAt_54 : decode cX9_valueAt 54 = .ok (.iload 5, 2) := by decide +kernel
theorem dX9_valueAt_56 : decode cX9_valueAt 56 = .ok (.iadd, 1) := by decide +kernel
theorem dX9_valueAt_57 : decode cX9_valueAt 57 = .ok (.iaload, 1) := by decide +kernel
theorem dX9_valueAt_58 : decode cX9_valueAt 58 = .ok (.if_icmp .ge 26, 3) := by decide +kernel
theorem dX9_valueAt_61 : decode cX9_valueAt 61 = .ok (.iload 4, 2) := by decide +kernel
theorem dX9_valueAt_63 : decode cX9_valueAt 63 = .ok (.aload_n 0, 1) := by decide +kernel
theorem dX9_valueAt_64 : decode cX9_valueAt 64 = .ok (.getfield 47, 3) := by decide +kernel
theorem dX9_valueAt_67 : decode cX9_valueAt 67 = .ok (.iload 5, 2) := by decide +kernel
theorem dX9_valueAt_69 : decode cX9_valueAt 69 = .ok (.iaload, 1) := by decide +kernel
theorem dX9_valueAt_70 : decode cX9_valueAt 70 = .ok (.imul, 1) := by decide +kernel
theorem dX9_valueAt_71 : decode cX9_valueAt 71 = .ok (.aload_n 0, 1) := by decide +kernel
theorem dX9_valueAt_72 : decode cX9_valueAt 72 = .ok (.getfield 72, 3) := by decide +kernel
theorem dX9_valueAt_75 : decode cX9_valueAt 75 = .ok (.irem, 1) := by decide +kernel
theorem dX9_valueAt_76 : decode cX9_valueAt 76 = .ok (.istore 4, 2) := by decide +kernel
theorem dX9_valueAt_78 : decode cX9_valueAt 78 = .ok (.iinc 6 1, 3) := by decide +kernel
theorem dX9_valueAt_81 : decode cX9_valueAt 81 = .ok (.goto (-42), 3) := by decide +kernel
theorem dX9_valueAt_84 : decode cX9_valueAt 84 = .ok (.iinc 5 1, 3) := by decide +kernel
theorem dX9_valueAt_87 : decode cX9_valueAt 87 = .ok (.goto (-57), 3) := by decide +kernel
theorem dX9_valueAt_90 : decode cX9_valueAt 90 = .ok (.iload_n 2, 1) := by decide +kernel
theorem dX9_valueAt_91 : decode cX9_valueAt 91 = .ok (.iload 4, 2) := by decide +kernel
theorem dX9_valueAt_93 : decode cX9_valueAt 93 = .ok (.iadd, 1) := by decide +kernel
theorem dX9_valueAt_94 : decode cX9_valueAt 94 = .ok (.aload_n 0, 1) := by decide +kernel
theorem dX9_valueAt_95 : decode cX9_valueAt 95 = .ok (.getfield 72, 3) := by decide +kernel
theorem dX9_valueAt_98 : decode cX9_valueAt 98 = .ok (.irem, 1) := by decide +kernel
theorem dX9_valueAt_99 : decode cX9_valueAt 99 = .ok (.istore_n 2, 1) := by decide +kernel
theorem dX9_valueAt_100 : decode cX9_valueAt 100 = .ok (.iinc 3 1, 3) := by decide +kernel
theorem dX9_valueAt_103 : decode cX9_valueAt 103 = .ok (.goto (-99), 3) := by decide +kernel
theorem dX9_valueAt_106 : decode cX9_valueAt 106 = .ok (.iload_n 2, 1) := by decide +kernel
theorem dX9_valueAt_107 : decode cX9_valueAt 107 = .ok (.ireturn, 1) := by decide +kernel
theorem dX9_value_0 : decode cX9_value 0 = .ok (.aload_n 0, 1) := by decide +kernel
theorem dX9_value_1 : decode cX9_value 1 = .ok (.iload_n 1, 1) := by decide +kernel
theorem dX9_value_2 : decode cX9_value 2 = .ok (.invokevirtual 131, 3) := by decide +kernel
theorem dX9_value_5 : decode cX9_value 5 = .ok (.istore 6, 2) := by decide +kernel
theorem dX9_value_7 : decode cX9_value 7 = .ok (.iload 6, 2) := by decide +kernel
theorem dX9_value_9 : decode cX9_value 9 = .ok (.ifCond .ge 6, 3) := by decide +kernel
theorem dX9_value_12 : decode cX9_value 12 = .ok (.bipush (-2), 2) := by decide +kernel
theorem dX9_value_14 : decode cX9_value 14 = .ok (.ireturn, 1) := by decide +kernel
theorem dX9_value_15 : decode cX9_value 15 = .ok (.aload_n 0, 1) := by decide +kernel
theorem dX9_value_16 : decode cX9_value 16 = .ok (.getfield 47, 3) := by decide +kernel
theorem dX9_value_19 : decode cX9_value 19 = .ok (.iconst 0, 1) := by decide +kernel
theorem dX9_value_20 : decode cX9_value 20 = .ok (.aload_n 0, 1) := by decide +kernel
theorem dX9_value_21 : decode cX9_value 21 = .ok (.iload_n 2, 1) := by decide +kernel
theorem dX9_value_22 : decode cX9_value 22 = .ok (.i2l, 1) := by decide +kernel
theorem dX9_value_23 : decode cX9_value 23 = .ok (.invokevirtual 120, 3) := by decide +kernel
theorem dX9_value_26 : decode cX9_value 26 = .ok (.iastore, 1) := by decide +kernel
theorem dX9_value_27 : decode cX9_value 27 = .ok (.aload_n 0, 1) := by decide +kernel
theorem dX9_value_28 : decode cX9_value 28 = .ok (.getfield 47, 3) := by decide +kernel
theorem dX9_value_31 : decode cX9_value 31 = .ok (.iconst 1, 1) := by decide +kernel
theorem dX9_value_32 : decode cX9_value 32 = .ok (.aload_n 0, 1) := by decide +kernel
theorem dX9_value_33 : decode cX9_value 33 = .ok (.iload_n 3, 1) := by decide +kernel
theorem dX9_value_34 : decode cX9_value 34 = .ok (.i2l, 1) := by decide +kernel
theorem dX9_value_35 : decode cX9_value 35 = .ok (.invokevirtual 120, 3) := by decide +kernel
theorem dX9_value_38 : decode cX9_value 38 = .ok (.iastore, 1) := by decide +kernel
theorem dX9_value_39 : decode cX9_value 39 = .ok (.aload_n 0, 1) := by decide +kernel
theorem dX9_value_40 : decode cX9_value 40 = .ok (.getfield 47, 3) := by decide +kernel
theorem dX9_value_43 : decode cX9_value 43 = .ok (.iconst 2, 1) := by decide +kernel
theorem dX9_value_44 : decode cX9_value 44 = .ok (.aload_n 0, 1) := by decide +kernel
theorem dX9_value_45 : decode cX9_value 45 = .ok (.iload 4, 2) := by decide +kernel
theorem dX9_value_47 : decode cX9_value 47 = .ok (.i2l, 1) := by decide +kernel
theorem dX9_value_48 : decode cX9_value 48 = .ok (.invokevirtual 120, 3) := by decide +kernel
theorem dX9_value_51 : decode cX9_value 51 = .ok (.iastore, 1) := by decide +kernel
theorem dX9_value_52 : decode cX9_value 52 = .ok (.aload_n 0, 1) := by decide +kernel
theorem dX9_value_53 : decode cX9_value 53 = .ok (.getfield 47, 3) := by decide +kernel
theorem dX9_value_56 : decode cX9_value 56 = .ok (.iconst 3, 1) := by decide +kernel
theorem dX9_value_57 : decode cX9_value 57 = .ok (.aload_n 0, 1) := by decide +kernel
theorem dX9_value_58 : decode cX9_value 58 = .ok (.iload 5, 2) := by decide +kernel
theorem dX9_value_60 : decode cX9_value 60 = .ok (.i2l, 1) := by decide +kernel
theorem dX9_value_61 : decode cX9_value 61 = .ok (.invokevirtual 120, 3) := by decide +kernel
theorem dX9_value_64 : decode cX9_value 64 = .ok (.iastore, 1) := by decide +kernel
theorem dX9_value_65 : decode cX9_value 65 = .ok (.aload_n 0, 1) := by decide +kernel
theorem dX9_value_66 : decode cX9_value 66 = .ok (.iload 6, 2) := by decide +kernel
theorem dX9_value_68 : decode cX9_value 68 = .ok (.invokevirtual 148, 3) := by decide +kernel
theorem dX9_value_71 : decode cX9_value 71 = .ok (.ireturn, 1) := by decide +kernel
theorem dX9_compare_0 : decode cX9_compare 0 = .ok (.aload_n 0, 1) := by decide +kernel
theorem dX9_compare_1 : decode cX9_compare 1 = .ok (.iload_n 1, 1) := by decide +kernel
theorem dX9_compare_2 : decode cX9_compare 2 = .ok (.invokevirtual 131, 3) := by decide +kernel
theorem dX9_compare_5 : decode cX9_compare 5 = .ok (.istore_n 3, 1) := by decide +kernel
theorem dX9_compare_6 : decode cX9_compare 6 = .ok (.aload_n 0, 1) := by decide +kernel
theorem dX9_compare_7 : decode cX9_compare 7 = .ok (.iload_n 2, 1) := by decide +kernel
theorem dX9_compare_8 : decode cX9_compare 8 = .ok (.invokevirtual 131, 3) := by decide +kernel
theorem dX9_compare_11 : decode cX9_compare 11 = .ok (.istore 4, 2) := by decide +kernel
theorem dX9_compare_13 : decode cX9_compare 13 = .ok (.iload_n 3, 1) := by decide +kernel
theorem dX9_compare_14 : decode cX9_compare 14 = .ok (.ifCond .lt 8, 3) := by decide +kernel
theorem dX9_compare_17 : decode cX9_compare 17 = .ok (.iload 4, 2) := by decide +kernel
theorem dX9_compare_19 : decode cX9_compare 19 = .ok (.ifCond .ge 6, 3) := by decide +kernel
theorem dX9_compare_22 : decode cX9_compare 22 = .ok (.bipush (-2), 2) := by decide +kernel
theorem dX9_compare_24 : decode cX9_compare 24 = .ok (.ireturn, 1) := by decide +kernel
theorem dX9_compare_25 : decode cX9_compare 25 = .ok (.iconst 0, 1) := by decide +kernel
theorem dX9_compare_26 : decode cX9_compare 26 = .ok (.istore 5, 2) := by decide +kernel
theorem dX9_compare_28 : decode cX9_compare 28 = .ok (.iload 5, 2) := by decide +kernel
theorem dX9_compare_30 : decode cX9_compare 30 = .ok (.aload_n 0, 1) := by decide +kernel
theorem dX9_compare_31 : decode cX9_compare 31 = .ok (.getfield 13, 3) := by decide +kernel
theorem dX9_compare_34 : decode cX9_compare 34 = .ok (.iload_n 3, 1) := by decide +kernel
theorem dX9_compare_35 : decode cX9_compare 35 = .ok (.iaload, 1) := by decide +kernel
theorem dX9_compare_36 : decode cX9_compare 36 = .ok (.if_icmp .ge 113, 3) := by decide +kernel
theorem dX9_compare_39 : decode cX9_compare 39 = .ok (.iload 5, 2) := by decide +kernel
theorem dX9_compare_41 : decode cX9_compare 41 = .ok (.aload_n 0, 1) := by decide +kernel
theorem dX9_compare_42 : decode cX9_compare 42 = .ok (.getfield 13, 3) := by decide +kernel
theorem dX9_compare_45 : decode cX9_compare 45 = .ok (.iload 4, 2) := by decide +kernel
theorem dX9_compare_47 : decode cX9_compare 47 = .ok (.iaload, 1) := by decide +kernel
theorem dX9_compare_48 : decode cX9_compare 48 = .ok (.if_icmp .ge 101, 3) := by decide +kernel
theorem dX9_compare_51 : decode cX9_compare 51 = .ok (.aload_n 0, 1) := by decide +kernel
theorem dX9_compare_52 : decode cX9_compare 52 = .ok (.aload_n 0, 1) := by decide +kernel
theorem dX9_compare_53 : decode cX9_compare 53 = .ok (.getfield 20, 3) := by decide +kernel
theorem dX9_compare_56 : decode cX9_compare 56 = .ok (.sipush 160, 3) := by decide +kernel
theorem dX9_compare_59 : decode cX9_compare 59 = .ok (.iload_n 3, 1) := by decide +kernel
theorem dX9_compare_60 : decode cX9_compare 60 = .ok (.imul, 1) := by decide +kernel
theorem dX9_compare_61 : decode cX9_compare 61 = .ok (.iconst 4, 1) := by decide +kernel
theorem dX9_compare_62 : decode cX9_compare 62 = .ok (.iload 5, 2) := by decide +kernel
theorem dX9_compare_64 : decode cX9_compare 64 = .ok (.imul, 1) := by decide +kernel
theorem dX9_compare_65 : decode cX9_compare 65 = .ok (.iadd, 1) := by decide +kernel
theorem dX9_compare_66 : decode cX9_compare 66 = .ok (.aload_n 0, 1) := by decide +kernel
theorem dX9_compare_67 : decode cX9_compare 67 = .ok (.getfield 20, 3) := by decide +kernel
theorem dX9_compare_70 : decode cX9_compare 70 = .ok (.sipush 160, 3) := by decide +kernel
theorem dX9_compare_73 : decode cX9_compare 73 = .ok (.iload 4, 2) := by decide +kernel
theorem dX9_compare_75 : decode cX9_compare 75 = .ok (.imul, 1) := by decide +kernel
theorem dX9_compare_76 : decode cX9_compare 76 = .ok (.iconst 4, 1) := by decide +kernel
theorem dX9_compare_77 : decode cX9_compare 77 = .ok (.iload 5, 2) := by decide +kernel
theorem dX9_compare_79 : decode cX9_compare 79 = .ok (.imul, 1) := by decide +kernel
theorem dX9_compare_80 : decode cX9_compare 80 = .ok (.iadd, 1) := by decide +kernel
theorem dX9_compare_81 : decode cX9_compare 81 = .ok (.invokevirtual 93, 3) := by decide +kernel
theorem dX9_compare_84 : decode cX9_compare 84 = .ok (.istore 6, 2) := by decide +kernel
theorem dX9_compare_86 : decode cX9_compare 86 = .ok (.iload 6, 2) := by decide +kernel
theorem dX9_compare_88 : decode cX9_compare 88 = .ok (.ifCond .eq 6, 3) := by decide +kernel
theorem dX9_compare_91 : decode cX9_compare 91 = .ok (.iload 6, 2) := by decide +kernel
theorem dX9_compare_93 : decode cX9_compare 93 = .ok (.ireturn, 1) := by decide +kernel
theorem dX9_compare_94 : decode cX9_compare 94 = .ok (.aload_n 0, 1) := by decide +kernel
theorem dX9_compare_95 : decode cX9_compare 95 = .ok (.getfield 17, 3) := by decide +kernel
theorem dX9_compare_98 : decode cX9_compare 98 = .ok (.bipush 40, 2) := by decide +kernel
theorem dX9_compare_100 : decode cX9_compare 100 = .ok (.iload_n 3, 1) := by decide +kernel
theorem dX9_compare_101 : decode cX9_compare 101 = .ok (.imul, 1) := by decide +kernel
theorem dX9_compare_102 : decode cX9_compare 102 = .ok (.iload 5, 2) := by decide +kernel
theorem dX9_compare_104 : decode cX9_compare 104 = .ok (.iadd, 1) := by decide +kernel
theorem dX9_compare_105 : decode cX9_compare 105 = .ok (.iaload, 1) := by decide +kernel
theorem dX9_compare_106 : decode cX9_compare 106 = .ok (.istore 7, 2) := by decide +kernel
theorem dX9_compare_108 : decode cX9_compare 108 = .ok (.aload_n 0, 1) := by decide +kernel
theorem dX9_compare_109 : decode cX9_compare 109 = .ok (.getfield 17, 3) := by decide +kernel
theorem dX9_compare_112 : decode cX9_compare 112 = .ok (.bipush 40, 2) := by decide +kernel
theorem dX9_compare_114 : decode cX9_compare 114 = .ok (.iload 4, 2) := by decide +kernel
theorem dX9_compare_116 : decode cX9_compare 116 = .ok (.imul, 1) := by decide +kernel
theorem dX9_compare_117 : decode cX9_compare 117 = .ok (.iload 5, 2) := by decide +kernel
theorem dX9_compare_119 : decode cX9_compare 119 = .ok (.iadd, 1) := by decide +kernel
theorem dX9_compare_120 : decode cX9_compare 120 = .ok (.iaload, 1) := by decide +kernel
theorem dX9_compare_121 : decode cX9_compare 121 = .ok (.istore 8, 2) := by decide +kernel
theorem dX9_compare_123 : decode cX9_compare 123 = .ok (.iload 7, 2) := by decide +kernel
theorem dX9_compare_125 : decode cX9_compare 125 = .ok (.iload 8, 2) := by decide +kernel
theorem dX9_compare_127 : decode cX9_compare 127 = .ok (.if_icmp .eq 16, 3) := by decide +kernel
theorem dX9_compare_130 : decode cX9_compare 130 = .ok (.iload 7, 2) := by decide +kernel
theorem dX9_compare_132 : decode cX9_compare 132 = .ok (.iload 8, 2) := by decide +kernel
theorem dX9_compare_134 : decode cX9_compare 134 = .ok (.if_icmp .ge 7, 3) := by decide +kernel
theorem dX9_compare_137 : decode cX9_compare 137 = .ok (.iconst (-1), 1) := by decide +kernel
theorem dX9_compare_138 : decode cX9_compare 138 = .ok (.goto 4, 3) := by decide +kernel
theorem dX9_compare_141 : decode cX9_compare 141 = .ok (.iconst 1, 1) := by decide +kernel
theorem dX9_compare_142 : decode cX9_compare 142 = .ok (.ireturn, 1) := by decide +kernel
theorem dX9_compare_143 : decode cX9_compare 143 = .ok (.iinc 5 1, 3) := by decide +kernel
theorem dX9_compare_146 : decode cX9_compare 146 = .ok (.goto (-118), 3) := by decide +kernel
theorem dX9_compare_149 : decode cX9_compare 149 = .ok (.aload_n 0, 1) := by decide +kernel
theorem dX9_compare_150 : decode cX9_compare 150 = .ok (.getfield 13, 3) := by decide +kernel
theorem dX9_compare_153 : decode cX9_compare 153 = .ok (.iload_n 3, 1) := by decide +kernel
theorem dX9_compare_154 : decode cX9_compare 154 = .ok (.iaload, 1) := by decide +kernel
theorem dX9_compare_155 : decode cX9_compare 155 = .ok (.aload_n 0, 1) := by decide +kernel
theorem dX9_compare_156 : decode cX9_compare 156 = .ok (.getfield 13, 3) := by decide +kernel
theorem dX9_compare_159 : decode cX9_compare 159 = .ok (.iload 4, 2) := by decide +kernel
theorem dX9_compare_161 : decode cX9_compare 161 = .ok (.iaload, 1) := by decide +kernel
theorem dX9_compare_162 : decode cX9_compare 162 = .ok (.if_icmp .ne 7, 3) := by decide +kernel
theorem dX9_compare_165 : decode cX9_compare 165 = .ok (.iconst 0, 1) := by decide +kernel
theorem dX9_compare_166 : decode cX9_compare 166 = .ok (.goto 24, 3) := by decide +kernel
theorem dX9_compare_169 : decode cX9_compare 169 = .ok (.aload_n 0, 1) := by decide +kernel
theorem dX9_compare_170 : decode cX9_compare 170 = .ok (.getfield 13, 3) := by decide +kernel
theorem dX9_compare_173 : decode cX9_compare 173 = .ok (.iload_n 3, 1) := by decide +kernel
theorem dX9_compare_174 : decode cX9_compare 174 = .ok (.iaload, 1) := by decide +kernel
theorem dX9_compare_175 : decode cX9_compare 175 = .ok (.aload_n 0, 1) := by decide +kernel
theorem dX9_compare_176 : decode cX9_compare 176 = .ok (.getfield 13, 3) := by decide +kernel
theorem dX9_compare_179 : decode cX9_compare 179 = .ok (.iload 4, 2) := by decide +kernel
theorem dX9_compare_181 : decode cX9_compare 181 = .ok (.iaload, 1) := by decide +kernel
theorem dX9_compare_182 : decode cX9_compare 182 = .ok (.if_icmp .ge 7, 3) := by decide +kernel
theorem dX9_compare_185 : decode cX9_compare 185 = .ok (.iconst (-1), 1) := by decide +kernel
theorem dX9_compare_186 : decode cX9_compare 186 = .ok (.goto 4, 3) := by decide +kernel
theorem dX9_compare_189 : decode cX9_compare 189 = .ok (.iconst 1, 1) := by decide +kernel
theorem dX9_compare_190 : decode cX9_compare 190 = .ok (.ireturn, 1) := by decide +kernel
theorem dX9_reducer_0 : decode cX9_reducer 0 = .ok (.iconst 0, 1) := by decide +kernel
theorem dX9_reducer_1 : decode cX9_reducer 1 = .ok (.istore_n 1, 1) := by decide +kernel
theorem dX9_reducer_2 : decode cX9_reducer 2 = .ok (.iload_n 1, 1) := by decide +kernel
theorem dX9_reducer_3 : decode cX9_reducer 3 = .ok (.aload_n 0, 1) := by decide +kernel
theorem dX9_reducer_4 : decode cX9_reducer 4 = .ok (.getfield 151, 3) := by decide +kernel
theorem dX9_reducer_7 : decode cX9_reducer 7 = .ok (.if_icmp .ge 41, 3) := by decide +kernel
theorem dX9_reducer_10 : decode cX9_reducer 10 = .ok (.aload_n 0, 1) := by decide +kernel
theorem dX9_reducer_11 : decode cX9_reducer 11 = .ok (.getfield 20, 3) := by decide +kernel
theorem dX9_reducer_14 : decode cX9_reducer 14 = .ok (.sipush 160, 3) := by decide +kernel
theorem dX9_reducer_17 : decode cX9_reducer 17 = .ok (.aload_n 0, 1) := by decide +kernel
theorem dX9_reducer_18 : decode cX9_reducer 18 = .ok (.getfield 50, 3) := by decide +kernel
theorem dX9_reducer_21 : decode cX9_reducer 21 = .ok (.iload_n 1, 1) := by decide +kernel
theorem dX9_reducer_22 : decode cX9_reducer 22 = .ok (.iaload, 1) := by decide +kernel
theorem dX9_reducer_23 : decode cX9_reducer 23 = .ok (.imul, 1) := by decide +kernel
theorem dX9_reducer_24 : decode cX9_reducer 24 = .ok (.aload_n 0, 1) := by decide +kernel
theorem dX9_reducer_25 : decode cX9_reducer 25 = .ok (.getfield 35, 3) := by decide +kernel
theorem dX9_reducer_28 : decode cX9_reducer 28 = .ok (.iconst 0, 1) := by decide +kernel
theorem dX9_reducer_29 : decode cX9_reducer 29 = .ok (.invokestatic 154, 3) := by decide +kernel
theorem dX9_reducer_32 : decode cX9_reducer 32 = .ok (.ifCond .eq 10, 3) := by decide +kernel
theorem dX9_reducer_35 : decode cX9_reducer 35 = .ok (.aload_n 0, 1) := by decide +kernel
theorem dX9_reducer_36 : decode cX9_reducer 36 = .ok (.getfield 50, 3) := by decide +kernel
theorem dX9_reducer_39 : decode cX9_reducer 39 = .ok (.iload_n 1, 1) := by decide +kernel
theorem dX9_reducer_40 : decode cX9_reducer 40 = .ok (.iaload, 1) := by decide +kernel
theorem dX9_reducer_41 : decode cX9_reducer 41 = .ok (.ireturn, 1) := by decide +kernel
theorem dX9_reducer_42 : decode cX9_reducer 42 = .ok (.iinc 1 1, 3) := by decide +kernel
theorem dX9_reducer_45 : decode cX9_reducer 45 = .ok (.goto (-43), 3) := by decide +kernel
theorem dX9_reducer_48 : decode cX9_reducer 48 = .ok (.iconst (-1), 1) := by decide +kernel
theorem dX9_reducer_49 : decode cX9_reducer 49 = .ok (.ireturn, 1) := by decide +kernel
theorem dX9_reduce_0 : decode cX9_reduce 0 = .ok (.aload_n 0, 1) := by decide +kernel
theorem dX9_reduce_1 : decode cX9_reduce 1 = .ok (.getfield 158, 3) := by decide +kernel
theorem dX9_reduce_4 : decode cX9_reduce 4 = .ok (.aload_n 0, 1) := by decide +kernel
theorem dX9_reduce_5 : decode cX9_reduce 5 = .ok (.getfield 29, 3) := by decide +kernel
theorem dX9_reduce_8 : decode cX9_reduce 8 = .ok (.if_icmp .ne 6, 3) := by decide +kernel
theorem dX9_reduce_11 : decode cX9_reduce 11 = .ok (.bipush (-7), 2) := by decide +kernel
theorem dX9_reduce_13 : decode cX9_reduce 13 = .ok (.ireturn, 1) := by decide +kernel
theorem dX9_reduce_14 : decode cX9_reduce 14 = .ok (.aload_n 0, 1) := by decide +kernel
theorem dX9_reduce_15 : decode cX9_reduce 15 = .ok (.dup, 1) := by decide +kernel
theorem dX9_reduce_16 : decode cX9_reduce 16 = .ok (.getfield 158, 3) := by decide +kernel
theorem dX9_reduce_19 : decode cX9_reduce 19 = .ok (.iconst 1, 1) := by decide +kernel
theorem dX9_reduce_20 : decode cX9_reduce 20 = .ok (.iadd, 1) := by decide +kernel
theorem dX9_reduce_21 : decode cX9_reduce 21 = .ok (.putfield 158, 3) := by decide +kernel
theorem dX9_reduce_24 : decode cX9_reduce 24 = .ok (.aload_n 0, 1) := by decide +kernel
theorem dX9_reduce_25 : decode cX9_reduce 25 = .ok (.dup, 1) := by decide +kernel
theorem dX9_reduce_26 : decode cX9_reduce 26 = .ok (.getfield 161, 3) := by decide +kernel
theorem dX9_reduce_29 : decode cX9_reduce 29 = .ok (.iconst 1, 1) := by decide +kernel
theorem dX9_reduce_30 : decode cX9_reduce 30 = .ok (.iadd, 1) := by decide +kernel
theorem dX9_reduce_31 : decode cX9_reduce 31 = .ok (.putfield 161, 3) := by decide +kernel
theorem dX9_reduce_34 : decode cX9_reduce 34 = .ok (.iconst 0, 1) := by decide +kernel
theorem dX9_reduce_35 : decode cX9_reduce 35 = .ok (.istore_n 2, 1) := by decide +kernel
theorem dX9_reduce_36 : decode cX9_reduce 36 = .ok (.iload_n 2, 1) := by decide +kernel
theorem dX9_reduce_37 : decode cX9_reduce 37 = .ok (.iconst 4, 1) := by decide +kernel
theorem dX9_reduce_38 : decode cX9_reduce 38 = .ok (.if_icmp .ge 34, 3) := by decide +kernel
theorem dX9_reduce_41 : decode cX9_reduce 41 = .ok (.aload_n 0, 1) := by decide +kernel
theorem dX9_reduce_42 : decode cX9_reduce 42 = .ok (.getfield 41, 3) := by decide +kernel
theorem dX9_reduce_45 : decode cX9_reduce 45 = .ok (.iload_n 2, 1) := by decide +kernel
theorem dX9_reduce_46 : decode cX9_reduce 46 = .ok (.aload_n 0, 1) := by decide +kernel
theorem dX9_reduce_47 : decode cX9_reduce 47 = .ok (.getfield 35, 3) := by decide +kernel
theorem dX9_reduce_50 : decode cX9_reduce 50 = .ok (.iload_n 2, 1) := by decide +kernel
theorem dX9_reduce_51 : decode cX9_reduce 51 = .ok (.iaload, 1) := by decide +kernel
theorem dX9_reduce_52 : decode cX9_reduce 52 = .ok (.aload_n 0, 1) := by decide +kernel
theorem dX9_reduce_53 : decode cX9_reduce 53 = .ok (.getfield 20, 3) := by decide +kernel
theorem dX9_reduce_56 : decode cX9_reduce 56 = .ok (.sipush 160, 3) := by decide +kernel
theorem dX9_reduce_59 : decode cX9_reduce 59 = .ok (.iload_n 1, 1) := by decide +kernel
theorem dX9_reduce_60 : decode cX9_reduce 60 = .ok (.imul, 1) := by decide +kernel
theorem dX9_reduce_61 : decode cX9_reduce 61 = .ok (.iload_n 2, 1) := by decide +kernel
theorem dX9_reduce_62 : decode cX9_reduce 62 = .ok (.iadd, 1) := by decide +kernel
theorem dX9_reduce_63 : decode cX9_reduce 63 = .ok (.iaload, 1) := by decide +kernel
theorem dX9_reduce_64 : decode cX9_reduce 64 = .ok (.isub, 1) := by decide +kernel
theorem dX9_reduce_65 : decode cX9_reduce 65 = .ok (.iastore, 1) := by decide +kernel
theorem dX9_reduce_66 : decode cX9_reduce 66 = .ok (.iinc 2 1, 3) := by decide +kernel
theorem dX9_reduce_69 : decode cX9_reduce 69 = .ok (.goto (-33), 3) := by decide +kernel
theorem dX9_reduce_72 : decode cX9_reduce 72 = .ok (.aload_n 0, 1) := by decide +kernel
theorem dX9_reduce_73 : decode cX9_reduce 73 = .ok (.getfield 32, 3) := by decide +kernel
theorem dX9_reduce_76 : decode cX9_reduce 76 = .ok (.iconst 0, 1) := by decide +kernel
theorem dX9_reduce_77 : decode cX9_reduce 77 = .ok (.iaload, 1) := by decide +kernel
theorem dX9_reduce_78 : decode cX9_reduce 78 = .ok (.aload_n 0, 1) := by decide +kernel
theorem dX9_reduce_79 : decode cX9_reduce 79 = .ok (.aload_n 0, 1) := by decide +kernel
theorem dX9_reduce_80 : decode cX9_reduce 80 = .ok (.getfield 17, 3) := by decide +kernel
theorem dX9_reduce_83 : decode cX9_reduce 83 = .ok (.bipush 40, 2) := by decide +kernel
theorem dX9_reduce_85 : decode cX9_reduce 85 = .ok (.iload_n 1, 1) := by decide +kernel
theorem dX9_reduce_86 : decode cX9_reduce 86 = .ok (.imul, 1) := by decide +kernel
theorem dX9_reduce_87 : decode cX9_reduce 87 = .ok (.iaload, 1) := by decide +kernel
theorem dX9_reduce_88 : decode cX9_reduce 88 = .ok (.invokevirtual 141, 3) := by decide +kernel
theorem dX9_reduce_91 : decode cX9_reduce 91 = .ok (.imul, 1) := by decide +kernel
theorem dX9_reduce_92 : decode cX9_reduce 92 = .ok (.aload_n 0, 1) := by decide +kernel
theorem dX9_reduce_93 : decode cX9_reduce 93 = .ok (.getfield 72, 3) := by decide +kernel
theorem dX9_reduce_96 : decode cX9_reduce 96 = .ok (.irem, 1) := by decide +kernel
theorem dX9_reduce_97 : decode cX9_reduce 97 = .ok (.istore_n 2, 1) := by decide +kernel
theorem dX9_reduce_98 : decode cX9_reduce 98 = .ok (.aload_n 0, 1) := by decide +kernel
theorem dX9_reduce_99 : decode cX9_reduce 99 = .ok (.iload_n 1, 1) := by decide +kernel
theorem dX9_reduce_100 : decode cX9_reduce 100 = .ok (.aload_n 0, 1) := by decide +kernel
theorem dX9_reduce_101 : decode cX9_reduce 101 = .ok (.getfield 72, 3) := by decide +kernel
theorem dX9_reduce_104 : decode cX9_reduce 104 = .ok (.iload_n 2, 1) := by decide +kernel
theorem dX9_reduce_105 : decode cX9_reduce 105 = .ok (.isub, 1) := by decide +kernel
theorem dX9_reduce_106 : decode cX9_reduce 106 = .ok (.aload_n 0, 1) := by decide +kernel
theorem dX9_reduce_107 : decode cX9_reduce 107 = .ok (.getfield 72, 3) := by decide +kernel
theorem dX9_reduce_110 : decode cX9_reduce 110 = .ok (.irem, 1) := by decide +kernel
theorem dX9_reduce_111 : decode cX9_reduce 111 = .ok (.invokevirtual 116, 3) := by decide +kernel
theorem dX9_reduce_114 : decode cX9_reduce 114 = .ok (.ifCond .ne 6, 3) := by decide +kernel
theorem dX9_reduce_117 : decode cX9_reduce 117 = .ok (.bipush (-5), 2) := by decide +kernel
theorem dX9_reduce_119 : decode cX9_reduce 119 = .ok (.ireturn, 1) := by decide +kernel
theorem dX9_reduce_120 : decode cX9_reduce 120 = .ok (.aload_n 0, 1) := by decide +kernel
theorem dX9_reduce_121 : decode cX9_reduce 121 = .ok (.invokevirtual 110, 3) := by decide +kernel
theorem dX9_reduce_124 : decode cX9_reduce 124 = .ok (.aload_n 0, 1) := by decide +kernel
theorem dX9_reduce_125 : decode cX9_reduce 125 = .ok (.getfield 90, 3) := by decide +kernel
theorem dX9_reduce_128 : decode cX9_reduce 128 = .ok (.bipush 40, 2) := by decide +kernel
theorem dX9_reduce_130 : decode cX9_reduce 130 = .ok (.if_icmp .le 8, 3) := by decide +kernel
theorem dX9_reduce_133 : decode cX9_reduce 133 = .ok (.bipush (-6), 2) := by decide +kernel
theorem dX9_reduce_135 : decode cX9_reduce 135 = .ok (.goto 4, 3) := by decide +kernel
theorem dX9_reduce_138 : decode cX9_reduce 138 = .ok (.iconst 0, 1) := by decide +kernel
theorem dX9_reduce_139 : decode cX9_reduce 139 = .ok (.ireturn, 1) := by decide +kernel
theorem dX9_goOver_0 : decode cX9_goOver 0 = .ok (.aload_n 0, 1) := by decide +kernel
theorem dX9_goOver_1 : decode cX9_goOver 1 = .ok (.getfield 164, 3) := by decide +kernel
theorem dX9_goOver_4 : decode cX9_goOver 4 = .ok (.bipush 40, 2) := by decide +kernel
theorem dX9_goOver_6 : decode cX9_goOver 6 = .ok (.if_icmp .ne 6, 3) := by decide +kernel
theorem dX9_goOver_9 : decode cX9_goOver 9 = .ok (.bipush (-6), 2) := by decide +kernel
theorem dX9_goOver_11 : decode cX9_goOver 11 = .ok (.ireturn, 1) := by decide +kernel
theorem dX9_goOver_12 : decode cX9_goOver 12 = .ok (.aload_n 0, 1) := by decide +kernel
theorem dX9_goOver_13 : decode cX9_goOver 13 = .ok (.getfield 53, 3) := by decide +kernel
theorem dX9_goOver_16 : decode cX9_goOver 16 = .ok (.aload_n 0, 1) := by decide +kernel
theorem dX9_goOver_17 : decode cX9_goOver 17 = .ok (.getfield 164, 3) := by decide +kernel
theorem dX9_goOver_20 : decode cX9_goOver 20 = .ok (.aload_n 0, 1) := by decide +kernel
theorem dX9_goOver_21 : decode cX9_goOver 21 = .ok (.getfield 32, 3) := by decide +kernel
theorem dX9_goOver_24 : decode cX9_goOver 24 = .ok (.iconst 0, 1) := by decide +kernel
theorem dX9_goOver_25 : decode cX9_goOver 25 = .ok (.iaload, 1) := by decide +kernel
theorem dX9_goOver_26 : decode cX9_goOver 26 = .ok (.iastore, 1) := by decide +kernel
theorem dX9_goOver_27 : decode cX9_goOver 27 = .ok (.iconst 0, 1) := by decide +kernel
theorem dX9_goOver_28 : decode cX9_goOver 28 = .ok (.istore_n 1, 1) := by decide +kernel
theorem dX9_goOver_29 : decode cX9_goOver 29 = .ok (.iload_n 1, 1) := by decide +kernel
theorem dX9_goOver_30 : decode cX9_goOver 30 = .ok (.iconst 4, 1) := by decide +kernel
theorem dX9_goOver_31 : decode cX9_goOver 31 = .ok (.if_icmp .ge 28, 3) := by decide +kernel
theorem dX9_goOver_34 : decode cX9_goOver 34 = .ok (.aload_n 0, 1) := by decide +kernel
theorem dX9_goOver_35 : decode cX9_goOver 35 = .ok (.getfield 56, 3) := by decide +kernel
theorem dX9_goOver_38 : decode cX9_goOver 38 = .ok (.iconst 4, 1) := by decide +kernel
theorem dX9_goOver_39 : decode cX9_goOver 39 = .ok (.aload_n 0, 1) := by decide +kernel
theorem dX9_goOver_40 : decode cX9_goOver 40 = .ok (.getfield 164, 3) := by decide +kernel
theorem dX9_goOver_43 : decode cX9_goOver 43 = .ok (.imul, 1) := by decide +kernel
theorem dX9_goOver_44 : decode cX9_goOver 44 = .ok (.iload_n 1, 1) := by decide +kernel
theorem dX9_goOver_45 : decode cX9_goOver 45 = .ok (.iadd, 1) := by decide +kernel
theorem dX9_goOver_46 : decode cX9_goOver 46 = .ok (.aload_n 0, 1) := by decide +kernel
theorem dX9_goOver_47 : decode cX9_goOver 47 = .ok (.getfield 35, 3) := by decide +kernel
theorem dX9_goOver_50 : decode cX9_goOver 50 = .ok (.iload_n 1, 1) := by decide +kernel
theorem dX9_goOver_51 : decode cX9_goOver 51 = .ok (.iaload, 1) := by decide +kernel
theorem dX9_goOver_52 : decode cX9_goOver 52 = .ok (.iastore, 1) := by decide +kernel
theorem dX9_goOver_53 : decode cX9_goOver 53 = .ok (.iinc 1 1, 3) := by decide +kernel
theorem dX9_goOver_56 : decode cX9_goOver 56 = .ok (.goto (-27), 3) := by decide +kernel
theorem dX9_goOver_59 : decode cX9_goOver 59 = .ok (.aload_n 0, 1) := by decide +kernel
theorem dX9_goOver_60 : decode cX9_goOver 60 = .ok (.dup, 1) := by decide +kernel
theorem dX9_goOver_61 : decode cX9_goOver 61 = .ok (.getfield 164, 3) := by decide +kernel
theorem dX9_goOver_64 : decode cX9_goOver 64 = .ok (.iconst 1, 1) := by decide +kernel
theorem dX9_goOver_65 : decode cX9_goOver 65 = .ok (.iadd, 1) := by decide +kernel
theorem dX9_goOver_66 : decode cX9_goOver 66 = .ok (.putfield 164, 3) := by decide +kernel
theorem dX9_goOver_69 : decode cX9_goOver 69 = .ok (.aload_n 0, 1) := by decide +kernel
theorem dX9_goOver_70 : decode cX9_goOver 70 = .ok (.dup, 1) := by decide +kernel
theorem dX9_goOver_71 : decode cX9_goOver 71 = .ok (.getfield 90, 3) := by decide +kernel
theorem dX9_goOver_74 : decode cX9_goOver 74 = .ok (.iconst 1, 1) := by decide +kernel
theorem dX9_goOver_75 : decode cX9_goOver 75 = .ok (.isub, 1) := by decide +kernel
theorem dX9_goOver_76 : decode cX9_goOver 76 = .ok (.putfield 90, 3) := by decide +kernel
theorem dX9_goOver_79 : decode cX9_goOver 79 = .ok (.iconst 0, 1) := by decide +kernel
theorem dX9_goOver_80 : decode cX9_goOver 80 = .ok (.istore_n 1, 1) := by decide +kernel
theorem dX9_goOver_81 : decode cX9_goOver 81 = .ok (.iload_n 1, 1) := by decide +kernel
theorem dX9_goOver_82 : decode cX9_goOver 82 = .ok (.aload_n 0, 1) := by decide +kernel
theorem dX9_goOver_83 : decode cX9_goOver 83 = .ok (.getfield 90, 3) := by decide +kernel
theorem dX9_goOver_86 : decode cX9_goOver 86 = .ok (.if_icmp .ge 58, 3) := by decide +kernel
theorem dX9_goOver_89 : decode cX9_goOver 89 = .ok (.aload_n 0, 1) := by decide +kernel
theorem dX9_goOver_90 : decode cX9_goOver 90 = .ok (.getfield 32, 3) := by decide +kernel
theorem dX9_goOver_93 : decode cX9_goOver 93 = .ok (.iload_n 1, 1) := by decide +kernel
theorem dX9_goOver_94 : decode cX9_goOver 94 = .ok (.aload_n 0, 1) := by decide +kernel
theorem dX9_goOver_95 : decode cX9_goOver 95 = .ok (.getfield 32, 3) := by decide +kernel
theorem dX9_goOver_98 : decode cX9_goOver 98 = .ok (.iload_n 1, 1) := by decide +kernel
theorem dX9_goOver_99 : decode cX9_goOver 99 = .ok (.iconst 1, 1) := by decide +kernel
theorem dX9_goOver_100 : decode cX9_goOver 100 = .ok (.iadd, 1) := by decide +kernel
theorem dX9_goOver_101 : decode cX9_goOver 101 = .ok (.iaload, 1) := by decide +kernel
theorem dX9_goOver_102 : decode cX9_goOver 102 = .ok (.iastore, 1) := by decide +kernel
theorem dX9_goOver_103 : decode cX9_goOver 103 = .ok (.iconst 0, 1) := by decide +kernel
theorem dX9_goOver_104 : decode cX9_goOver 104 = .ok (.istore_n 2, 1) := by decide +kernel
theorem dX9_goOver_105 : decode cX9_goOver 105 = .ok (.iload_n 2, 1) := by decide +kernel
theorem dX9_goOver_106 : decode cX9_goOver 106 = .ok (.iconst 4, 1) := by decide +kernel
theorem dX9_goOver_107 : decode cX9_goOver 107 = .ok (.if_icmp .ge 31, 3) := by decide +kernel
theorem dX9_goOver_110 : decode cX9_goOver 110 = .ok (.aload_n 0, 1) := by decide +kernel
theorem dX9_goOver_111 : decode cX9_goOver 111 = .ok (.getfield 35, 3) := by decide +kernel
theorem dX9_goOver_114 : decode cX9_goOver 114 = .ok (.iconst 4, 1) := by decide +kernel
theorem dX9_goOver_115 : decode cX9_goOver 115 = .ok (.iload_n 1, 1) := by decide +kernel
theorem dX9_goOver_116 : decode cX9_goOver 116 = .ok (.imul, 1) := by decide +kernel
theorem dX9_goOver_117 : decode cX9_goOver 117 = .ok (.iload_n 2, 1) := by decide +kernel
theorem dX9_goOver_118 : decode cX9_goOver 118 = .ok (.iadd, 1) := by decide +kernel
theorem dX9_goOver_119 : decode cX9_goOver 119 = .ok (.aload_n 0, 1) := by decide +kernel
theorem dX9_goOver_120 : decode cX9_goOver 120 = .ok (.getfield 35, 3) := by decide +kernel
theorem dX9_goOver_123 : decode cX9_goOver 123 = .ok (.iconst 4, 1) := by decide +kernel
theorem dX9_goOver_124 : decode cX9_goOver 124 = .ok (.iload_n 1, 1) := by decide +kernel
theorem dX9_goOver_125 : decode cX9_goOver 125 = .ok (.imul, 1) := by decide +kernel
theorem dX9_goOver_126 : decode cX9_goOver 126 = .ok (.iconst 4, 1) := by decide +kernel
theorem dX9_goOver_127 : decode cX9_goOver 127 = .ok (.iadd, 1) := by decide +kernel
theorem dX9_goOver_128 : decode cX9_goOver 128 = .ok (.iload_n 2, 1) := by decide +kernel
theorem dX9_goOver_129 : decode cX9_goOver 129 = .ok (.iadd, 1) := by decide +kernel
theorem dX9_goOver_130 : decode cX9_goOver 130 = .ok (.iaload, 1) := by decide +kernel
theorem dX9_goOver_131 : decode cX9_goOver 131 = .ok (.iastore, 1) := by decide +kernel
theorem dX9_goOver_132 : decode cX9_goOver 132 = .ok (.iinc 2 1, 3) := by decide +kernel
theorem dX9_goOver_135 : decode cX9_goOver 135 = .ok (.goto (-30), 3) := by decide +kernel
theorem dX9_goOver_138 : decode cX9_goOver 138 = .ok (.iinc 1 1, 3) := by decide +kernel
theorem dX9_goOver_141 : decode cX9_goOver 141 = .ok (.goto (-60), 3) := by decide +kernel
theorem dX9_goOver_144 : decode cX9_goOver 144 = .ok (.iconst 0, 1) := by decide +kernel
theorem dX9_goOver_145 : decode cX9_goOver 145 = .ok (.ireturn, 1) := by decide +kernel
theorem dX9_leave_0 : decode cX9_leave 0 = .ok (.aload_n 0, 1) := by decide +kernel
theorem dX9_leave_1 : decode cX9_leave 1 = .ok (.iconst 0, 1) := by decide +kernel
theorem dX9_leave_2 : decode cX9_leave 2 = .ok (.putfield 164, 3) := by decide +kernel
theorem dX9_leave_5 : decode cX9_leave 5 = .ok (.aload_n 0, 1) := by decide +kernel
theorem dX9_leave_6 : decode cX9_leave 6 = .ok (.getfield 90, 3) := by decide +kernel
theorem dX9_leave_9 : decode cX9_leave 9 = .ok (.ifCond .le 35, 3) := by decide +kernel
theorem dX9_leave_12 : decode cX9_leave 12 = .ok (.aload_n 0, 1) := by decide +kernel
theorem dX9_leave_13 : decode cX9_leave 13 = .ok (.invokevirtual 166, 3) := by decide +kernel
theorem dX9_leave_16 : decode cX9_leave 16 = .ok (.istore_n 1, 1) := by decide +kernel
theorem dX9_leave_17 : decode cX9_leave 17 = .ok (.iload_n 1, 1) := by decide +kernel
theorem dX9_leave_18 : decode cX9_leave 18 = .ok (.iconst (-1), 1) := by decide +kernel
theorem dX9_leave_19 : decode cX9_leave 19 = .ok (.if_icmp .ne 10, 3) := by decide +kernel
theorem dX9_leave_22 : decode cX9_leave 22 = .ok (.aload_n 0, 1) := by decide +kernel
theorem dX9_leave_23 : decode cX9_leave 23 = .ok (.invokevirtual 169, 3) := by decide +kernel
theorem dX9_leave_26 : decode cX9_leave 26 = .ok (.goto 8, 3) := by decide +kernel
theorem dX9_leave_29 : decode cX9_leave 29 = .ok (.aload_n 0, 1) := by decide +kernel
theorem dX9_leave_30 : decode cX9_leave 30 = .ok (.iload_n 1, 1) := by decide +kernel
theorem dX9_leave_31 : decode cX9_leave 31 = .ok (.invokevirtual 172, 3) := by decide +kernel
theorem dX9_leave_34 : decode cX9_leave 34 = .ok (.istore_n 2, 1) := by decide +kernel
theorem dX9_leave_35 : decode cX9_leave 35 = .ok (.iload_n 2, 1) := by decide +kernel
theorem dX9_leave_36 : decode cX9_leave 36 = .ok (.ifCond .ge 5, 3) := by decide +kernel
theorem dX9_leave_39 : decode cX9_leave 39 = .ok (.iload_n 2, 1) := by decide +kernel
theorem dX9_leave_40 : decode cX9_leave 40 = .ok (.ireturn, 1) := by decide +kernel
theorem dX9_leave_41 : decode cX9_leave 41 = .ok (.goto (-36), 3) := by decide +kernel
theorem dX9_leave_44 : decode cX9_leave 44 = .ok (.aload_n 0, 1) := by decide +kernel
theorem dX9_leave_45 : decode cX9_leave 45 = .ok (.aload_n 0, 1) := by decide +kernel
theorem dX9_leave_46 : decode cX9_leave 46 = .ok (.getfield 164, 3) := by decide +kernel
theorem dX9_leave_49 : decode cX9_leave 49 = .ok (.putfield 90, 3) := by decide +kernel
theorem dX9_leave_52 : decode cX9_leave 52 = .ok (.iconst 0, 1) := by decide +kernel
theorem dX9_leave_53 : decode cX9_leave 53 = .ok (.istore_n 1, 1) := by decide +kernel
theorem dX9_leave_54 : decode cX9_leave 54 = .ok (.iload_n 1, 1) := by decide +kernel
theorem dX9_leave_55 : decode cX9_leave 55 = .ok (.aload_n 0, 1) := by decide +kernel
theorem dX9_leave_56 : decode cX9_leave 56 = .ok (.getfield 164, 3) := by decide +kernel
theorem dX9_leave_59 : decode cX9_leave 59 = .ok (.if_icmp .ge 54, 3) := by decide +kernel
theorem dX9_leave_62 : decode cX9_leave 62 = .ok (.aload_n 0, 1) := by decide +kernel
theorem dX9_leave_63 : decode cX9_leave 63 = .ok (.getfield 32, 3) := by decide +kernel
theorem dX9_leave_66 : decode cX9_leave 66 = .ok (.iload_n 1, 1) := by decide +kernel
theorem dX9_leave_67 : decode cX9_leave 67 = .ok (.aload_n 0, 1) := by decide +kernel
theorem dX9_leave_68 : decode cX9_leave 68 = .ok (.getfield 53, 3) := by decide +kernel
theorem dX9_leave_71 : decode cX9_leave 71 = .ok (.iload_n 1, 1) := by decide +kernel
theorem dX9_leave_72 : decode cX9_leave 72 = .ok (.iaload, 1) := by decide +kernel
theorem dX9_leave_73 : decode cX9_leave 73 = .ok (.iastore, 1) := by decide +kernel
theorem dX9_leave_74 : decode cX9_leave 74 = .ok (.iconst 0, 1) := by decide +kernel
theorem dX9_leave_75 : decode cX9_leave 75 = .ok (.istore_n 2, 1) := by decide +kernel
theorem dX9_leave_76 : decode cX9_leave 76 = .ok (.iload_n 2, 1) := by decide +kernel
theorem dX9_leave_77 : decode cX9_leave 77 = .ok (.iconst 4, 1) := by decide +kernel
theorem dX9_leave_78 : decode cX9_leave 78 = .ok (.if_icmp .ge 29, 3) := by decide +kernel
theorem dX9_leave_81 : decode cX9_leave 81 = .ok (.aload_n 0, 1) := by decide +kernel
theorem dX9_leave_82 : decode cX9_leave 82 = .ok (.getfield 35, 3) := by decide +kernel
theorem dX9_leave_85 : decode cX9_leave 85 = .ok (.iconst 4, 1) := by decide +kernel
theorem dX9_leave_86 : decode cX9_leave 86 = .ok (.iload_n 1, 1) := by decide +kernel
theorem dX9_leave_87 : decode cX9_leave 87 = .ok (.imul, 1) := by decide +kernel
theorem dX9_leave_88 : decode cX9_leave 88 = .ok (.iload_n 2, 1) := by decide +kernel
theorem dX9_leave_89 : decode cX9_leave 89 = .ok (.iadd, 1) := by decide +kernel
theorem dX9_leave_90 : decode cX9_leave 90 = .ok (.aload_n 0, 1) := by decide +kernel
theorem dX9_leave_91 : decode cX9_leave 91 = .ok (.getfield 56, 3) := by decide +kernel
theorem dX9_leave_94 : decode cX9_leave 94 = .ok (.iconst 4, 1) := by decide +kernel
theorem dX9_leave_95 : decode cX9_leave 95 = .ok (.iload_n 1, 1) := by decide +kernel
theorem dX9_leave_96 : decode cX9_leave 96 = .ok (.imul, 1) := by decide +kernel
theorem dX9_leave_97 : decode cX9_leave 97 = .ok (.iload_n 2, 1) := by decide +kernel
theorem dX9_leave_98 : decode cX9_leave 98 = .ok (.iadd, 1) := by decide +kernel
theorem dX9_leave_99 : decode cX9_leave 99 = .ok (.iaload, 1) := by decide +kernel
theorem dX9_leave_100 : decode cX9_leave 100 = .ok (.iastore, 1) := by decide +kernel
theorem dX9_leave_101 : decode cX9_leave 101 = .ok (.iinc 2 1, 3) := by decide +kernel
theorem dX9_leave_104 : decode cX9_leave 104 = .ok (.goto (-28), 3) := by decide +kernel
theorem dX9_leave_107 : decode cX9_leave 107 = .ok (.iinc 1 1, 3) := by decide +kernel
theorem dX9_leave_110 : decode cX9_leave 110 = .ok (.goto (-56), 3) := by decide +kernel
theorem dX9_leave_113 : decode cX9_leave 113 = .ok (.iconst 0, 1) := by decide +kernel
theorem dX9_leave_114 : decode cX9_leave 114 = .ok (.ireturn, 1) := by decide +kernel
theorem dX9_byBasis_0 : decode cX9_byBasis 0 = .ok (.aload_n 0, 1) := by decide +kernel
theorem dX9_byBasis_1 : decode cX9_byBasis 1 = .ok (.aload_n 0, 1) := by decide +kernel
theorem dX9_byBasis_2 : decode cX9_byBasis 2 = .ok (.getfield 107, 3) := by decide +kernel
theorem dX9_byBasis_5 : decode cX9_byBasis 5 = .ok (.putfield 151, 3) := by decide +kernel
theorem dX9_byBasis_8 : decode cX9_byBasis 8 = .ok (.iconst 0, 1) := by decide +kernel
theorem dX9_byBasis_9 : decode cX9_byBasis 9 = .ok (.istore_n 1, 1) := by decide +kernel
theorem dX9_byBasis_10 : decode cX9_byBasis 10 = .ok (.iload_n 1, 1) := by decide +kernel
theorem dX9_byBasis_11 : decode cX9_byBasis 11 = .ok (.aload_n 0, 1) := by decide +kernel
theorem dX9_byBasis_12 : decode cX9_byBasis 12 = .ok (.getfield 107, 3) := by decide +kernel
theorem dX9_byBasis_15 : decode cX9_byBasis 15 = .ok (.if_icmp .ge 19, 3) := by decide +kernel
theorem dX9_byBasis_18 : decode cX9_byBasis 18 = .ok (.aload_n 0, 1) := by decide +kernel
theorem dX9_byBasis_19 : decode cX9_byBasis 19 = .ok (.getfield 50, 3) := by decide +kernel
theorem dX9_byBasis_22 : decode cX9_byBasis 22 = .ok (.iload_n 1, 1) := by decide +kernel
theorem dX9_byBasis_23 : decode cX9_byBasis 23 = .ok (.bipush 25, 2) := by decide +kernel
theorem dX9_byBasis_25 : decode cX9_byBasis 25 = .ok (.iload_n 1, 1) := by decide +kernel
theorem dX9_byBasis_26 : decode cX9_byBasis 26 = .ok (.iadd, 1) := by decide +kernel
theorem dX9_byBasis_27 : decode cX9_byBasis 27 = .ok (.iastore, 1) := by decide +kernel
theorem dX9_byBasis_28 : decode cX9_byBasis 28 = .ok (.iinc 1 1, 3) := by decide +kernel
theorem dX9_byBasis_31 : decode cX9_byBasis 31 = .ok (.goto (-21), 3) := by decide +kernel
theorem dX9_byBasis_34 : decode cX9_byBasis 34 = .ok (.return_, 1) := by decide +kernel
theorem dX9_fuel_0 : decode cX9_fuel 0 = .ok (.iload_n 1, 1) := by decide +kernel
theorem dX9_fuel_1 : decode cX9_fuel 1 = .ok (.iconst 0, 1) := by decide +kernel
theorem dX9_fuel_2 : decode cX9_fuel 2 = .ok (.sipush 2000, 3) := by decide +kernel
theorem dX9_fuel_5 : decode cX9_fuel 5 = .ok (.invokestatic 78, 3) := by decide +kernel
theorem dX9_fuel_8 : decode cX9_fuel 8 = .ok (.ifCond .ne 6, 3) := by decide +kernel
theorem dX9_fuel_11 : decode cX9_fuel 11 = .ok (.bipush (-2), 2) := by decide +kernel
theorem dX9_fuel_13 : decode cX9_fuel 13 = .ok (.ireturn, 1) := by decide +kernel
theorem dX9_fuel_14 : decode cX9_fuel 14 = .ok (.aload_n 0, 1) := by decide +kernel
theorem dX9_fuel_15 : decode cX9_fuel 15 = .ok (.getfield 29, 3) := by decide +kernel
theorem dX9_fuel_18 : decode cX9_fuel 18 = .ok (.istore_n 2, 1) := by decide +kernel
theorem dX9_fuel_19 : decode cX9_fuel 19 = .ok (.aload_n 0, 1) := by decide +kernel
theorem dX9_fuel_20 : decode cX9_fuel 20 = .ok (.iload_n 1, 1) := by decide +kernel
theorem dX9_fuel_21 : decode cX9_fuel 21 = .ok (.putfield 29, 3) := by decide +kernel
theorem dX9_fuel_24 : decode cX9_fuel 24 = .ok (.iload_n 2, 1) := by decide +kernel
theorem dX9_fuel_25 : decode cX9_fuel 25 = .ok (.ireturn, 1) := by decide +kernel
theorem dX9_way_0 : decode cX9_way 0 = .ok (.iload_n 1, 1) := by decide +kernel
theorem dX9_way_1 : decode cX9_way 1 = .ok (.iconst 0, 1) := by decide +kernel
theorem dX9_way_2 : decode cX9_way 2 = .ok (.iconst 1, 1) := by decide +kernel
theorem dX9_way_3 : decode cX9_way 3 = .ok (.invokestatic 78, 3) := by decide +kernel
theorem dX9_way_6 : decode cX9_way 6 = .ok (.ifCond .ne 6, 3) := by decide +kernel
theorem dX9_way_9 : decode cX9_way 9 = .ok (.bipush (-2), 2) := by decide +kernel
theorem dX9_way_11 : decode cX9_way 11 = .ok (.ireturn, 1) := by decide +kernel
theorem dX9_way_12 : decode cX9_way 12 = .ok (.aload_n 0, 1) := by decide +kernel
theorem dX9_way_13 : decode cX9_way 13 = .ok (.getfield 175, 3) := by decide +kernel
theorem dX9_way_16 : decode cX9_way 16 = .ok (.istore_n 2, 1) := by decide +kernel
theorem dX9_way_17 : decode cX9_way 17 = .ok (.aload_n 0, 1) := by decide +kernel
theorem dX9_way_18 : decode cX9_way 18 = .ok (.iload_n 1, 1) := by decide +kernel
theorem dX9_way_19 : decode cX9_way 19 = .ok (.putfield 175, 3) := by decide +kernel
theorem dX9_way_22 : decode cX9_way 22 = .ok (.iload_n 2, 1) := by decide +kernel
theorem dX9_way_23 : decode cX9_way 23 = .ok (.ireturn, 1) := by decide +kernel
theorem dX9_rules_0 : decode cX9_rules 0 = .ok (.iload_n 1, 1) := by decide +kernel
theorem dX9_rules_1 : decode cX9_rules 1 = .ok (.iconst 0, 1) := by decide +kernel
theorem dX9_rules_2 : decode cX9_rules 2 = .ok (.iconst 3, 1) := by decide +kernel
theorem dX9_rules_3 : decode cX9_rules 3 = .ok (.invokestatic 78, 3) := by decide +kernel
theorem dX9_rules_6 : decode cX9_rules 6 = .ok (.ifCond .ne 6, 3) := by decide +kernel
theorem dX9_rules_9 : decode cX9_rules 9 = .ok (.bipush (-2), 2) := by decide +kernel
theorem dX9_rules_11 : decode cX9_rules 11 = .ok (.ireturn, 1) := by decide +kernel
theorem dX9_rules_12 : decode cX9_rules 12 = .ok (.aload_n 0, 1) := by decide +kernel
theorem dX9_rules_13 : decode cX9_rules 13 = .ok (.getfield 178, 3) := by decide +kernel
theorem dX9_rules_16 : decode cX9_rules 16 = .ok (.istore_n 2, 1) := by decide +kernel
theorem dX9_rules_17 : decode cX9_rules 17 = .ok (.aload_n 0, 1) := by decide +kernel
theorem dX9_rules_18 : decode cX9_rules 18 = .ok (.iload_n 1, 1) := by decide +kernel
theorem dX9_rules_19 : decode cX9_rules 19 = .ok (.putfield 178, 3) := by decide +kernel
theorem dX9_rules_22 : decode cX9_rules 22 = .ok (.iload_n 2, 1) := by decide +kernel
theorem dX9_rules_23 : decode cX9_rules 23 = .ok (.ireturn, 1) := by decide +kernel
theorem dX9_come_0 : decode cX9_come 0 = .ok (.aload_n 0, 1) := by decide +kernel
theorem dX9_come_1 : decode cX9_come 1 = .ok (.bipush 25, 2) := by decide +kernel
theorem dX9_come_3 : decode cX9_come 3 = .ok (.aload_n 0, 1) := by decide +kernel
theorem dX9_come_4 : decode cX9_come 4 = .ok (.getfield 107, 3) := by decide +kernel
theorem dX9_come_7 : decode cX9_come 7 = .ok (.iadd, 1) := by decide +kernel
theorem dX9_come_8 : decode cX9_come 8 = .ok (.aload_n 0, 1) := by decide +kernel
theorem dX9_come_9 : decode cX9_come 9 = .ok (.aload_n 0, 1) := by decide +kernel
theorem dX9_come_10 : decode cX9_come 10 = .ok (.getfield 32, 3) := by decide +kernel
theorem dX9_come_13 : decode cX9_come 13 = .ok (.iconst 0, 1) := by decide +kernel
theorem dX9_come_14 : decode cX9_come 14 = .ok (.iaload, 1) := by decide +kernel
theorem dX9_come_15 : decode cX9_come 15 = .ok (.invokevirtual 141, 3) := by decide +kernel
theorem dX9_come_18 : decode cX9_come 18 = .ok (.invokevirtual 103, 3) := by decide +kernel
theorem dX9_come_21 : decode cX9_come 21 = .ok (.iconst 0, 1) := by decide +kernel
theorem dX9_come_22 : decode cX9_come 22 = .ok (.istore_n 1, 1) := by decide +kernel
theorem dX9_come_23 : decode cX9_come 23 = .ok (.iload_n 1, 1) := by decide +kernel
theorem dX9_come_24 : decode cX9_come 24 = .ok (.aload_n 0, 1) := by decide +kernel
theorem dX9_come_25 : decode cX9_come 25 = .ok (.getfield 107, 3) := by decide +kernel
theorem dX9_come_28 : decode cX9_come 28 = .ok (.if_icmp .ge 42, 3) := by decide +kernel
theorem dX9_come_31 : decode cX9_come 31 = .ok (.aload_n 0, 1) := by decide +kernel
theorem dX9_come_32 : decode cX9_come 32 = .ok (.getfield 23, 3) := by decide +kernel
theorem dX9_come_35 : decode cX9_come 35 = .ok (.aload_n 0, 1) := by decide +kernel
theorem dX9_come_36 : decode cX9_come 36 = .ok (.getfield 181, 3) := by decide +kernel
theorem dX9_come_39 : decode cX9_come 39 = .ok (.iload_n 1, 1) := by decide +kernel
theorem dX9_come_40 : decode cX9_come 40 = .ok (.iastore, 1) := by decide +kernel
theorem dX9_come_41 : decode cX9_come 41 = .ok (.aload_n 0, 1) := by decide +kernel
theorem dX9_come_42 : decode cX9_come 42 = .ok (.getfield 26, 3) := by decide +kernel
theorem dX9_come_45 : decode cX9_come 45 = .ok (.aload_n 0, 1) := by decide +kernel
theorem dX9_come_46 : decode cX9_come 46 = .ok (.getfield 181, 3) := by decide +kernel
theorem dX9_come_49 : decode cX9_come 49 = .ok (.aload_n 0, 1) := by decide +kernel
theorem dX9_come_50 : decode cX9_come 50 = .ok (.getfield 107, 3) := by decide +kernel
theorem dX9_come_53 : decode cX9_come 53 = .ok (.iastore, 1) := by decide +kernel
theorem dX9_come_54 : decode cX9_come 54 = .ok (.aload_n 0, 1) := by decide +kernel
theorem dX9_come_55 : decode cX9_come 55 = .ok (.dup, 1) := by decide +kernel
theorem dX9_come_56 : decode cX9_come 56 = .ok (.getfield 181, 3) := by decide +kernel
theorem dX9_come_59 : decode cX9_come 59 = .ok (.iconst 1, 1) := by decide +kernel
theorem dX9_come_60 : decode cX9_come 60 = .ok (.iadd, 1) := by decide +kernel
theorem dX9_come_61 : decode cX9_come 61 = .ok (.putfield 181, 3) := by decide +kernel
theorem dX9_come_64 : decode cX9_come 64 = .ok (.iinc 1 1, 3) := by decide +kernel
theorem dX9_come_67 : decode cX9_come 67 = .ok (.goto (-44), 3) := by decide +kernel
theorem dX9_come_70 : decode cX9_come 70 = .ok (.aload_n 0, 1) := by decide +kernel
theorem dX9_come_71 : decode cX9_come 71 = .ok (.dup, 1) := by decide +kernel
theorem dX9_come_72 : decode cX9_come 72 = .ok (.getfield 107, 3) := by decide +kernel
theorem dX9_come_75 : decode cX9_come 75 = .ok (.iconst 1, 1) := by decide +kernel
theorem dX9_come_76 : decode cX9_come 76 = .ok (.iadd, 1) := by decide +kernel
theorem dX9_come_77 : decode cX9_come 77 = .ok (.putfield 107, 3) := by decide +kernel
theorem dX9_come_80 : decode cX9_come 80 = .ok (.return_, 1) := by decide +kernel
theorem dX9_enter_0 : decode cX9_enter 0 = .ok (.aload_n 0, 1) := by decide +kernel
theorem dX9_enter_1 : decode cX9_enter 1 = .ok (.iload_n 1, 1) := by decide +kernel
theorem dX9_enter_2 : decode cX9_enter 2 = .ok (.invokevirtual 131, 3) := by decide +kernel
theorem dX9_enter_5 : decode cX9_enter 5 = .ok (.istore_n 2, 1) := by decide +kernel
theorem dX9_enter_6 : decode cX9_enter 6 = .ok (.iload_n 2, 1) := by decide +kernel
theorem dX9_enter_7 : decode cX9_enter 7 = .ok (.ifCond .lt 12, 3) := by decide +kernel
theorem dX9_enter_10 : decode cX9_enter 10 = .ok (.aload_n 0, 1) := by decide +kernel
theorem dX9_enter_11 : decode cX9_enter 11 = .ok (.getfield 13, 3) := by decide +kernel
theorem dX9_enter_14 : decode cX9_enter 14 = .ok (.iload_n 2, 1) := by decide +kernel
theorem dX9_enter_15 : decode cX9_enter 15 = .ok (.iaload, 1) := by decide +kernel
theorem dX9_enter_16 : decode cX9_enter 16 = .ok (.ifCond .ne 6, 3) := by decide +kernel
theorem dX9_enter_19 : decode cX9_enter 19 = .ok (.bipush (-2), 2) := by decide +kernel
theorem dX9_enter_21 : decode cX9_enter 21 = .ok (.ireturn, 1) := by decide +kernel
theorem dX9_enter_22 : decode cX9_enter 22 = .ok (.aload_n 0, 1) := by decide +kernel
theorem dX9_enter_23 : decode cX9_enter 23 = .ok (.getfield 107, 3) := by decide +kernel
theorem dX9_enter_26 : decode cX9_enter 26 = .ok (.bipush 18, 2) := by decide +kernel
theorem dX9_enter_28 : decode cX9_enter 28 = .ok (.if_icmp .ne 6, 3) := by decide +kernel
theorem dX9_enter_31 : decode cX9_enter 31 = .ok (.bipush (-4), 2) := by decide +kernel
theorem dX9_enter_33 : decode cX9_enter 33 = .ok (.ireturn, 1) := by decide +kernel
theorem dX9_enter_34 : decode cX9_enter 34 = .ok (.aload_n 0, 1) := by decide +kernel
theorem dX9_enter_35 : decode cX9_enter 35 = .ok (.iload_n 2, 1) := by decide +kernel
theorem dX9_enter_36 : decode cX9_enter 36 = .ok (.invokevirtual 100, 3) := by decide +kernel
theorem dX9_enter_39 : decode cX9_enter 39 = .ok (.aload_n 0, 1) := by decide +kernel
theorem dX9_enter_40 : decode cX9_enter 40 = .ok (.invokevirtual 184, 3) := by decide +kernel
theorem dX9_enter_43 : decode cX9_enter 43 = .ok (.aload_n 0, 1) := by decide +kernel
theorem dX9_enter_44 : decode cX9_enter 44 = .ok (.iconst 0, 1) := by decide +kernel
theorem dX9_enter_45 : decode cX9_enter 45 = .ok (.putfield 187, 3) := by decide +kernel
theorem dX9_enter_48 : decode cX9_enter 48 = .ok (.aload_n 0, 1) := by decide +kernel
theorem dX9_enter_49 : decode cX9_enter 49 = .ok (.getfield 107, 3) := by decide +kernel
theorem dX9_enter_52 : decode cX9_enter 52 = .ok (.iconst 1, 1) := by decide +kernel
theorem dX9_enter_53 : decode cX9_enter 53 = .ok (.isub, 1) := by decide +kernel
theorem dX9_enter_54 : decode cX9_enter 54 = .ok (.ireturn, 1) := by decide +kernel
theorem dX9_clear_0 : decode cX9_clear 0 = .ok (.aload_n 0, 1) := by decide +kernel
theorem dX9_clear_1 : decode cX9_clear 1 = .ok (.getfield 107, 3) := by decide +kernel
theorem dX9_clear_4 : decode cX9_clear 4 = .ok (.istore_n 1, 1) := by decide +kernel
theorem dX9_clear_5 : decode cX9_clear 5 = .ok (.aload_n 0, 1) := by decide +kernel
theorem dX9_clear_6 : decode cX9_clear 6 = .ok (.iconst 0, 1) := by decide +kernel
theorem dX9_clear_7 : decode cX9_clear 7 = .ok (.putfield 107, 3) := by decide +kernel
theorem dX9_clear_10 : decode cX9_clear 10 = .ok (.aload_n 0, 1) := by decide +kernel
theorem dX9_clear_11 : decode cX9_clear 11 = .ok (.iconst 0, 1) := by decide +kernel
theorem dX9_clear_12 : decode cX9_clear 12 = .ok (.putfield 181, 3) := by decide +kernel
theorem dX9_clear_15 : decode cX9_clear 15 = .ok (.aload_n 0, 1) := by decide +kernel
theorem dX9_clear_16 : decode cX9_clear 16 = .ok (.iconst 0, 1) := by decide +kernel
theorem dX9_clear_17 : decode cX9_clear 17 = .ok (.putfield 187, 3) := by decide +kernel
theorem dX9_clear_20 : decode cX9_clear 20 = .ok (.iload_n 1, 1) := by decide +kernel
theorem dX9_clear_21 : decode cX9_clear 21 = .ok (.ireturn, 1) := by decide +kernel
theorem dX9_nextPair_0 : decode cX9_nextPair 0 = .ok (.iconst 0, 1) := by decide +kernel
theorem dX9_nextPair_1 : decode cX9_nextPair 1 = .ok (.istore_n 1, 1) := by decide +kernel
theorem dX9_nextPair_2 : decode cX9_nextPair 2 = .ok (.aload_n 0, 1) := by decide +kernel
theorem dX9_nextPair_3 : decode cX9_nextPair 3 = .ok (.getfield 175, 3) := by decide +kernel
theorem dX9_nextPair_6 : decode cX9_nextPair 6 = .ok (.ifCond .ne 5, 3) := by decide +kernel
theorem dX9_nextPair_9 : decode cX9_nextPair 9 = .ok (.iload_n 1, 1) := by decide +kernel
theorem dX9_nextPair_10 : decode cX9_nextPair 10 = .ok (.ireturn, 1) := by decide +kernel
theorem dX9_nextPair_11 : decode cX9_nextPair 11 = .ok (.iconst 0, 1) := by decide +kernel
theorem dX9_nextPair_12 : decode cX9_nextPair 12 = .ok (.istore_n 2, 1) := by decide +kernel
theorem dX9_nextPair_13 : decode cX9_nextPair 13 = .ok (.iload_n 2, 1) := by decide +kernel
theorem dX9_nextPair_14 : decode cX9_nextPair 14 = .ok (.aload_n 0, 1) := by decide +kernel
theorem dX9_nextPair_15 : decode cX9_nextPair 15 = .ok (.getfield 181, 3) := by decide +kernel
theorem dX9_nextPair_18 : decode cX9_nextPair 18 = .ok (.if_icmp .ge 79, 3) := by decide +kernel
theorem dX9_nextPair_21 : decode cX9_nextPair 21 = .ok (.aload_n 0, 1) := by decide +kernel
theorem dX9_nextPair_22 : decode cX9_nextPair 22 = .ok (.bipush 25, 2) := by decide +kernel
theorem dX9_nextPair_24 : decode cX9_nextPair 24 = .ok (.aload_n 0, 1) := by decide +kernel
theorem dX9_nextPair_25 : decode cX9_nextPair 25 = .ok (.getfield 23, 3) := by decide +kernel
theorem dX9_nextPair_28 : decode cX9_nextPair 28 = .ok (.iload_n 2, 1) := by decide +kernel
theorem dX9_nextPair_29 : decode cX9_nextPair 29 = .ok (.iaload, 1) := by decide +kernel
theorem dX9_nextPair_30 : decode cX9_nextPair 30 = .ok (.iadd, 1) := by decide +kernel
theorem dX9_nextPair_31 : decode cX9_nextPair 31 = .ok (.bipush 25, 2) := by decide +kernel
theorem dX9_nextPair_33 : decode cX9_nextPair 33 = .ok (.aload_n 0, 1) := by decide +kernel
theorem dX9_nextPair_34 : decode cX9_nextPair 34 = .ok (.getfield 26, 3) := by decide +kernel
theorem dX9_nextPair_37 : decode cX9_nextPair 37 = .ok (.iload_n 2, 1) := by decide +kernel
theorem dX9_nextPair_38 : decode cX9_nextPair 38 = .ok (.iaload, 1) := by decide +kernel
theorem dX9_nextPair_39 : decode cX9_nextPair 39 = .ok (.iadd, 1) := by decide +kernel
theorem dX9_nextPair_40 : decode cX9_nextPair 40 = .ok (.invokevirtual 138, 3) := by decide +kernel
theorem dX9_nextPair_43 : decode cX9_nextPair 43 = .ok (.iload_n 2, 1) := by decide +kernel
theorem dX9_nextPair_44 : decode cX9_nextPair 44 = .ok (.ifCond .eq 20, 3) := by decide +kernel
theorem dX9_nextPair_47 : decode cX9_nextPair 47 = .ok (.aload_n 0, 1) := by decide +kernel
theorem dX9_nextPair_48 : decode cX9_nextPair 48 = .ok (.aload_n 0, 1) := by decide +kernel
theorem dX9_nextPair_49 : decode cX9_nextPair 49 = .ok (.getfield 44, 3) := by decide +kernel
theorem dX9_nextPair_52 : decode cX9_nextPair 52 = .ok (.iconst 0, 1) := by decide +kernel
theorem dX9_nextPair_53 : decode cX9_nextPair 53 = .ok (.aload_n 0, 1) := by decide +kernel
theorem dX9_nextPair_54 : decode cX9_nextPair 54 = .ok (.getfield 59, 3) := by decide +kernel
theorem dX9_nextPair_57 : decode cX9_nextPair 57 = .ok (.iconst 0, 1) := by decide +kernel
theorem dX9_nextPair_58 : decode cX9_nextPair 58 = .ok (.invokevirtual 93, 3) := by decide +kernel
theorem dX9_nextPair_61 : decode cX9_nextPair 61 = .ok (.ifCond .ge 30, 3) := by decide +kernel
theorem dX9_nextPair_64 : decode cX9_nextPair 64 = .ok (.iload_n 2, 1) := by decide +kernel
theorem dX9_nextPair_65 : decode cX9_nextPair 65 = .ok (.istore_n 1, 1) := by decide +kernel
theorem dX9_nextPair_66 : decode cX9_nextPair 66 = .ok (.iconst 0, 1) := by decide +kernel
theorem dX9_nextPair_67 : decode cX9_nextPair 67 = .ok (.istore_n 3, 1) := by decide +kernel
theorem dX9_nextPair_68 : decode cX9_nextPair 68 = .ok (.iload_n 3, 1) := by decide +kernel
theorem dX9_nextPair_69 : decode cX9_nextPair 69 = .ok (.iconst 4, 1) := by decide +kernel
theorem dX9_nextPair_70 : decode cX9_nextPair 70 = .ok (.if_icmp .ge 21, 3) := by decide +kernel
theorem dX9_nextPair_73 : decode cX9_nextPair 73 = .ok (.aload_n 0, 1) := by decide +kernel
theorem dX9_nextPair_74 : decode cX9_nextPair 74 = .ok (.getfield 59, 3) := by decide +kernel
theorem dX9_nextPair_77 : decode cX9_nextPair 77 = .ok (.iload_n 3, 1) := by decide +kernel
theorem dX9_nextPair_78 : decode cX9_nextPair 78 = .ok (.aload_n 0, 1) := by decide +kernel
theorem dX9_nextPair_79 : decode cX9_nextPair 79 = .ok (.getfield 44, 3) := by decide +kernel
theorem dX9_nextPair_82 : decode cX9_nextPair 82 = .ok (.iload_n 3, 1) := by decide +kernel
theorem dX9_nextPair_83 : decode cX9_nextPair 83 = .ok (.iaload, 1) := by decide +kernel
theorem dX9_nextPair_84 : decode cX9_nextPair 84 = .ok (.iastore, 1) := by decide +kernel
theorem dX9_nextPair_85 : decode cX9_nextPair 85 = .ok (.iinc 3 1, 3) := by decide +kernel
theorem dX9_nextPair_88 : decode cX9_nextPair 88 = .ok (.goto (-20), 3) := by decide +kernel
theorem dX9_nextPair_91 : decode cX9_nextPair 91 = .ok (.iinc 2 1, 3) := by decide +kernel
theorem dX9_nextPair_94 : decode cX9_nextPair 94 = .ok (.goto (-81), 3) := by decide +kernel
theorem dX9_nextPair_97 : decode cX9_nextPair 97 = .ok (.iload_n 1, 1) := by decide +kernel
theorem dX9_nextPair_98 : decode cX9_nextPair 98 = .ok (.ireturn, 1) := by decide +kernel
theorem dX9_waits_0 : decode cX9_waits 0 = .ok (.iconst 0, 1) := by decide +kernel
theorem dX9_waits_1 : decode cX9_waits 1 = .ok (.istore_n 3, 1) := by decide +kernel
theorem dX9_waits_2 : decode cX9_waits 2 = .ok (.iload_n 3, 1) := by decide +kernel
theorem dX9_waits_3 : decode cX9_waits 3 = .ok (.aload_n 0, 1) := by decide +kernel
theorem dX9_waits_4 : decode cX9_waits 4 = .ok (.getfield 181, 3) := by decide +kernel
theorem dX9_waits_7 : decode cX9_waits 7 = .ok (.if_icmp .ge 51, 3) := by decide +kernel
theorem dX9_waits_10 : decode cX9_waits 10 = .ok (.aload_n 0, 1) := by decide +kernel
theorem dX9_waits_11 : decode cX9_waits 11 = .ok (.getfield 23, 3) := by decide +kernel
theorem dX9_waits_14 : decode cX9_waits 14 = .ok (.iload_n 3, 1) := by decide +kernel
theorem dX9_waits_15 : decode cX9_waits 15 = .ok (.iaload, 1) := by decide +kernel
theorem dX9_waits_16 : decode cX9_waits 16 = .ok (.iload_n 1, 1) := by decide +kernel
theorem dX9_waits_17 : decode cX9_waits 17 = .ok (.if_icmp .ne 13, 3) := by decide +kernel
theorem dX9_waits_20 : decode cX9_waits 20 = .ok (.aload_n 0, 1) := by decide +kernel
theorem dX9_waits_21 : decode cX9_waits 21 = .ok (.getfield 26, 3) := by decide +kernel
theorem dX9_waits_24 : decode cX9_waits 24 = .ok (.iload_n 3, 1) := by decide +kernel
theorem dX9_waits_25 : decode cX9_waits 25 = .ok (.iaload, 1) := by decide +kernel
theorem dX9_waits_26 : decode cX9_waits 26 = .ok (.iload_n 2, 1) := by decide +kernel
theorem dX9_waits_27 : decode cX9_waits 27 = .ok (.if_icmp .eq 23, 3) := by decide +kernel
theorem dX9_waits_30 : decode cX9_waits 30 = .ok (.aload_n 0, 1) := by decide +kernel
theorem dX9_waits_31 : decode cX9_waits 31 = .ok (.getfield 23, 3) := by decide +kernel
theorem dX9_waits_34 : decode cX9_waits 34 = .ok (.iload_n 3, 1) := by decide +kernel
theorem dX9_waits_35 : decode cX9_waits 35 = .ok (.iaload, 1) := by decide +kernel
theorem dX9_waits_36 : decode cX9_waits 36 = .ok (.iload_n 2, 1) := by decide +kernel
theorem dX9_waits_37 : decode cX9_waits 37 = .ok (.if_icmp .ne 15, 3) := by decide +kernel
theorem dX9_waits_40 : decode cX9_waits 40 = .ok (.aload_n 0, 1) := by decide +kernel
theorem dX9_waits_41 : decode cX9_waits 41 = .ok (.getfield 26, 3) := by decide +kernel
theorem dX9_waits_44 : decode cX9_waits 44 = .ok (.iload_n 3, 1) := by decide +kernel
theorem dX9_waits_45 : decode cX9_waits 45 = .ok (.iaload, 1) := by decide +kernel
theorem dX9_waits_46 : decode cX9_waits 46 = .ok (.iload_n 1, 1) := by decide +kernel
theorem dX9_waits_47 : decode cX9_waits 47 = .ok (.if_icmp .ne 5, 3) := by decide +kernel
theorem dX9_waits_50 : decode cX9_waits 50 = .ok (.iconst 1, 1) := by decide +kernel
theorem dX9_waits_51 : decode cX9_waits 51 = .ok (.ireturn, 1) := by decide +kernel
theorem dX9_waits_52 : decode cX9_waits 52 = .ok (.iinc 3 1, 3) := by decide +kernel
theorem dX9_waits_55 : decode cX9_waits 55 = .ok (.goto (-53), 3) := by decide +kernel
theorem dX9_waits_58 : decode cX9_waits 58 = .ok (.iconst 0, 1) := by decide +kernel
theorem dX9_waits_59 : decode cX9_waits 59 = .ok (.ireturn, 1) := by decide +kernel
theorem dX9_areCoprime_0 : decode cX9_areCoprime 0 = .ok (.iconst 1, 1) := by decide +kernel
theorem dX9_areCoprime_1 : decode cX9_areCoprime 1 = .ok (.istore_n 3, 1) := by decide +kernel
theorem dX9_areCoprime_2 : decode cX9_areCoprime 2 = .ok (.iconst 0, 1) := by decide +kernel
theorem dX9_areCoprime_3 : decode cX9_areCoprime 3 = .ok (.istore 4, 2) := by decide +kernel
theorem dX9_areCoprime_5 : decode cX9_areCoprime 5 = .ok (.iload 4, 2) := by decide +kernel
theorem dX9_areCoprime_7 : decode cX9_areCoprime 7 = .ok (.iconst 4, 1) := by decide +kernel
theorem dX9_areCoprime_8 : decode cX9_areCoprime 8 = .ok (.if_icmp .ge 55, 3) := by decide +kernel
theorem dX9_areCoprime_11 : decode cX9_areCoprime 11 = .ok (.iload_n 3, 1) := by decide +kernel
theorem dX9_areCoprime_12 : decode cX9_areCoprime 12 = .ok (.aload_n 0, 1) := by decide +kernel
theorem dX9_areCoprime_13 : decode cX9_areCoprime 13 = .ok (.getfield 20, 3) := by decide +kernel
theorem dX9_areCoprime_16 : decode cX9_areCoprime 16 = .ok (.sipush 160, 3) := by decide +kernel
theorem dX9_areCoprime_19 : decode cX9_areCoprime 19 = .ok (.bipush 25, 2) := by decide +kernel
theorem dX9_areCoprime_21 : decode cX9_areCoprime 21 = .ok (.iload_n 1, 1) := by decide +kernel
theorem dX9_areCoprime_22 : decode cX9_areCoprime 22 = .ok (.iadd, 1) := by decide +kernel
theorem dX9_areCoprime_23 : decode cX9_areCoprime 23 = .ok (.imul, 1) := by decide +kernel
theorem dX9_areCoprime_24 : decode cX9_areCoprime 24 = .ok (.iload 4, 2) := by decide +kernel
theorem dX9_areCoprime_26 : decode cX9_areCoprime 26 = .ok (.iadd, 1) := by decide +kernel
theorem dX9_areCoprime_27 : decode cX9_areCoprime 27 = .ok (.iaload, 1) := by decide +kernel
theorem dX9_areCoprime_28 : decode cX9_areCoprime 28 = .ok (.ifCond .eq 22, 3) := by decide +kernel
theorem dX9_areCoprime_31 : decode cX9_areCoprime 31 = .ok (.aload_n 0, 1) := by decide +kernel
theorem dX9_areCoprime_32 : decode cX9_areCoprime 32 = .ok (.getfield 20, 3) := by decide +kernel
theorem dX9_areCoprime_35 : decode cX9_areCoprime 35 = .ok (.sipush 160, 3) := by decide +kernel
theorem dX9_areCoprime_38 : decode cX9_areCoprime 38 = .ok (.bipush 25, 2) := by decide +kernel
theorem dX9_areCoprime_40 : decode cX9_areCoprime 40 = .ok (.iload_n 2, 1) := by decide +kernel
theorem dX9_areCoprime_41 : decode cX9_areCoprime 41 = .ok (.iadd, 1) := by decide +kernel
theorem dX9_areCoprime_42 : decode cX9_areCoprime 42 = .ok (.imul, 1) := by decide +kernel
theorem dX9_areCoprime_43 : decode cX9_areCoprime 43 = .ok (.iload 4, 2) := by decide +kernel
theorem dX9_areCoprime_45 : decode cX9_areCoprime 45 = .ok (.iadd, 1) := by decide +kernel
theorem dX9_areCoprime_46 : decode cX9_areCoprime 46 = .ok (.iaload, 1) := by decide +kernel
theorem dX9_areCoprime_47 : decode cX9_areCoprime 47 = .ok (.ifCond .ne 7, 3) := by decide +kernel
theorem dX9_areCoprime_50 : decode cX9_areCoprime 50 = .ok (.iconst 1, 1) := by decide +kernel
theorem dX9_areCoprime_51 : decode cX9_areCoprime 51 = .ok (.goto 4, 3) := by decide +kernel
theorem dX9_areCoprime_54 : decode cX9_areCoprime 54 = .ok (.iconst 0, 1) := by decide +kernel
theorem dX9_areCoprime_55 : decode cX9_areCoprime 55 = .ok (.iand, 1) := by decide +kernel
theorem dX9_areCoprime_56 : decode cX9_areCoprime 56 = .ok (.istore_n 3, 1) := by decide +kernel
theorem dX9_areCoprime_57 : decode cX9_areCoprime 57 = .ok (.iinc 4 1, 3) := by decide +kernel
theorem dX9_areCoprime_60 : decode cX9_areCoprime 60 = .ok (.goto (-55), 3) := by decide +kernel
theorem dX9_areCoprime_63 : decode cX9_areCoprime 63 = .ok (.iload_n 3, 1) := by decide +kernel
theorem dX9_areCoprime_64 : decode cX9_areCoprime 64 = .ok (.ireturn, 1) := by decide +kernel
theorem dX9_isChained_0 : decode cX9_isChained 0 = .ok (.aload_n 0, 1) := by decide +kernel
theorem dX9_isChained_1 : decode cX9_isChained 1 = .ok (.bipush 25, 2) := by decide +kernel
theorem dX9_isChained_3 : decode cX9_isChained 3 = .ok (.iload_n 1, 1) := by decide +kernel
theorem dX9_isChained_4 : decode cX9_isChained 4 = .ok (.iadd, 1) := by decide +kernel
theorem dX9_isChained_5 : decode cX9_isChained 5 = .ok (.bipush 25, 2) := by decide +kernel
theorem dX9_isChained_7 : decode cX9_isChained 7 = .ok (.iload_n 2, 1) := by decide +kernel
theorem dX9_isChained_8 : decode cX9_isChained 8 = .ok (.iadd, 1) := by decide +kernel
theorem dX9_isChained_9 : decode cX9_isChained 9 = .ok (.invokevirtual 138, 3) := by decide +kernel
theorem dX9_isChained_12 : decode cX9_isChained 12 = .ok (.iconst 0, 1) := by decide +kernel
theorem dX9_isChained_13 : decode cX9_isChained 13 = .ok (.istore_n 3, 1) := by decide +kernel
theorem dX9_isChained_14 : decode cX9_isChained 14 = .ok (.iload_n 3, 1) := by decide +kernel
theorem dX9_isChained_15 : decode cX9_isChained 15 = .ok (.aload_n 0, 1) := by decide +kernel
theorem dX9_isChained_16 : decode cX9_isChained 16 = .ok (.getfield 107, 3) := by decide +kernel
theorem dX9_isChained_19 : decode cX9_isChained 19 = .ok (.if_icmp .ge 62, 3) := by decide +kernel
theorem dX9_isChained_22 : decode cX9_isChained 22 = .ok (.iload_n 3, 1) := by decide +kernel
theorem dX9_isChained_23 : decode cX9_isChained 23 = .ok (.iload_n 1, 1) := by decide +kernel
theorem dX9_isChained_24 : decode cX9_isChained 24 = .ok (.if_icmp .eq 51, 3) := by decide +kernel
theorem dX9_isChained_27 : decode cX9_isChained 27 = .ok (.iload_n 3, 1) := by decide +kernel
theorem dX9_isChained_28 : decode cX9_isChained 28 = .ok (.iload_n 2, 1) := by decide +kernel
theorem dX9_isChained_29 : decode cX9_isChained 29 = .ok (.if_icmp .eq 46, 3) := by decide +kernel
theorem dX9_isChained_32 : decode cX9_isChained 32 = .ok (.aload_n 0, 1) := by decide +kernel
theorem dX9_isChained_33 : decode cX9_isChained 33 = .ok (.getfield 20, 3) := by decide +kernel
theorem dX9_isChained_36 : decode cX9_isChained 36 = .ok (.sipush 160, 3) := by decide +kernel
theorem dX9_isChained_39 : decode cX9_isChained 39 = .ok (.bipush 25, 2) := by decide +kernel
theorem dX9_isChained_41 : decode cX9_isChained 41 = .ok (.iload_n 3, 1) := by decide +kernel
theorem dX9_isChained_42 : decode cX9_isChained 42 = .ok (.iadd, 1) := by decide +kernel
theorem dX9_isChained_43 : decode cX9_isChained 43 = .ok (.imul, 1) := by decide +kernel
theorem dX9_isChained_44 : decode cX9_isChained 44 = .ok (.aload_n 0, 1) := by decide +kernel
theorem dX9_isChained_45 : decode cX9_isChained 45 = .ok (.getfield 44, 3) := by decide +kernel
theorem dX9_isChained_48 : decode cX9_isChained 48 = .ok (.iconst 0, 1) := by decide +kernel
theorem dX9_isChained_49 : decode cX9_isChained 49 = .ok (.invokestatic 154, 3) := by decide +kernel
theorem dX9_isChained_52 : decode cX9_isChained 52 = .ok (.ifCond .eq 23, 3) := by decide +kernel
theorem dX9_isChained_55 : decode cX9_isChained 55 = .ok (.aload_n 0, 1) := by decide +kernel
theorem dX9_isChained_56 : decode cX9_isChained 56 = .ok (.iload_n 1, 1) := by decide +kernel
theorem dX9_isChained_57 : decode cX9_isChained 57 = .ok (.iload_n 3, 1) := by decide +kernel
theorem dX9_isChained_58 : decode cX9_isChained 58 = .ok (.invokevirtual 191, 3) := by decide +kernel
theorem dX9_isChained_61 : decode cX9_isChained 61 = .ok (.ifCond .ne 14, 3) := by decide +kernel
theorem dX9_isChained_64 : decode cX9_isChained 64 = .ok (.aload_n 0, 1) := by decide +kernel
theorem dX9_isChained_65 : decode cX9_isChained 65 = .ok (.iload_n 2, 1) := by decide +kernel
theorem dX9_isChained_66 : decode cX9_isChained 66 = .ok (.iload_n 3, 1) := by decide +kernel
theorem dX9_isChained_67 : decode cX9_isChained 67 = .ok (.invokevirtual 191, 3) := by decide +kernel
theorem dX9_isChained_70 : decode cX9_isChained 70 = .ok (.ifCond .ne 5, 3) := by decide +kernel
theorem dX9_isChained_73 : decode cX9_isChained 73 = .ok (.iconst 1, 1) := by decide +kernel
theorem dX9_isChained_74 : decode cX9_isChained 74 = .ok (.ireturn, 1) := by decide +kernel
theorem dX9_isChained_75 : decode cX9_isChained 75 = .ok (.iinc 3 1, 3) := by decide +kernel
theorem dX9_isChained_78 : decode cX9_isChained 78 = .ok (.goto (-64), 3) := by decide +kernel
theorem dX9_isChained_81 : decode cX9_isChained 81 = .ok (.iconst 0, 1) := by decide +kernel
theorem dX9_isChained_82 : decode cX9_isChained 82 = .ok (.ireturn, 1) := by decide +kernel
theorem dX9_goes_0 : decode cX9_goes 0 = .ok (.aload_n 0, 1) := by decide +kernel
theorem dX9_goes_1 : decode cX9_goes 1 = .ok (.dup, 1) := by decide +kernel
theorem dX9_goes_2 : decode cX9_goes 2 = .ok (.getfield 181, 3) := by decide +kernel
theorem dX9_goes_5 : decode cX9_goes 5 = .ok (.iconst 1, 1) := by decide +kernel
theorem dX9_goes_6 : decode cX9_goes 6 = .ok (.isub, 1) := by decide +kernel
theorem dX9_goes_7 : decode cX9_goes 7 = .ok (.putfield 181, 3) := by decide +kernel
theorem dX9_goes_10 : decode cX9_goes 10 = .ok (.iload_n 1, 1) := by decide +kernel
theorem dX9_goes_11 : decode cX9_goes 11 = .ok (.istore_n 2, 1) := by decide +kernel
theorem dX9_goes_12 : decode cX9_goes 12 = .ok (.iload_n 2, 1) := by decide +kernel
theorem dX9_goes_13 : decode cX9_goes 13 = .ok (.aload_n 0, 1) := by decide +kernel
theorem dX9_goes_14 : decode cX9_goes 14 = .ok (.getfield 181, 3) := by decide +kernel
theorem dX9_goes_17 : decode cX9_goes 17 = .ok (.if_icmp .ge 37, 3) := by decide +kernel
theorem dX9_goes_20 : decode cX9_goes 20 = .ok (.aload_n 0, 1) := by decide +kernel
theorem dX9_goes_21 : decode cX9_goes 21 = .ok (.getfield 23, 3) := by decide +kernel
theorem dX9_goes_24 : decode cX9_goes 24 = .ok (.iload_n 2, 1) := by decide +kernel
theorem dX9_goes_25 : decode cX9_goes 25 = .ok (.aload_n 0, 1) := by decide +kernel
theorem dX9_goes_26 : decode cX9_goes 26 = .ok (.getfield 23, 3) := by decide +kernel
theorem dX9_goes_29 : decode cX9_goes 29 = .ok (.iload_n 2, 1) := by decide +kernel
theorem dX9_goes_30 : decode cX9_goes 30 = .ok (.iconst 1, 1) := by decide +kernel
theorem dX9_goes_31 : decode cX9_goes 31 = .ok (.iadd, 1) := by decide +kernel
theorem dX9_goes_32 : decode cX9_goes 32 = .ok (.iaload, 1) := by decide +kernel
theorem dX9_goes_33 : decode cX9_goes 33 = .ok (.iastore, 1) := by decide +kernel
theorem dX9_goes_34 : decode cX9_goes 34 = .ok (.aload_n 0, 1) := by decide +kernel
theorem dX9_goes_35 : decode cX9_goes 35 = .ok (.getfield 26, 3) := by decide +kernel
theorem dX9_goes_38 : decode cX9_goes 38 = .ok (.iload_n 2, 1) := by decide +kernel
theorem dX9_goes_39 : decode cX9_goes 39 = .ok (.aload_n 0, 1) := by decide +kernel
theorem dX9_goes_40 : decode cX9_goes 40 = .ok (.getfield 26, 3) := by decide +kernel
theorem dX9_goes_43 : decode cX9_goes 43 = .ok (.iload_n 2, 1) := by decide +kernel
theorem dX9_goes_44 : decode cX9_goes 44 = .ok (.iconst 1, 1) := by decide +kernel
theorem dX9_goes_45 : decode cX9_goes 45 = .ok (.iadd, 1) := by decide +kernel
theorem dX9_goes_46 : decode cX9_goes 46 = .ok (.iaload, 1) := by decide +kernel
theorem dX9_goes_47 : decode cX9_goes 47 = .ok (.iastore, 1) := by decide +kernel
theorem dX9_goes_48 : decode cX9_goes 48 = .ok (.iinc 2 1, 3) := by decide +kernel
theorem dX9_goes_51 : decode cX9_goes 51 = .ok (.goto (-39), 3) := by decide +kernel
theorem dX9_goes_54 : decode cX9_goes 54 = .ok (.return_, 1) := by decide +kernel
theorem dX9_workOf_0 : decode cX9_workOf 0 = .ok (.aload_n 0, 1) := by decide +kernel
theorem dX9_workOf_1 : decode cX9_workOf 1 = .ok (.getfield 23, 3) := by decide +kernel
theorem dX9_workOf_4 : decode cX9_workOf 4 = .ok (.iload_n 1, 1) := by decide +kernel
theorem dX9_workOf_5 : decode cX9_workOf 5 = .ok (.iaload, 1) := by decide +kernel
theorem dX9_workOf_6 : decode cX9_workOf 6 = .ok (.istore_n 2, 1) := by decide +kernel
theorem dX9_workOf_7 : decode cX9_workOf 7 = .ok (.aload_n 0, 1) := by decide +kernel
theorem dX9_workOf_8 : decode cX9_workOf 8 = .ok (.getfield 26, 3) := by decide +kernel
theorem dX9_workOf_11 : decode cX9_workOf 11 = .ok (.iload_n 1, 1) := by decide +kernel
theorem dX9_workOf_12 : decode cX9_workOf 12 = .ok (.iaload, 1) := by decide +kernel
theorem dX9_workOf_13 : decode cX9_workOf 13 = .ok (.istore_n 3, 1) := by decide +kernel
theorem dX9_workOf_14 : decode cX9_workOf 14 = .ok (.aload_n 0, 1) := by decide +kernel
theorem dX9_workOf_15 : decode cX9_workOf 15 = .ok (.getfield 178, 3) := by decide +kernel
theorem dX9_workOf_18 : decode cX9_workOf 18 = .ok (.iconst 1, 1) := by decide +kernel
theorem dX9_workOf_19 : decode cX9_workOf 19 = .ok (.iand, 1) := by decide +kernel
theorem dX9_workOf_20 : decode cX9_workOf 20 = .ok (.iconst 1, 1) := by decide +kernel
theorem dX9_workOf_21 : decode cX9_workOf 21 = .ok (.if_icmp .ne 29, 3) := by decide +kernel
theorem dX9_workOf_24 : decode cX9_workOf 24 = .ok (.aload_n 0, 1) := by decide +kernel
theorem dX9_workOf_25 : decode cX9_workOf 25 = .ok (.iload_n 2, 1) := by decide +kernel
theorem dX9_workOf_26 : decode cX9_workOf 26 = .ok (.iload_n 3, 1) := by decide +kernel
theorem dX9_workOf_27 : decode cX9_workOf 27 = .ok (.invokevirtual 194, 3) := by decide +kernel
theorem dX9_workOf_30 : decode cX9_workOf 30 = .ok (.ifCond .eq 20, 3) := by decide +kernel
theorem dX9_workOf_33 : decode cX9_workOf 33 = .ok (.aload_n 0, 1) := by decide +kernel
theorem dX9_workOf_34 : decode cX9_workOf 34 = .ok (.dup, 1) := by decide +kernel
theorem dX9_workOf_35 : decode cX9_workOf 35 = .ok (.getfield 197, 3) := by decide +kernel
theorem dX9_workOf_38 : decode cX9_workOf 38 = .ok (.iconst 1, 1) := by decide +kernel
theorem dX9_workOf_39 : decode cX9_workOf 39 = .ok (.iadd, 1) := by decide +kernel
theorem dX9_workOf_40 : decode cX9_workOf 40 = .ok (.putfield 197, 3) := by decide +kernel
theorem dX9_workOf_43 : decode cX9_workOf 43 = .ok (.aload_n 0, 1) := by decide +kernel
theorem dX9_workOf_44 : decode cX9_workOf 44 = .ok (.iload_n 1, 1) := by decide +kernel
theorem dX9_workOf_45 : decode cX9_workOf 45 = .ok (.invokevirtual 200, 3) := by decide +kernel
theorem dX9_workOf_48 : decode cX9_workOf 48 = .ok (.iconst 0, 1) := by decide +kernel
theorem dX9_workOf_49 : decode cX9_workOf 49 = .ok (.ireturn, 1) := by decide +kernel
theorem dX9_workOf_50 : decode cX9_workOf 50 = .ok (.aload_n 0, 1) := by decide +kernel
theorem dX9_workOf_51 : decode cX9_workOf 51 = .ok (.getfield 178, 3) := by decide +kernel
theorem dX9_workOf_54 : decode cX9_workOf 54 = .ok (.iconst 1, 1) := by decide +kernel
theorem dX9_workOf_55 : decode cX9_workOf 55 = .ok (.if_icmp .le 29, 3) := by decide +kernel
theorem dX9_workOf_58 : decode cX9_workOf 58 = .ok (.aload_n 0, 1) := by decide +kernel
theorem dX9_workOf_59 : decode cX9_workOf 59 = .ok (.iload_n 2, 1) := by decide +kernel
theorem dX9_workOf_60 : decode cX9_workOf 60 = .ok (.iload_n 3, 1) := by decide +kernel
theorem dX9_workOf_61 : decode cX9_workOf 61 = .ok (.invokevirtual 203, 3) := by decide +kernel
theorem dX9_workOf_64 : decode cX9_workOf 64 = .ok (.ifCond .eq 20, 3) := by decide +kernel
theorem dX9_workOf_67 : decode cX9_workOf 67 = .ok (.aload_n 0, 1) := by decide +kernel
theorem dX9_workOf_68 : decode cX9_workOf 68 = .ok (.dup, 1) := by decide +kernel
theorem dX9_workOf_69 : decode cX9_workOf 69 = .ok (.getfield 206, 3) := by decide +kernel
theorem dX9_workOf_72 : decode cX9_workOf 72 = .ok (.iconst 1, 1) := by decide +kernel
theorem dX9_workOf_73 : decode cX9_workOf 73 = .ok (.iadd, 1) := by decide +kernel
theorem dX9_workOf_74 : decode cX9_workOf 74 = .ok (.putfield 206, 3) := by decide +kernel
theorem dX9_workOf_77 : decode cX9_workOf 77 = .ok (.aload_n 0, 1) := by decide +kernel
theorem dX9_workOf_78 : decode cX9_workOf 78 = .ok (.iload_n 1, 1) := by decide +kernel
theorem dX9_workOf_79 : decode cX9_workOf 79 = .ok (.invokevirtual 200, 3) := by decide +kernel
theorem dX9_workOf_82 : decode cX9_workOf 82 = .ok (.iconst 0, 1) := by decide +kernel
theorem dX9_workOf_83 : decode cX9_workOf 83 = .ok (.ireturn, 1) := by decide +kernel
theorem dX9_workOf_84 : decode cX9_workOf 84 = .ok (.aload_n 0, 1) := by decide +kernel
theorem dX9_workOf_85 : decode cX9_workOf 85 = .ok (.bipush 25, 2) := by decide +kernel
theorem dX9_workOf_87 : decode cX9_workOf 87 = .ok (.iload_n 2, 1) := by decide +kernel
theorem dX9_workOf_88 : decode cX9_workOf 88 = .ok (.iadd, 1) := by decide +kernel
theorem dX9_workOf_89 : decode cX9_workOf 89 = .ok (.bipush 25, 2) := by decide +kernel
theorem dX9_workOf_91 : decode cX9_workOf 91 = .ok (.iload_n 3, 1) := by decide +kernel
theorem dX9_workOf_92 : decode cX9_workOf 92 = .ok (.iadd, 1) := by decide +kernel
theorem dX9_workOf_93 : decode cX9_workOf 93 = .ok (.invokevirtual 144, 3) := by decide +kernel
theorem dX9_workOf_96 : decode cX9_workOf 96 = .ok (.istore 4, 2) := by decide +kernel
theorem dX9_workOf_98 : decode cX9_workOf 98 = .ok (.iload 4, 2) := by decide +kernel
theorem dX9_workOf_100 : decode cX9_workOf 100 = .ok (.ifCond .ge 6, 3) := by decide +kernel
theorem dX9_workOf_103 : decode cX9_workOf 103 = .ok (.iload 4, 2) := by decide +kernel
theorem dX9_workOf_105 : decode cX9_workOf 105 = .ok (.ireturn, 1) := by decide +kernel
theorem dX9_workOf_106 : decode cX9_workOf 106 = .ok (.aload_n 0, 1) := by decide +kernel
theorem dX9_workOf_107 : decode cX9_workOf 107 = .ok (.invokevirtual 209, 3) := by decide +kernel
theorem dX9_workOf_110 : decode cX9_workOf 110 = .ok (.aload_n 0, 1) := by decide +kernel
theorem dX9_workOf_111 : decode cX9_workOf 111 = .ok (.invokevirtual 212, 3) := by decide +kernel
theorem dX9_workOf_114 : decode cX9_workOf 114 = .ok (.istore 4, 2) := by decide +kernel
theorem dX9_workOf_116 : decode cX9_workOf 116 = .ok (.iload 4, 2) := by decide +kernel
theorem dX9_workOf_118 : decode cX9_workOf 118 = .ok (.ifCond .ge 6, 3) := by decide +kernel
theorem dX9_workOf_121 : decode cX9_workOf 121 = .ok (.iload 4, 2) := by decide +kernel
theorem dX9_workOf_123 : decode cX9_workOf 123 = .ok (.ireturn, 1) := by decide +kernel
theorem dX9_workOf_124 : decode cX9_workOf 124 = .ok (.aload_n 0, 1) := by decide +kernel
theorem dX9_workOf_125 : decode cX9_workOf 125 = .ok (.getfield 90, 3) := by decide +kernel
theorem dX9_workOf_128 : decode cX9_workOf 128 = .ok (.ifCond .le 15, 3) := by decide +kernel
theorem dX9_workOf_131 : decode cX9_workOf 131 = .ok (.aload_n 0, 1) := by decide +kernel
theorem dX9_workOf_132 : decode cX9_workOf 132 = .ok (.getfield 107, 3) := by decide +kernel
theorem dX9_workOf_135 : decode cX9_workOf 135 = .ok (.bipush 18, 2) := by decide +kernel
theorem dX9_workOf_137 : decode cX9_workOf 137 = .ok (.if_icmp .ne 6, 3) := by decide +kernel
theorem dX9_workOf_140 : decode cX9_workOf 140 = .ok (.bipush (-4), 2) := by decide +kernel
theorem dX9_workOf_142 : decode cX9_workOf 142 = .ok (.ireturn, 1) := by decide +kernel
theorem dX9_workOf_143 : decode cX9_workOf 143 = .ok (.aload_n 0, 1) := by decide +kernel
theorem dX9_workOf_144 : decode cX9_workOf 144 = .ok (.iload_n 1, 1) := by decide +kernel
theorem dX9_workOf_145 : decode cX9_workOf 145 = .ok (.invokevirtual 200, 3) := by decide +kernel
theorem dX9_workOf_148 : decode cX9_workOf 148 = .ok (.aload_n 0, 1) := by decide +kernel
theorem dX9_workOf_149 : decode cX9_workOf 149 = .ok (.getfield 90, 3) := by decide +kernel
theorem dX9_workOf_152 : decode cX9_workOf 152 = .ok (.ifCond .le 20, 3) := by decide +kernel
end
section
theorem dX9_workOf_155 : decode cX9_workOf 155 = .ok (.aload_n 0, 1) := by decide +kernel
theorem dX9_workOf_156 : decode cX9_workOf 156 = .ok (.dup, 1) := by decide +kernel
theorem dX9_workOf_157 : decode cX9_workOf 157 = .ok (.getfield 215, 3) := by decide +kernel
theorem dX9_workOf_160 : decode cX9_workOf 160 = .ok (.iconst 1, 1) := by decide +kernel
theorem dX9_workOf_161 : decode cX9_workOf 161 = .ok (.iadd, 1) := by decide +kernel
theorem dX9_workOf_162 : decode cX9_workOf 162 = .ok (.putfield 215, 3) := by decide +kernel
theorem dX9_workOf_165 : decode cX9_workOf 165 = .ok (.aload_n 0, 1) := by decide +kernel
theorem dX9_workOf_166 : decode cX9_workOf 166 = .ok (.invokevirtual 184, 3) := by decide +kernel
theorem dX9_workOf_169 : decode cX9_workOf 169 = .ok (.goto 13, 3) := by decide +kernel
theorem dX9_workOf_172 : decode cX9_workOf 172 = .ok (.aload_n 0, 1) := by decide +kernel
theorem dX9_workOf_173 : decode cX9_workOf 173 = .ok (.dup, 1) := by decide +kernel
theorem dX9_workOf_174 : decode cX9_workOf 174 = .ok (.getfield 218, 3) := by decide +kernel
theorem dX9_workOf_177 : decode cX9_workOf 177 = .ok (.iconst 1, 1) := by decide +kernel
theorem dX9_workOf_178 : decode cX9_workOf 178 = .ok (.iadd, 1) := by decide +kernel
theorem dX9_workOf_179 : decode cX9_workOf 179 = .ok (.putfield 218, 3) := by decide +kernel
theorem dX9_workOf_182 : decode cX9_workOf 182 = .ok (.iconst 0, 1) := by decide +kernel
theorem dX9_workOf_183 : decode cX9_workOf 183 = .ok (.ireturn, 1) := by decide +kernel
theorem dX9_work_0 : decode cX9_work 0 = .ok (.iload_n 1, 1) := by decide +kernel
theorem dX9_work_1 : decode cX9_work 1 = .ok (.iconst 1, 1) := by decide +kernel
theorem dX9_work_2 : decode cX9_work 2 = .ok (.sipush 200, 3) := by decide +kernel
theorem dX9_work_5 : decode cX9_work 5 = .ok (.invokestatic 78, 3) := by decide +kernel
theorem dX9_work_8 : decode cX9_work 8 = .ok (.ifCond .ne 6, 3) := by decide +kernel
theorem dX9_work_11 : decode cX9_work 11 = .ok (.bipush (-2), 2) := by decide +kernel
theorem dX9_work_13 : decode cX9_work 13 = .ok (.ireturn, 1) := by decide +kernel
theorem dX9_work_14 : decode cX9_work 14 = .ok (.aload_n 0, 1) := by decide +kernel
theorem dX9_work_15 : decode cX9_work 15 = .ok (.iconst 0, 1) := by decide +kernel
theorem dX9_work_16 : decode cX9_work 16 = .ok (.putfield 221, 3) := by decide +kernel
theorem dX9_work_19 : decode cX9_work 19 = .ok (.iconst 0, 1) := by decide +kernel
theorem dX9_work_20 : decode cX9_work 20 = .ok (.istore_n 2, 1) := by decide +kernel
theorem dX9_work_21 : decode cX9_work 21 = .ok (.iload_n 2, 1) := by decide +kernel
theorem dX9_work_22 : decode cX9_work 22 = .ok (.iload_n 1, 1) := by decide +kernel
theorem dX9_work_23 : decode cX9_work 23 = .ok (.if_icmp .ge 44, 3) := by decide +kernel
theorem dX9_work_26 : decode cX9_work 26 = .ok (.aload_n 0, 1) := by decide +kernel
theorem dX9_work_27 : decode cX9_work 27 = .ok (.getfield 181, 3) := by decide +kernel
theorem dX9_work_30 : decode cX9_work 30 = .ok (.ifCond .le 37, 3) := by decide +kernel
theorem dX9_work_33 : decode cX9_work 33 = .ok (.aload_n 0, 1) := by decide +kernel
theorem dX9_work_34 : decode cX9_work 34 = .ok (.iconst 0, 1) := by decide +kernel
theorem dX9_work_35 : decode cX9_work 35 = .ok (.putfield 158, 3) := by decide +kernel
theorem dX9_work_38 : decode cX9_work 38 = .ok (.aload_n 0, 1) := by decide +kernel
theorem dX9_work_39 : decode cX9_work 39 = .ok (.aload_n 0, 1) := by decide +kernel
theorem dX9_work_40 : decode cX9_work 40 = .ok (.invokevirtual 224, 3) := by decide +kernel
theorem dX9_work_43 : decode cX9_work 43 = .ok (.invokevirtual 227, 3) := by decide +kernel
theorem dX9_work_46 : decode cX9_work 46 = .ok (.istore_n 3, 1) := by decide +kernel
theorem dX9_work_47 : decode cX9_work 47 = .ok (.aload_n 0, 1) := by decide +kernel
theorem dX9_work_48 : decode cX9_work 48 = .ok (.aload_n 0, 1) := by decide +kernel
theorem dX9_work_49 : decode cX9_work 49 = .ok (.getfield 158, 3) := by decide +kernel
theorem dX9_work_52 : decode cX9_work 52 = .ok (.putfield 221, 3) := by decide +kernel
theorem dX9_work_55 : decode cX9_work 55 = .ok (.iload_n 3, 1) := by decide +kernel
theorem dX9_work_56 : decode cX9_work 56 = .ok (.ifCond .ge 5, 3) := by decide +kernel
theorem dX9_work_59 : decode cX9_work 59 = .ok (.iload_n 3, 1) := by decide +kernel
theorem dX9_work_60 : decode cX9_work 60 = .ok (.ireturn, 1) := by decide +kernel
theorem dX9_work_61 : decode cX9_work 61 = .ok (.iinc 2 1, 3) := by decide +kernel
theorem dX9_work_64 : decode cX9_work 64 = .ok (.goto (-43), 3) := by decide +kernel
theorem dX9_work_67 : decode cX9_work 67 = .ok (.iload_n 2, 1) := by decide +kernel
theorem dX9_work_68 : decode cX9_work 68 = .ok (.ireturn, 1) := by decide +kernel
theorem dX9_isGone_0 : decode cX9_isGone 0 = .ok (.iconst 0, 1) := by decide +kernel
theorem dX9_isGone_1 : decode cX9_isGone 1 = .ok (.istore_n 2, 1) := by decide +kernel
theorem dX9_isGone_2 : decode cX9_isGone 2 = .ok (.iload_n 2, 1) := by decide +kernel
theorem dX9_isGone_3 : decode cX9_isGone 3 = .ok (.aload_n 0, 1) := by decide +kernel
theorem dX9_isGone_4 : decode cX9_isGone 4 = .ok (.getfield 107, 3) := by decide +kernel
theorem dX9_isGone_7 : decode cX9_isGone 7 = .ok (.if_icmp .ge 107, 3) := by decide +kernel
theorem dX9_isGone_10 : decode cX9_isGone 10 = .ok (.iload_n 2, 1) := by decide +kernel
theorem dX9_isGone_11 : decode cX9_isGone 11 = .ok (.iload_n 1, 1) := by decide +kernel
theorem dX9_isGone_12 : decode cX9_isGone 12 = .ok (.if_icmp .eq 37, 3) := by decide +kernel
theorem dX9_isGone_15 : decode cX9_isGone 15 = .ok (.aload_n 0, 1) := by decide +kernel
theorem dX9_isGone_16 : decode cX9_isGone 16 = .ok (.getfield 20, 3) := by decide +kernel
theorem dX9_isGone_19 : decode cX9_isGone 19 = .ok (.sipush 160, 3) := by decide +kernel
theorem dX9_isGone_22 : decode cX9_isGone 22 = .ok (.bipush 25, 2) := by decide +kernel
theorem dX9_isGone_24 : decode cX9_isGone 24 = .ok (.iload_n 2, 1) := by decide +kernel
theorem dX9_isGone_25 : decode cX9_isGone 25 = .ok (.iadd, 1) := by decide +kernel
theorem dX9_isGone_26 : decode cX9_isGone 26 = .ok (.imul, 1) := by decide +kernel
theorem dX9_isGone_27 : decode cX9_isGone 27 = .ok (.aload_n 0, 1) := by decide +kernel
theorem dX9_isGone_28 : decode cX9_isGone 28 = .ok (.getfield 20, 3) := by decide +kernel
theorem dX9_isGone_31 : decode cX9_isGone 31 = .ok (.sipush 160, 3) := by decide +kernel
theorem dX9_isGone_34 : decode cX9_isGone 34 = .ok (.bipush 25, 2) := by decide +kernel
theorem dX9_isGone_36 : decode cX9_isGone 36 = .ok (.iload_n 1, 1) := by decide +kernel
theorem dX9_isGone_37 : decode cX9_isGone 37 = .ok (.iadd, 1) := by decide +kernel
theorem dX9_isGone_38 : decode cX9_isGone 38 = .ok (.imul, 1) := by decide +kernel
theorem dX9_isGone_39 : decode cX9_isGone 39 = .ok (.invokestatic 154, 3) := by decide +kernel
theorem dX9_isGone_42 : decode cX9_isGone 42 = .ok (.ifCond .eq 7, 3) := by decide +kernel
theorem dX9_isGone_45 : decode cX9_isGone 45 = .ok (.iconst 1, 1) := by decide +kernel
theorem dX9_isGone_46 : decode cX9_isGone 46 = .ok (.goto 4, 3) := by decide +kernel
theorem dX9_isGone_49 : decode cX9_isGone 49 = .ok (.iconst 0, 1) := by decide +kernel
theorem dX9_isGone_50 : decode cX9_isGone 50 = .ok (.istore_n 3, 1) := by decide +kernel
theorem dX9_isGone_51 : decode cX9_isGone 51 = .ok (.iload_n 3, 1) := by decide +kernel
theorem dX9_isGone_52 : decode cX9_isGone 52 = .ok (.ifCond .eq 37, 3) := by decide +kernel
theorem dX9_isGone_55 : decode cX9_isGone 55 = .ok (.aload_n 0, 1) := by decide +kernel
theorem dX9_isGone_56 : decode cX9_isGone 56 = .ok (.getfield 20, 3) := by decide +kernel
theorem dX9_isGone_59 : decode cX9_isGone 59 = .ok (.sipush 160, 3) := by decide +kernel
theorem dX9_isGone_62 : decode cX9_isGone 62 = .ok (.bipush 25, 2) := by decide +kernel
theorem dX9_isGone_64 : decode cX9_isGone 64 = .ok (.iload_n 1, 1) := by decide +kernel
theorem dX9_isGone_65 : decode cX9_isGone 65 = .ok (.iadd, 1) := by decide +kernel
theorem dX9_isGone_66 : decode cX9_isGone 66 = .ok (.imul, 1) := by decide +kernel
theorem dX9_isGone_67 : decode cX9_isGone 67 = .ok (.aload_n 0, 1) := by decide +kernel
theorem dX9_isGone_68 : decode cX9_isGone 68 = .ok (.getfield 20, 3) := by decide +kernel
theorem dX9_isGone_71 : decode cX9_isGone 71 = .ok (.sipush 160, 3) := by decide +kernel
theorem dX9_isGone_74 : decode cX9_isGone 74 = .ok (.bipush 25, 2) := by decide +kernel
theorem dX9_isGone_76 : decode cX9_isGone 76 = .ok (.iload_n 2, 1) := by decide +kernel
theorem dX9_isGone_77 : decode cX9_isGone 77 = .ok (.iadd, 1) := by decide +kernel
theorem dX9_isGone_78 : decode cX9_isGone 78 = .ok (.imul, 1) := by decide +kernel
theorem dX9_isGone_79 : decode cX9_isGone 79 = .ok (.invokestatic 154, 3) := by decide +kernel
theorem dX9_isGone_82 : decode cX9_isGone 82 = .ok (.ifCond .eq 7, 3) := by decide +kernel
theorem dX9_isGone_85 : decode cX9_isGone 85 = .ok (.iconst 1, 1) := by decide +kernel
theorem dX9_isGone_86 : decode cX9_isGone 86 = .ok (.goto 4, 3) := by decide +kernel
theorem dX9_isGone_89 : decode cX9_isGone 89 = .ok (.iconst 0, 1) := by decide +kernel
theorem dX9_isGone_90 : decode cX9_isGone 90 = .ok (.istore 4, 2) := by decide +kernel
theorem dX9_isGone_92 : decode cX9_isGone 92 = .ok (.iload_n 3, 1) := by decide +kernel
theorem dX9_isGone_93 : decode cX9_isGone 93 = .ok (.ifCond .eq 15, 3) := by decide +kernel
theorem dX9_isGone_96 : decode cX9_isGone 96 = .ok (.iload 4, 2) := by decide +kernel
theorem dX9_isGone_98 : decode cX9_isGone 98 = .ok (.ifCond .eq 8, 3) := by decide +kernel
theorem dX9_isGone_101 : decode cX9_isGone 101 = .ok (.iload_n 2, 1) := by decide +kernel
theorem dX9_isGone_102 : decode cX9_isGone 102 = .ok (.iload_n 1, 1) := by decide +kernel
theorem dX9_isGone_103 : decode cX9_isGone 103 = .ok (.if_icmp .ge 5, 3) := by decide +kernel
theorem dX9_isGone_106 : decode cX9_isGone 106 = .ok (.iconst 1, 1) := by decide +kernel
theorem dX9_isGone_107 : decode cX9_isGone 107 = .ok (.ireturn, 1) := by decide +kernel
theorem dX9_isGone_108 : decode cX9_isGone 108 = .ok (.iinc 2 1, 3) := by decide +kernel
theorem dX9_isGone_111 : decode cX9_isGone 111 = .ok (.goto (-109), 3) := by decide +kernel
theorem dX9_isGone_114 : decode cX9_isGone 114 = .ok (.iconst 0, 1) := by decide +kernel
theorem dX9_isGone_115 : decode cX9_isGone 115 = .ok (.ireturn, 1) := by decide +kernel
theorem dX9_sort_0 : decode cX9_sort 0 = .ok (.aload_n 0, 1) := by decide +kernel
theorem dX9_sort_1 : decode cX9_sort 1 = .ok (.iconst 0, 1) := by decide +kernel
theorem dX9_sort_2 : decode cX9_sort 2 = .ok (.putfield 230, 3) := by decide +kernel
theorem dX9_sort_5 : decode cX9_sort 5 = .ok (.iconst 0, 1) := by decide +kernel
theorem dX9_sort_6 : decode cX9_sort 6 = .ok (.istore_n 1, 1) := by decide +kernel
theorem dX9_sort_7 : decode cX9_sort 7 = .ok (.iload_n 1, 1) := by decide +kernel
theorem dX9_sort_8 : decode cX9_sort 8 = .ok (.aload_n 0, 1) := by decide +kernel
theorem dX9_sort_9 : decode cX9_sort 9 = .ok (.getfield 107, 3) := by decide +kernel
theorem dX9_sort_12 : decode cX9_sort 12 = .ok (.if_icmp .ge 101, 3) := by decide +kernel
theorem dX9_sort_15 : decode cX9_sort 15 = .ok (.aload_n 0, 1) := by decide +kernel
theorem dX9_sort_16 : decode cX9_sort 16 = .ok (.iload_n 1, 1) := by decide +kernel
theorem dX9_sort_17 : decode cX9_sort 17 = .ok (.invokevirtual 233, 3) := by decide +kernel
theorem dX9_sort_20 : decode cX9_sort 20 = .ok (.ifCond .ne 87, 3) := by decide +kernel
theorem dX9_sort_23 : decode cX9_sort 23 = .ok (.aload_n 0, 1) := by decide +kernel
theorem dX9_sort_24 : decode cX9_sort 24 = .ok (.getfield 230, 3) := by decide +kernel
theorem dX9_sort_27 : decode cX9_sort 27 = .ok (.istore_n 2, 1) := by decide +kernel
theorem dX9_sort_28 : decode cX9_sort 28 = .ok (.iload_n 2, 1) := by decide +kernel
theorem dX9_sort_29 : decode cX9_sort 29 = .ok (.ifCond .le 56, 3) := by decide +kernel
theorem dX9_sort_32 : decode cX9_sort 32 = .ok (.aload_n 0, 1) := by decide +kernel
theorem dX9_sort_33 : decode cX9_sort 33 = .ok (.aload_n 0, 1) := by decide +kernel
theorem dX9_sort_34 : decode cX9_sort 34 = .ok (.getfield 20, 3) := by decide +kernel
theorem dX9_sort_37 : decode cX9_sort 37 = .ok (.sipush 160, 3) := by decide +kernel
theorem dX9_sort_40 : decode cX9_sort 40 = .ok (.bipush 43, 2) := by decide +kernel
theorem dX9_sort_42 : decode cX9_sort 42 = .ok (.iload_n 2, 1) := by decide +kernel
theorem dX9_sort_43 : decode cX9_sort 43 = .ok (.iadd, 1) := by decide +kernel
theorem dX9_sort_44 : decode cX9_sort 44 = .ok (.iconst 1, 1) := by decide +kernel
theorem dX9_sort_45 : decode cX9_sort 45 = .ok (.isub, 1) := by decide +kernel
theorem dX9_sort_46 : decode cX9_sort 46 = .ok (.imul, 1) := by decide +kernel
theorem dX9_sort_47 : decode cX9_sort 47 = .ok (.aload_n 0, 1) := by decide +kernel
theorem dX9_sort_48 : decode cX9_sort 48 = .ok (.getfield 20, 3) := by decide +kernel
theorem dX9_sort_51 : decode cX9_sort 51 = .ok (.sipush 160, 3) := by decide +kernel
theorem dX9_sort_54 : decode cX9_sort 54 = .ok (.bipush 25, 2) := by decide +kernel
theorem dX9_sort_56 : decode cX9_sort 56 = .ok (.iload_n 1, 1) := by decide +kernel
theorem dX9_sort_57 : decode cX9_sort 57 = .ok (.iadd, 1) := by decide +kernel
theorem dX9_sort_58 : decode cX9_sort 58 = .ok (.imul, 1) := by decide +kernel
theorem dX9_sort_59 : decode cX9_sort 59 = .ok (.invokevirtual 93, 3) := by decide +kernel
theorem dX9_sort_62 : decode cX9_sort 62 = .ok (.ifCond .le 23, 3) := by decide +kernel
theorem dX9_sort_65 : decode cX9_sort 65 = .ok (.aload_n 0, 1) := by decide +kernel
theorem dX9_sort_66 : decode cX9_sort 66 = .ok (.bipush 43, 2) := by decide +kernel
theorem dX9_sort_68 : decode cX9_sort 68 = .ok (.iload_n 2, 1) := by decide +kernel
theorem dX9_sort_69 : decode cX9_sort 69 = .ok (.iadd, 1) := by decide +kernel
theorem dX9_sort_70 : decode cX9_sort 70 = .ok (.iconst 1, 1) := by decide +kernel
theorem dX9_sort_71 : decode cX9_sort 71 = .ok (.isub, 1) := by decide +kernel
theorem dX9_sort_72 : decode cX9_sort 72 = .ok (.bipush 43, 2) := by decide +kernel
theorem dX9_sort_74 : decode cX9_sort 74 = .ok (.iload_n 2, 1) := by decide +kernel
theorem dX9_sort_75 : decode cX9_sort 75 = .ok (.iadd, 1) := by decide +kernel
theorem dX9_sort_76 : decode cX9_sort 76 = .ok (.invokevirtual 128, 3) := by decide +kernel
theorem dX9_sort_79 : decode cX9_sort 79 = .ok (.iinc 2 (-1), 3) := by decide +kernel
theorem dX9_sort_82 : decode cX9_sort 82 = .ok (.goto (-54), 3) := by decide +kernel
theorem dX9_sort_85 : decode cX9_sort 85 = .ok (.aload_n 0, 1) := by decide +kernel
theorem dX9_sort_86 : decode cX9_sort 86 = .ok (.bipush 25, 2) := by decide +kernel
theorem dX9_sort_88 : decode cX9_sort 88 = .ok (.iload_n 1, 1) := by decide +kernel
theorem dX9_sort_89 : decode cX9_sort 89 = .ok (.iadd, 1) := by decide +kernel
theorem dX9_sort_90 : decode cX9_sort 90 = .ok (.bipush 43, 2) := by decide +kernel
theorem dX9_sort_92 : decode cX9_sort 92 = .ok (.iload_n 2, 1) := by decide +kernel
theorem dX9_sort_93 : decode cX9_sort 93 = .ok (.iadd, 1) := by decide +kernel
theorem dX9_sort_94 : decode cX9_sort 94 = .ok (.invokevirtual 128, 3) := by decide +kernel
theorem dX9_sort_97 : decode cX9_sort 97 = .ok (.aload_n 0, 1) := by decide +kernel
theorem dX9_sort_98 : decode cX9_sort 98 = .ok (.dup, 1) := by decide +kernel
theorem dX9_sort_99 : decode cX9_sort 99 = .ok (.getfield 230, 3) := by decide +kernel
theorem dX9_sort_102 : decode cX9_sort 102 = .ok (.iconst 1, 1) := by decide +kernel
theorem dX9_sort_103 : decode cX9_sort 103 = .ok (.iadd, 1) := by decide +kernel
theorem dX9_sort_104 : decode cX9_sort 104 = .ok (.putfield 230, 3) := by decide +kernel
theorem dX9_sort_107 : decode cX9_sort 107 = .ok (.iinc 1 1, 3) := by decide +kernel
theorem dX9_sort_110 : decode cX9_sort 110 = .ok (.goto (-103), 3) := by decide +kernel
theorem dX9_sort_113 : decode cX9_sort 113 = .ok (.return_, 1) := by decide +kernel
theorem dX9_tidyOne_0 : decode cX9_tidyOne 0 = .ok (.aload_n 0, 1) := by decide +kernel
theorem dX9_tidyOne_1 : decode cX9_tidyOne 1 = .ok (.iconst 0, 1) := by decide +kernel
theorem dX9_tidyOne_2 : decode cX9_tidyOne 2 = .ok (.putfield 151, 3) := by decide +kernel
theorem dX9_tidyOne_5 : decode cX9_tidyOne 5 = .ok (.iconst 0, 1) := by decide +kernel
theorem dX9_tidyOne_6 : decode cX9_tidyOne 6 = .ok (.istore_n 2, 1) := by decide +kernel
theorem dX9_tidyOne_7 : decode cX9_tidyOne 7 = .ok (.iload_n 2, 1) := by decide +kernel
theorem dX9_tidyOne_8 : decode cX9_tidyOne 8 = .ok (.aload_n 0, 1) := by decide +kernel
theorem dX9_tidyOne_9 : decode cX9_tidyOne 9 = .ok (.getfield 230, 3) := by decide +kernel
theorem dX9_tidyOne_12 : decode cX9_tidyOne 12 = .ok (.if_icmp .ge 37, 3) := by decide +kernel
theorem dX9_tidyOne_15 : decode cX9_tidyOne 15 = .ok (.iload_n 2, 1) := by decide +kernel
theorem dX9_tidyOne_16 : decode cX9_tidyOne 16 = .ok (.iload_n 1, 1) := by decide +kernel
theorem dX9_tidyOne_17 : decode cX9_tidyOne 17 = .ok (.if_icmp .eq 26, 3) := by decide +kernel
theorem dX9_tidyOne_20 : decode cX9_tidyOne 20 = .ok (.aload_n 0, 1) := by decide +kernel
theorem dX9_tidyOne_21 : decode cX9_tidyOne 21 = .ok (.getfield 50, 3) := by decide +kernel
theorem dX9_tidyOne_24 : decode cX9_tidyOne 24 = .ok (.aload_n 0, 1) := by decide +kernel
theorem dX9_tidyOne_25 : decode cX9_tidyOne 25 = .ok (.getfield 151, 3) := by decide +kernel
theorem dX9_tidyOne_28 : decode cX9_tidyOne 28 = .ok (.bipush 43, 2) := by decide +kernel
theorem dX9_tidyOne_30 : decode cX9_tidyOne 30 = .ok (.iload_n 2, 1) := by decide +kernel
theorem dX9_tidyOne_31 : decode cX9_tidyOne 31 = .ok (.iadd, 1) := by decide +kernel
theorem dX9_tidyOne_32 : decode cX9_tidyOne 32 = .ok (.iastore, 1) := by decide +kernel
theorem dX9_tidyOne_33 : decode cX9_tidyOne 33 = .ok (.aload_n 0, 1) := by decide +kernel
theorem dX9_tidyOne_34 : decode cX9_tidyOne 34 = .ok (.dup, 1) := by decide +kernel
theorem dX9_tidyOne_35 : decode cX9_tidyOne 35 = .ok (.getfield 151, 3) := by decide +kernel
theorem dX9_tidyOne_38 : decode cX9_tidyOne 38 = .ok (.iconst 1, 1) := by decide +kernel
theorem dX9_tidyOne_39 : decode cX9_tidyOne 39 = .ok (.iadd, 1) := by decide +kernel
theorem dX9_tidyOne_40 : decode cX9_tidyOne 40 = .ok (.putfield 151, 3) := by decide +kernel
theorem dX9_tidyOne_43 : decode cX9_tidyOne 43 = .ok (.iinc 2 1, 3) := by decide +kernel
theorem dX9_tidyOne_46 : decode cX9_tidyOne 46 = .ok (.goto (-39), 3) := by decide +kernel
theorem dX9_tidyOne_49 : decode cX9_tidyOne 49 = .ok (.bipush 43, 2) := by decide +kernel
theorem dX9_tidyOne_51 : decode cX9_tidyOne 51 = .ok (.iload_n 1, 1) := by decide +kernel
theorem dX9_tidyOne_52 : decode cX9_tidyOne 52 = .ok (.iadd, 1) := by decide +kernel
theorem dX9_tidyOne_53 : decode cX9_tidyOne 53 = .ok (.istore_n 2, 1) := by decide +kernel
theorem dX9_tidyOne_54 : decode cX9_tidyOne 54 = .ok (.aload_n 0, 1) := by decide +kernel
theorem dX9_tidyOne_55 : decode cX9_tidyOne 55 = .ok (.aload_n 0, 1) := by decide +kernel
theorem dX9_tidyOne_56 : decode cX9_tidyOne 56 = .ok (.getfield 13, 3) := by decide +kernel
theorem dX9_tidyOne_59 : decode cX9_tidyOne 59 = .ok (.iload_n 2, 1) := by decide +kernel
theorem dX9_tidyOne_60 : decode cX9_tidyOne 60 = .ok (.iaload, 1) := by decide +kernel
theorem dX9_tidyOne_61 : decode cX9_tidyOne 61 = .ok (.iconst 1, 1) := by decide +kernel
theorem dX9_tidyOne_62 : decode cX9_tidyOne 62 = .ok (.isub, 1) := by decide +kernel
theorem dX9_tidyOne_63 : decode cX9_tidyOne 63 = .ok (.putfield 90, 3) := by decide +kernel
theorem dX9_tidyOne_66 : decode cX9_tidyOne 66 = .ok (.iconst 0, 1) := by decide +kernel
theorem dX9_tidyOne_67 : decode cX9_tidyOne 67 = .ok (.istore_n 3, 1) := by decide +kernel
theorem dX9_tidyOne_68 : decode cX9_tidyOne 68 = .ok (.iload_n 3, 1) := by decide +kernel
theorem dX9_tidyOne_69 : decode cX9_tidyOne 69 = .ok (.aload_n 0, 1) := by decide +kernel
theorem dX9_tidyOne_70 : decode cX9_tidyOne 70 = .ok (.getfield 90, 3) := by decide +kernel
theorem dX9_tidyOne_73 : decode cX9_tidyOne 73 = .ok (.if_icmp .ge 73, 3) := by decide +kernel
theorem dX9_tidyOne_76 : decode cX9_tidyOne 76 = .ok (.aload_n 0, 1) := by decide +kernel
theorem dX9_tidyOne_77 : decode cX9_tidyOne 77 = .ok (.getfield 32, 3) := by decide +kernel
theorem dX9_tidyOne_80 : decode cX9_tidyOne 80 = .ok (.iload_n 3, 1) := by decide +kernel
theorem dX9_tidyOne_81 : decode cX9_tidyOne 81 = .ok (.aload_n 0, 1) := by decide +kernel
theorem dX9_tidyOne_82 : decode cX9_tidyOne 82 = .ok (.getfield 17, 3) := by decide +kernel
theorem dX9_tidyOne_85 : decode cX9_tidyOne 85 = .ok (.bipush 40, 2) := by decide +kernel
theorem dX9_tidyOne_87 : decode cX9_tidyOne 87 = .ok (.iload_n 2, 1) := by decide +kernel
theorem dX9_tidyOne_88 : decode cX9_tidyOne 88 = .ok (.imul, 1) := by decide +kernel
theorem dX9_tidyOne_89 : decode cX9_tidyOne 89 = .ok (.iload_n 3, 1) := by decide +kernel
theorem dX9_tidyOne_90 : decode cX9_tidyOne 90 = .ok (.iadd, 1) := by decide +kernel
theorem dX9_tidyOne_91 : decode cX9_tidyOne 91 = .ok (.iconst 1, 1) := by decide +kernel
theorem dX9_tidyOne_92 : decode cX9_tidyOne 92 = .ok (.iadd, 1) := by decide +kernel
theorem dX9_tidyOne_93 : decode cX9_tidyOne 93 = .ok (.iaload, 1) := by decide +kernel
theorem dX9_tidyOne_94 : decode cX9_tidyOne 94 = .ok (.iastore, 1) := by decide +kernel
theorem dX9_tidyOne_95 : decode cX9_tidyOne 95 = .ok (.iconst 0, 1) := by decide +kernel
theorem dX9_tidyOne_96 : decode cX9_tidyOne 96 = .ok (.istore 4, 2) := by decide +kernel
theorem dX9_tidyOne_98 : decode cX9_tidyOne 98 = .ok (.iload 4, 2) := by decide +kernel
theorem dX9_tidyOne_100 : decode cX9_tidyOne 100 = .ok (.iconst 4, 1) := by decide +kernel
theorem dX9_tidyOne_101 : decode cX9_tidyOne 101 = .ok (.if_icmp .ge 39, 3) := by decide +kernel
theorem dX9_tidyOne_104 : decode cX9_tidyOne 104 = .ok (.aload_n 0, 1) := by decide +kernel
theorem dX9_tidyOne_105 : decode cX9_tidyOne 105 = .ok (.getfield 35, 3) := by decide +kernel
theorem dX9_tidyOne_108 : decode cX9_tidyOne 108 = .ok (.iconst 4, 1) := by decide +kernel
theorem dX9_tidyOne_109 : decode cX9_tidyOne 109 = .ok (.iload_n 3, 1) := by decide +kernel
theorem dX9_tidyOne_110 : decode cX9_tidyOne 110 = .ok (.imul, 1) := by decide +kernel
theorem dX9_tidyOne_111 : decode cX9_tidyOne 111 = .ok (.iload 4, 2) := by decide +kernel
theorem dX9_tidyOne_113 : decode cX9_tidyOne 113 = .ok (.iadd, 1) := by decide +kernel
theorem dX9_tidyOne_114 : decode cX9_tidyOne 114 = .ok (.aload_n 0, 1) := by decide +kernel
theorem dX9_tidyOne_115 : decode cX9_tidyOne 115 = .ok (.getfield 20, 3) := by decide +kernel
theorem dX9_tidyOne_118 : decode cX9_tidyOne 118 = .ok (.sipush 160, 3) := by decide +kernel
theorem dX9_tidyOne_121 : decode cX9_tidyOne 121 = .ok (.iload_n 2, 1) := by decide +kernel
theorem dX9_tidyOne_122 : decode cX9_tidyOne 122 = .ok (.imul, 1) := by decide +kernel
theorem dX9_tidyOne_123 : decode cX9_tidyOne 123 = .ok (.iconst 4, 1) := by decide +kernel
theorem dX9_tidyOne_124 : decode cX9_tidyOne 124 = .ok (.iload_n 3, 1) := by decide +kernel
theorem dX9_tidyOne_125 : decode cX9_tidyOne 125 = .ok (.imul, 1) := by decide +kernel
theorem dX9_tidyOne_126 : decode cX9_tidyOne 126 = .ok (.iadd, 1) := by decide +kernel
theorem dX9_tidyOne_127 : decode cX9_tidyOne 127 = .ok (.iconst 4, 1) := by decide +kernel
theorem dX9_tidyOne_128 : decode cX9_tidyOne 128 = .ok (.iadd, 1) := by decide +kernel
theorem dX9_tidyOne_129 : decode cX9_tidyOne 129 = .ok (.iload 4, 2) := by decide +kernel
theorem dX9_tidyOne_131 : decode cX9_tidyOne 131 = .ok (.iadd, 1) := by decide +kernel
theorem dX9_tidyOne_132 : decode cX9_tidyOne 132 = .ok (.iaload, 1) := by decide +kernel
theorem dX9_tidyOne_133 : decode cX9_tidyOne 133 = .ok (.iastore, 1) := by decide +kernel
theorem dX9_tidyOne_134 : decode cX9_tidyOne 134 = .ok (.iinc 4 1, 3) := by decide +kernel
theorem dX9_tidyOne_137 : decode cX9_tidyOne 137 = .ok (.goto (-39), 3) := by decide +kernel
theorem dX9_tidyOne_140 : decode cX9_tidyOne 140 = .ok (.iinc 3 1, 3) := by decide +kernel
theorem dX9_tidyOne_143 : decode cX9_tidyOne 143 = .ok (.goto (-75), 3) := by decide +kernel
theorem dX9_tidyOne_146 : decode cX9_tidyOne 146 = .ok (.aload_n 0, 1) := by decide +kernel
theorem dX9_tidyOne_147 : decode cX9_tidyOne 147 = .ok (.invokevirtual 212, 3) := by decide +kernel
theorem dX9_tidyOne_150 : decode cX9_tidyOne 150 = .ok (.istore_n 3, 1) := by decide +kernel
theorem dX9_tidyOne_151 : decode cX9_tidyOne 151 = .ok (.iload_n 3, 1) := by decide +kernel
theorem dX9_tidyOne_152 : decode cX9_tidyOne 152 = .ok (.ifCond .ge 5, 3) := by decide +kernel
theorem dX9_tidyOne_155 : decode cX9_tidyOne 155 = .ok (.iload_n 3, 1) := by decide +kernel
theorem dX9_tidyOne_156 : decode cX9_tidyOne 156 = .ok (.ireturn, 1) := by decide +kernel
theorem dX9_tidyOne_157 : decode cX9_tidyOne 157 = .ok (.aload_n 0, 1) := by decide +kernel
theorem dX9_tidyOne_158 : decode cX9_tidyOne 158 = .ok (.getfield 90, 3) := by decide +kernel
theorem dX9_tidyOne_161 : decode cX9_tidyOne 161 = .ok (.bipush 40, 2) := by decide +kernel
theorem dX9_tidyOne_163 : decode cX9_tidyOne 163 = .ok (.if_icmp .ne 6, 3) := by decide +kernel
theorem dX9_tidyOne_166 : decode cX9_tidyOne 166 = .ok (.bipush (-6), 2) := by decide +kernel
theorem dX9_tidyOne_168 : decode cX9_tidyOne 168 = .ok (.ireturn, 1) := by decide +kernel
theorem dX9_tidyOne_169 : decode cX9_tidyOne 169 = .ok (.iconst 0, 1) := by decide +kernel
theorem dX9_tidyOne_170 : decode cX9_tidyOne 170 = .ok (.istore 4, 2) := by decide +kernel
theorem dX9_tidyOne_172 : decode cX9_tidyOne 172 = .ok (.iload 4, 2) := by decide +kernel
theorem dX9_tidyOne_174 : decode cX9_tidyOne 174 = .ok (.aload_n 0, 1) := by decide +kernel
theorem dX9_tidyOne_175 : decode cX9_tidyOne 175 = .ok (.getfield 90, 3) := by decide +kernel
theorem dX9_tidyOne_178 : decode cX9_tidyOne 178 = .ok (.if_icmp .ge 77, 3) := by decide +kernel
theorem dX9_tidyOne_181 : decode cX9_tidyOne 181 = .ok (.aload_n 0, 1) := by decide +kernel
theorem dX9_tidyOne_182 : decode cX9_tidyOne 182 = .ok (.getfield 17, 3) := by decide +kernel
theorem dX9_tidyOne_185 : decode cX9_tidyOne 185 = .ok (.bipush 40, 2) := by decide +kernel
theorem dX9_tidyOne_187 : decode cX9_tidyOne 187 = .ok (.iload_n 2, 1) := by decide +kernel
theorem dX9_tidyOne_188 : decode cX9_tidyOne 188 = .ok (.imul, 1) := by decide +kernel
theorem dX9_tidyOne_189 : decode cX9_tidyOne 189 = .ok (.iload 4, 2) := by decide +kernel
theorem dX9_tidyOne_191 : decode cX9_tidyOne 191 = .ok (.iadd, 1) := by decide +kernel
theorem dX9_tidyOne_192 : decode cX9_tidyOne 192 = .ok (.iconst 1, 1) := by decide +kernel
theorem dX9_tidyOne_193 : decode cX9_tidyOne 193 = .ok (.iadd, 1) := by decide +kernel
theorem dX9_tidyOne_194 : decode cX9_tidyOne 194 = .ok (.aload_n 0, 1) := by decide +kernel
theorem dX9_tidyOne_195 : decode cX9_tidyOne 195 = .ok (.getfield 32, 3) := by decide +kernel
theorem dX9_tidyOne_198 : decode cX9_tidyOne 198 = .ok (.iload 4, 2) := by decide +kernel
theorem dX9_tidyOne_200 : decode cX9_tidyOne 200 = .ok (.iaload, 1) := by decide +kernel
theorem dX9_tidyOne_201 : decode cX9_tidyOne 201 = .ok (.iastore, 1) := by decide +kernel
theorem dX9_tidyOne_202 : decode cX9_tidyOne 202 = .ok (.iconst 0, 1) := by decide +kernel
theorem dX9_tidyOne_203 : decode cX9_tidyOne 203 = .ok (.istore 5, 2) := by decide +kernel
theorem dX9_tidyOne_205 : decode cX9_tidyOne 205 = .ok (.iload 5, 2) := by decide +kernel
theorem dX9_tidyOne_207 : decode cX9_tidyOne 207 = .ok (.iconst 4, 1) := by decide +kernel
theorem dX9_tidyOne_208 : decode cX9_tidyOne 208 = .ok (.if_icmp .ge 41, 3) := by decide +kernel
theorem dX9_tidyOne_211 : decode cX9_tidyOne 211 = .ok (.aload_n 0, 1) := by decide +kernel
theorem dX9_tidyOne_212 : decode cX9_tidyOne 212 = .ok (.getfield 20, 3) := by decide +kernel
theorem dX9_tidyOne_215 : decode cX9_tidyOne 215 = .ok (.sipush 160, 3) := by decide +kernel
theorem dX9_tidyOne_218 : decode cX9_tidyOne 218 = .ok (.iload_n 2, 1) := by decide +kernel
theorem dX9_tidyOne_219 : decode cX9_tidyOne 219 = .ok (.imul, 1) := by decide +kernel
theorem dX9_tidyOne_220 : decode cX9_tidyOne 220 = .ok (.iconst 4, 1) := by decide +kernel
theorem dX9_tidyOne_221 : decode cX9_tidyOne 221 = .ok (.iload 4, 2) := by decide +kernel
theorem dX9_tidyOne_223 : decode cX9_tidyOne 223 = .ok (.imul, 1) := by decide +kernel
theorem dX9_tidyOne_224 : decode cX9_tidyOne 224 = .ok (.iadd, 1) := by decide +kernel
theorem dX9_tidyOne_225 : decode cX9_tidyOne 225 = .ok (.iconst 4, 1) := by decide +kernel
theorem dX9_tidyOne_226 : decode cX9_tidyOne 226 = .ok (.iadd, 1) := by decide +kernel
theorem dX9_tidyOne_227 : decode cX9_tidyOne 227 = .ok (.iload 5, 2) := by decide +kernel
theorem dX9_tidyOne_229 : decode cX9_tidyOne 229 = .ok (.iadd, 1) := by decide +kernel
theorem dX9_tidyOne_230 : decode cX9_tidyOne 230 = .ok (.aload_n 0, 1) := by decide +kernel
theorem dX9_tidyOne_231 : decode cX9_tidyOne 231 = .ok (.getfield 35, 3) := by decide +kernel
theorem dX9_tidyOne_234 : decode cX9_tidyOne 234 = .ok (.iconst 4, 1) := by decide +kernel
theorem dX9_tidyOne_235 : decode cX9_tidyOne 235 = .ok (.iload 4, 2) := by decide +kernel
theorem dX9_tidyOne_237 : decode cX9_tidyOne 237 = .ok (.imul, 1) := by decide +kernel
theorem dX9_tidyOne_238 : decode cX9_tidyOne 238 = .ok (.iload 5, 2) := by decide +kernel
theorem dX9_tidyOne_240 : decode cX9_tidyOne 240 = .ok (.iadd, 1) := by decide +kernel
theorem dX9_tidyOne_241 : decode cX9_tidyOne 241 = .ok (.iaload, 1) := by decide +kernel
theorem dX9_tidyOne_242 : decode cX9_tidyOne 242 = .ok (.iastore, 1) := by decide +kernel
theorem dX9_tidyOne_243 : decode cX9_tidyOne 243 = .ok (.iinc 5 1, 3) := by decide +kernel
theorem dX9_tidyOne_246 : decode cX9_tidyOne 246 = .ok (.goto (-41), 3) := by decide +kernel
theorem dX9_tidyOne_249 : decode cX9_tidyOne 249 = .ok (.iinc 4 1, 3) := by decide +kernel
theorem dX9_tidyOne_252 : decode cX9_tidyOne 252 = .ok (.goto (-80), 3) := by decide +kernel
theorem dX9_tidyOne_255 : decode cX9_tidyOne 255 = .ok (.aload_n 0, 1) := by decide +kernel
theorem dX9_tidyOne_256 : decode cX9_tidyOne 256 = .ok (.getfield 13, 3) := by decide +kernel
theorem dX9_tidyOne_259 : decode cX9_tidyOne 259 = .ok (.iload_n 2, 1) := by decide +kernel
theorem dX9_tidyOne_260 : decode cX9_tidyOne 260 = .ok (.aload_n 0, 1) := by decide +kernel
theorem dX9_tidyOne_261 : decode cX9_tidyOne 261 = .ok (.getfield 90, 3) := by decide +kernel
theorem dX9_tidyOne_264 : decode cX9_tidyOne 264 = .ok (.iconst 1, 1) := by decide +kernel
theorem dX9_tidyOne_265 : decode cX9_tidyOne 265 = .ok (.iadd, 1) := by decide +kernel
theorem dX9_tidyOne_266 : decode cX9_tidyOne 266 = .ok (.iastore, 1) := by decide +kernel
theorem dX9_tidyOne_267 : decode cX9_tidyOne 267 = .ok (.iconst 0, 1) := by decide +kernel
theorem dX9_tidyOne_268 : decode cX9_tidyOne 268 = .ok (.ireturn, 1) := by decide +kernel
theorem dX9_tidy_0 : decode cX9_tidy 0 = .ok (.aload_n 0, 1) := by decide +kernel
theorem dX9_tidy_1 : decode cX9_tidy 1 = .ok (.getfield 181, 3) := by decide +kernel
theorem dX9_tidy_4 : decode cX9_tidy 4 = .ok (.ifCond .le 6, 3) := by decide +kernel
theorem dX9_tidy_7 : decode cX9_tidy 7 = .ok (.bipush (-3), 2) := by decide +kernel
theorem dX9_tidy_9 : decode cX9_tidy 9 = .ok (.ireturn, 1) := by decide +kernel
theorem dX9_tidy_10 : decode cX9_tidy 10 = .ok (.aload_n 0, 1) := by decide +kernel
theorem dX9_tidy_11 : decode cX9_tidy 11 = .ok (.iconst 0, 1) := by decide +kernel
theorem dX9_tidy_12 : decode cX9_tidy 12 = .ok (.putfield 158, 3) := by decide +kernel
theorem dX9_tidy_15 : decode cX9_tidy 15 = .ok (.aload_n 0, 1) := by decide +kernel
theorem dX9_tidy_16 : decode cX9_tidy 16 = .ok (.iconst 0, 1) := by decide +kernel
theorem dX9_tidy_17 : decode cX9_tidy 17 = .ok (.putfield 221, 3) := by decide +kernel
theorem dX9_tidy_20 : decode cX9_tidy 20 = .ok (.aload_n 0, 1) := by decide +kernel
theorem dX9_tidy_21 : decode cX9_tidy 21 = .ok (.invokevirtual 236, 3) := by decide +kernel
theorem dX9_tidy_24 : decode cX9_tidy 24 = .ok (.iconst 0, 1) := by decide +kernel
theorem dX9_tidy_25 : decode cX9_tidy 25 = .ok (.istore_n 1, 1) := by decide +kernel
theorem dX9_tidy_26 : decode cX9_tidy 26 = .ok (.iload_n 1, 1) := by decide +kernel
theorem dX9_tidy_27 : decode cX9_tidy 27 = .ok (.aload_n 0, 1) := by decide +kernel
theorem dX9_tidy_28 : decode cX9_tidy 28 = .ok (.getfield 230, 3) := by decide +kernel
theorem dX9_tidy_31 : decode cX9_tidy 31 = .ok (.if_icmp .ge 29, 3) := by decide +kernel
theorem dX9_tidy_34 : decode cX9_tidy 34 = .ok (.aload_n 0, 1) := by decide +kernel
theorem dX9_tidy_35 : decode cX9_tidy 35 = .ok (.iload_n 1, 1) := by decide +kernel
theorem dX9_tidy_36 : decode cX9_tidy 36 = .ok (.invokevirtual 239, 3) := by decide +kernel
theorem dX9_tidy_39 : decode cX9_tidy 39 = .ok (.istore_n 2, 1) := by decide +kernel
theorem dX9_tidy_40 : decode cX9_tidy 40 = .ok (.aload_n 0, 1) := by decide +kernel
theorem dX9_tidy_41 : decode cX9_tidy 41 = .ok (.aload_n 0, 1) := by decide +kernel
theorem dX9_tidy_42 : decode cX9_tidy 42 = .ok (.getfield 158, 3) := by decide +kernel
theorem dX9_tidy_45 : decode cX9_tidy 45 = .ok (.putfield 221, 3) := by decide +kernel
theorem dX9_tidy_48 : decode cX9_tidy 48 = .ok (.iload_n 2, 1) := by decide +kernel
theorem dX9_tidy_49 : decode cX9_tidy 49 = .ok (.ifCond .ge 5, 3) := by decide +kernel
theorem dX9_tidy_52 : decode cX9_tidy 52 = .ok (.iload_n 2, 1) := by decide +kernel
theorem dX9_tidy_53 : decode cX9_tidy 53 = .ok (.ireturn, 1) := by decide +kernel
theorem dX9_tidy_54 : decode cX9_tidy 54 = .ok (.iinc 1 1, 3) := by decide +kernel
theorem dX9_tidy_57 : decode cX9_tidy 57 = .ok (.goto (-31), 3) := by decide +kernel
theorem dX9_tidy_60 : decode cX9_tidy 60 = .ok (.iconst 0, 1) := by decide +kernel
theorem dX9_tidy_61 : decode cX9_tidy 61 = .ok (.istore_n 1, 1) := by decide +kernel
theorem dX9_tidy_62 : decode cX9_tidy 62 = .ok (.iload_n 1, 1) := by decide +kernel
theorem dX9_tidy_63 : decode cX9_tidy 63 = .ok (.aload_n 0, 1) := by decide +kernel
theorem dX9_tidy_64 : decode cX9_tidy 64 = .ok (.getfield 230, 3) := by decide +kernel
theorem dX9_tidy_67 : decode cX9_tidy 67 = .ok (.if_icmp .ge 21, 3) := by decide +kernel
theorem dX9_tidy_70 : decode cX9_tidy 70 = .ok (.aload_n 0, 1) := by decide +kernel
theorem dX9_tidy_71 : decode cX9_tidy 71 = .ok (.bipush 43, 2) := by decide +kernel
theorem dX9_tidy_73 : decode cX9_tidy 73 = .ok (.iload_n 1, 1) := by decide +kernel
theorem dX9_tidy_74 : decode cX9_tidy 74 = .ok (.iadd, 1) := by decide +kernel
theorem dX9_tidy_75 : decode cX9_tidy 75 = .ok (.bipush 25, 2) := by decide +kernel
theorem dX9_tidy_77 : decode cX9_tidy 77 = .ok (.iload_n 1, 1) := by decide +kernel
theorem dX9_tidy_78 : decode cX9_tidy 78 = .ok (.iadd, 1) := by decide +kernel
theorem dX9_tidy_79 : decode cX9_tidy 79 = .ok (.invokevirtual 128, 3) := by decide +kernel
theorem dX9_tidy_82 : decode cX9_tidy 82 = .ok (.iinc 1 1, 3) := by decide +kernel
theorem dX9_tidy_85 : decode cX9_tidy 85 = .ok (.goto (-23), 3) := by decide +kernel
theorem dX9_tidy_88 : decode cX9_tidy 88 = .ok (.aload_n 0, 1) := by decide +kernel
theorem dX9_tidy_89 : decode cX9_tidy 89 = .ok (.aload_n 0, 1) := by decide +kernel
theorem dX9_tidy_90 : decode cX9_tidy 90 = .ok (.getfield 230, 3) := by decide +kernel
theorem dX9_tidy_93 : decode cX9_tidy 93 = .ok (.putfield 107, 3) := by decide +kernel
theorem dX9_tidy_96 : decode cX9_tidy 96 = .ok (.aload_n 0, 1) := by decide +kernel
theorem dX9_tidy_97 : decode cX9_tidy 97 = .ok (.iconst 1, 1) := by decide +kernel
theorem dX9_tidy_98 : decode cX9_tidy 98 = .ok (.putfield 187, 3) := by decide +kernel
theorem dX9_tidy_101 : decode cX9_tidy 101 = .ok (.aload_n 0, 1) := by decide +kernel
theorem dX9_tidy_102 : decode cX9_tidy 102 = .ok (.getfield 107, 3) := by decide +kernel
theorem dX9_tidy_105 : decode cX9_tidy 105 = .ok (.ireturn, 1) := by decide +kernel
theorem dX9_left_0 : decode cX9_left 0 = .ok (.aload_n 0, 1) := by decide +kernel
theorem dX9_left_1 : decode cX9_left 1 = .ok (.iload_n 1, 1) := by decide +kernel
theorem dX9_left_2 : decode cX9_left 2 = .ok (.invokevirtual 131, 3) := by decide +kernel
theorem dX9_left_5 : decode cX9_left 5 = .ok (.istore_n 2, 1) := by decide +kernel
theorem dX9_left_6 : decode cX9_left 6 = .ok (.iload_n 2, 1) := by decide +kernel
theorem dX9_left_7 : decode cX9_left 7 = .ok (.ifCond .ge 6, 3) := by decide +kernel
theorem dX9_left_10 : decode cX9_left 10 = .ok (.bipush (-2), 2) := by decide +kernel
theorem dX9_left_12 : decode cX9_left 12 = .ok (.ireturn, 1) := by decide +kernel
theorem dX9_left_13 : decode cX9_left 13 = .ok (.aload_n 0, 1) := by decide +kernel
theorem dX9_left_14 : decode cX9_left 14 = .ok (.iconst 0, 1) := by decide +kernel
theorem dX9_left_15 : decode cX9_left 15 = .ok (.putfield 221, 3) := by decide +kernel
theorem dX9_left_18 : decode cX9_left 18 = .ok (.aload_n 0, 1) := by decide +kernel
theorem dX9_left_19 : decode cX9_left 19 = .ok (.invokevirtual 124, 3) := by decide +kernel
theorem dX9_left_22 : decode cX9_left 22 = .ok (.istore_n 3, 1) := by decide +kernel
theorem dX9_left_23 : decode cX9_left 23 = .ok (.iload_n 3, 1) := by decide +kernel
theorem dX9_left_24 : decode cX9_left 24 = .ok (.bipush 25, 2) := by decide +kernel
theorem dX9_left_26 : decode cX9_left 26 = .ok (.if_icmp .ne 6, 3) := by decide +kernel
theorem dX9_left_29 : decode cX9_left 29 = .ok (.bipush (-4), 2) := by decide +kernel
theorem dX9_left_31 : decode cX9_left 31 = .ok (.ireturn, 1) := by decide +kernel
theorem dX9_left_32 : decode cX9_left 32 = .ok (.aload_n 0, 1) := by decide +kernel
theorem dX9_left_33 : decode cX9_left 33 = .ok (.iconst 0, 1) := by decide +kernel
theorem dX9_left_34 : decode cX9_left 34 = .ok (.putfield 158, 3) := by decide +kernel
theorem dX9_left_37 : decode cX9_left 37 = .ok (.aload_n 0, 1) := by decide +kernel
theorem dX9_left_38 : decode cX9_left 38 = .ok (.iload_n 2, 1) := by decide +kernel
theorem dX9_left_39 : decode cX9_left 39 = .ok (.invokevirtual 100, 3) := by decide +kernel
theorem dX9_left_42 : decode cX9_left 42 = .ok (.aload_n 0, 1) := by decide +kernel
theorem dX9_left_43 : decode cX9_left 43 = .ok (.invokevirtual 209, 3) := by decide +kernel
theorem dX9_left_46 : decode cX9_left 46 = .ok (.aload_n 0, 1) := by decide +kernel
theorem dX9_left_47 : decode cX9_left 47 = .ok (.invokevirtual 212, 3) := by decide +kernel
theorem dX9_left_50 : decode cX9_left 50 = .ok (.istore 4, 2) := by decide +kernel
theorem dX9_left_52 : decode cX9_left 52 = .ok (.aload_n 0, 1) := by decide +kernel
theorem dX9_left_53 : decode cX9_left 53 = .ok (.aload_n 0, 1) := by decide +kernel
theorem dX9_left_54 : decode cX9_left 54 = .ok (.getfield 158, 3) := by decide +kernel
theorem dX9_left_57 : decode cX9_left 57 = .ok (.putfield 221, 3) := by decide +kernel
theorem dX9_left_60 : decode cX9_left 60 = .ok (.iload 4, 2) := by decide +kernel
theorem dX9_left_62 : decode cX9_left 62 = .ok (.ifCond .ge 6, 3) := by decide +kernel
theorem dX9_left_65 : decode cX9_left 65 = .ok (.iload 4, 2) := by decide +kernel
theorem dX9_left_67 : decode cX9_left 67 = .ok (.ireturn, 1) := by decide +kernel
theorem dX9_left_68 : decode cX9_left 68 = .ok (.aload_n 0, 1) := by decide +kernel
theorem dX9_left_69 : decode cX9_left 69 = .ok (.iload_n 3, 1) := by decide +kernel
theorem dX9_left_70 : decode cX9_left 70 = .ok (.iconst 1, 1) := by decide +kernel
theorem dX9_left_71 : decode cX9_left 71 = .ok (.invokevirtual 103, 3) := by decide +kernel
theorem dX9_left_74 : decode cX9_left 74 = .ok (.iload_n 3, 1) := by decide +kernel
theorem dX9_left_75 : decode cX9_left 75 = .ok (.iconst 1, 1) := by decide +kernel
theorem dX9_left_76 : decode cX9_left 76 = .ok (.isub, 1) := by decide +kernel
theorem dX9_left_77 : decode cX9_left 77 = .ok (.ireturn, 1) := by decide +kernel
theorem dX9_member_0 : decode cX9_member 0 = .ok (.aload_n 0, 1) := by decide +kernel
theorem dX9_member_1 : decode cX9_member 1 = .ok (.iload_n 1, 1) := by decide +kernel
theorem dX9_member_2 : decode cX9_member 2 = .ok (.invokevirtual 131, 3) := by decide +kernel
theorem dX9_member_5 : decode cX9_member 5 = .ok (.istore_n 2, 1) := by decide +kernel
theorem dX9_member_6 : decode cX9_member 6 = .ok (.iload_n 2, 1) := by decide +kernel
theorem dX9_member_7 : decode cX9_member 7 = .ok (.ifCond .ge 6, 3) := by decide +kernel
theorem dX9_member_10 : decode cX9_member 10 = .ok (.bipush (-2), 2) := by decide +kernel
theorem dX9_member_12 : decode cX9_member 12 = .ok (.ireturn, 1) := by decide +kernel
theorem dX9_member_13 : decode cX9_member 13 = .ok (.aload_n 0, 1) := by decide +kernel
theorem dX9_member_14 : decode cX9_member 14 = .ok (.getfield 187, 3) := by decide +kernel
theorem dX9_member_17 : decode cX9_member 17 = .ok (.ifCond .ne 6, 3) := by decide +kernel
theorem dX9_member_20 : decode cX9_member 20 = .ok (.bipush (-3), 2) := by decide +kernel
theorem dX9_member_22 : decode cX9_member 22 = .ok (.ireturn, 1) := by decide +kernel
theorem dX9_member_23 : decode cX9_member 23 = .ok (.aload_n 0, 1) := by decide +kernel
theorem dX9_member_24 : decode cX9_member 24 = .ok (.iconst 0, 1) := by decide +kernel
theorem dX9_member_25 : decode cX9_member 25 = .ok (.putfield 158, 3) := by decide +kernel
theorem dX9_member_28 : decode cX9_member 28 = .ok (.aload_n 0, 1) := by decide +kernel
theorem dX9_member_29 : decode cX9_member 29 = .ok (.iload_n 2, 1) := by decide +kernel
theorem dX9_member_30 : decode cX9_member 30 = .ok (.invokevirtual 100, 3) := by decide +kernel
theorem dX9_member_33 : decode cX9_member 33 = .ok (.aload_n 0, 1) := by decide +kernel
theorem dX9_member_34 : decode cX9_member 34 = .ok (.invokevirtual 209, 3) := by decide +kernel
theorem dX9_member_37 : decode cX9_member 37 = .ok (.aload_n 0, 1) := by decide +kernel
theorem dX9_member_38 : decode cX9_member 38 = .ok (.invokevirtual 212, 3) := by decide +kernel
theorem dX9_member_41 : decode cX9_member 41 = .ok (.istore_n 3, 1) := by decide +kernel
theorem dX9_member_42 : decode cX9_member 42 = .ok (.aload_n 0, 1) := by decide +kernel
theorem dX9_member_43 : decode cX9_member 43 = .ok (.aload_n 0, 1) := by decide +kernel
theorem dX9_member_44 : decode cX9_member 44 = .ok (.getfield 158, 3) := by decide +kernel
theorem dX9_member_47 : decode cX9_member 47 = .ok (.putfield 221, 3) := by decide +kernel
theorem dX9_member_50 : decode cX9_member 50 = .ok (.iload_n 3, 1) := by decide +kernel
theorem dX9_member_51 : decode cX9_member 51 = .ok (.ifCond .ge 7, 3) := by decide +kernel
theorem dX9_member_54 : decode cX9_member 54 = .ok (.iload_n 3, 1) := by decide +kernel
theorem dX9_member_55 : decode cX9_member 55 = .ok (.goto 15, 3) := by decide +kernel
theorem dX9_member_58 : decode cX9_member 58 = .ok (.aload_n 0, 1) := by decide +kernel
theorem dX9_member_59 : decode cX9_member 59 = .ok (.getfield 90, 3) := by decide +kernel
theorem dX9_member_62 : decode cX9_member 62 = .ok (.ifCond .ne 7, 3) := by decide +kernel
theorem dX9_member_65 : decode cX9_member 65 = .ok (.iconst 1, 1) := by decide +kernel
theorem dX9_member_66 : decode cX9_member 66 = .ok (.goto 4, 3) := by decide +kernel
theorem dX9_member_69 : decode cX9_member 69 = .ok (.iconst 0, 1) := by decide +kernel
theorem dX9_member_70 : decode cX9_member 70 = .ok (.ireturn, 1) := by decide +kernel
theorem dX9_pair_0 : decode cX9_pair 0 = .ok (.iload_n 1, 1) := by decide +kernel
theorem dX9_pair_1 : decode cX9_pair 1 = .ok (.iconst 0, 1) := by decide +kernel
theorem dX9_pair_2 : decode cX9_pair 2 = .ok (.aload_n 0, 1) := by decide +kernel
theorem dX9_pair_3 : decode cX9_pair 3 = .ok (.getfield 181, 3) := by decide +kernel
theorem dX9_pair_6 : decode cX9_pair 6 = .ok (.iconst 1, 1) := by decide +kernel
theorem dX9_pair_7 : decode cX9_pair 7 = .ok (.isub, 1) := by decide +kernel
theorem dX9_pair_8 : decode cX9_pair 8 = .ok (.invokestatic 78, 3) := by decide +kernel
theorem dX9_pair_11 : decode cX9_pair 11 = .ok (.ifCond .eq 22, 3) := by decide +kernel
theorem dX9_pair_14 : decode cX9_pair 14 = .ok (.bipush 100, 2) := by decide +kernel
theorem dX9_pair_16 : decode cX9_pair 16 = .ok (.aload_n 0, 1) := by decide +kernel
theorem dX9_pair_17 : decode cX9_pair 17 = .ok (.getfield 23, 3) := by decide +kernel
theorem dX9_pair_20 : decode cX9_pair 20 = .ok (.iload_n 1, 1) := by decide +kernel
theorem dX9_pair_21 : decode cX9_pair 21 = .ok (.iaload, 1) := by decide +kernel
theorem dX9_pair_22 : decode cX9_pair 22 = .ok (.imul, 1) := by decide +kernel
theorem dX9_pair_23 : decode cX9_pair 23 = .ok (.aload_n 0, 1) := by decide +kernel
theorem dX9_pair_24 : decode cX9_pair 24 = .ok (.getfield 26, 3) := by decide +kernel
theorem dX9_pair_27 : decode cX9_pair 27 = .ok (.iload_n 1, 1) := by decide +kernel
theorem dX9_pair_28 : decode cX9_pair 28 = .ok (.iaload, 1) := by decide +kernel
theorem dX9_pair_29 : decode cX9_pair 29 = .ok (.iadd, 1) := by decide +kernel
theorem dX9_pair_30 : decode cX9_pair 30 = .ok (.goto 4, 3) := by decide +kernel
theorem dX9_pair_33 : decode cX9_pair 33 = .ok (.iconst (-1), 1) := by decide +kernel
theorem dX9_pair_34 : decode cX9_pair 34 = .ok (.ireturn, 1) := by decide +kernel
theorem dX9_isOne_0 : decode cX9_isOne 0 = .ok (.iconst 0, 1) := by decide +kernel
theorem dX9_isOne_1 : decode cX9_isOne 1 = .ok (.istore_n 2, 1) := by decide +kernel
theorem dX9_isOne_2 : decode cX9_isOne 2 = .ok (.iconst 0, 1) := by decide +kernel
theorem dX9_isOne_3 : decode cX9_isOne 3 = .ok (.istore_n 3, 1) := by decide +kernel
theorem dX9_isOne_4 : decode cX9_isOne 4 = .ok (.iload_n 3, 1) := by decide +kernel
theorem dX9_isOne_5 : decode cX9_isOne 5 = .ok (.iconst 4, 1) := by decide +kernel
theorem dX9_isOne_6 : decode cX9_isOne 6 = .ok (.if_icmp .ge 27, 3) := by decide +kernel
theorem dX9_isOne_9 : decode cX9_isOne 9 = .ok (.iload_n 2, 1) := by decide +kernel
theorem dX9_isOne_10 : decode cX9_isOne 10 = .ok (.aload_n 0, 1) := by decide +kernel
theorem dX9_isOne_11 : decode cX9_isOne 11 = .ok (.getfield 20, 3) := by decide +kernel
theorem dX9_isOne_14 : decode cX9_isOne 14 = .ok (.sipush 160, 3) := by decide +kernel
theorem dX9_isOne_17 : decode cX9_isOne 17 = .ok (.bipush 25, 2) := by decide +kernel
theorem dX9_isOne_19 : decode cX9_isOne 19 = .ok (.iload_n 1, 1) := by decide +kernel
theorem dX9_isOne_20 : decode cX9_isOne 20 = .ok (.iadd, 1) := by decide +kernel
theorem dX9_isOne_21 : decode cX9_isOne 21 = .ok (.imul, 1) := by decide +kernel
theorem dX9_isOne_22 : decode cX9_isOne 22 = .ok (.iload_n 3, 1) := by decide +kernel
theorem dX9_isOne_23 : decode cX9_isOne 23 = .ok (.iadd, 1) := by decide +kernel
theorem dX9_isOne_24 : decode cX9_isOne 24 = .ok (.iaload, 1) := by decide +kernel
theorem dX9_isOne_25 : decode cX9_isOne 25 = .ok (.iadd, 1) := by decide +kernel
theorem dX9_isOne_26 : decode cX9_isOne 26 = .ok (.istore_n 2, 1) := by decide +kernel
theorem dX9_isOne_27 : decode cX9_isOne 27 = .ok (.iinc 3 1, 3) := by decide +kernel
theorem dX9_isOne_30 : decode cX9_isOne 30 = .ok (.goto (-26), 3) := by decide +kernel
theorem dX9_isOne_33 : decode cX9_isOne 33 = .ok (.iload_n 2, 1) := by decide +kernel
theorem dX9_isOne_34 : decode cX9_isOne 34 = .ok (.ifCond .ne 7, 3) := by decide +kernel
theorem dX9_isOne_37 : decode cX9_isOne 37 = .ok (.iconst 1, 1) := by decide +kernel
theorem dX9_isOne_38 : decode cX9_isOne 38 = .ok (.goto 4, 3) := by decide +kernel
theorem dX9_isOne_41 : decode cX9_isOne 41 = .ok (.iconst 0, 1) := by decide +kernel
theorem dX9_isOne_42 : decode cX9_isOne 42 = .ok (.ireturn, 1) := by decide +kernel
theorem dX9_alone_0 : decode cX9_alone 0 = .ok (.bipush 31, 2) := by decide +kernel
theorem dX9_alone_2 : decode cX9_alone 2 = .ok (.istore_n 2, 1) := by decide +kernel
theorem dX9_alone_3 : decode cX9_alone 3 = .ok (.iconst 0, 1) := by decide +kernel
theorem dX9_alone_4 : decode cX9_alone 4 = .ok (.istore_n 3, 1) := by decide +kernel
theorem dX9_alone_5 : decode cX9_alone 5 = .ok (.iload_n 3, 1) := by decide +kernel
theorem dX9_alone_6 : decode cX9_alone 6 = .ok (.aload_n 0, 1) := by decide +kernel
theorem dX9_alone_7 : decode cX9_alone 7 = .ok (.getfield 107, 3) := by decide +kernel
theorem dX9_alone_10 : decode cX9_alone 10 = .ok (.if_icmp .ge 94, 3) := by decide +kernel
theorem dX9_alone_13 : decode cX9_alone 13 = .ok (.sipush 160, 3) := by decide +kernel
theorem dX9_alone_16 : decode cX9_alone 16 = .ok (.bipush 25, 2) := by decide +kernel
theorem dX9_alone_18 : decode cX9_alone 18 = .ok (.iload_n 3, 1) := by decide +kernel
theorem dX9_alone_19 : decode cX9_alone 19 = .ok (.iadd, 1) := by decide +kernel
theorem dX9_alone_20 : decode cX9_alone 20 = .ok (.imul, 1) := by decide +kernel
theorem dX9_alone_21 : decode cX9_alone 21 = .ok (.istore 4, 2) := by decide +kernel
theorem dX9_alone_23 : decode cX9_alone 23 = .ok (.iconst 0, 1) := by decide +kernel
theorem dX9_alone_24 : decode cX9_alone 24 = .ok (.istore 5, 2) := by decide +kernel
theorem dX9_alone_26 : decode cX9_alone 26 = .ok (.iconst 0, 1) := by decide +kernel
theorem dX9_alone_27 : decode cX9_alone 27 = .ok (.istore 6, 2) := by decide +kernel
theorem dX9_alone_29 : decode cX9_alone 29 = .ok (.iload 6, 2) := by decide +kernel
theorem dX9_alone_31 : decode cX9_alone 31 = .ok (.iconst 4, 1) := by decide +kernel
theorem dX9_alone_32 : decode cX9_alone 32 = .ok (.if_icmp .ge 34, 3) := by decide +kernel
theorem dX9_alone_35 : decode cX9_alone 35 = .ok (.iload 5, 2) := by decide +kernel
theorem dX9_alone_37 : decode cX9_alone 37 = .ok (.iload 6, 2) := by decide +kernel
theorem dX9_alone_39 : decode cX9_alone 39 = .ok (.iload_n 1, 1) := by decide +kernel
theorem dX9_alone_40 : decode cX9_alone 40 = .ok (.if_icmp .ne 7, 3) := by decide +kernel
theorem dX9_alone_43 : decode cX9_alone 43 = .ok (.iconst 0, 1) := by decide +kernel
theorem dX9_alone_44 : decode cX9_alone 44 = .ok (.goto 13, 3) := by decide +kernel
theorem dX9_alone_47 : decode cX9_alone 47 = .ok (.aload_n 0, 1) := by decide +kernel
theorem dX9_alone_48 : decode cX9_alone 48 = .ok (.getfield 20, 3) := by decide +kernel
theorem dX9_alone_51 : decode cX9_alone 51 = .ok (.iload 4, 2) := by decide +kernel
theorem dX9_alone_53 : decode cX9_alone 53 = .ok (.iload 6, 2) := by decide +kernel
theorem dX9_alone_55 : decode cX9_alone 55 = .ok (.iadd, 1) := by decide +kernel
theorem dX9_alone_56 : decode cX9_alone 56 = .ok (.iaload, 1) := by decide +kernel
theorem dX9_alone_57 : decode cX9_alone 57 = .ok (.iadd, 1) := by decide +kernel
theorem dX9_alone_58 : decode cX9_alone 58 = .ok (.istore 5, 2) := by decide +kernel
theorem dX9_alone_60 : decode cX9_alone 60 = .ok (.iinc 6 1, 3) := by decide +kernel
theorem dX9_alone_63 : decode cX9_alone 63 = .ok (.goto (-34), 3) := by decide +kernel
theorem dX9_alone_66 : decode cX9_alone 66 = .ok (.iload 5, 2) := by decide +kernel
theorem dX9_alone_68 : decode cX9_alone 68 = .ok (.ifCond .ne 28, 3) := by decide +kernel
theorem dX9_alone_71 : decode cX9_alone 71 = .ok (.aload_n 0, 1) := by decide +kernel
theorem dX9_alone_72 : decode cX9_alone 72 = .ok (.getfield 20, 3) := by decide +kernel
theorem dX9_alone_75 : decode cX9_alone 75 = .ok (.iload 4, 2) := by decide +kernel
theorem dX9_alone_77 : decode cX9_alone 77 = .ok (.iload_n 1, 1) := by decide +kernel
theorem dX9_alone_78 : decode cX9_alone 78 = .ok (.iadd, 1) := by decide +kernel
theorem dX9_alone_79 : decode cX9_alone 79 = .ok (.iaload, 1) := by decide +kernel
theorem dX9_alone_80 : decode cX9_alone 80 = .ok (.iload_n 2, 1) := by decide +kernel
theorem dX9_alone_81 : decode cX9_alone 81 = .ok (.if_icmp .ge 15, 3) := by decide +kernel
theorem dX9_alone_84 : decode cX9_alone 84 = .ok (.aload_n 0, 1) := by decide +kernel
theorem dX9_alone_85 : decode cX9_alone 85 = .ok (.getfield 20, 3) := by decide +kernel
theorem dX9_alone_88 : decode cX9_alone 88 = .ok (.iload 4, 2) := by decide +kernel
theorem dX9_alone_90 : decode cX9_alone 90 = .ok (.iload_n 1, 1) := by decide +kernel
theorem dX9_alone_91 : decode cX9_alone 91 = .ok (.iadd, 1) := by decide +kernel
theorem dX9_alone_92 : decode cX9_alone 92 = .ok (.iaload, 1) := by decide +kernel
theorem dX9_alone_93 : decode cX9_alone 93 = .ok (.goto 4, 3) := by decide +kernel
theorem dX9_alone_96 : decode cX9_alone 96 = .ok (.iload_n 2, 1) := by decide +kernel
theorem dX9_alone_97 : decode cX9_alone 97 = .ok (.istore_n 2, 1) := by decide +kernel
theorem dX9_alone_98 : decode cX9_alone 98 = .ok (.iinc 3 1, 3) := by decide +kernel
theorem dX9_alone_101 : decode cX9_alone 101 = .ok (.goto (-96), 3) := by decide +kernel
theorem dX9_alone_104 : decode cX9_alone 104 = .ok (.iload_n 2, 1) := by decide +kernel
theorem dX9_alone_105 : decode cX9_alone 105 = .ok (.ireturn, 1) := by decide +kernel
theorem dX9_doesStand_0 : decode cX9_doesStand 0 = .ok (.iconst 0, 1) := by decide +kernel
theorem dX9_doesStand_1 : decode cX9_doesStand 1 = .ok (.istore_n 1, 1) := by decide +kernel
theorem dX9_doesStand_2 : decode cX9_doesStand 2 = .ok (.iload_n 1, 1) := by decide +kernel
theorem dX9_doesStand_3 : decode cX9_doesStand 3 = .ok (.aload_n 0, 1) := by decide +kernel
theorem dX9_doesStand_4 : decode cX9_doesStand 4 = .ok (.getfield 107, 3) := by decide +kernel
theorem dX9_doesStand_7 : decode cX9_doesStand 7 = .ok (.if_icmp .ge 34, 3) := by decide +kernel
theorem dX9_doesStand_10 : decode cX9_doesStand 10 = .ok (.aload_n 0, 1) := by decide +kernel
theorem dX9_doesStand_11 : decode cX9_doesStand 11 = .ok (.getfield 20, 3) := by decide +kernel
theorem dX9_doesStand_14 : decode cX9_doesStand 14 = .ok (.sipush 160, 3) := by decide +kernel
theorem dX9_doesStand_17 : decode cX9_doesStand 17 = .ok (.bipush 25, 2) := by decide +kernel
theorem dX9_doesStand_19 : decode cX9_doesStand 19 = .ok (.iload_n 1, 1) := by decide +kernel
theorem dX9_doesStand_20 : decode cX9_doesStand 20 = .ok (.iadd, 1) := by decide +kernel
theorem dX9_doesStand_21 : decode cX9_doesStand 21 = .ok (.imul, 1) := by decide +kernel
theorem dX9_doesStand_22 : decode cX9_doesStand 22 = .ok (.aload_n 0, 1) := by decide +kernel
theorem dX9_doesStand_23 : decode cX9_doesStand 23 = .ok (.getfield 38, 3) := by decide +kernel
theorem dX9_doesStand_26 : decode cX9_doesStand 26 = .ok (.iconst 0, 1) := by decide +kernel
theorem dX9_doesStand_27 : decode cX9_doesStand 27 = .ok (.invokestatic 154, 3) := by decide +kernel
theorem dX9_doesStand_30 : decode cX9_doesStand 30 = .ok (.ifCond .eq 5, 3) := by decide +kernel
theorem dX9_doesStand_33 : decode cX9_doesStand 33 = .ok (.iconst 0, 1) := by decide +kernel
theorem dX9_doesStand_34 : decode cX9_doesStand 34 = .ok (.ireturn, 1) := by decide +kernel
theorem dX9_doesStand_35 : decode cX9_doesStand 35 = .ok (.iinc 1 1, 3) := by decide +kernel
theorem dX9_doesStand_38 : decode cX9_doesStand 38 = .ok (.goto (-36), 3) := by decide +kernel
theorem dX9_doesStand_41 : decode cX9_doesStand 41 = .ok (.iconst 1, 1) := by decide +kernel
theorem dX9_doesStand_42 : decode cX9_doesStand 42 = .ok (.ireturn, 1) := by decide +kernel
theorem dX9_findStanding_0 : decode cX9_findStanding 0 = .ok (.aload_n 0, 1) := by decide +kernel
theorem dX9_findStanding_1 : decode cX9_findStanding 1 = .ok (.iconst 0, 1) := by decide +kernel
theorem dX9_findStanding_2 : decode cX9_findStanding 2 = .ok (.putfield 242, 3) := by decide +kernel
theorem dX9_findStanding_5 : decode cX9_findStanding 5 = .ok (.iconst 0, 1) := by decide +kernel
theorem dX9_findStanding_6 : decode cX9_findStanding 6 = .ok (.istore_n 1, 1) := by decide +kernel
theorem dX9_findStanding_7 : decode cX9_findStanding 7 = .ok (.iload_n 1, 1) := by decide +kernel
theorem dX9_findStanding_8 : decode cX9_findStanding 8 = .ok (.aload_n 0, 1) := by decide +kernel
theorem dX9_findStanding_9 : decode cX9_findStanding 9 = .ok (.getfield 107, 3) := by decide +kernel
theorem dX9_findStanding_12 : decode cX9_findStanding 12 = .ok (.if_icmp .ge 19, 3) := by decide +kernel
theorem dX9_findStanding_15 : decode cX9_findStanding 15 = .ok (.aload_n 0, 1) := by decide +kernel
theorem dX9_findStanding_16 : decode cX9_findStanding 16 = .ok (.iload_n 1, 1) := by decide +kernel
theorem dX9_findStanding_17 : decode cX9_findStanding 17 = .ok (.invokevirtual 245, 3) := by decide +kernel
theorem dX9_findStanding_20 : decode cX9_findStanding 20 = .ok (.ifCond .eq 5, 3) := by decide +kernel
theorem dX9_findStanding_23 : decode cX9_findStanding 23 = .ok (.iconst 0, 1) := by decide +kernel
theorem dX9_findStanding_24 : decode cX9_findStanding 24 = .ok (.ireturn, 1) := by decide +kernel
theorem dX9_findStanding_25 : decode cX9_findStanding 25 = .ok (.iinc 1 1, 3) := by decide +kernel
theorem dX9_findStanding_28 : decode cX9_findStanding 28 = .ok (.goto (-21), 3) := by decide +kernel
theorem dX9_findStanding_31 : decode cX9_findStanding 31 = .ok (.iconst 0, 1) := by decide +kernel
theorem dX9_findStanding_32 : decode cX9_findStanding 32 = .ok (.istore_n 1, 1) := by decide +kernel
theorem dX9_findStanding_33 : decode cX9_findStanding 33 = .ok (.iload_n 1, 1) := by decide +kernel
theorem dX9_findStanding_34 : decode cX9_findStanding 34 = .ok (.iconst 4, 1) := by decide +kernel
theorem dX9_findStanding_35 : decode cX9_findStanding 35 = .ok (.if_icmp .ge 45, 3) := by decide +kernel
theorem dX9_findStanding_38 : decode cX9_findStanding 38 = .ok (.aload_n 0, 1) := by decide +kernel
theorem dX9_findStanding_39 : decode cX9_findStanding 39 = .ok (.getfield 65, 3) := by decide +kernel
theorem dX9_findStanding_42 : decode cX9_findStanding 42 = .ok (.iload_n 1, 1) := by decide +kernel
theorem dX9_findStanding_43 : decode cX9_findStanding 43 = .ok (.iload_n 1, 1) := by decide +kernel
theorem dX9_findStanding_44 : decode cX9_findStanding 44 = .ok (.aload_n 0, 1) := by decide +kernel
theorem dX9_findStanding_45 : decode cX9_findStanding 45 = .ok (.getfield 75, 3) := by decide +kernel
theorem dX9_findStanding_48 : decode cX9_findStanding 48 = .ok (.if_icmp .ge 11, 3) := by decide +kernel
theorem dX9_findStanding_51 : decode cX9_findStanding 51 = .ok (.aload_n 0, 1) := by decide +kernel
theorem dX9_findStanding_52 : decode cX9_findStanding 52 = .ok (.iload_n 1, 1) := by decide +kernel
theorem dX9_findStanding_53 : decode cX9_findStanding 53 = .ok (.invokevirtual 248, 3) := by decide +kernel
theorem dX9_findStanding_56 : decode cX9_findStanding 56 = .ok (.goto 4, 3) := by decide +kernel
theorem dX9_findStanding_59 : decode cX9_findStanding 59 = .ok (.iconst 1, 1) := by decide +kernel
theorem dX9_findStanding_60 : decode cX9_findStanding 60 = .ok (.iastore, 1) := by decide +kernel
theorem dX9_findStanding_61 : decode cX9_findStanding 61 = .ok (.aload_n 0, 1) := by decide +kernel
theorem dX9_findStanding_62 : decode cX9_findStanding 62 = .ok (.getfield 65, 3) := by decide +kernel
theorem dX9_findStanding_65 : decode cX9_findStanding 65 = .ok (.iload_n 1, 1) := by decide +kernel
theorem dX9_findStanding_66 : decode cX9_findStanding 66 = .ok (.iaload, 1) := by decide +kernel
theorem dX9_findStanding_67 : decode cX9_findStanding 67 = .ok (.bipush 31, 2) := by decide +kernel
theorem dX9_findStanding_69 : decode cX9_findStanding 69 = .ok (.if_icmp .ne 5, 3) := by decide +kernel
theorem dX9_findStanding_72 : decode cX9_findStanding 72 = .ok (.iconst (-1), 1) := by decide +kernel
theorem dX9_findStanding_73 : decode cX9_findStanding 73 = .ok (.ireturn, 1) := by decide +kernel
theorem dX9_findStanding_74 : decode cX9_findStanding 74 = .ok (.iinc 1 1, 3) := by decide +kernel
theorem dX9_findStanding_77 : decode cX9_findStanding 77 = .ok (.goto (-44), 3) := by decide +kernel
theorem dX9_findStanding_80 : decode cX9_findStanding 80 = .ok (.aload_n 0, 1) := by decide +kernel
theorem dX9_findStanding_81 : decode cX9_findStanding 81 = .ok (.getfield 38, 3) := by decide +kernel
theorem dX9_findStanding_84 : decode cX9_findStanding 84 = .ok (.iconst 0, 1) := by decide +kernel
theorem dX9_findStanding_85 : decode cX9_findStanding 85 = .ok (.iconst 0, 1) := by decide +kernel
theorem dX9_findStanding_86 : decode cX9_findStanding 86 = .ok (.iastore, 1) := by decide +kernel
theorem dX9_findStanding_87 : decode cX9_findStanding 87 = .ok (.aload_n 0, 1) := by decide +kernel
theorem dX9_findStanding_88 : decode cX9_findStanding 88 = .ok (.getfield 38, 3) := by decide +kernel
theorem dX9_findStanding_91 : decode cX9_findStanding 91 = .ok (.iconst 0, 1) := by decide +kernel
theorem dX9_findStanding_92 : decode cX9_findStanding 92 = .ok (.iaload, 1) := by decide +kernel
theorem dX9_findStanding_93 : decode cX9_findStanding 93 = .ok (.aload_n 0, 1) := by decide +kernel
theorem dX9_findStanding_94 : decode cX9_findStanding 94 = .ok (.getfield 65, 3) := by decide +kernel
theorem dX9_findStanding_97 : decode cX9_findStanding 97 = .ok (.iconst 0, 1) := by decide +kernel
theorem dX9_findStanding_98 : decode cX9_findStanding 98 = .ok (.iaload, 1) := by decide +kernel
theorem dX9_findStanding_99 : decode cX9_findStanding 99 = .ok (.if_icmp .ge 144, 3) := by decide +kernel
theorem dX9_findStanding_102 : decode cX9_findStanding 102 = .ok (.aload_n 0, 1) := by decide +kernel
theorem dX9_findStanding_103 : decode cX9_findStanding 103 = .ok (.getfield 38, 3) := by decide +kernel
theorem dX9_findStanding_106 : decode cX9_findStanding 106 = .ok (.iconst 1, 1) := by decide +kernel
theorem dX9_findStanding_107 : decode cX9_findStanding 107 = .ok (.iconst 0, 1) := by decide +kernel
theorem dX9_findStanding_108 : decode cX9_findStanding 108 = .ok (.iastore, 1) := by decide +kernel
theorem dX9_findStanding_109 : decode cX9_findStanding 109 = .ok (.aload_n 0, 1) := by decide +kernel
theorem dX9_findStanding_110 : decode cX9_findStanding 110 = .ok (.getfield 38, 3) := by decide +kernel
theorem dX9_findStanding_113 : decode cX9_findStanding 113 = .ok (.iconst 1, 1) := by decide +kernel
theorem dX9_findStanding_114 : decode cX9_findStanding 114 = .ok (.iaload, 1) := by decide +kernel
theorem dX9_findStanding_115 : decode cX9_findStanding 115 = .ok (.aload_n 0, 1) := by decide +kernel
theorem dX9_findStanding_116 : decode cX9_findStanding 116 = .ok (.getfield 65, 3) := by decide +kernel
theorem dX9_findStanding_119 : decode cX9_findStanding 119 = .ok (.iconst 1, 1) := by decide +kernel
theorem dX9_findStanding_120 : decode cX9_findStanding 120 = .ok (.iaload, 1) := by decide +kernel
theorem dX9_findStanding_121 : decode cX9_findStanding 121 = .ok (.if_icmp .ge 109, 3) := by decide +kernel
theorem dX9_findStanding_124 : decode cX9_findStanding 124 = .ok (.aload_n 0, 1) := by decide +kernel
theorem dX9_findStanding_125 : decode cX9_findStanding 125 = .ok (.getfield 38, 3) := by decide +kernel
theorem dX9_findStanding_128 : decode cX9_findStanding 128 = .ok (.iconst 2, 1) := by decide +kernel
theorem dX9_findStanding_129 : decode cX9_findStanding 129 = .ok (.iconst 0, 1) := by decide +kernel
theorem dX9_findStanding_130 : decode cX9_findStanding 130 = .ok (.iastore, 1) := by decide +kernel
theorem dX9_findStanding_131 : decode cX9_findStanding 131 = .ok (.aload_n 0, 1) := by decide +kernel
theorem dX9_findStanding_132 : decode cX9_findStanding 132 = .ok (.getfield 38, 3) := by decide +kernel
theorem dX9_findStanding_135 : decode cX9_findStanding 135 = .ok (.iconst 2, 1) := by decide +kernel
theorem dX9_findStanding_136 : decode cX9_findStanding 136 = .ok (.iaload, 1) := by decide +kernel
theorem dX9_findStanding_137 : decode cX9_findStanding 137 = .ok (.aload_n 0, 1) := by decide +kernel
theorem dX9_findStanding_138 : decode cX9_findStanding 138 = .ok (.getfield 65, 3) := by decide +kernel
theorem dX9_findStanding_141 : decode cX9_findStanding 141 = .ok (.iconst 2, 1) := by decide +kernel
theorem dX9_findStanding_142 : decode cX9_findStanding 142 = .ok (.iaload, 1) := by decide +kernel
theorem dX9_findStanding_143 : decode cX9_findStanding 143 = .ok (.if_icmp .ge 74, 3) := by decide +kernel
theorem dX9_findStanding_146 : decode cX9_findStanding 146 = .ok (.aload_n 0, 1) := by decide +kernel
theorem dX9_findStanding_147 : decode cX9_findStanding 147 = .ok (.getfield 38, 3) := by decide +kernel
theorem dX9_findStanding_150 : decode cX9_findStanding 150 = .ok (.iconst 3, 1) := by decide +kernel
theorem dX9_findStanding_151 : decode cX9_findStanding 151 = .ok (.iconst 0, 1) := by decide +kernel
theorem dX9_findStanding_152 : decode cX9_findStanding 152 = .ok (.iastore, 1) := by decide +kernel
theorem dX9_findStanding_153 : decode cX9_findStanding 153 = .ok (.aload_n 0, 1) := by decide +kernel
theorem dX9_findStanding_154 : decode cX9_findStanding 154 = .ok (.getfield 38, 3) := by decide +kernel
theorem dX9_findStanding_157 : decode cX9_findStanding 157 = .ok (.iconst 3, 1) := by decide +kernel
theorem dX9_findStanding_158 : decode cX9_findStanding 158 = .ok (.iaload, 1) := by decide +kernel
theorem dX9_findStanding_159 : decode cX9_findStanding 159 = .ok (.aload_n 0, 1) := by decide +kernel
theorem dX9_findStanding_160 : decode cX9_findStanding 160 = .ok (.getfield 65, 3) := by decide +kernel
theorem dX9_findStanding_163 : decode cX9_findStanding 163 = .ok (.iconst 3, 1) := by decide +kernel
theorem dX9_findStanding_164 : decode cX9_findStanding 164 = .ok (.iaload, 1) := by decide +kernel
theorem dX9_findStanding_165 : decode cX9_findStanding 165 = .ok (.if_icmp .ge 39, 3) := by decide +kernel
theorem dX9_findStanding_168 : decode cX9_findStanding 168 = .ok (.aload_n 0, 1) := by decide +kernel
theorem dX9_findStanding_169 : decode cX9_findStanding 169 = .ok (.invokevirtual 251, 3) := by decide +kernel
theorem dX9_findStanding_172 : decode cX9_findStanding 172 = .ok (.ifCond .eq 19, 3) := by decide +kernel
theorem dX9_findStanding_175 : decode cX9_findStanding 175 = .ok (.aload_n 0, 1) := by decide +kernel
theorem dX9_findStanding_176 : decode cX9_findStanding 176 = .ok (.getfield 242, 3) := by decide +kernel
theorem dX9_findStanding_179 : decode cX9_findStanding 179 = .ok (.sipush 300, 3) := by decide +kernel
theorem dX9_findStanding_182 : decode cX9_findStanding 182 = .ok (.if_icmp .ne 5, 3) := by decide +kernel
theorem dX9_findStanding_185 : decode cX9_findStanding 185 = .ok (.iconst (-1), 1) := by decide +kernel
theorem dX9_findStanding_186 : decode cX9_findStanding 186 = .ok (.ireturn, 1) := by decide +kernel
theorem dX9_findStanding_187 : decode cX9_findStanding 187 = .ok (.aload_n 0, 1) := by decide +kernel
theorem dX9_findStanding_188 : decode cX9_findStanding 188 = .ok (.invokevirtual 255, 3) := by decide +kernel
theorem dX9_findStanding_191 : decode cX9_findStanding 191 = .ok (.aload_n 0, 1) := by decide +kernel
theorem dX9_findStanding_192 : decode cX9_findStanding 192 = .ok (.getfield 38, 3) := by decide +kernel
theorem dX9_findStanding_195 : decode cX9_findStanding 195 = .ok (.iconst 3, 1) := by decide +kernel
theorem dX9_findStanding_196 : decode cX9_findStanding 196 = .ok (.dup2, 1) := by decide +kernel
theorem dX9_findStanding_197 : decode cX9_findStanding 197 = .ok (.iaload, 1) := by decide +kernel
theorem dX9_findStanding_198 : decode cX9_findStanding 198 = .ok (.iconst 1, 1) := by decide +kernel
theorem dX9_findStanding_199 : decode cX9_findStanding 199 = .ok (.iadd, 1) := by decide +kernel
theorem dX9_findStanding_200 : decode cX9_findStanding 200 = .ok (.iastore, 1) := by decide +kernel
theorem dX9_findStanding_201 : decode cX9_findStanding 201 = .ok (.goto (-48), 3) := by decide +kernel
theorem dX9_findStanding_204 : decode cX9_findStanding 204 = .ok (.aload_n 0, 1) := by decide +kernel
theorem dX9_findStanding_205 : decode cX9_findStanding 205 = .ok (.getfield 38, 3) := by decide +kernel
theorem dX9_findStanding_208 : decode cX9_findStanding 208 = .ok (.iconst 2, 1) := by decide +kernel
theorem dX9_findStanding_209 : decode cX9_findStanding 209 = .ok (.dup2, 1) := by decide +kernel
theorem dX9_findStanding_210 : decode cX9_findStanding 210 = .ok (.iaload, 1) := by decide +kernel
theorem dX9_findStanding_211 : decode cX9_findStanding 211 = .ok (.iconst 1, 1) := by decide +kernel
theorem dX9_findStanding_212 : decode cX9_findStanding 212 = .ok (.iadd, 1) := by decide +kernel
theorem dX9_findStanding_213 : decode cX9_findStanding 213 = .ok (.iastore, 1) := by decide +kernel
theorem dX9_findStanding_214 : decode cX9_findStanding 214 = .ok (.goto (-83), 3) := by decide +kernel
theorem dX9_findStanding_217 : decode cX9_findStanding 217 = .ok (.aload_n 0, 1) := by decide +kernel
theorem dX9_findStanding_218 : decode cX9_findStanding 218 = .ok (.getfield 38, 3) := by decide +kernel
theorem dX9_findStanding_221 : decode cX9_findStanding 221 = .ok (.iconst 1, 1) := by decide +kernel
theorem dX9_findStanding_222 : decode cX9_findStanding 222 = .ok (.dup2, 1) := by decide +kernel
theorem dX9_findStanding_223 : decode cX9_findStanding 223 = .ok (.iaload, 1) := by decide +kernel
theorem dX9_findStanding_224 : decode cX9_findStanding 224 = .ok (.iconst 1, 1) := by decide +kernel
theorem dX9_findStanding_225 : decode cX9_findStanding 225 = .ok (.iadd, 1) := by decide +kernel
theorem dX9_findStanding_226 : decode cX9_findStanding 226 = .ok (.iastore, 1) := by decide +kernel
theorem dX9_findStanding_227 : decode cX9_findStanding 227 = .ok (.goto (-118), 3) := by decide +kernel
theorem dX9_findStanding_230 : decode cX9_findStanding 230 = .ok (.aload_n 0, 1) := by decide +kernel
theorem dX9_findStanding_231 : decode cX9_findStanding 231 = .ok (.getfield 38, 3) := by decide +kernel
theorem dX9_findStanding_234 : decode cX9_findStanding 234 = .ok (.iconst 0, 1) := by decide +kernel
theorem dX9_findStanding_235 : decode cX9_findStanding 235 = .ok (.dup2, 1) := by decide +kernel
theorem dX9_findStanding_236 : decode cX9_findStanding 236 = .ok (.iaload, 1) := by decide +kernel
theorem dX9_findStanding_237 : decode cX9_findStanding 237 = .ok (.iconst 1, 1) := by decide +kernel
theorem dX9_findStanding_238 : decode cX9_findStanding 238 = .ok (.iadd, 1) := by decide +kernel
theorem dX9_findStanding_239 : decode cX9_findStanding 239 = .ok (.iastore, 1) := by decide +kernel
theorem dX9_findStanding_240 : decode cX9_findStanding 240 = .ok (.goto (-153), 3) := by decide +kernel
theorem dX9_findStanding_243 : decode cX9_findStanding 243 = .ok (.aload_n 0, 1) := by decide +kernel
theorem dX9_findStanding_244 : decode cX9_findStanding 244 = .ok (.getfield 242, 3) := by decide +kernel
theorem dX9_findStanding_247 : decode cX9_findStanding 247 = .ok (.ireturn, 1) := by decide +kernel
theorem dX9_layStanding_0 : decode cX9_layStanding 0 = .ok (.aload_n 0, 1) := by decide +kernel
theorem dX9_layStanding_1 : decode cX9_layStanding 1 = .ok (.getfield 242, 3) := by decide +kernel
theorem dX9_layStanding_4 : decode cX9_layStanding 4 = .ok (.istore_n 1, 1) := by decide +kernel
theorem dX9_layStanding_5 : decode cX9_layStanding 5 = .ok (.iload_n 1, 1) := by decide +kernel
theorem dX9_layStanding_6 : decode cX9_layStanding 6 = .ok (.ifCond .le 65, 3) := by decide +kernel
theorem dX9_layStanding_9 : decode cX9_layStanding 9 = .ok (.aload_n 0, 1) := by decide +kernel
theorem dX9_layStanding_10 : decode cX9_layStanding 10 = .ok (.aload_n 0, 1) := by decide +kernel
theorem dX9_layStanding_11 : decode cX9_layStanding 11 = .ok (.getfield 62, 3) := by decide +kernel
theorem dX9_layStanding_14 : decode cX9_layStanding 14 = .ok (.iconst 4, 1) := by decide +kernel
theorem dX9_layStanding_15 : decode cX9_layStanding 15 = .ok (.iload_n 1, 1) := by decide +kernel
theorem dX9_layStanding_16 : decode cX9_layStanding 16 = .ok (.imul, 1) := by decide +kernel
theorem dX9_layStanding_17 : decode cX9_layStanding 17 = .ok (.iconst 4, 1) := by decide +kernel
theorem dX9_layStanding_18 : decode cX9_layStanding 18 = .ok (.isub, 1) := by decide +kernel
theorem dX9_layStanding_19 : decode cX9_layStanding 19 = .ok (.aload_n 0, 1) := by decide +kernel
theorem dX9_layStanding_20 : decode cX9_layStanding 20 = .ok (.getfield 38, 3) := by decide +kernel
theorem dX9_layStanding_23 : decode cX9_layStanding 23 = .ok (.iconst 0, 1) := by decide +kernel
theorem dX9_layStanding_24 : decode cX9_layStanding 24 = .ok (.invokevirtual 93, 3) := by decide +kernel
theorem dX9_layStanding_27 : decode cX9_layStanding 27 = .ok (.ifCond .le 44, 3) := by decide +kernel
theorem dX9_layStanding_30 : decode cX9_layStanding 30 = .ok (.iconst 0, 1) := by decide +kernel
theorem dX9_layStanding_31 : decode cX9_layStanding 31 = .ok (.istore_n 2, 1) := by decide +kernel
theorem dX9_layStanding_32 : decode cX9_layStanding 32 = .ok (.iload_n 2, 1) := by decide +kernel
theorem dX9_layStanding_33 : decode cX9_layStanding 33 = .ok (.iconst 4, 1) := by decide +kernel
theorem dX9_layStanding_34 : decode cX9_layStanding 34 = .ok (.if_icmp .ge 31, 3) := by decide +kernel
theorem dX9_layStanding_37 : decode cX9_layStanding 37 = .ok (.aload_n 0, 1) := by decide +kernel
theorem dX9_layStanding_38 : decode cX9_layStanding 38 = .ok (.getfield 62, 3) := by decide +kernel
theorem dX9_layStanding_41 : decode cX9_layStanding 41 = .ok (.iconst 4, 1) := by decide +kernel
theorem dX9_layStanding_42 : decode cX9_layStanding 42 = .ok (.iload_n 1, 1) := by decide +kernel
theorem dX9_layStanding_43 : decode cX9_layStanding 43 = .ok (.imul, 1) := by decide +kernel
theorem dX9_layStanding_44 : decode cX9_layStanding 44 = .ok (.iload_n 2, 1) := by decide +kernel
theorem dX9_layStanding_45 : decode cX9_layStanding 45 = .ok (.iadd, 1) := by decide +kernel
theorem dX9_layStanding_46 : decode cX9_layStanding 46 = .ok (.aload_n 0, 1) := by decide +kernel
theorem dX9_layStanding_47 : decode cX9_layStanding 47 = .ok (.getfield 62, 3) := by decide +kernel
theorem dX9_layStanding_50 : decode cX9_layStanding 50 = .ok (.iconst 4, 1) := by decide +kernel
theorem dX9_layStanding_51 : decode cX9_layStanding 51 = .ok (.iload_n 1, 1) := by decide +kernel
theorem dX9_layStanding_52 : decode cX9_layStanding 52 = .ok (.imul, 1) := by decide +kernel
theorem dX9_layStanding_53 : decode cX9_layStanding 53 = .ok (.iconst 4, 1) := by decide +kernel
theorem dX9_layStanding_54 : decode cX9_layStanding 54 = .ok (.isub, 1) := by decide +kernel
theorem dX9_layStanding_55 : decode cX9_layStanding 55 = .ok (.iload_n 2, 1) := by decide +kernel
theorem dX9_layStanding_56 : decode cX9_layStanding 56 = .ok (.iadd, 1) := by decide +kernel
theorem dX9_layStanding_57 : decode cX9_layStanding 57 = .ok (.iaload, 1) := by decide +kernel
theorem dX9_layStanding_58 : decode cX9_layStanding 58 = .ok (.iastore, 1) := by decide +kernel
theorem dX9_layStanding_59 : decode cX9_layStanding 59 = .ok (.iinc 2 1, 3) := by decide +kernel
theorem dX9_layStanding_62 : decode cX9_layStanding 62 = .ok (.goto (-30), 3) := by decide +kernel
theorem dX9_layStanding_65 : decode cX9_layStanding 65 = .ok (.iinc 1 (-1), 3) := by decide +kernel
theorem dX9_layStanding_68 : decode cX9_layStanding 68 = .ok (.goto (-63), 3) := by decide +kernel
theorem dX9_layStanding_71 : decode cX9_layStanding 71 = .ok (.iconst 0, 1) := by decide +kernel
theorem dX9_layStanding_72 : decode cX9_layStanding 72 = .ok (.istore_n 2, 1) := by decide +kernel
theorem dX9_layStanding_73 : decode cX9_layStanding 73 = .ok (.iload_n 2, 1) := by decide +kernel
theorem dX9_layStanding_74 : decode cX9_layStanding 74 = .ok (.iconst 4, 1) := by decide +kernel
theorem dX9_layStanding_75 : decode cX9_layStanding 75 = .ok (.if_icmp .ge 25, 3) := by decide +kernel
theorem dX9_layStanding_78 : decode cX9_layStanding 78 = .ok (.aload_n 0, 1) := by decide +kernel
theorem dX9_layStanding_79 : decode cX9_layStanding 79 = .ok (.getfield 62, 3) := by decide +kernel
theorem dX9_layStanding_82 : decode cX9_layStanding 82 = .ok (.iconst 4, 1) := by decide +kernel
theorem dX9_layStanding_83 : decode cX9_layStanding 83 = .ok (.iload_n 1, 1) := by decide +kernel
theorem dX9_layStanding_84 : decode cX9_layStanding 84 = .ok (.imul, 1) := by decide +kernel
theorem dX9_layStanding_85 : decode cX9_layStanding 85 = .ok (.iload_n 2, 1) := by decide +kernel
theorem dX9_layStanding_86 : decode cX9_layStanding 86 = .ok (.iadd, 1) := by decide +kernel
theorem dX9_layStanding_87 : decode cX9_layStanding 87 = .ok (.aload_n 0, 1) := by decide +kernel
theorem dX9_layStanding_88 : decode cX9_layStanding 88 = .ok (.getfield 38, 3) := by decide +kernel
theorem dX9_layStanding_91 : decode cX9_layStanding 91 = .ok (.iload_n 2, 1) := by decide +kernel
theorem dX9_layStanding_92 : decode cX9_layStanding 92 = .ok (.iaload, 1) := by decide +kernel
theorem dX9_layStanding_93 : decode cX9_layStanding 93 = .ok (.iastore, 1) := by decide +kernel
theorem dX9_layStanding_94 : decode cX9_layStanding 94 = .ok (.iinc 2 1, 3) := by decide +kernel
theorem dX9_layStanding_97 : decode cX9_layStanding 97 = .ok (.goto (-24), 3) := by decide +kernel
theorem dX9_layStanding_100 : decode cX9_layStanding 100 = .ok (.aload_n 0, 1) := by decide +kernel
theorem dX9_layStanding_101 : decode cX9_layStanding 101 = .ok (.dup, 1) := by decide +kernel
theorem dX9_layStanding_102 : decode cX9_layStanding 102 = .ok (.getfield 242, 3) := by decide +kernel
theorem dX9_layStanding_105 : decode cX9_layStanding 105 = .ok (.iconst 1, 1) := by decide +kernel
theorem dX9_layStanding_106 : decode cX9_layStanding 106 = .ok (.iadd, 1) := by decide +kernel
theorem dX9_layStanding_107 : decode cX9_layStanding 107 = .ok (.putfield 242, 3) := by decide +kernel
theorem dX9_layStanding_110 : decode cX9_layStanding 110 = .ok (.return_, 1) := by decide +kernel
theorem dX9_standing_0 : decode cX9_standing 0 = .ok (.aload_n 0, 1) := by decide +kernel
theorem dX9_standing_1 : decode cX9_standing 1 = .ok (.getfield 187, 3) := by decide +kernel
theorem dX9_standing_4 : decode cX9_standing 4 = .ok (.ifCond .eq 10, 3) := by decide +kernel
theorem dX9_standing_7 : decode cX9_standing 7 = .ok (.aload_n 0, 1) := by decide +kernel
theorem dX9_standing_8 : decode cX9_standing 8 = .ok (.invokevirtual 258, 3) := by decide +kernel
theorem dX9_standing_11 : decode cX9_standing 11 = .ok (.goto 5, 3) := by decide +kernel
theorem dX9_standing_14 : decode cX9_standing 14 = .ok (.bipush (-3), 2) := by decide +kernel
theorem dX9_standing_16 : decode cX9_standing 16 = .ok (.ireturn, 1) := by decide +kernel
theorem dX9_stands_0 : decode cX9_stands 0 = .ok (.aload_n 0, 1) := by decide +kernel
theorem dX9_stands_1 : decode cX9_stands 1 = .ok (.getfield 187, 3) := by decide +kernel
theorem dX9_stands_4 : decode cX9_stands 4 = .ok (.ifCond .ne 6, 3) := by decide +kernel
theorem dX9_stands_7 : decode cX9_stands 7 = .ok (.bipush (-3), 2) := by decide +kernel
theorem dX9_stands_9 : decode cX9_stands 9 = .ok (.ireturn, 1) := by decide +kernel
theorem dX9_stands_10 : decode cX9_stands 10 = .ok (.aload_n 0, 1) := by decide +kernel
theorem dX9_stands_11 : decode cX9_stands 11 = .ok (.invokevirtual 258, 3) := by decide +kernel
theorem dX9_stands_14 : decode cX9_stands 14 = .ok (.istore_n 3, 1) := by decide +kernel
theorem dX9_stands_15 : decode cX9_stands 15 = .ok (.iload_n 1, 1) := by decide +kernel
theorem dX9_stands_16 : decode cX9_stands 16 = .ok (.iconst 0, 1) := by decide +kernel
theorem dX9_stands_17 : decode cX9_stands 17 = .ok (.iload_n 3, 1) := by decide +kernel
theorem dX9_stands_18 : decode cX9_stands 18 = .ok (.iconst 1, 1) := by decide +kernel
theorem dX9_stands_19 : decode cX9_stands 19 = .ok (.isub, 1) := by decide +kernel
theorem dX9_stands_20 : decode cX9_stands 20 = .ok (.invokestatic 78, 3) := by decide +kernel
theorem dX9_stands_23 : decode cX9_stands 23 = .ok (.ifCond .eq 30, 3) := by decide +kernel
theorem dX9_stands_26 : decode cX9_stands 26 = .ok (.iload_n 2, 1) := by decide +kernel
theorem dX9_stands_27 : decode cX9_stands 27 = .ok (.iconst 0, 1) := by decide +kernel
theorem dX9_stands_28 : decode cX9_stands 28 = .ok (.aload_n 0, 1) := by decide +kernel
theorem dX9_stands_29 : decode cX9_stands 29 = .ok (.getfield 75, 3) := by decide +kernel
theorem dX9_stands_32 : decode cX9_stands 32 = .ok (.iconst 1, 1) := by decide +kernel
theorem dX9_stands_33 : decode cX9_stands 33 = .ok (.isub, 1) := by decide +kernel
theorem dX9_stands_34 : decode cX9_stands 34 = .ok (.invokestatic 78, 3) := by decide +kernel
theorem dX9_stands_37 : decode cX9_stands 37 = .ok (.ifCond .eq 16, 3) := by decide +kernel
theorem dX9_stands_40 : decode cX9_stands 40 = .ok (.aload_n 0, 1) := by decide +kernel
theorem dX9_stands_41 : decode cX9_stands 41 = .ok (.getfield 62, 3) := by decide +kernel
theorem dX9_stands_44 : decode cX9_stands 44 = .ok (.iconst 4, 1) := by decide +kernel
theorem dX9_stands_45 : decode cX9_stands 45 = .ok (.iload_n 1, 1) := by decide +kernel
theorem dX9_stands_46 : decode cX9_stands 46 = .ok (.imul, 1) := by decide +kernel
theorem dX9_stands_47 : decode cX9_stands 47 = .ok (.iload_n 2, 1) := by decide +kernel
theorem dX9_stands_48 : decode cX9_stands 48 = .ok (.iadd, 1) := by decide +kernel
theorem dX9_stands_49 : decode cX9_stands 49 = .ok (.iaload, 1) := by decide +kernel
theorem dX9_stands_50 : decode cX9_stands 50 = .ok (.goto 5, 3) := by decide +kernel
theorem dX9_stands_53 : decode cX9_stands 53 = .ok (.bipush (-2), 2) := by decide +kernel
theorem dX9_stands_55 : decode cX9_stands 55 = .ok (.ireturn, 1) := by decide +kernel
theorem dX9_without_0 : decode cX9_without 0 = .ok (.iload_n 1, 1) := by decide +kernel
theorem dX9_without_1 : decode cX9_without 1 = .ok (.iconst 0, 1) := by decide +kernel
theorem dX9_without_2 : decode cX9_without 2 = .ok (.aload_n 0, 1) := by decide +kernel
theorem dX9_without_3 : decode cX9_without 3 = .ok (.getfield 75, 3) := by decide +kernel
theorem dX9_without_6 : decode cX9_without 6 = .ok (.invokestatic 78, 3) := by decide +kernel
theorem dX9_without_9 : decode cX9_without 9 = .ok (.ifCond .ne 6, 3) := by decide +kernel
theorem dX9_without_12 : decode cX9_without 12 = .ok (.bipush (-2), 2) := by decide +kernel
theorem dX9_without_14 : decode cX9_without 14 = .ok (.ireturn, 1) := by decide +kernel
theorem dX9_without_15 : decode cX9_without 15 = .ok (.aload_n 0, 1) := by decide +kernel
theorem dX9_without_16 : decode cX9_without 16 = .ok (.getfield 187, 3) := by decide +kernel
theorem dX9_without_19 : decode cX9_without 19 = .ok (.ifCond .ne 6, 3) := by decide +kernel
theorem dX9_without_22 : decode cX9_without 22 = .ok (.bipush (-3), 2) := by decide +kernel
theorem dX9_without_24 : decode cX9_without 24 = .ok (.ireturn, 1) := by decide +kernel
theorem dX9_without_25 : decode cX9_without 25 = .ok (.iconst 0, 1) := by decide +kernel
theorem dX9_without_26 : decode cX9_without 26 = .ok (.istore_n 2, 1) := by decide +kernel
theorem dX9_without_27 : decode cX9_without 27 = .ok (.iconst 0, 1) := by decide +kernel
theorem dX9_without_28 : decode cX9_without 28 = .ok (.istore_n 3, 1) := by decide +kernel
theorem dX9_without_29 : decode cX9_without 29 = .ok (.iload_n 3, 1) := by decide +kernel
theorem dX9_without_30 : decode cX9_without 30 = .ok (.aload_n 0, 1) := by decide +kernel
theorem dX9_without_31 : decode cX9_without 31 = .ok (.getfield 107, 3) := by decide +kernel
theorem dX9_without_34 : decode cX9_without 34 = .ok (.if_icmp .ge 89, 3) := by decide +kernel
theorem dX9_without_37 : decode cX9_without 37 = .ok (.iconst 0, 1) := by decide +kernel
theorem dX9_without_38 : decode cX9_without 38 = .ok (.istore 4, 2) := by decide +kernel
theorem dX9_without_40 : decode cX9_without 40 = .ok (.iconst 0, 1) := by decide +kernel
theorem dX9_without_41 : decode cX9_without 41 = .ok (.istore 5, 2) := by decide +kernel
theorem dX9_without_43 : decode cX9_without 43 = .ok (.iload 5, 2) := by decide +kernel
theorem dX9_without_45 : decode cX9_without 45 = .ok (.aload_n 0, 1) := by decide +kernel
theorem dX9_without_46 : decode cX9_without 46 = .ok (.getfield 13, 3) := by decide +kernel
theorem dX9_without_49 : decode cX9_without 49 = .ok (.bipush 25, 2) := by decide +kernel
theorem dX9_without_51 : decode cX9_without 51 = .ok (.iload_n 3, 1) := by decide +kernel
theorem dX9_without_52 : decode cX9_without 52 = .ok (.iadd, 1) := by decide +kernel
theorem dX9_without_53 : decode cX9_without 53 = .ok (.iaload, 1) := by decide +kernel
theorem dX9_without_54 : decode cX9_without 54 = .ok (.if_icmp .ge 50, 3) := by decide +kernel
theorem dX9_without_57 : decode cX9_without 57 = .ok (.iconst 0, 1) := by decide +kernel
theorem dX9_without_58 : decode cX9_without 58 = .ok (.istore 6, 2) := by decide +kernel
theorem dX9_without_60 : decode cX9_without 60 = .ok (.iload 6, 2) := by decide +kernel
theorem dX9_without_62 : decode cX9_without 62 = .ok (.iload_n 1, 1) := by decide +kernel
theorem dX9_without_63 : decode cX9_without 63 = .ok (.if_icmp .ge 35, 3) := by decide +kernel
theorem dX9_without_66 : decode cX9_without 66 = .ok (.iload 4, 2) := by decide +kernel
theorem dX9_without_68 : decode cX9_without 68 = .ok (.aload_n 0, 1) := by decide +kernel
theorem dX9_without_69 : decode cX9_without 69 = .ok (.getfield 20, 3) := by decide +kernel
theorem dX9_without_72 : decode cX9_without 72 = .ok (.sipush 160, 3) := by decide +kernel
theorem dX9_without_75 : decode cX9_without 75 = .ok (.bipush 25, 2) := by decide +kernel
theorem dX9_without_77 : decode cX9_without 77 = .ok (.iload_n 3, 1) := by decide +kernel
theorem dX9_without_78 : decode cX9_without 78 = .ok (.iadd, 1) := by decide +kernel
theorem dX9_without_79 : decode cX9_without 79 = .ok (.imul, 1) := by decide +kernel
theorem dX9_without_80 : decode cX9_without 80 = .ok (.iconst 4, 1) := by decide +kernel
theorem dX9_without_81 : decode cX9_without 81 = .ok (.iload 5, 2) := by decide +kernel
theorem dX9_without_83 : decode cX9_without 83 = .ok (.imul, 1) := by decide +kernel
theorem dX9_without_84 : decode cX9_without 84 = .ok (.iadd, 1) := by decide +kernel
theorem dX9_without_85 : decode cX9_without 85 = .ok (.iload 6, 2) := by decide +kernel
theorem dX9_without_87 : decode cX9_without 87 = .ok (.iadd, 1) := by decide +kernel
theorem dX9_without_88 : decode cX9_without 88 = .ok (.iaload, 1) := by decide +kernel
theorem dX9_without_89 : decode cX9_without 89 = .ok (.iadd, 1) := by decide +kernel
theorem dX9_without_90 : decode cX9_without 90 = .ok (.istore 4, 2) := by decide +kernel
theorem dX9_without_92 : decode cX9_without 92 = .ok (.iinc 6 1, 3) := by decide +kernel
theorem dX9_without_95 : decode cX9_without 95 = .ok (.goto (-35), 3) := by decide +kernel
theorem dX9_without_98 : decode cX9_without 98 = .ok (.iinc 5 1, 3) := by decide +kernel
theorem dX9_without_101 : decode cX9_without 101 = .ok (.goto (-58), 3) := by decide +kernel
theorem dX9_without_104 : decode cX9_without 104 = .ok (.iload_n 2, 1) := by decide +kernel
theorem dX9_without_105 : decode cX9_without 105 = .ok (.iload 4, 2) := by decide +kernel
theorem dX9_without_107 : decode cX9_without 107 = .ok (.ifCond .ne 7, 3) := by decide +kernel
theorem dX9_without_110 : decode cX9_without 110 = .ok (.iconst 1, 1) := by decide +kernel
theorem dX9_without_111 : decode cX9_without 111 = .ok (.goto 4, 3) := by decide +kernel
theorem dX9_without_114 : decode cX9_without 114 = .ok (.iconst 0, 1) := by decide +kernel
theorem dX9_without_115 : decode cX9_without 115 = .ok (.iadd, 1) := by decide +kernel
theorem dX9_without_116 : decode cX9_without 116 = .ok (.istore_n 2, 1) := by decide +kernel
theorem dX9_without_117 : decode cX9_without 117 = .ok (.iinc 3 1, 3) := by decide +kernel
theorem dX9_without_120 : decode cX9_without 120 = .ok (.goto (-91), 3) := by decide +kernel
theorem dX9_without_123 : decode cX9_without 123 = .ok (.iload_n 2, 1) := by decide +kernel
theorem dX9_without_124 : decode cX9_without 124 = .ok (.ireturn, 1) := by decide +kernel
theorem dX9_zeros_0 : decode cX9_zeros 0 = .ok (.iconst 1, 1) := by decide +kernel
theorem dX9_zeros_1 : decode cX9_zeros 1 = .ok (.istore_n 1, 1) := by decide +kernel
theorem dX9_zeros_2 : decode cX9_zeros 2 = .ok (.iconst 0, 1) := by decide +kernel
theorem dX9_zeros_3 : decode cX9_zeros 3 = .ok (.istore_n 2, 1) := by decide +kernel
theorem dX9_zeros_4 : decode cX9_zeros 4 = .ok (.iload_n 2, 1) := by decide +kernel
theorem dX9_zeros_5 : decode cX9_zeros 5 = .ok (.aload_n 0, 1) := by decide +kernel
theorem dX9_zeros_6 : decode cX9_zeros 6 = .ok (.getfield 75, 3) := by decide +kernel
theorem dX9_zeros_9 : decode cX9_zeros 9 = .ok (.if_icmp .ge 27, 3) := by decide +kernel
theorem dX9_zeros_12 : decode cX9_zeros 12 = .ok (.iload_n 1, 1) := by decide +kernel
theorem dX9_zeros_13 : decode cX9_zeros 13 = .ok (.sipush 2500, 3) := by decide +kernel
theorem dX9_zeros_16 : decode cX9_zeros 16 = .ok (.if_icmp .le 7, 3) := by decide +kernel
theorem dX9_zeros_19 : decode cX9_zeros 19 = .ok (.iload_n 1, 1) := by decide +kernel
theorem dX9_zeros_20 : decode cX9_zeros 20 = .ok (.goto 9, 3) := by decide +kernel
theorem dX9_zeros_23 : decode cX9_zeros 23 = .ok (.iload_n 1, 1) := by decide +kernel
theorem dX9_zeros_24 : decode cX9_zeros 24 = .ok (.aload_n 0, 1) := by decide +kernel
theorem dX9_zeros_25 : decode cX9_zeros 25 = .ok (.getfield 72, 3) := by decide +kernel
theorem dX9_zeros_28 : decode cX9_zeros 28 = .ok (.imul, 1) := by decide +kernel
theorem dX9_zeros_29 : decode cX9_zeros 29 = .ok (.istore_n 1, 1) := by decide +kernel
theorem dX9_zeros_30 : decode cX9_zeros 30 = .ok (.iinc 2 1, 3) := by decide +kernel
theorem dX9_zeros_33 : decode cX9_zeros 33 = .ok (.goto (-29), 3) := by decide +kernel
theorem dX9_zeros_36 : decode cX9_zeros 36 = .ok (.iload_n 1, 1) := by decide +kernel
theorem dX9_zeros_37 : decode cX9_zeros 37 = .ok (.sipush 2500, 3) := by decide +kernel
theorem dX9_zeros_40 : decode cX9_zeros 40 = .ok (.if_icmp .le 6, 3) := by decide +kernel
theorem dX9_zeros_43 : decode cX9_zeros 43 = .ok (.bipush (-3), 2) := by decide +kernel
theorem dX9_zeros_45 : decode cX9_zeros 45 = .ok (.ireturn, 1) := by decide +kernel
theorem dX9_zeros_46 : decode cX9_zeros 46 = .ok (.iconst 0, 1) := by decide +kernel
theorem dX9_zeros_47 : decode cX9_zeros 47 = .ok (.istore_n 2, 1) := by decide +kernel
theorem dX9_zeros_48 : decode cX9_zeros 48 = .ok (.iconst 0, 1) := by decide +kernel
theorem dX9_zeros_49 : decode cX9_zeros 49 = .ok (.istore_n 3, 1) := by decide +kernel
theorem dX9_zeros_50 : decode cX9_zeros 50 = .ok (.iload_n 3, 1) := by decide +kernel
theorem dX9_zeros_51 : decode cX9_zeros 51 = .ok (.iload_n 1, 1) := by decide +kernel
theorem dX9_zeros_52 : decode cX9_zeros 52 = .ok (.if_icmp .ge 108, 3) := by decide +kernel
theorem dX9_zeros_55 : decode cX9_zeros 55 = .ok (.iload_n 3, 1) := by decide +kernel
theorem dX9_zeros_56 : decode cX9_zeros 56 = .ok (.istore 4, 2) := by decide +kernel
theorem dX9_zeros_58 : decode cX9_zeros 58 = .ok (.iconst 0, 1) := by decide +kernel
theorem dX9_zeros_59 : decode cX9_zeros 59 = .ok (.istore 5, 2) := by decide +kernel
theorem dX9_zeros_61 : decode cX9_zeros 61 = .ok (.iload 5, 2) := by decide +kernel
theorem dX9_zeros_63 : decode cX9_zeros 63 = .ok (.iconst 4, 1) := by decide +kernel
theorem dX9_zeros_64 : decode cX9_zeros 64 = .ok (.if_icmp .ge 32, 3) := by decide +kernel
theorem dX9_zeros_67 : decode cX9_zeros 67 = .ok (.aload_n 0, 1) := by decide +kernel
theorem dX9_zeros_68 : decode cX9_zeros 68 = .ok (.getfield 47, 3) := by decide +kernel
theorem dX9_zeros_71 : decode cX9_zeros 71 = .ok (.iload 5, 2) := by decide +kernel
theorem dX9_zeros_73 : decode cX9_zeros 73 = .ok (.iload 4, 2) := by decide +kernel
theorem dX9_zeros_75 : decode cX9_zeros 75 = .ok (.aload_n 0, 1) := by decide +kernel
theorem dX9_zeros_76 : decode cX9_zeros 76 = .ok (.getfield 72, 3) := by decide +kernel
theorem dX9_zeros_79 : decode cX9_zeros 79 = .ok (.irem, 1) := by decide +kernel
theorem dX9_zeros_80 : decode cX9_zeros 80 = .ok (.iastore, 1) := by decide +kernel
theorem dX9_zeros_81 : decode cX9_zeros 81 = .ok (.iload 4, 2) := by decide +kernel
theorem dX9_zeros_83 : decode cX9_zeros 83 = .ok (.aload_n 0, 1) := by decide +kernel
theorem dX9_zeros_84 : decode cX9_zeros 84 = .ok (.getfield 72, 3) := by decide +kernel
theorem dX9_zeros_87 : decode cX9_zeros 87 = .ok (.idiv, 1) := by decide +kernel
theorem dX9_zeros_88 : decode cX9_zeros 88 = .ok (.istore 4, 2) := by decide +kernel
theorem dX9_zeros_90 : decode cX9_zeros 90 = .ok (.iinc 5 1, 3) := by decide +kernel
theorem dX9_zeros_93 : decode cX9_zeros 93 = .ok (.goto (-32), 3) := by decide +kernel
theorem dX9_zeros_96 : decode cX9_zeros 96 = .ok (.iconst 1, 1) := by decide +kernel
theorem dX9_zeros_97 : decode cX9_zeros 97 = .ok (.istore 5, 2) := by decide +kernel
theorem dX9_zeros_99 : decode cX9_zeros 99 = .ok (.iconst 0, 1) := by decide +kernel
theorem dX9_zeros_100 : decode cX9_zeros 100 = .ok (.istore 6, 2) := by decide +kernel
theorem dX9_zeros_102 : decode cX9_zeros 102 = .ok (.iload 6, 2) := by decide +kernel
theorem dX9_zeros_104 : decode cX9_zeros 104 = .ok (.aload_n 0, 1) := by decide +kernel
theorem dX9_zeros_105 : decode cX9_zeros 105 = .ok (.getfield 107, 3) := by decide +kernel
theorem dX9_zeros_108 : decode cX9_zeros 108 = .ok (.if_icmp .ge 33, 3) := by decide +kernel
theorem dX9_zeros_111 : decode cX9_zeros 111 = .ok (.iload 5, 2) := by decide +kernel
theorem dX9_zeros_113 : decode cX9_zeros 113 = .ok (.ifCond .eq 28, 3) := by decide +kernel
theorem dX9_zeros_116 : decode cX9_zeros 116 = .ok (.aload_n 0, 1) := by decide +kernel
theorem dX9_zeros_117 : decode cX9_zeros 117 = .ok (.bipush 25, 2) := by decide +kernel
theorem dX9_zeros_119 : decode cX9_zeros 119 = .ok (.iload 6, 2) := by decide +kernel
theorem dX9_zeros_121 : decode cX9_zeros 121 = .ok (.iadd, 1) := by decide +kernel
theorem dX9_zeros_122 : decode cX9_zeros 122 = .ok (.invokevirtual 148, 3) := by decide +kernel
theorem dX9_zeros_125 : decode cX9_zeros 125 = .ok (.ifCond .ne 7, 3) := by decide +kernel
theorem dX9_zeros_128 : decode cX9_zeros 128 = .ok (.iconst 1, 1) := by decide +kernel
theorem dX9_zeros_129 : decode cX9_zeros 129 = .ok (.goto 4, 3) := by decide +kernel
theorem dX9_zeros_132 : decode cX9_zeros 132 = .ok (.iconst 0, 1) := by decide +kernel
theorem dX9_zeros_133 : decode cX9_zeros 133 = .ok (.istore 5, 2) := by decide +kernel
theorem dX9_zeros_135 : decode cX9_zeros 135 = .ok (.iinc 6 1, 3) := by decide +kernel
theorem dX9_zeros_138 : decode cX9_zeros 138 = .ok (.goto (-36), 3) := by decide +kernel
theorem dX9_zeros_141 : decode cX9_zeros 141 = .ok (.iload_n 2, 1) := by decide +kernel
theorem dX9_zeros_142 : decode cX9_zeros 142 = .ok (.iload 5, 2) := by decide +kernel
theorem dX9_zeros_144 : decode cX9_zeros 144 = .ok (.ifCond .eq 7, 3) := by decide +kernel
theorem dX9_zeros_147 : decode cX9_zeros 147 = .ok (.iconst 1, 1) := by decide +kernel
theorem dX9_zeros_148 : decode cX9_zeros 148 = .ok (.goto 4, 3) := by decide +kernel
theorem dX9_zeros_151 : decode cX9_zeros 151 = .ok (.iconst 0, 1) := by decide +kernel
theorem dX9_zeros_152 : decode cX9_zeros 152 = .ok (.iadd, 1) := by decide +kernel
theorem dX9_zeros_153 : decode cX9_zeros 153 = .ok (.istore_n 2, 1) := by decide +kernel
theorem dX9_zeros_154 : decode cX9_zeros 154 = .ok (.iinc 3 1, 3) := by decide +kernel
theorem dX9_zeros_157 : decode cX9_zeros 157 = .ok (.goto (-107), 3) := by decide +kernel
theorem dX9_zeros_160 : decode cX9_zeros 160 = .ok (.iload_n 2, 1) := by decide +kernel
theorem dX9_zeros_161 : decode cX9_zeros 161 = .ok (.ireturn, 1) := by decide +kernel
theorem dX9_count_0 : decode cX9_count 0 = .ok (.iload_n 1, 1) := by decide +kernel
theorem dX9_count_1 : decode cX9_count 1 = .ok (.tableswitch 162 0 11 #[63, 68, 73, 78, 83, 88, 93, 98, 103, 108, 121, 157], 63) := by decide +kernel
theorem dX9_count_64 : decode cX9_count 64 = .ok (.aload_n 0, 1) := by decide +kernel
theorem dX9_count_65 : decode cX9_count 65 = .ok (.getfield 72, 3) := by decide +kernel
theorem dX9_count_68 : decode cX9_count 68 = .ok (.ireturn, 1) := by decide +kernel
theorem dX9_count_69 : decode cX9_count 69 = .ok (.aload_n 0, 1) := by decide +kernel
theorem dX9_count_70 : decode cX9_count 70 = .ok (.getfield 75, 3) := by decide +kernel
theorem dX9_count_73 : decode cX9_count 73 = .ok (.ireturn, 1) := by decide +kernel
theorem dX9_count_74 : decode cX9_count 74 = .ok (.aload_n 0, 1) := by decide +kernel
theorem dX9_count_75 : decode cX9_count 75 = .ok (.getfield 107, 3) := by decide +kernel
theorem dX9_count_78 : decode cX9_count 78 = .ok (.ireturn, 1) := by decide +kernel
theorem dX9_count_79 : decode cX9_count 79 = .ok (.aload_n 0, 1) := by decide +kernel
theorem dX9_count_80 : decode cX9_count 80 = .ok (.getfield 181, 3) := by decide +kernel
theorem dX9_count_83 : decode cX9_count 83 = .ok (.ireturn, 1) := by decide +kernel
theorem dX9_count_84 : decode cX9_count 84 = .ok (.aload_n 0, 1) := by decide +kernel
theorem dX9_count_85 : decode cX9_count 85 = .ok (.getfield 197, 3) := by decide +kernel
theorem dX9_count_88 : decode cX9_count 88 = .ok (.ireturn, 1) := by decide +kernel
theorem dX9_count_89 : decode cX9_count 89 = .ok (.aload_n 0, 1) := by decide +kernel
theorem dX9_count_90 : decode cX9_count 90 = .ok (.getfield 206, 3) := by decide +kernel
theorem dX9_count_93 : decode cX9_count 93 = .ok (.ireturn, 1) := by decide +kernel
theorem dX9_count_94 : decode cX9_count 94 = .ok (.aload_n 0, 1) := by decide +kernel
theorem dX9_count_95 : decode cX9_count 95 = .ok (.getfield 215, 3) := by decide +kernel
theorem dX9_count_98 : decode cX9_count 98 = .ok (.ireturn, 1) := by decide +kernel
theorem dX9_count_99 : decode cX9_count 99 = .ok (.aload_n 0, 1) := by decide +kernel
theorem dX9_count_100 : decode cX9_count 100 = .ok (.getfield 218, 3) := by decide +kernel
theorem dX9_count_103 : decode cX9_count 103 = .ok (.ireturn, 1) := by decide +kernel
theorem dX9_count_104 : decode cX9_count 104 = .ok (.aload_n 0, 1) := by decide +kernel
theorem dX9_count_105 : decode cX9_count 105 = .ok (.getfield 161, 3) := by decide +kernel
theorem dX9_count_108 : decode cX9_count 108 = .ok (.ireturn, 1) := by decide +kernel
theorem dX9_count_109 : decode cX9_count 109 = .ok (.aload_n 0, 1) := by decide +kernel
theorem dX9_count_110 : decode cX9_count 110 = .ok (.getfield 187, 3) := by decide +kernel
theorem dX9_count_113 : decode cX9_count 113 = .ok (.ifCond .eq 7, 3) := by decide +kernel
theorem dX9_count_116 : decode cX9_count 116 = .ok (.iconst 1, 1) := by decide +kernel
theorem dX9_count_117 : decode cX9_count 117 = .ok (.goto 4, 3) := by decide +kernel
theorem dX9_count_120 : decode cX9_count 120 = .ok (.iconst 0, 1) := by decide +kernel
theorem dX9_count_121 : decode cX9_count 121 = .ok (.ireturn, 1) := by decide +kernel
theorem dX9_count_122 : decode cX9_count 122 = .ok (.iconst 0, 1) := by decide +kernel
theorem dX9_count_123 : decode cX9_count 123 = .ok (.istore_n 2, 1) := by decide +kernel
theorem dX9_count_124 : decode cX9_count 124 = .ok (.iconst 1, 1) := by decide +kernel
theorem dX9_count_125 : decode cX9_count 125 = .ok (.istore_n 3, 1) := by decide +kernel
theorem dX9_count_126 : decode cX9_count 126 = .ok (.iload_n 3, 1) := by decide +kernel
theorem dX9_count_127 : decode cX9_count 127 = .ok (.bipush 25, 2) := by decide +kernel
theorem dX9_count_129 : decode cX9_count 129 = .ok (.if_icmp .ge 27, 3) := by decide +kernel
theorem dX9_count_132 : decode cX9_count 132 = .ok (.iload_n 2, 1) := by decide +kernel
theorem dX9_count_133 : decode cX9_count 133 = .ok (.aload_n 0, 1) := by decide +kernel
theorem dX9_count_134 : decode cX9_count 134 = .ok (.getfield 13, 3) := by decide +kernel
theorem dX9_count_137 : decode cX9_count 137 = .ok (.iload_n 3, 1) := by decide +kernel
theorem dX9_count_138 : decode cX9_count 138 = .ok (.iaload, 1) := by decide +kernel
theorem dX9_count_139 : decode cX9_count 139 = .ok (.iconst (-1), 1) := by decide +kernel
theorem dX9_count_140 : decode cX9_count 140 = .ok (.if_icmp .ne 7, 3) := by decide +kernel
theorem dX9_count_143 : decode cX9_count 143 = .ok (.iconst 0, 1) := by decide +kernel
theorem dX9_count_144 : decode cX9_count 144 = .ok (.goto 4, 3) := by decide +kernel
theorem dX9_count_147 : decode cX9_count 147 = .ok (.iconst 1, 1) := by decide +kernel
theorem dX9_count_148 : decode cX9_count 148 = .ok (.iadd, 1) := by decide +kernel
theorem dX9_count_149 : decode cX9_count 149 = .ok (.istore_n 2, 1) := by decide +kernel
theorem dX9_count_150 : decode cX9_count 150 = .ok (.iinc 3 1, 3) := by decide +kernel
theorem dX9_count_153 : decode cX9_count 153 = .ok (.goto (-27), 3) := by decide +kernel
theorem dX9_count_156 : decode cX9_count 156 = .ok (.iload_n 2, 1) := by decide +kernel
theorem dX9_count_157 : decode cX9_count 157 = .ok (.ireturn, 1) := by decide +kernel
theorem dX9_count_158 : decode cX9_count 158 = .ok (.aload_n 0, 1) := by decide +kernel
theorem dX9_count_159 : decode cX9_count 159 = .ok (.getfield 221, 3) := by decide +kernel
theorem dX9_count_162 : decode cX9_count 162 = .ok (.ireturn, 1) := by decide +kernel
theorem dX9_count_163 : decode cX9_count 163 = .ok (.bipush (-2), 2) := by decide +kernel
theorem dX9_count_165 : decode cX9_count 165 = .ok (.ireturn, 1) := by decide +kernel
theorem dX9_digested_0 : decode cX9_digested 0 = .ok (.ldc2_w 261, 3) := by decide +kernel
theorem dX9_digested_3 : decode cX9_digested 3 = .ok (.lload_n 1, 1) := by decide +kernel
theorem dX9_digested_4 : decode cX9_digested 4 = .ok (.lmul, 1) := by decide +kernel
theorem dX9_digested_5 : decode cX9_digested 5 = .ok (.aload_n 0, 1) := by decide +kernel
theorem dX9_digested_6 : decode cX9_digested 6 = .ok (.getfield 13, 3) := by decide +kernel
theorem dX9_digested_9 : decode cX9_digested 9 = .ok (.iload_n 3, 1) := by decide +kernel
theorem dX9_digested_10 : decode cX9_digested 10 = .ok (.iaload, 1) := by decide +kernel
theorem dX9_digested_11 : decode cX9_digested 11 = .ok (.i2l, 1) := by decide +kernel
theorem dX9_digested_12 : decode cX9_digested 12 = .ok (.ladd, 1) := by decide +kernel
theorem dX9_digested_13 : decode cX9_digested 13 = .ok (.lstore 4, 2) := by decide +kernel
theorem dX9_digested_15 : decode cX9_digested 15 = .ok (.iconst 0, 1) := by decide +kernel
theorem dX9_digested_16 : decode cX9_digested 16 = .ok (.istore 6, 2) := by decide +kernel
theorem dX9_digested_18 : decode cX9_digested 18 = .ok (.iload 6, 2) := by decide +kernel
theorem dX9_digested_20 : decode cX9_digested 20 = .ok (.aload_n 0, 1) := by decide +kernel
theorem dX9_digested_21 : decode cX9_digested 21 = .ok (.getfield 13, 3) := by decide +kernel
theorem dX9_digested_24 : decode cX9_digested 24 = .ok (.iload_n 3, 1) := by decide +kernel
theorem dX9_digested_25 : decode cX9_digested 25 = .ok (.iaload, 1) := by decide +kernel
theorem dX9_digested_26 : decode cX9_digested 26 = .ok (.if_icmp .ge 77, 3) := by decide +kernel
theorem dX9_digested_29 : decode cX9_digested 29 = .ok (.ldc2_w 261, 3) := by decide +kernel
theorem dX9_digested_32 : decode cX9_digested 32 = .ok (.lload 4, 2) := by decide +kernel
theorem dX9_digested_34 : decode cX9_digested 34 = .ok (.lmul, 1) := by decide +kernel
theorem dX9_digested_35 : decode cX9_digested 35 = .ok (.aload_n 0, 1) := by decide +kernel
theorem dX9_digested_36 : decode cX9_digested 36 = .ok (.getfield 17, 3) := by decide +kernel
theorem dX9_digested_39 : decode cX9_digested 39 = .ok (.bipush 40, 2) := by decide +kernel
theorem dX9_digested_41 : decode cX9_digested 41 = .ok (.iload_n 3, 1) := by decide +kernel
theorem dX9_digested_42 : decode cX9_digested 42 = .ok (.imul, 1) := by decide +kernel
theorem dX9_digested_43 : decode cX9_digested 43 = .ok (.iload 6, 2) := by decide +kernel
theorem dX9_digested_45 : decode cX9_digested 45 = .ok (.iadd, 1) := by decide +kernel
theorem dX9_digested_46 : decode cX9_digested 46 = .ok (.iaload, 1) := by decide +kernel
theorem dX9_digested_47 : decode cX9_digested 47 = .ok (.i2l, 1) := by decide +kernel
theorem dX9_digested_48 : decode cX9_digested 48 = .ok (.ladd, 1) := by decide +kernel
theorem dX9_digested_49 : decode cX9_digested 49 = .ok (.lstore 4, 2) := by decide +kernel
theorem dX9_digested_51 : decode cX9_digested 51 = .ok (.iconst 0, 1) := by decide +kernel
theorem dX9_digested_52 : decode cX9_digested 52 = .ok (.istore 7, 2) := by decide +kernel
theorem dX9_digested_54 : decode cX9_digested 54 = .ok (.iload 7, 2) := by decide +kernel
theorem dX9_digested_56 : decode cX9_digested 56 = .ok (.aload_n 0, 1) := by decide +kernel
theorem dX9_digested_57 : decode cX9_digested 57 = .ok (.getfield 75, 3) := by decide +kernel
theorem dX9_digested_60 : decode cX9_digested 60 = .ok (.if_icmp .ge 37, 3) := by decide +kernel
theorem dX9_digested_63 : decode cX9_digested 63 = .ok (.ldc2_w 261, 3) := by decide +kernel
theorem dX9_digested_66 : decode cX9_digested 66 = .ok (.lload 4, 2) := by decide +kernel
theorem dX9_digested_68 : decode cX9_digested 68 = .ok (.lmul, 1) := by decide +kernel
theorem dX9_digested_69 : decode cX9_digested 69 = .ok (.aload_n 0, 1) := by decide +kernel
theorem dX9_digested_70 : decode cX9_digested 70 = .ok (.getfield 20, 3) := by decide +kernel
theorem dX9_digested_73 : decode cX9_digested 73 = .ok (.sipush 160, 3) := by decide +kernel
theorem dX9_digested_76 : decode cX9_digested 76 = .ok (.iload_n 3, 1) := by decide +kernel
theorem dX9_digested_77 : decode cX9_digested 77 = .ok (.imul, 1) := by decide +kernel
theorem dX9_digested_78 : decode cX9_digested 78 = .ok (.iconst 4, 1) := by decide +kernel
theorem dX9_digested_79 : decode cX9_digested 79 = .ok (.iload 6, 2) := by decide +kernel
theorem dX9_digested_81 : decode cX9_digested 81 = .ok (.imul, 1) := by decide +kernel
theorem dX9_digested_82 : decode cX9_digested 82 = .ok (.iadd, 1) := by decide +kernel
theorem dX9_digested_83 : decode cX9_digested 83 = .ok (.iload 7, 2) := by decide +kernel
theorem dX9_digested_85 : decode cX9_digested 85 = .ok (.iadd, 1) := by decide +kernel
theorem dX9_digested_86 : decode cX9_digested 86 = .ok (.iaload, 1) := by decide +kernel
theorem dX9_digested_87 : decode cX9_digested 87 = .ok (.i2l, 1) := by decide +kernel
theorem dX9_digested_88 : decode cX9_digested 88 = .ok (.ladd, 1) := by decide +kernel
theorem dX9_digested_89 : decode cX9_digested 89 = .ok (.lstore 4, 2) := by decide +kernel
theorem dX9_digested_91 : decode cX9_digested 91 = .ok (.iinc 7 1, 3) := by decide +kernel
theorem dX9_digested_94 : decode cX9_digested 94 = .ok (.goto (-40), 3) := by decide +kernel
theorem dX9_digested_97 : decode cX9_digested 97 = .ok (.iinc 6 1, 3) := by decide +kernel
theorem dX9_digested_100 : decode cX9_digested 100 = .ok (.goto (-82), 3) := by decide +kernel
theorem dX9_digested_103 : decode cX9_digested 103 = .ok (.lload 4, 2) := by decide +kernel
theorem dX9_digested_105 : decode cX9_digested 105 = .ok (.lreturn, 1) := by decide +kernel
theorem dX9_digest_0 : decode cX9_digest 0 = .ok (.aload_n 0, 1) := by decide +kernel
theorem dX9_digest_1 : decode cX9_digest 1 = .ok (.ldc2_w 263, 3) := by decide +kernel
theorem dX9_digest_4 : decode cX9_digest 4 = .ok (.iconst 0, 1) := by decide +kernel
theorem dX9_digest_5 : decode cX9_digest 5 = .ok (.invokevirtual 265, 3) := by decide +kernel
theorem dX9_digest_8 : decode cX9_digest 8 = .ok (.lstore_n 1, 1) := by decide +kernel
theorem dX9_digest_9 : decode cX9_digest 9 = .ok (.iconst 1, 1) := by decide +kernel
theorem dX9_digest_10 : decode cX9_digest 10 = .ok (.istore_n 3, 1) := by decide +kernel
theorem dX9_digest_11 : decode cX9_digest 11 = .ok (.iload_n 3, 1) := by decide +kernel
theorem dX9_digest_12 : decode cX9_digest 12 = .ok (.bipush 25, 2) := by decide +kernel
theorem dX9_digest_14 : decode cX9_digest 14 = .ok (.if_icmp .ge 35, 3) := by decide +kernel
theorem dX9_digest_17 : decode cX9_digest 17 = .ok (.aload_n 0, 1) := by decide +kernel
theorem dX9_digest_18 : decode cX9_digest 18 = .ok (.getfield 13, 3) := by decide +kernel
theorem dX9_digest_21 : decode cX9_digest 21 = .ok (.iload_n 3, 1) := by decide +kernel
theorem dX9_digest_22 : decode cX9_digest 22 = .ok (.iaload, 1) := by decide +kernel
theorem dX9_digest_23 : decode cX9_digest 23 = .ok (.iconst (-1), 1) := by decide +kernel
theorem dX9_digest_24 : decode cX9_digest 24 = .ok (.if_icmp .eq 19, 3) := by decide +kernel
theorem dX9_digest_27 : decode cX9_digest 27 = .ok (.aload_n 0, 1) := by decide +kernel
theorem dX9_digest_28 : decode cX9_digest 28 = .ok (.ldc2_w 261, 3) := by decide +kernel
theorem dX9_digest_31 : decode cX9_digest 31 = .ok (.lload_n 1, 1) := by decide +kernel
theorem dX9_digest_32 : decode cX9_digest 32 = .ok (.lmul, 1) := by decide +kernel
theorem dX9_digest_33 : decode cX9_digest 33 = .ok (.iload_n 3, 1) := by decide +kernel
theorem dX9_digest_34 : decode cX9_digest 34 = .ok (.iconst 1, 1) := by decide +kernel
theorem dX9_digest_35 : decode cX9_digest 35 = .ok (.isub, 1) := by decide +kernel
theorem dX9_digest_36 : decode cX9_digest 36 = .ok (.i2l, 1) := by decide +kernel
theorem dX9_digest_37 : decode cX9_digest 37 = .ok (.ladd, 1) := by decide +kernel
theorem dX9_digest_38 : decode cX9_digest 38 = .ok (.iload_n 3, 1) := by decide +kernel
theorem dX9_digest_39 : decode cX9_digest 39 = .ok (.invokevirtual 265, 3) := by decide +kernel
theorem dX9_digest_42 : decode cX9_digest 42 = .ok (.lstore_n 1, 1) := by decide +kernel
theorem dX9_digest_43 : decode cX9_digest 43 = .ok (.iinc 3 1, 3) := by decide +kernel
theorem dX9_digest_46 : decode cX9_digest 46 = .ok (.goto (-35), 3) := by decide +kernel
theorem dX9_digest_49 : decode cX9_digest 49 = .ok (.iconst 0, 1) := by decide +kernel
theorem dX9_digest_50 : decode cX9_digest 50 = .ok (.istore_n 3, 1) := by decide +kernel
theorem dX9_digest_51 : decode cX9_digest 51 = .ok (.iload_n 3, 1) := by decide +kernel
theorem dX9_digest_52 : decode cX9_digest 52 = .ok (.aload_n 0, 1) := by decide +kernel
theorem dX9_digest_53 : decode cX9_digest 53 = .ok (.getfield 107, 3) := by decide +kernel
theorem dX9_digest_56 : decode cX9_digest 56 = .ok (.if_icmp .ge 19, 3) := by decide +kernel
theorem dX9_digest_59 : decode cX9_digest 59 = .ok (.aload_n 0, 1) := by decide +kernel
theorem dX9_digest_60 : decode cX9_digest 60 = .ok (.lload_n 1, 1) := by decide +kernel
theorem dX9_digest_61 : decode cX9_digest 61 = .ok (.bipush 25, 2) := by decide +kernel
theorem dX9_digest_63 : decode cX9_digest 63 = .ok (.iload_n 3, 1) := by decide +kernel
theorem dX9_digest_64 : decode cX9_digest 64 = .ok (.iadd, 1) := by decide +kernel
theorem dX9_digest_65 : decode cX9_digest 65 = .ok (.invokevirtual 265, 3) := by decide +kernel
theorem dX9_digest_68 : decode cX9_digest 68 = .ok (.lstore_n 1, 1) := by decide +kernel
theorem dX9_digest_69 : decode cX9_digest 69 = .ok (.iinc 3 1, 3) := by decide +kernel
theorem dX9_digest_72 : decode cX9_digest 72 = .ok (.goto (-21), 3) := by decide +kernel
theorem dX9_digest_75 : decode cX9_digest 75 = .ok (.lload_n 1, 1) := by decide +kernel
theorem dX9_digest_76 : decode cX9_digest 76 = .ok (.lreturn, 1) := by decide +kernel
theorem dL_cell_0 : decode cL_cell 0 = .ok (.iload_n 1, 1) := by decide +kernel
theorem dL_cell_1 : decode cL_cell 1 = .ok (.aload_n 0, 1) := by decide +kernel
theorem dL_cell_2 : decode cL_cell 2 = .ok (.arraylength, 1) := by decide +kernel
theorem dL_cell_3 : decode cL_cell 3 = .ok (.if_icmp .ge 9, 3) := by decide +kernel
theorem dL_cell_6 : decode cL_cell 6 = .ok (.aload_n 0, 1) := by decide +kernel
theorem dL_cell_7 : decode cL_cell 7 = .ok (.iload_n 1, 1) := by decide +kernel
theorem dL_cell_8 : decode cL_cell 8 = .ok (.iaload, 1) := by decide +kernel
theorem dL_cell_9 : decode cL_cell 9 = .ok (.goto 4, 3) := by decide +kernel
theorem dL_cell_12 : decode cL_cell 12 = .ok (.iconst 0, 1) := by decide +kernel
theorem dL_cell_13 : decode cL_cell 13 = .ok (.ireturn, 1) := by decide +kernel
theorem dL_law_0 : decode cL_law 0 = .ok (.new 7, 3) := by decide +kernel
theorem dL_law_3 : decode cL_law 3 = .ok (.dup, 1) := by decide +kernel
theorem dL_law_4 : decode cL_law 4 = .ok (.aload_n 0, 1) := by decide +kernel
theorem dL_law_5 : decode cL_law 5 = .ok (.iconst 0, 1) := by decide +kernel
theorem dL_law_6 : decode cL_law 6 = .ok (.invokestatic 9, 3) := by decide +kernel
theorem dL_law_9 : decode cL_law 9 = .ok (.aload_n 0, 1) := by decide +kernel
theorem dL_law_10 : decode cL_law 10 = .ok (.iconst 1, 1) := by decide +kernel
theorem dL_law_11 : decode cL_law 11 = .ok (.invokestatic 9, 3) := by decide +kernel
theorem dL_law_14 : decode cL_law 14 = .ok (.invokespecial 15, 3) := by decide +kernel
theorem dL_law_17 : decode cL_law 17 = .ok (.astore_n 1, 1) := by decide +kernel
theorem dL_law_18 : decode cL_law 18 = .ok (.new 18, 3) := by decide +kernel
theorem dL_law_21 : decode cL_law 21 = .ok (.dup, 1) := by decide +kernel
theorem dL_law_22 : decode cL_law 22 = .ok (.aload_n 0, 1) := by decide +kernel
theorem dL_law_23 : decode cL_law 23 = .ok (.iconst 0, 1) := by decide +kernel
theorem dL_law_24 : decode cL_law 24 = .ok (.invokestatic 9, 3) := by decide +kernel
theorem dL_law_27 : decode cL_law 27 = .ok (.aload_n 0, 1) := by decide +kernel
theorem dL_law_28 : decode cL_law 28 = .ok (.iconst 1, 1) := by decide +kernel
theorem dL_law_29 : decode cL_law 29 = .ok (.invokestatic 9, 3) := by decide +kernel
theorem dL_law_32 : decode cL_law 32 = .ok (.invokespecial 20, 3) := by decide +kernel
theorem dL_law_35 : decode cL_law 35 = .ok (.astore_n 2, 1) := by decide +kernel
theorem dL_law_36 : decode cL_law 36 = .ok (.iconst 2, 1) := by decide +kernel
theorem dL_law_37 : decode cL_law 37 = .ok (.istore_n 3, 1) := by decide +kernel
theorem dL_law_38 : decode cL_law 38 = .ok (.iload_n 3, 1) := by decide +kernel
theorem dL_law_39 : decode cL_law 39 = .ok (.aload_n 0, 1) := by decide +kernel
theorem dL_law_40 : decode cL_law 40 = .ok (.arraylength, 1) := by decide +kernel
theorem dL_law_41 : decode cL_law 41 = .ok (.bipush 6, 2) := by decide +kernel
theorem dL_law_43 : decode cL_law 43 = .ok (.isub, 1) := by decide +kernel
theorem dL_law_44 : decode cL_law 44 = .ok (.if_icmp .gt 934, 3) := by decide +kernel
theorem dL_law_47 : decode cL_law 47 = .ok (.aload_n 0, 1) := by decide +kernel
theorem dL_law_48 : decode cL_law 48 = .ok (.iload_n 3, 1) := by decide +kernel
theorem dL_law_49 : decode cL_law 49 = .ok (.iaload, 1) := by decide +kernel
theorem dL_law_50 : decode cL_law 50 = .ok (.bipush 31, 2) := by decide +kernel
theorem dL_law_52 : decode cL_law 52 = .ok (.iand, 1) := by decide +kernel
theorem dL_law_53 : decode cL_law 53 = .ok (.tableswitch 919 0 28 #[131, 154, 217, 230, 253, 276, 309, 352, 395, 428, 461, 494, 557, 590, 613, 636, 659, 682, 695, 718, 731, 754, 777, 800, 813, 846, 869, 882, 905], 131) := by decide +kernel
theorem dL_law_184 : decode cL_law 184 = .ok (.aload_n 1, 1) := by decide +kernel
theorem dL_law_185 : decode cL_law 185 = .ok (.aload_n 0, 1) := by decide +kernel
theorem dL_law_186 : decode cL_law 186 = .ok (.iload_n 3, 1) := by decide +kernel
theorem dL_law_187 : decode cL_law 187 = .ok (.iconst 1, 1) := by decide +kernel
theorem dL_law_188 : decode cL_law 188 = .ok (.iadd, 1) := by decide +kernel
theorem dL_law_189 : decode cL_law 189 = .ok (.iaload, 1) := by decide +kernel
theorem dL_law_190 : decode cL_law 190 = .ok (.invokevirtual 21, 3) := by decide +kernel
theorem dL_law_193 : decode cL_law 193 = .ok (.aload_n 2, 1) := by decide +kernel
theorem dL_law_194 : decode cL_law 194 = .ok (.aload_n 0, 1) := by decide +kernel
theorem dL_law_195 : decode cL_law 195 = .ok (.iload_n 3, 1) := by decide +kernel
theorem dL_law_196 : decode cL_law 196 = .ok (.iconst 1, 1) := by decide +kernel
theorem dL_law_197 : decode cL_law 197 = .ok (.iadd, 1) := by decide +kernel
theorem dL_law_198 : decode cL_law 198 = .ok (.iaload, 1) := by decide +kernel
theorem dL_law_199 : decode cL_law 199 = .ok (.invokevirtual 25, 3) := by decide +kernel
theorem dL_law_202 : decode cL_law 202 = .ok (.if_icmp .eq 770, 3) := by decide +kernel
theorem dL_law_205 : decode cL_law 205 = .ok (.iconst 0, 1) := by decide +kernel
theorem dL_law_206 : decode cL_law 206 = .ok (.ireturn, 1) := by decide +kernel
theorem dL_law_207 : decode cL_law 207 = .ok (.aload_n 1, 1) := by decide +kernel
theorem dL_law_208 : decode cL_law 208 = .ok (.aload_n 0, 1) := by decide +kernel
theorem dL_law_209 : decode cL_law 209 = .ok (.iload_n 3, 1) := by decide +kernel
theorem dL_law_210 : decode cL_law 210 = .ok (.iconst 1, 1) := by decide +kernel
theorem dL_law_211 : decode cL_law 211 = .ok (.iadd, 1) := by decide +kernel
theorem dL_law_212 : decode cL_law 212 = .ok (.iaload, 1) := by decide +kernel
theorem dL_law_213 : decode cL_law 213 = .ok (.aload_n 0, 1) := by decide +kernel
theorem dL_law_214 : decode cL_law 214 = .ok (.iload_n 3, 1) := by decide +kernel
theorem dL_law_215 : decode cL_law 215 = .ok (.iconst 2, 1) := by decide +kernel
theorem dL_law_216 : decode cL_law 216 = .ok (.iadd, 1) := by decide +kernel
theorem dL_law_217 : decode cL_law 217 = .ok (.iaload, 1) := by decide +kernel
theorem dL_law_218 : decode cL_law 218 = .ok (.aload_n 0, 1) := by decide +kernel
theorem dL_law_219 : decode cL_law 219 = .ok (.iload_n 3, 1) := by decide +kernel
theorem dL_law_220 : decode cL_law 220 = .ok (.iconst 3, 1) := by decide +kernel
theorem dL_law_221 : decode cL_law 221 = .ok (.iadd, 1) := by decide +kernel
theorem dL_law_222 : decode cL_law 222 = .ok (.iaload, 1) := by decide +kernel
theorem dL_law_223 : decode cL_law 223 = .ok (.aload_n 0, 1) := by decide +kernel
theorem dL_law_224 : decode cL_law 224 = .ok (.iload_n 3, 1) := by decide +kernel
theorem dL_law_225 : decode cL_law 225 = .ok (.iconst 4, 1) := by decide +kernel
theorem dL_law_226 : decode cL_law 226 = .ok (.iadd, 1) := by decide +kernel
theorem dL_law_227 : decode cL_law 227 = .ok (.iaload, 1) := by decide +kernel
theorem dL_law_228 : decode cL_law 228 = .ok (.aload_n 0, 1) := by decide +kernel
theorem dL_law_229 : decode cL_law 229 = .ok (.iload_n 3, 1) := by decide +kernel
theorem dL_law_230 : decode cL_law 230 = .ok (.iconst 5, 1) := by decide +kernel
theorem dL_law_231 : decode cL_law 231 = .ok (.iadd, 1) := by decide +kernel
theorem dL_law_232 : decode cL_law 232 = .ok (.iaload, 1) := by decide +kernel
theorem dL_law_233 : decode cL_law 233 = .ok (.invokevirtual 26, 3) := by decide +kernel
theorem dL_law_236 : decode cL_law 236 = .ok (.aload_n 2, 1) := by decide +kernel
theorem dL_law_237 : decode cL_law 237 = .ok (.aload_n 0, 1) := by decide +kernel
theorem dL_law_238 : decode cL_law 238 = .ok (.iload_n 3, 1) := by decide +kernel
theorem dL_law_239 : decode cL_law 239 = .ok (.iconst 1, 1) := by decide +kernel
theorem dL_law_240 : decode cL_law 240 = .ok (.iadd, 1) := by decide +kernel
theorem dL_law_241 : decode cL_law 241 = .ok (.iaload, 1) := by decide +kernel
theorem dL_law_242 : decode cL_law 242 = .ok (.aload_n 0, 1) := by decide +kernel
theorem dL_law_243 : decode cL_law 243 = .ok (.iload_n 3, 1) := by decide +kernel
theorem dL_law_244 : decode cL_law 244 = .ok (.iconst 2, 1) := by decide +kernel
theorem dL_law_245 : decode cL_law 245 = .ok (.iadd, 1) := by decide +kernel
theorem dL_law_246 : decode cL_law 246 = .ok (.iaload, 1) := by decide +kernel
theorem dL_law_247 : decode cL_law 247 = .ok (.aload_n 0, 1) := by decide +kernel
theorem dL_law_248 : decode cL_law 248 = .ok (.iload_n 3, 1) := by decide +kernel
theorem dL_law_249 : decode cL_law 249 = .ok (.iconst 3, 1) := by decide +kernel
theorem dL_law_250 : decode cL_law 250 = .ok (.iadd, 1) := by decide +kernel
theorem dL_law_251 : decode cL_law 251 = .ok (.iaload, 1) := by decide +kernel
theorem dL_law_252 : decode cL_law 252 = .ok (.aload_n 0, 1) := by decide +kernel
theorem dL_law_253 : decode cL_law 253 = .ok (.iload_n 3, 1) := by decide +kernel
theorem dL_law_254 : decode cL_law 254 = .ok (.iconst 4, 1) := by decide +kernel
theorem dL_law_255 : decode cL_law 255 = .ok (.iadd, 1) := by decide +kernel
theorem dL_law_256 : decode cL_law 256 = .ok (.iaload, 1) := by decide +kernel
theorem dL_law_257 : decode cL_law 257 = .ok (.aload_n 0, 1) := by decide +kernel
theorem dL_law_258 : decode cL_law 258 = .ok (.iload_n 3, 1) := by decide +kernel
theorem dL_law_259 : decode cL_law 259 = .ok (.iconst 5, 1) := by decide +kernel
theorem dL_law_260 : decode cL_law 260 = .ok (.iadd, 1) := by decide +kernel
theorem dL_law_261 : decode cL_law 261 = .ok (.iaload, 1) := by decide +kernel
theorem dL_law_262 : decode cL_law 262 = .ok (.invokevirtual 30, 3) := by decide +kernel
theorem dL_law_265 : decode cL_law 265 = .ok (.if_icmp .eq 707, 3) := by decide +kernel
theorem dL_law_268 : decode cL_law 268 = .ok (.iconst 0, 1) := by decide +kernel
theorem dL_law_269 : decode cL_law 269 = .ok (.ireturn, 1) := by decide +kernel
theorem dL_law_270 : decode cL_law 270 = .ok (.aload_n 1, 1) := by decide +kernel
theorem dL_law_271 : decode cL_law 271 = .ok (.invokevirtual 31, 3) := by decide +kernel
theorem dL_law_274 : decode cL_law 274 = .ok (.aload_n 2, 1) := by decide +kernel
theorem dL_law_275 : decode cL_law 275 = .ok (.invokevirtual 35, 3) := by decide +kernel
theorem dL_law_278 : decode cL_law 278 = .ok (.if_icmp .eq 694, 3) := by decide +kernel
theorem dL_law_281 : decode cL_law 281 = .ok (.iconst 0, 1) := by decide +kernel
theorem dL_law_282 : decode cL_law 282 = .ok (.ireturn, 1) := by decide +kernel
theorem dL_law_283 : decode cL_law 283 = .ok (.aload_n 1, 1) := by decide +kernel
theorem dL_law_284 : decode cL_law 284 = .ok (.aload_n 0, 1) := by decide +kernel
theorem dL_law_285 : decode cL_law 285 = .ok (.iload_n 3, 1) := by decide +kernel
theorem dL_law_286 : decode cL_law 286 = .ok (.iconst 1, 1) := by decide +kernel
theorem dL_law_287 : decode cL_law 287 = .ok (.iadd, 1) := by decide +kernel
theorem dL_law_288 : decode cL_law 288 = .ok (.iaload, 1) := by decide +kernel
theorem dL_law_289 : decode cL_law 289 = .ok (.invokevirtual 36, 3) := by decide +kernel
theorem dL_law_292 : decode cL_law 292 = .ok (.aload_n 2, 1) := by decide +kernel
theorem dL_law_293 : decode cL_law 293 = .ok (.aload_n 0, 1) := by decide +kernel
theorem dL_law_294 : decode cL_law 294 = .ok (.iload_n 3, 1) := by decide +kernel
theorem dL_law_295 : decode cL_law 295 = .ok (.iconst 1, 1) := by decide +kernel
theorem dL_law_296 : decode cL_law 296 = .ok (.iadd, 1) := by decide +kernel
theorem dL_law_297 : decode cL_law 297 = .ok (.iaload, 1) := by decide +kernel
theorem dL_law_298 : decode cL_law 298 = .ok (.invokevirtual 39, 3) := by decide +kernel
theorem dL_law_301 : decode cL_law 301 = .ok (.if_icmp .eq 671, 3) := by decide +kernel
theorem dL_law_304 : decode cL_law 304 = .ok (.iconst 0, 1) := by decide +kernel
theorem dL_law_305 : decode cL_law 305 = .ok (.ireturn, 1) := by decide +kernel
theorem dL_law_306 : decode cL_law 306 = .ok (.aload_n 1, 1) := by decide +kernel
theorem dL_law_307 : decode cL_law 307 = .ok (.aload_n 0, 1) := by decide +kernel
theorem dL_law_308 : decode cL_law 308 = .ok (.iload_n 3, 1) := by decide +kernel
theorem dL_law_309 : decode cL_law 309 = .ok (.iconst 1, 1) := by decide +kernel
theorem dL_law_310 : decode cL_law 310 = .ok (.iadd, 1) := by decide +kernel
theorem dL_law_311 : decode cL_law 311 = .ok (.iaload, 1) := by decide +kernel
theorem dL_law_312 : decode cL_law 312 = .ok (.invokevirtual 40, 3) := by decide +kernel
theorem dL_law_315 : decode cL_law 315 = .ok (.aload_n 2, 1) := by decide +kernel
theorem dL_law_316 : decode cL_law 316 = .ok (.aload_n 0, 1) := by decide +kernel
theorem dL_law_317 : decode cL_law 317 = .ok (.iload_n 3, 1) := by decide +kernel
theorem dL_law_318 : decode cL_law 318 = .ok (.iconst 1, 1) := by decide +kernel
theorem dL_law_319 : decode cL_law 319 = .ok (.iadd, 1) := by decide +kernel
theorem dL_law_320 : decode cL_law 320 = .ok (.iaload, 1) := by decide +kernel
theorem dL_law_321 : decode cL_law 321 = .ok (.invokevirtual 43, 3) := by decide +kernel
theorem dL_law_324 : decode cL_law 324 = .ok (.if_icmp .eq 648, 3) := by decide +kernel
theorem dL_law_327 : decode cL_law 327 = .ok (.iconst 0, 1) := by decide +kernel
theorem dL_law_328 : decode cL_law 328 = .ok (.ireturn, 1) := by decide +kernel
theorem dL_law_329 : decode cL_law 329 = .ok (.aload_n 1, 1) := by decide +kernel
theorem dL_law_330 : decode cL_law 330 = .ok (.aload_n 0, 1) := by decide +kernel
theorem dL_law_331 : decode cL_law 331 = .ok (.iload_n 3, 1) := by decide +kernel
theorem dL_law_332 : decode cL_law 332 = .ok (.iconst 1, 1) := by decide +kernel
theorem dL_law_333 : decode cL_law 333 = .ok (.iadd, 1) := by decide +kernel
theorem dL_law_334 : decode cL_law 334 = .ok (.iaload, 1) := by decide +kernel
theorem dL_law_335 : decode cL_law 335 = .ok (.aload_n 0, 1) := by decide +kernel
theorem dL_law_336 : decode cL_law 336 = .ok (.iload_n 3, 1) := by decide +kernel
theorem dL_law_337 : decode cL_law 337 = .ok (.iconst 2, 1) := by decide +kernel
theorem dL_law_338 : decode cL_law 338 = .ok (.iadd, 1) := by decide +kernel
theorem dL_law_339 : decode cL_law 339 = .ok (.iaload, 1) := by decide +kernel
theorem dL_law_340 : decode cL_law 340 = .ok (.invokevirtual 44, 3) := by decide +kernel
theorem dL_law_343 : decode cL_law 343 = .ok (.aload_n 2, 1) := by decide +kernel
theorem dL_law_344 : decode cL_law 344 = .ok (.aload_n 0, 1) := by decide +kernel
theorem dL_law_345 : decode cL_law 345 = .ok (.iload_n 3, 1) := by decide +kernel
theorem dL_law_346 : decode cL_law 346 = .ok (.iconst 1, 1) := by decide +kernel
theorem dL_law_347 : decode cL_law 347 = .ok (.iadd, 1) := by decide +kernel
theorem dL_law_348 : decode cL_law 348 = .ok (.iaload, 1) := by decide +kernel
theorem dL_law_349 : decode cL_law 349 = .ok (.aload_n 0, 1) := by decide +kernel
theorem dL_law_350 : decode cL_law 350 = .ok (.iload_n 3, 1) := by decide +kernel
theorem dL_law_351 : decode cL_law 351 = .ok (.iconst 2, 1) := by decide +kernel
theorem dL_law_352 : decode cL_law 352 = .ok (.iadd, 1) := by decide +kernel
theorem dL_law_353 : decode cL_law 353 = .ok (.iaload, 1) := by decide +kernel
theorem dL_law_354 : decode cL_law 354 = .ok (.invokevirtual 48, 3) := by decide +kernel
theorem dL_law_357 : decode cL_law 357 = .ok (.if_icmp .eq 615, 3) := by decide +kernel
theorem dL_law_360 : decode cL_law 360 = .ok (.iconst 0, 1) := by decide +kernel
theorem dL_law_361 : decode cL_law 361 = .ok (.ireturn, 1) := by decide +kernel
theorem dL_law_362 : decode cL_law 362 = .ok (.aload_n 1, 1) := by decide +kernel
theorem dL_law_363 : decode cL_law 363 = .ok (.aload_n 0, 1) := by decide +kernel
theorem dL_law_364 : decode cL_law 364 = .ok (.iload_n 3, 1) := by decide +kernel
theorem dL_law_365 : decode cL_law 365 = .ok (.iconst 1, 1) := by decide +kernel
theorem dL_law_366 : decode cL_law 366 = .ok (.iadd, 1) := by decide +kernel
theorem dL_law_367 : decode cL_law 367 = .ok (.iaload, 1) := by decide +kernel
theorem dL_law_368 : decode cL_law 368 = .ok (.aload_n 0, 1) := by decide +kernel
theorem dL_law_369 : decode cL_law 369 = .ok (.iload_n 3, 1) := by decide +kernel
theorem dL_law_370 : decode cL_law 370 = .ok (.iconst 2, 1) := by decide +kernel
theorem dL_law_371 : decode cL_law 371 = .ok (.iadd, 1) := by decide +kernel
theorem dL_law_372 : decode cL_law 372 = .ok (.iaload, 1) := by decide +kernel
theorem dL_law_373 : decode cL_law 373 = .ok (.aload_n 0, 1) := by decide +kernel
theorem dL_law_374 : decode cL_law 374 = .ok (.iload_n 3, 1) := by decide +kernel
theorem dL_law_375 : decode cL_law 375 = .ok (.iconst 3, 1) := by decide +kernel
theorem dL_law_376 : decode cL_law 376 = .ok (.iadd, 1) := by decide +kernel
theorem dL_law_377 : decode cL_law 377 = .ok (.iaload, 1) := by decide +kernel
theorem dL_law_378 : decode cL_law 378 = .ok (.invokevirtual 49, 3) := by decide +kernel
theorem dL_law_381 : decode cL_law 381 = .ok (.aload_n 2, 1) := by decide +kernel
theorem dL_law_382 : decode cL_law 382 = .ok (.aload_n 0, 1) := by decide +kernel
theorem dL_law_383 : decode cL_law 383 = .ok (.iload_n 3, 1) := by decide +kernel
theorem dL_law_384 : decode cL_law 384 = .ok (.iconst 1, 1) := by decide +kernel
theorem dL_law_385 : decode cL_law 385 = .ok (.iadd, 1) := by decide +kernel
theorem dL_law_386 : decode cL_law 386 = .ok (.iaload, 1) := by decide +kernel
theorem dL_law_387 : decode cL_law 387 = .ok (.aload_n 0, 1) := by decide +kernel
theorem dL_law_388 : decode cL_law 388 = .ok (.iload_n 3, 1) := by decide +kernel
theorem dL_law_389 : decode cL_law 389 = .ok (.iconst 2, 1) := by decide +kernel
theorem dL_law_390 : decode cL_law 390 = .ok (.iadd, 1) := by decide +kernel
theorem dL_law_391 : decode cL_law 391 = .ok (.iaload, 1) := by decide +kernel
theorem dL_law_392 : decode cL_law 392 = .ok (.aload_n 0, 1) := by decide +kernel
theorem dL_law_393 : decode cL_law 393 = .ok (.iload_n 3, 1) := by decide +kernel
theorem dL_law_394 : decode cL_law 394 = .ok (.iconst 3, 1) := by decide +kernel
theorem dL_law_395 : decode cL_law 395 = .ok (.iadd, 1) := by decide +kernel
theorem dL_law_396 : decode cL_law 396 = .ok (.iaload, 1) := by decide +kernel
theorem dL_law_397 : decode cL_law 397 = .ok (.invokevirtual 53, 3) := by decide +kernel
theorem dL_law_400 : decode cL_law 400 = .ok (.if_icmp .eq 572, 3) := by decide +kernel
theorem dL_law_403 : decode cL_law 403 = .ok (.iconst 0, 1) := by decide +kernel
theorem dL_law_404 : decode cL_law 404 = .ok (.ireturn, 1) := by decide +kernel
theorem dL_law_405 : decode cL_law 405 = .ok (.aload_n 1, 1) := by decide +kernel
theorem dL_law_406 : decode cL_law 406 = .ok (.aload_n 0, 1) := by decide +kernel
theorem dL_law_407 : decode cL_law 407 = .ok (.iload_n 3, 1) := by decide +kernel
theorem dL_law_408 : decode cL_law 408 = .ok (.iconst 1, 1) := by decide +kernel
theorem dL_law_409 : decode cL_law 409 = .ok (.iadd, 1) := by decide +kernel
theorem dL_law_410 : decode cL_law 410 = .ok (.iaload, 1) := by decide +kernel
theorem dL_law_411 : decode cL_law 411 = .ok (.aload_n 0, 1) := by decide +kernel
theorem dL_law_412 : decode cL_law 412 = .ok (.iload_n 3, 1) := by decide +kernel
theorem dL_law_413 : decode cL_law 413 = .ok (.iconst 2, 1) := by decide +kernel
theorem dL_law_414 : decode cL_law 414 = .ok (.iadd, 1) := by decide +kernel
theorem dL_law_415 : decode cL_law 415 = .ok (.iaload, 1) := by decide +kernel
theorem dL_law_416 : decode cL_law 416 = .ok (.aload_n 0, 1) := by decide +kernel
theorem dL_law_417 : decode cL_law 417 = .ok (.iload_n 3, 1) := by decide +kernel
theorem dL_law_418 : decode cL_law 418 = .ok (.iconst 3, 1) := by decide +kernel
theorem dL_law_419 : decode cL_law 419 = .ok (.iadd, 1) := by decide +kernel
theorem dL_law_420 : decode cL_law 420 = .ok (.iaload, 1) := by decide +kernel
theorem dL_law_421 : decode cL_law 421 = .ok (.invokevirtual 54, 3) := by decide +kernel
theorem dL_law_424 : decode cL_law 424 = .ok (.aload_n 2, 1) := by decide +kernel
theorem dL_law_425 : decode cL_law 425 = .ok (.aload_n 0, 1) := by decide +kernel
theorem dL_law_426 : decode cL_law 426 = .ok (.iload_n 3, 1) := by decide +kernel
theorem dL_law_427 : decode cL_law 427 = .ok (.iconst 1, 1) := by decide +kernel
theorem dL_law_428 : decode cL_law 428 = .ok (.iadd, 1) := by decide +kernel
theorem dL_law_429 : decode cL_law 429 = .ok (.iaload, 1) := by decide +kernel
theorem dL_law_430 : decode cL_law 430 = .ok (.aload_n 0, 1) := by decide +kernel
theorem dL_law_431 : decode cL_law 431 = .ok (.iload_n 3, 1) := by decide +kernel
theorem dL_law_432 : decode cL_law 432 = .ok (.iconst 2, 1) := by decide +kernel
theorem dL_law_433 : decode cL_law 433 = .ok (.iadd, 1) := by decide +kernel
theorem dL_law_434 : decode cL_law 434 = .ok (.iaload, 1) := by decide +kernel
theorem dL_law_435 : decode cL_law 435 = .ok (.aload_n 0, 1) := by decide +kernel
theorem dL_law_436 : decode cL_law 436 = .ok (.iload_n 3, 1) := by decide +kernel
theorem dL_law_437 : decode cL_law 437 = .ok (.iconst 3, 1) := by decide +kernel
theorem dL_law_438 : decode cL_law 438 = .ok (.iadd, 1) := by decide +kernel
theorem dL_law_439 : decode cL_law 439 = .ok (.iaload, 1) := by decide +kernel
theorem dL_law_440 : decode cL_law 440 = .ok (.invokevirtual 57, 3) := by decide +kernel
theorem dL_law_443 : decode cL_law 443 = .ok (.if_icmp .eq 529, 3) := by decide +kernel
theorem dL_law_446 : decode cL_law 446 = .ok (.iconst 0, 1) := by decide +kernel
theorem dL_law_447 : decode cL_law 447 = .ok (.ireturn, 1) := by decide +kernel
theorem dL_law_448 : decode cL_law 448 = .ok (.aload_n 1, 1) := by decide +kernel
theorem dL_law_449 : decode cL_law 449 = .ok (.aload_n 0, 1) := by decide +kernel
theorem dL_law_450 : decode cL_law 450 = .ok (.iload_n 3, 1) := by decide +kernel
theorem dL_law_451 : decode cL_law 451 = .ok (.iconst 1, 1) := by decide +kernel
theorem dL_law_452 : decode cL_law 452 = .ok (.iadd, 1) := by decide +kernel
theorem dL_law_453 : decode cL_law 453 = .ok (.iaload, 1) := by decide +kernel
theorem dL_law_454 : decode cL_law 454 = .ok (.aload_n 0, 1) := by decide +kernel
theorem dL_law_455 : decode cL_law 455 = .ok (.iload_n 3, 1) := by decide +kernel
theorem dL_law_456 : decode cL_law 456 = .ok (.iconst 2, 1) := by decide +kernel
theorem dL_law_457 : decode cL_law 457 = .ok (.iadd, 1) := by decide +kernel
theorem dL_law_458 : decode cL_law 458 = .ok (.iaload, 1) := by decide +kernel
theorem dL_law_459 : decode cL_law 459 = .ok (.invokevirtual 58, 3) := by decide +kernel
theorem dL_law_462 : decode cL_law 462 = .ok (.aload_n 2, 1) := by decide +kernel
theorem dL_law_463 : decode cL_law 463 = .ok (.aload_n 0, 1) := by decide +kernel
theorem dL_law_464 : decode cL_law 464 = .ok (.iload_n 3, 1) := by decide +kernel
theorem dL_law_465 : decode cL_law 465 = .ok (.iconst 1, 1) := by decide +kernel
theorem dL_law_466 : decode cL_law 466 = .ok (.iadd, 1) := by decide +kernel
theorem dL_law_467 : decode cL_law 467 = .ok (.iaload, 1) := by decide +kernel
theorem dL_law_468 : decode cL_law 468 = .ok (.aload_n 0, 1) := by decide +kernel
theorem dL_law_469 : decode cL_law 469 = .ok (.iload_n 3, 1) := by decide +kernel
theorem dL_law_470 : decode cL_law 470 = .ok (.iconst 2, 1) := by decide +kernel
theorem dL_law_471 : decode cL_law 471 = .ok (.iadd, 1) := by decide +kernel
theorem dL_law_472 : decode cL_law 472 = .ok (.iaload, 1) := by decide +kernel
theorem dL_law_473 : decode cL_law 473 = .ok (.invokevirtual 61, 3) := by decide +kernel
theorem dL_law_476 : decode cL_law 476 = .ok (.if_icmp .eq 496, 3) := by decide +kernel
theorem dL_law_479 : decode cL_law 479 = .ok (.iconst 0, 1) := by decide +kernel
theorem dL_law_480 : decode cL_law 480 = .ok (.ireturn, 1) := by decide +kernel
theorem dL_law_481 : decode cL_law 481 = .ok (.aload_n 1, 1) := by decide +kernel
theorem dL_law_482 : decode cL_law 482 = .ok (.aload_n 0, 1) := by decide +kernel
theorem dL_law_483 : decode cL_law 483 = .ok (.iload_n 3, 1) := by decide +kernel
theorem dL_law_484 : decode cL_law 484 = .ok (.iconst 1, 1) := by decide +kernel
theorem dL_law_485 : decode cL_law 485 = .ok (.iadd, 1) := by decide +kernel
theorem dL_law_486 : decode cL_law 486 = .ok (.iaload, 1) := by decide +kernel
theorem dL_law_487 : decode cL_law 487 = .ok (.aload_n 0, 1) := by decide +kernel
theorem dL_law_488 : decode cL_law 488 = .ok (.iload_n 3, 1) := by decide +kernel
theorem dL_law_489 : decode cL_law 489 = .ok (.iconst 2, 1) := by decide +kernel
theorem dL_law_490 : decode cL_law 490 = .ok (.iadd, 1) := by decide +kernel
theorem dL_law_491 : decode cL_law 491 = .ok (.iaload, 1) := by decide +kernel
theorem dL_law_492 : decode cL_law 492 = .ok (.invokevirtual 62, 3) := by decide +kernel
theorem dL_law_495 : decode cL_law 495 = .ok (.aload_n 2, 1) := by decide +kernel
theorem dL_law_496 : decode cL_law 496 = .ok (.aload_n 0, 1) := by decide +kernel
theorem dL_law_497 : decode cL_law 497 = .ok (.iload_n 3, 1) := by decide +kernel
theorem dL_law_498 : decode cL_law 498 = .ok (.iconst 1, 1) := by decide +kernel
theorem dL_law_499 : decode cL_law 499 = .ok (.iadd, 1) := by decide +kernel
theorem dL_law_500 : decode cL_law 500 = .ok (.iaload, 1) := by decide +kernel
theorem dL_law_501 : decode cL_law 501 = .ok (.aload_n 0, 1) := by decide +kernel
theorem dL_law_502 : decode cL_law 502 = .ok (.iload_n 3, 1) := by decide +kernel
theorem dL_law_503 : decode cL_law 503 = .ok (.iconst 2, 1) := by decide +kernel
theorem dL_law_504 : decode cL_law 504 = .ok (.iadd, 1) := by decide +kernel
theorem dL_law_505 : decode cL_law 505 = .ok (.iaload, 1) := by decide +kernel
theorem dL_law_506 : decode cL_law 506 = .ok (.invokevirtual 65, 3) := by decide +kernel
theorem dL_law_509 : decode cL_law 509 = .ok (.if_icmp .eq 463, 3) := by decide +kernel
theorem dL_law_512 : decode cL_law 512 = .ok (.iconst 0, 1) := by decide +kernel
theorem dL_law_513 : decode cL_law 513 = .ok (.ireturn, 1) := by decide +kernel
theorem dL_law_514 : decode cL_law 514 = .ok (.aload_n 1, 1) := by decide +kernel
theorem dL_law_515 : decode cL_law 515 = .ok (.aload_n 0, 1) := by decide +kernel
theorem dL_law_516 : decode cL_law 516 = .ok (.iload_n 3, 1) := by decide +kernel
theorem dL_law_517 : decode cL_law 517 = .ok (.iconst 1, 1) := by decide +kernel
theorem dL_law_518 : decode cL_law 518 = .ok (.iadd, 1) := by decide +kernel
theorem dL_law_519 : decode cL_law 519 = .ok (.iaload, 1) := by decide +kernel
theorem dL_law_520 : decode cL_law 520 = .ok (.aload_n 0, 1) := by decide +kernel
theorem dL_law_521 : decode cL_law 521 = .ok (.iload_n 3, 1) := by decide +kernel
theorem dL_law_522 : decode cL_law 522 = .ok (.iconst 2, 1) := by decide +kernel
theorem dL_law_523 : decode cL_law 523 = .ok (.iadd, 1) := by decide +kernel
theorem dL_law_524 : decode cL_law 524 = .ok (.iaload, 1) := by decide +kernel
theorem dL_law_525 : decode cL_law 525 = .ok (.invokevirtual 66, 3) := by decide +kernel
theorem dL_law_528 : decode cL_law 528 = .ok (.aload_n 2, 1) := by decide +kernel
theorem dL_law_529 : decode cL_law 529 = .ok (.aload_n 0, 1) := by decide +kernel
theorem dL_law_530 : decode cL_law 530 = .ok (.iload_n 3, 1) := by decide +kernel
theorem dL_law_531 : decode cL_law 531 = .ok (.iconst 1, 1) := by decide +kernel
theorem dL_law_532 : decode cL_law 532 = .ok (.iadd, 1) := by decide +kernel
theorem dL_law_533 : decode cL_law 533 = .ok (.iaload, 1) := by decide +kernel
theorem dL_law_534 : decode cL_law 534 = .ok (.aload_n 0, 1) := by decide +kernel
theorem dL_law_535 : decode cL_law 535 = .ok (.iload_n 3, 1) := by decide +kernel
theorem dL_law_536 : decode cL_law 536 = .ok (.iconst 2, 1) := by decide +kernel
theorem dL_law_537 : decode cL_law 537 = .ok (.iadd, 1) := by decide +kernel
theorem dL_law_538 : decode cL_law 538 = .ok (.iaload, 1) := by decide +kernel
theorem dL_law_539 : decode cL_law 539 = .ok (.invokevirtual 69, 3) := by decide +kernel
theorem dL_law_542 : decode cL_law 542 = .ok (.if_icmp .eq 430, 3) := by decide +kernel
theorem dL_law_545 : decode cL_law 545 = .ok (.iconst 0, 1) := by decide +kernel
theorem dL_law_546 : decode cL_law 546 = .ok (.ireturn, 1) := by decide +kernel
theorem dL_law_547 : decode cL_law 547 = .ok (.aload_n 1, 1) := by decide +kernel
theorem dL_law_548 : decode cL_law 548 = .ok (.aload_n 0, 1) := by decide +kernel
theorem dL_law_549 : decode cL_law 549 = .ok (.iload_n 3, 1) := by decide +kernel
theorem dL_law_550 : decode cL_law 550 = .ok (.iconst 1, 1) := by decide +kernel
theorem dL_law_551 : decode cL_law 551 = .ok (.iadd, 1) := by decide +kernel
theorem dL_law_552 : decode cL_law 552 = .ok (.iaload, 1) := by decide +kernel
theorem dL_law_553 : decode cL_law 553 = .ok (.aload_n 0, 1) := by decide +kernel
theorem dL_law_554 : decode cL_law 554 = .ok (.iload_n 3, 1) := by decide +kernel
theorem dL_law_555 : decode cL_law 555 = .ok (.iconst 2, 1) := by decide +kernel
theorem dL_law_556 : decode cL_law 556 = .ok (.iadd, 1) := by decide +kernel
theorem dL_law_557 : decode cL_law 557 = .ok (.iaload, 1) := by decide +kernel
theorem dL_law_558 : decode cL_law 558 = .ok (.aload_n 0, 1) := by decide +kernel
theorem dL_law_559 : decode cL_law 559 = .ok (.iload_n 3, 1) := by decide +kernel
theorem dL_law_560 : decode cL_law 560 = .ok (.iconst 3, 1) := by decide +kernel
theorem dL_law_561 : decode cL_law 561 = .ok (.iadd, 1) := by decide +kernel
theorem dL_law_562 : decode cL_law 562 = .ok (.iaload, 1) := by decide +kernel
theorem dL_law_563 : decode cL_law 563 = .ok (.aload_n 0, 1) := by decide +kernel
theorem dL_law_564 : decode cL_law 564 = .ok (.iload_n 3, 1) := by decide +kernel
theorem dL_law_565 : decode cL_law 565 = .ok (.iconst 4, 1) := by decide +kernel
theorem dL_law_566 : decode cL_law 566 = .ok (.iadd, 1) := by decide +kernel
theorem dL_law_567 : decode cL_law 567 = .ok (.iaload, 1) := by decide +kernel
theorem dL_law_568 : decode cL_law 568 = .ok (.aload_n 0, 1) := by decide +kernel
theorem dL_law_569 : decode cL_law 569 = .ok (.iload_n 3, 1) := by decide +kernel
theorem dL_law_570 : decode cL_law 570 = .ok (.iconst 5, 1) := by decide +kernel
theorem dL_law_571 : decode cL_law 571 = .ok (.iadd, 1) := by decide +kernel
theorem dL_law_572 : decode cL_law 572 = .ok (.iaload, 1) := by decide +kernel
theorem dL_law_573 : decode cL_law 573 = .ok (.invokevirtual 70, 3) := by decide +kernel
theorem dL_law_576 : decode cL_law 576 = .ok (.aload_n 2, 1) := by decide +kernel
theorem dL_law_577 : decode cL_law 577 = .ok (.aload_n 0, 1) := by decide +kernel
theorem dL_law_578 : decode cL_law 578 = .ok (.iload_n 3, 1) := by decide +kernel
theorem dL_law_579 : decode cL_law 579 = .ok (.iconst 1, 1) := by decide +kernel
theorem dL_law_580 : decode cL_law 580 = .ok (.iadd, 1) := by decide +kernel
theorem dL_law_581 : decode cL_law 581 = .ok (.iaload, 1) := by decide +kernel
theorem dL_law_582 : decode cL_law 582 = .ok (.aload_n 0, 1) := by decide +kernel
theorem dL_law_583 : decode cL_law 583 = .ok (.iload_n 3, 1) := by decide +kernel
theorem dL_law_584 : decode cL_law 584 = .ok (.iconst 2, 1) := by decide +kernel
theorem dL_law_585 : decode cL_law 585 = .ok (.iadd, 1) := by decide +kernel
theorem dL_law_586 : decode cL_law 586 = .ok (.iaload, 1) := by decide +kernel
theorem dL_law_587 : decode cL_law 587 = .ok (.aload_n 0, 1) := by decide +kernel
theorem dL_law_588 : decode cL_law 588 = .ok (.iload_n 3, 1) := by decide +kernel
theorem dL_law_589 : decode cL_law 589 = .ok (.iconst 3, 1) := by decide +kernel
theorem dL_law_590 : decode cL_law 590 = .ok (.iadd, 1) := by decide +kernel
theorem dL_law_591 : decode cL_law 591 = .ok (.iaload, 1) := by decide +kernel
theorem dL_law_592 : decode cL_law 592 = .ok (.aload_n 0, 1) := by decide +kernel
theorem dL_law_593 : decode cL_law 593 = .ok (.iload_n 3, 1) := by decide +kernel
theorem dL_law_594 : decode cL_law 594 = .ok (.iconst 4, 1) := by decide +kernel
theorem dL_law_595 : decode cL_law 595 = .ok (.iadd, 1) := by decide +kernel
theorem dL_law_596 : decode cL_law 596 = .ok (.iaload, 1) := by decide +kernel
theorem dL_law_597 : decode cL_law 597 = .ok (.aload_n 0, 1) := by decide +kernel
theorem dL_law_598 : decode cL_law 598 = .ok (.iload_n 3, 1) := by decide +kernel
theorem dL_law_599 : decode cL_law 599 = .ok (.iconst 5, 1) := by decide +kernel
theorem dL_law_600 : decode cL_law 600 = .ok (.iadd, 1) := by decide +kernel
theorem dL_law_601 : decode cL_law 601 = .ok (.iaload, 1) := by decide +kernel
theorem dL_law_602 : decode cL_law 602 = .ok (.invokevirtual 73, 3) := by decide +kernel
theorem dL_law_605 : decode cL_law 605 = .ok (.if_icmp .eq 367, 3) := by decide +kernel
theorem dL_law_608 : decode cL_law 608 = .ok (.iconst 0, 1) := by decide +kernel
theorem dL_law_609 : decode cL_law 609 = .ok (.ireturn, 1) := by decide +kernel
theorem dL_law_610 : decode cL_law 610 = .ok (.aload_n 1, 1) := by decide +kernel
theorem dL_law_611 : decode cL_law 611 = .ok (.aload_n 0, 1) := by decide +kernel
theorem dL_law_612 : decode cL_law 612 = .ok (.iload_n 3, 1) := by decide +kernel
theorem dL_law_613 : decode cL_law 613 = .ok (.iconst 1, 1) := by decide +kernel
theorem dL_law_614 : decode cL_law 614 = .ok (.iadd, 1) := by decide +kernel
theorem dL_law_615 : decode cL_law 615 = .ok (.iaload, 1) := by decide +kernel
theorem dL_law_616 : decode cL_law 616 = .ok (.aload_n 0, 1) := by decide +kernel
theorem dL_law_617 : decode cL_law 617 = .ok (.iload_n 3, 1) := by decide +kernel
theorem dL_law_618 : decode cL_law 618 = .ok (.iconst 2, 1) := by decide +kernel
theorem dL_law_619 : decode cL_law 619 = .ok (.iadd, 1) := by decide +kernel
theorem dL_law_620 : decode cL_law 620 = .ok (.iaload, 1) := by decide +kernel
theorem dL_law_621 : decode cL_law 621 = .ok (.invokevirtual 74, 3) := by decide +kernel
theorem dL_law_624 : decode cL_law 624 = .ok (.aload_n 2, 1) := by decide +kernel
theorem dL_law_625 : decode cL_law 625 = .ok (.aload_n 0, 1) := by decide +kernel
theorem dL_law_626 : decode cL_law 626 = .ok (.iload_n 3, 1) := by decide +kernel
theorem dL_law_627 : decode cL_law 627 = .ok (.iconst 1, 1) := by decide +kernel
theorem dL_law_628 : decode cL_law 628 = .ok (.iadd, 1) := by decide +kernel
theorem dL_law_629 : decode cL_law 629 = .ok (.iaload, 1) := by decide +kernel
theorem dL_law_630 : decode cL_law 630 = .ok (.aload_n 0, 1) := by decide +kernel
theorem dL_law_631 : decode cL_law 631 = .ok (.iload_n 3, 1) := by decide +kernel
theorem dL_law_632 : decode cL_law 632 = .ok (.iconst 2, 1) := by decide +kernel
theorem dL_law_633 : decode cL_law 633 = .ok (.iadd, 1) := by decide +kernel
theorem dL_law_634 : decode cL_law 634 = .ok (.iaload, 1) := by decide +kernel
theorem dL_law_635 : decode cL_law 635 = .ok (.invokevirtual 77, 3) := by decide +kernel
theorem dL_law_638 : decode cL_law 638 = .ok (.if_icmp .eq 334, 3) := by decide +kernel
theorem dL_law_641 : decode cL_law 641 = .ok (.iconst 0, 1) := by decide +kernel
theorem dL_law_642 : decode cL_law 642 = .ok (.ireturn, 1) := by decide +kernel
theorem dL_law_643 : decode cL_law 643 = .ok (.aload_n 1, 1) := by decide +kernel
theorem dL_law_644 : decode cL_law 644 = .ok (.aload_n 0, 1) := by decide +kernel
theorem dL_law_645 : decode cL_law 645 = .ok (.iload_n 3, 1) := by decide +kernel
theorem dL_law_646 : decode cL_law 646 = .ok (.iconst 1, 1) := by decide +kernel
theorem dL_law_647 : decode cL_law 647 = .ok (.iadd, 1) := by decide +kernel
theorem dL_law_648 : decode cL_law 648 = .ok (.iaload, 1) := by decide +kernel
theorem dL_law_649 : decode cL_law 649 = .ok (.invokevirtual 78, 3) := by decide +kernel
theorem dL_law_652 : decode cL_law 652 = .ok (.aload_n 2, 1) := by decide +kernel
theorem dL_law_653 : decode cL_law 653 = .ok (.aload_n 0, 1) := by decide +kernel
theorem dL_law_654 : decode cL_law 654 = .ok (.iload_n 3, 1) := by decide +kernel
theorem dL_law_655 : decode cL_law 655 = .ok (.iconst 1, 1) := by decide +kernel
theorem dL_law_656 : decode cL_law 656 = .ok (.iadd, 1) := by decide +kernel
theorem dL_law_657 : decode cL_law 657 = .ok (.iaload, 1) := by decide +kernel
theorem dL_law_658 : decode cL_law 658 = .ok (.invokevirtual 81, 3) := by decide +kernel
theorem dL_law_661 : decode cL_law 661 = .ok (.if_icmp .eq 311, 3) := by decide +kernel
theorem dL_law_664 : decode cL_law 664 = .ok (.iconst 0, 1) := by decide +kernel
theorem dL_law_665 : decode cL_law 665 = .ok (.ireturn, 1) := by decide +kernel
theorem dL_law_666 : decode cL_law 666 = .ok (.aload_n 1, 1) := by decide +kernel
theorem dL_law_667 : decode cL_law 667 = .ok (.aload_n 0, 1) := by decide +kernel
theorem dL_law_668 : decode cL_law 668 = .ok (.iload_n 3, 1) := by decide +kernel
theorem dL_law_669 : decode cL_law 669 = .ok (.iconst 1, 1) := by decide +kernel
theorem dL_law_670 : decode cL_law 670 = .ok (.iadd, 1) := by decide +kernel
theorem dL_law_671 : decode cL_law 671 = .ok (.iaload, 1) := by decide +kernel
theorem dL_law_672 : decode cL_law 672 = .ok (.invokevirtual 82, 3) := by decide +kernel
theorem dL_law_675 : decode cL_law 675 = .ok (.aload_n 2, 1) := by decide +kernel
theorem dL_law_676 : decode cL_law 676 = .ok (.aload_n 0, 1) := by decide +kernel
theorem dL_law_677 : decode cL_law 677 = .ok (.iload_n 3, 1) := by decide +kernel
theorem dL_law_678 : decode cL_law 678 = .ok (.iconst 1, 1) := by decide +kernel
theorem dL_law_679 : decode cL_law 679 = .ok (.iadd, 1) := by decide +kernel
theorem dL_law_680 : decode cL_law 680 = .ok (.iaload, 1) := by decide +kernel
theorem dL_law_681 : decode cL_law 681 = .ok (.invokevirtual 85, 3) := by decide +kernel
theorem dL_law_684 : decode cL_law 684 = .ok (.if_icmp .eq 288, 3) := by decide +kernel
theorem dL_law_687 : decode cL_law 687 = .ok (.iconst 0, 1) := by decide +kernel
theorem dL_law_688 : decode cL_law 688 = .ok (.ireturn, 1) := by decide +kernel
theorem dL_law_689 : decode cL_law 689 = .ok (.aload_n 1, 1) := by decide +kernel
theorem dL_law_690 : decode cL_law 690 = .ok (.aload_n 0, 1) := by decide +kernel
theorem dL_law_691 : decode cL_law 691 = .ok (.iload_n 3, 1) := by decide +kernel
theorem dL_law_692 : decode cL_law 692 = .ok (.iconst 1, 1) := by decide +kernel
theorem dL_law_693 : decode cL_law 693 = .ok (.iadd, 1) := by decide +kernel
theorem dL_law_694 : decode cL_law 694 = .ok (.iaload, 1) := by decide +kernel
theorem dL_law_695 : decode cL_law 695 = .ok (.invokevirtual 86, 3) := by decide +kernel
theorem dL_law_698 : decode cL_law 698 = .ok (.aload_n 2, 1) := by decide +kernel
theorem dL_law_699 : decode cL_law 699 = .ok (.aload_n 0, 1) := by decide +kernel
theorem dL_law_700 : decode cL_law 700 = .ok (.iload_n 3, 1) := by decide +kernel
theorem dL_law_701 : decode cL_law 701 = .ok (.iconst 1, 1) := by decide +kernel
theorem dL_law_702 : decode cL_law 702 = .ok (.iadd, 1) := by decide +kernel
theorem dL_law_703 : decode cL_law 703 = .ok (.iaload, 1) := by decide +kernel
theorem dL_law_704 : decode cL_law 704 = .ok (.invokevirtual 89, 3) := by decide +kernel
theorem dL_law_707 : decode cL_law 707 = .ok (.if_icmp .eq 265, 3) := by decide +kernel
theorem dL_law_710 : decode cL_law 710 = .ok (.iconst 0, 1) := by decide +kernel
theorem dL_law_711 : decode cL_law 711 = .ok (.ireturn, 1) := by decide +kernel
theorem dL_law_712 : decode cL_law 712 = .ok (.aload_n 1, 1) := by decide +kernel
theorem dL_law_713 : decode cL_law 713 = .ok (.aload_n 0, 1) := by decide +kernel
theorem dL_law_714 : decode cL_law 714 = .ok (.iload_n 3, 1) := by decide +kernel
theorem dL_law_715 : decode cL_law 715 = .ok (.iconst 1, 1) := by decide +kernel
theorem dL_law_716 : decode cL_law 716 = .ok (.iadd, 1) := by decide +kernel
theorem dL_law_717 : decode cL_law 717 = .ok (.iaload, 1) := by decide +kernel
theorem dL_law_718 : decode cL_law 718 = .ok (.invokevirtual 90, 3) := by decide +kernel
theorem dL_law_721 : decode cL_law 721 = .ok (.aload_n 2, 1) := by decide +kernel
theorem dL_law_722 : decode cL_law 722 = .ok (.aload_n 0, 1) := by decide +kernel
theorem dL_law_723 : decode cL_law 723 = .ok (.iload_n 3, 1) := by decide +kernel
theorem dL_law_724 : decode cL_law 724 = .ok (.iconst 1, 1) := by decide +kernel
theorem dL_law_725 : decode cL_law 725 = .ok (.iadd, 1) := by decide +kernel
theorem dL_law_726 : decode cL_law 726 = .ok (.iaload, 1) := by decide +kernel
theorem dL_law_727 : decode cL_law 727 = .ok (.invokevirtual 93, 3) := by decide +kernel
theorem dL_law_730 : decode cL_law 730 = .ok (.if_icmp .eq 242, 3) := by decide +kernel
theorem dL_law_733 : decode cL_law 733 = .ok (.iconst 0, 1) := by decide +kernel
theorem dL_law_734 : decode cL_law 734 = .ok (.ireturn, 1) := by decide +kernel
theorem dL_law_735 : decode cL_law 735 = .ok (.aload_n 1, 1) := by decide +kernel
theorem dL_law_736 : decode cL_law 736 = .ok (.invokevirtual 94, 3) := by decide +kernel
theorem dL_law_739 : decode cL_law 739 = .ok (.aload_n 2, 1) := by decide +kernel
theorem dL_law_740 : decode cL_law 740 = .ok (.invokevirtual 97, 3) := by decide +kernel
theorem dL_law_743 : decode cL_law 743 = .ok (.if_icmp .eq 229, 3) := by decide +kernel
theorem dL_law_746 : decode cL_law 746 = .ok (.iconst 0, 1) := by decide +kernel
theorem dL_law_747 : decode cL_law 747 = .ok (.ireturn, 1) := by decide +kernel
theorem dL_law_748 : decode cL_law 748 = .ok (.aload_n 1, 1) := by decide +kernel
theorem dL_law_749 : decode cL_law 749 = .ok (.aload_n 0, 1) := by decide +kernel
theorem dL_law_750 : decode cL_law 750 = .ok (.iload_n 3, 1) := by decide +kernel
theorem dL_law_751 : decode cL_law 751 = .ok (.iconst 1, 1) := by decide +kernel
theorem dL_law_752 : decode cL_law 752 = .ok (.iadd, 1) := by decide +kernel
theorem dL_law_753 : decode cL_law 753 = .ok (.iaload, 1) := by decide +kernel
theorem dL_law_754 : decode cL_law 754 = .ok (.invokevirtual 98, 3) := by decide +kernel
theorem dL_law_757 : decode cL_law 757 = .ok (.aload_n 2, 1) := by decide +kernel
theorem dL_law_758 : decode cL_law 758 = .ok (.aload_n 0, 1) := by decide +kernel
theorem dL_law_759 : decode cL_law 759 = .ok (.iload_n 3, 1) := by decide +kernel
theorem dL_law_760 : decode cL_law 760 = .ok (.iconst 1, 1) := by decide +kernel
theorem dL_law_761 : decode cL_law 761 = .ok (.iadd, 1) := by decide +kernel
theorem dL_law_762 : decode cL_law 762 = .ok (.iaload, 1) := by decide +kernel
theorem dL_law_763 : decode cL_law 763 = .ok (.invokevirtual 101, 3) := by decide +kernel
theorem dL_law_766 : decode cL_law 766 = .ok (.if_icmp .eq 206, 3) := by decide +kernel
theorem dL_law_769 : decode cL_law 769 = .ok (.iconst 0, 1) := by decide +kernel
theorem dL_law_770 : decode cL_law 770 = .ok (.ireturn, 1) := by decide +kernel
theorem dL_law_771 : decode cL_law 771 = .ok (.aload_n 1, 1) := by decide +kernel
theorem dL_law_772 : decode cL_law 772 = .ok (.invokevirtual 102, 3) := by decide +kernel
theorem dL_law_775 : decode cL_law 775 = .ok (.aload_n 2, 1) := by decide +kernel
theorem dL_law_776 : decode cL_law 776 = .ok (.invokevirtual 105, 3) := by decide +kernel
theorem dL_law_779 : decode cL_law 779 = .ok (.if_icmp .eq 193, 3) := by decide +kernel
theorem dL_law_782 : decode cL_law 782 = .ok (.iconst 0, 1) := by decide +kernel
theorem dL_law_783 : decode cL_law 783 = .ok (.ireturn, 1) := by decide +kernel
theorem dL_law_784 : decode cL_law 784 = .ok (.aload_n 1, 1) := by decide +kernel
theorem dL_law_785 : decode cL_law 785 = .ok (.aload_n 0, 1) := by decide +kernel
theorem dL_law_786 : decode cL_law 786 = .ok (.iload_n 3, 1) := by decide +kernel
theorem dL_law_787 : decode cL_law 787 = .ok (.iconst 1, 1) := by decide +kernel
theorem dL_law_788 : decode cL_law 788 = .ok (.iadd, 1) := by decide +kernel
theorem dL_law_789 : decode cL_law 789 = .ok (.iaload, 1) := by decide +kernel
theorem dL_law_790 : decode cL_law 790 = .ok (.invokevirtual 106, 3) := by decide +kernel
theorem dL_law_793 : decode cL_law 793 = .ok (.aload_n 2, 1) := by decide +kernel
theorem dL_law_794 : decode cL_law 794 = .ok (.aload_n 0, 1) := by decide +kernel
theorem dL_law_795 : decode cL_law 795 = .ok (.iload_n 3, 1) := by decide +kernel
theorem dL_law_796 : decode cL_law 796 = .ok (.iconst 1, 1) := by decide +kernel
theorem dL_law_797 : decode cL_law 797 = .ok (.iadd, 1) := by decide +kernel
theorem dL_law_798 : decode cL_law 798 = .ok (.iaload, 1) := by decide +kernel
theorem dL_law_799 : decode cL_law 799 = .ok (.invokevirtual 109, 3) := by decide +kernel
theorem dL_law_802 : decode cL_law 802 = .ok (.if_icmp .eq 170, 3) := by decide +kernel
theorem dL_law_805 : decode cL_law 805 = .ok (.iconst 0, 1) := by decide +kernel
theorem dL_law_806 : decode cL_law 806 = .ok (.ireturn, 1) := by decide +kernel
theorem dL_law_807 : decode cL_law 807 = .ok (.aload_n 1, 1) := by decide +kernel
theorem dL_law_808 : decode cL_law 808 = .ok (.aload_n 0, 1) := by decide +kernel
theorem dL_law_809 : decode cL_law 809 = .ok (.iload_n 3, 1) := by decide +kernel
theorem dL_law_810 : decode cL_law 810 = .ok (.iconst 1, 1) := by decide +kernel
theorem dL_law_811 : decode cL_law 811 = .ok (.iadd, 1) := by decide +kernel
theorem dL_law_812 : decode cL_law 812 = .ok (.iaload, 1) := by decide +kernel
theorem dL_law_813 : decode cL_law 813 = .ok (.invokevirtual 110, 3) := by decide +kernel
theorem dL_law_816 : decode cL_law 816 = .ok (.aload_n 2, 1) := by decide +kernel
theorem dL_law_817 : decode cL_law 817 = .ok (.aload_n 0, 1) := by decide +kernel
theorem dL_law_818 : decode cL_law 818 = .ok (.iload_n 3, 1) := by decide +kernel
theorem dL_law_819 : decode cL_law 819 = .ok (.iconst 1, 1) := by decide +kernel
theorem dL_law_820 : decode cL_law 820 = .ok (.iadd, 1) := by decide +kernel
theorem dL_law_821 : decode cL_law 821 = .ok (.iaload, 1) := by decide +kernel
theorem dL_law_822 : decode cL_law 822 = .ok (.invokevirtual 113, 3) := by decide +kernel
theorem dL_law_825 : decode cL_law 825 = .ok (.if_icmp .eq 147, 3) := by decide +kernel
theorem dL_law_828 : decode cL_law 828 = .ok (.iconst 0, 1) := by decide +kernel
theorem dL_law_829 : decode cL_law 829 = .ok (.ireturn, 1) := by decide +kernel
theorem dL_law_830 : decode cL_law 830 = .ok (.aload_n 1, 1) := by decide +kernel
theorem dL_law_831 : decode cL_law 831 = .ok (.aload_n 0, 1) := by decide +kernel
theorem dL_law_832 : decode cL_law 832 = .ok (.iload_n 3, 1) := by decide +kernel
theorem dL_law_833 : decode cL_law 833 = .ok (.iconst 1, 1) := by decide +kernel
theorem dL_law_834 : decode cL_law 834 = .ok (.iadd, 1) := by decide +kernel
theorem dL_law_835 : decode cL_law 835 = .ok (.iaload, 1) := by decide +kernel
theorem dL_law_836 : decode cL_law 836 = .ok (.invokevirtual 114, 3) := by decide +kernel
theorem dL_law_839 : decode cL_law 839 = .ok (.aload_n 2, 1) := by decide +kernel
theorem dL_law_840 : decode cL_law 840 = .ok (.aload_n 0, 1) := by decide +kernel
theorem dL_law_841 : decode cL_law 841 = .ok (.iload_n 3, 1) := by decide +kernel
theorem dL_law_842 : decode cL_law 842 = .ok (.iconst 1, 1) := by decide +kernel
theorem dL_law_843 : decode cL_law 843 = .ok (.iadd, 1) := by decide +kernel
theorem dL_law_844 : decode cL_law 844 = .ok (.iaload, 1) := by decide +kernel
theorem dL_law_845 : decode cL_law 845 = .ok (.invokevirtual 117, 3) := by decide +kernel
theorem dL_law_848 : decode cL_law 848 = .ok (.if_icmp .eq 124, 3) := by decide +kernel
theorem dL_law_851 : decode cL_law 851 = .ok (.iconst 0, 1) := by decide +kernel
theorem dL_law_852 : decode cL_law 852 = .ok (.ireturn, 1) := by decide +kernel
theorem dL_law_853 : decode cL_law 853 = .ok (.aload_n 1, 1) := by decide +kernel
theorem dL_law_854 : decode cL_law 854 = .ok (.invokevirtual 118, 3) := by decide +kernel
theorem dL_law_857 : decode cL_law 857 = .ok (.aload_n 2, 1) := by decide +kernel
theorem dL_law_858 : decode cL_law 858 = .ok (.invokevirtual 121, 3) := by decide +kernel
theorem dL_law_861 : decode cL_law 861 = .ok (.if_icmp .eq 111, 3) := by decide +kernel
theorem dL_law_864 : decode cL_law 864 = .ok (.iconst 0, 1) := by decide +kernel
theorem dL_law_865 : decode cL_law 865 = .ok (.ireturn, 1) := by decide +kernel
theorem dL_law_866 : decode cL_law 866 = .ok (.aload_n 1, 1) := by decide +kernel
theorem dL_law_867 : decode cL_law 867 = .ok (.aload_n 0, 1) := by decide +kernel
theorem dL_law_868 : decode cL_law 868 = .ok (.iload_n 3, 1) := by decide +kernel
theorem dL_law_869 : decode cL_law 869 = .ok (.iconst 1, 1) := by decide +kernel
theorem dL_law_870 : decode cL_law 870 = .ok (.iadd, 1) := by decide +kernel
theorem dL_law_871 : decode cL_law 871 = .ok (.iaload, 1) := by decide +kernel
theorem dL_law_872 : decode cL_law 872 = .ok (.aload_n 0, 1) := by decide +kernel
theorem dL_law_873 : decode cL_law 873 = .ok (.iload_n 3, 1) := by decide +kernel
theorem dL_law_874 : decode cL_law 874 = .ok (.iconst 2, 1) := by decide +kernel
theorem dL_law_875 : decode cL_law 875 = .ok (.iadd, 1) := by decide +kernel
theorem dL_law_876 : decode cL_law 876 = .ok (.iaload, 1) := by decide +kernel
theorem dL_law_877 : decode cL_law 877 = .ok (.invokevirtual 122, 3) := by decide +kernel
theorem dL_law_880 : decode cL_law 880 = .ok (.aload_n 2, 1) := by decide +kernel
theorem dL_law_881 : decode cL_law 881 = .ok (.aload_n 0, 1) := by decide +kernel
theorem dL_law_882 : decode cL_law 882 = .ok (.iload_n 3, 1) := by decide +kernel
theorem dL_law_883 : decode cL_law 883 = .ok (.iconst 1, 1) := by decide +kernel
theorem dL_law_884 : decode cL_law 884 = .ok (.iadd, 1) := by decide +kernel
theorem dL_law_885 : decode cL_law 885 = .ok (.iaload, 1) := by decide +kernel
theorem dL_law_886 : decode cL_law 886 = .ok (.aload_n 0, 1) := by decide +kernel
theorem dL_law_887 : decode cL_law 887 = .ok (.iload_n 3, 1) := by decide +kernel
theorem dL_law_888 : decode cL_law 888 = .ok (.iconst 2, 1) := by decide +kernel
theorem dL_law_889 : decode cL_law 889 = .ok (.iadd, 1) := by decide +kernel
theorem dL_law_890 : decode cL_law 890 = .ok (.iaload, 1) := by decide +kernel
theorem dL_law_891 : decode cL_law 891 = .ok (.invokevirtual 125, 3) := by decide +kernel
theorem dL_law_894 : decode cL_law 894 = .ok (.if_icmp .eq 78, 3) := by decide +kernel
theorem dL_law_897 : decode cL_law 897 = .ok (.iconst 0, 1) := by decide +kernel
theorem dL_law_898 : decode cL_law 898 = .ok (.ireturn, 1) := by decide +kernel
theorem dL_law_899 : decode cL_law 899 = .ok (.aload_n 1, 1) := by decide +kernel
theorem dL_law_900 : decode cL_law 900 = .ok (.aload_n 0, 1) := by decide +kernel
theorem dL_law_901 : decode cL_law 901 = .ok (.iload_n 3, 1) := by decide +kernel
theorem dL_law_902 : decode cL_law 902 = .ok (.iconst 1, 1) := by decide +kernel
theorem dL_law_903 : decode cL_law 903 = .ok (.iadd, 1) := by decide +kernel
theorem dL_law_904 : decode cL_law 904 = .ok (.iaload, 1) := by decide +kernel
theorem dL_law_905 : decode cL_law 905 = .ok (.invokevirtual 126, 3) := by decide +kernel
theorem dL_law_908 : decode cL_law 908 = .ok (.aload_n 2, 1) := by decide +kernel
theorem dL_law_909 : decode cL_law 909 = .ok (.aload_n 0, 1) := by decide +kernel
theorem dL_law_910 : decode cL_law 910 = .ok (.iload_n 3, 1) := by decide +kernel
theorem dL_law_911 : decode cL_law 911 = .ok (.iconst 1, 1) := by decide +kernel
theorem dL_law_912 : decode cL_law 912 = .ok (.iadd, 1) := by decide +kernel
theorem dL_law_913 : decode cL_law 913 = .ok (.iaload, 1) := by decide +kernel
theorem dL_law_914 : decode cL_law 914 = .ok (.invokevirtual 129, 3) := by decide +kernel
theorem dL_law_917 : decode cL_law 917 = .ok (.if_icmp .eq 55, 3) := by decide +kernel
theorem dL_law_920 : decode cL_law 920 = .ok (.iconst 0, 1) := by decide +kernel
theorem dL_law_921 : decode cL_law 921 = .ok (.ireturn, 1) := by decide +kernel
theorem dL_law_922 : decode cL_law 922 = .ok (.aload_n 1, 1) := by decide +kernel
theorem dL_law_923 : decode cL_law 923 = .ok (.invokevirtual 130, 3) := by decide +kernel
theorem dL_law_926 : decode cL_law 926 = .ok (.aload_n 2, 1) := by decide +kernel
theorem dL_law_927 : decode cL_law 927 = .ok (.invokevirtual 133, 3) := by decide +kernel
theorem dL_law_930 : decode cL_law 930 = .ok (.if_icmp .eq 42, 3) := by decide +kernel
theorem dL_law_933 : decode cL_law 933 = .ok (.iconst 0, 1) := by decide +kernel
theorem dL_law_934 : decode cL_law 934 = .ok (.ireturn, 1) := by decide +kernel
theorem dL_law_935 : decode cL_law 935 = .ok (.aload_n 1, 1) := by decide +kernel
theorem dL_law_936 : decode cL_law 936 = .ok (.aload_n 0, 1) := by decide +kernel
theorem dL_law_937 : decode cL_law 937 = .ok (.iload_n 3, 1) := by decide +kernel
theorem dL_law_938 : decode cL_law 938 = .ok (.iconst 1, 1) := by decide +kernel
theorem dL_law_939 : decode cL_law 939 = .ok (.iadd, 1) := by decide +kernel
theorem dL_law_940 : decode cL_law 940 = .ok (.iaload, 1) := by decide +kernel
theorem dL_law_941 : decode cL_law 941 = .ok (.invokevirtual 134, 3) := by decide +kernel
theorem dL_law_944 : decode cL_law 944 = .ok (.aload_n 2, 1) := by decide +kernel
theorem dL_law_945 : decode cL_law 945 = .ok (.aload_n 0, 1) := by decide +kernel
theorem dL_law_946 : decode cL_law 946 = .ok (.iload_n 3, 1) := by decide +kernel
theorem dL_law_947 : decode cL_law 947 = .ok (.iconst 1, 1) := by decide +kernel
theorem dL_law_948 : decode cL_law 948 = .ok (.iadd, 1) := by decide +kernel
theorem dL_law_949 : decode cL_law 949 = .ok (.iaload, 1) := by decide +kernel
theorem dL_law_950 : decode cL_law 950 = .ok (.invokevirtual 137, 3) := by decide +kernel
theorem dL_law_953 : decode cL_law 953 = .ok (.if_icmp .eq 19, 3) := by decide +kernel
theorem dL_law_956 : decode cL_law 956 = .ok (.iconst 0, 1) := by decide +kernel
theorem dL_law_957 : decode cL_law 957 = .ok (.ireturn, 1) := by decide +kernel
theorem dL_law_958 : decode cL_law 958 = .ok (.aload_n 1, 1) := by decide +kernel
theorem dL_law_959 : decode cL_law 959 = .ok (.invokevirtual 138, 3) := by decide +kernel
theorem dL_law_962 : decode cL_law 962 = .ok (.aload_n 2, 1) := by decide +kernel
theorem dL_law_963 : decode cL_law 963 = .ok (.invokevirtual 142, 3) := by decide +kernel
theorem dL_law_966 : decode cL_law 966 = .ok (.lcmp, 1) := by decide +kernel
theorem dL_law_967 : decode cL_law 967 = .ok (.ifCond .eq 5, 3) := by decide +kernel
theorem dL_law_970 : decode cL_law 970 = .ok (.iconst 0, 1) := by decide +kernel
theorem dL_law_971 : decode cL_law 971 = .ok (.ireturn, 1) := by decide +kernel
theorem dL_law_972 : decode cL_law 972 = .ok (.iinc 3 6, 3) := by decide +kernel
theorem dL_law_975 : decode cL_law 975 = .ok (.goto (-937), 3) := by decide +kernel
theorem dL_law_978 : decode cL_law 978 = .ok (.iconst 1, 1) := by decide +kernel
theorem dL_law_979 : decode cL_law 979 = .ok (.ireturn, 1) := by decide +kernel
end
section
/-! the cells of both systems, by their numbers in the order in which the constructors lay them; cell c lies at G.1 + c -/
abbrev St : Type := Nat → Nat → Int32
abbrev Cx : Type := Nat × va_G × (Nat → ClassId)
/-- a number as the number of a cell -/
def q_rf (x : Int32) : Nat := x.toNatClampNeg
def kdTab : List (Nat × Nat) := [(3, 7), (3, 4), (0, 4), (0, 40), (3, 2), (0, 40), (0, 40), (3, 2), (0, 40), (0, 40), (3, 2), (0, 40), (0, 40), (3, 2), (0, 40), (0, 40), (3, 2), (0, 40), (0, 40), (3, 5), (2, 24), (1, 24), (3, 2), (0, 40), (0, 40), (3, 2), (0, 40), (0, 40), (3, 2), (0, 40), (0, 40), (3, 2), (0, 40), (0, 40), (3, 2), (0, 40), (0, 40), (3, 2), (0, 40), (0, 40), (3, 2), (0, 40), (0, 40), (3, 2), (0, 40), (0, 40), (3, 2), (0, 40), (0, 40), (3, 2), (0, 40), (0, 40), (3, 2), (0, 40), (0, 40), (3, 2), (0, 40), (0, 40), (3, 2), (0, 40), (0, 40), (3, 2), (0, 40), (0, 40), (3, 2), (0, 40), (0, 40), (3, 2), (0, 40), (0, 40), (3, 2), (0, 40), (0, 40), (3, 2), (0, 40), (0, 40), (3, 2), (0, 40), (0, 40), (3, 2), (0, 40), (0, 40), (3, 2), (0, 40), (0, 40), (3, 2), (0, 40), (0, 40), (3, 2), (0, 40), (0, 40), (3, 2), (0, 40), (0, 40), (3, 3), (3, 2), (0, 40), (0, 40), (3, 2), (0, 40), (0, 40), (3, 2), (0, 40), (0, 40), (3, 0), (3, 1), (0, 153), (0, 153), (2, 18), (2, 18), (0, 18), (3, 2), (0, 40), (0, 40), (3, 2), (0, 40), (0, 40), (3, 2), (0, 40), (0, 40), (3, 2), (0, 40), (0, 40), (3, 2), (0, 40), (0, 40), (3, 2), (0, 40), (0, 40), (3, 2), (0, 40), (0, 40), (3, 2), (0, 40), (0, 40), (3, 2), (0, 40), (0, 40), (3, 2), (0, 40), (0, 40), (3, 2), (0, 40), (0, 40), (3, 2), (0, 40), (0, 40), (3, 2), (0, 40), (0, 40), (3, 2), (0, 40), (0, 40), (3, 2), (0, 40), (0, 40), (3, 2), (0, 40), (0, 40), (3, 2), (0, 40), (0, 40), (3, 2), (0, 40), (0, 40), (3, 2), (0, 40), (0, 40), (3, 2), (0, 40), (0, 40), (3, 2), (0, 40), (0, 40), (3, 2), (0, 40), (0, 40), (3, 2), (0, 40), (0, 40), (3, 2), (0, 40), (0, 40), (3, 2), (0, 40), (0, 40), (3, 2), (0, 40), (0, 40), (3, 2), (0, 40), (0, 40), (3, 2), (0, 40), (0, 40), (3, 2), (0, 40), (0, 40), (3, 2), (0, 40), (0, 40), (3, 2), (0, 40), (0, 40), (3, 2), (0, 40), (0, 40), (3, 2), (0, 40), (0, 40), (3, 2), (0, 40), (0, 40), (3, 2), (0, 40), (0, 40), (3, 2), (0, 40), (0, 40), (3, 2), (0, 40), (0, 40), (3, 6), (0, 300), (3, 8), (0, 61), (0, 2440), (0, 9760), (0, 160), (0, 160), (0, 1700), (0, 6800), (0, 4), (0, 4), (0, 4), (0, 4), (0, 18), (0, 40), (0, 160), (0, 4), (0, 1204), (0, 4)]
/-- what cell c is: (0, n) ints, (1, n) booleans, (2, n) rows of polynomials, (3, k) an object of the k-th kind -/
def kd (c : Nat) : Nat × Nat := kdTab.getD c (9, 0)
def pidx (c j : Nat) : Nat := if c = 20 then 22 + 3 * j else if c = 108 then 114 + 6 * j else 117 + 6 * j
def su (S : St) (c k : Nat) (v : Int32) : St := fun d => if d = c then upd (S c) k v else S d
theorem su_eq (S : St) (c k : Nat) (v : Int32) : su S c k v c = upd (S c) k v := if_pos rfl
theorem su_ne (S : St) {c d : Nat} (k : Nat) (v : Int32) (h : d ≠ c) : su S c k v d = S d := if_neg h
def objF (G : Cx) (S : St) (c : Nat) : Nat → List Value
  | 0 => [.ref (G.1 + 1), .ref (G.1 + 94), .ref (G.1 + 105), .ref (G.1 + q_rf (S c 3)), .ref (G.1 + q_rf (S c 4)), .ref (G.1 + 110), .ref (G.1 + 111), .int (S c 7), .int (S c 8), .int (S c 9), .int (S c 10), .int (S c 11), .int (S c 12), .int (S c 13), .int (S c 14)]
  | 1 => [.ref (G.1 + 106), .ref (G.1 + 107), .int (S c 2)]
  | 2 => [.ref (G.1 + (c + 1)), .ref (G.1 + (c + 2)), .int (S c 2)]
  | 3 => [.ref (G.1 + 1), .ref (G.1 + q_rf (S c 1)), .ref (G.1 + q_rf (S c 2)), .ref (G.1 + 101), .int (S c 4), .int (S c 5), .int (S c 6)]
  | 4 => [.int (S c 0), .int (S c 1), .int (S c 2), .ref (G.1 + 2), .ref (G.1 + 3), .ref (G.1 + 4), .ref (G.1 + 7)]
  | 5 => [.ref (G.1 + 20), .ref (G.1 + 21), .int (S c 2)]
  | 6 => [.ref (G.1 + 1), .ref (G.1 + 104), .ref (G.1 + 223)]
  | 7 => [.ref (G.1 + 1), .ref (G.1 + 10), .ref (G.1 + 13), .ref (G.1 + 16), .ref (G.1 + 19), .ref (G.1 + 94), .ref (G.1 + 104), .ref (G.1 + 222)]
  | 8 => [.int (S c 0), .int (S c 1), .int (S c 2), .ref (G.1 + 225), .ref (G.1 + 226), .ref (G.1 + 227), .int (S c 6), .int (S c 7), .ref (G.1 + 228), .ref (G.1 + 229), .int (S c 10), .int (S c 11), .int (S c 12), .int (S c 13), .int (S c 14), .int (S c 15), .int (S c 16), .int (S c 17), .int (S c 18), .int (S c 19), .int (S c 20), .ref (G.1 + 230), .ref (G.1 + 231), .ref (G.1 + 232), .ref (G.1 + 233), .ref (G.1 + 234), .ref (G.1 + 235), .int (S c 27), .ref (G.1 + 236), .int (S c 29), .int (S c 30), .ref (G.1 + 237), .ref (G.1 + 238), .ref (G.1 + 239), .int (S c 34), .int (S c 35), .ref (G.1 + 240), .ref (G.1 + 241)]
  | _ => []
def cellE (G : Cx) (S : St) (c : Nat) : va_E := match kd c with
  | (0, n) => .inl (G.2.2 0, n, .inl (S c))
  | (1, n) => .inl (G.2.2 1, n, .inl (S c))
  | (2, n) => .inl (G.2.2 2, n, .inr (.inr (.inr (.inr (fun j => some (G.1 + pidx c j))))))
  | (_, k) => .inr (k, objF G S c k)
theorem ce_I {G : Cx} {S : St} {c n : Nat} (h : kd c = (0, n)) : cellE G S c = .inl (G.2.2 0, n, .inl (S c)) := by simp [cellE, h]
theorem ce_Z {G : Cx} {S : St} {c n : Nat} (h : kd c = (1, n)) : cellE G S c = .inl (G.2.2 1, n, .inl (S c)) := by simp [cellE, h]
theorem ce_R {G : Cx} {S : St} {c n : Nat} (h : kd c = (2, n)) : cellE G S c = .inl (G.2.2 2, n, .inr (.inr (.inr (.inr (fun j => some (G.1 + pidx c j)))))) := by simp [cellE, h]
theorem ce_O {G : Cx} {S : St} {c k : Nat} (h : kd c = (3, k)) : cellE G S c = .inr (k, objF G S c k) := by simp [cellE, h]
def wsOf (G : Cx) (S : St) : va_W := (List.range 242).map (fun c => (G.1 + c, cellE G S c))
abbrev tysOf (G : Cx) : List (ClassId × FieldType) := [(G.2.2 0, .int), (G.2.2 1, .boolean), (G.2.2 2, .object RX3)]
abbrev fr_ (G : Cx) : Nat → Prop := fun q => G.1 ≤ q
theorem ws_at {G : Cx} {S : St} {c : Nat} (h : c < 242) : (wsOf G S)[c]? = some (G.1 + c, cellE G S c) := by
  simp [wsOf, h]
theorem ws_len {G : Cx} {S : St} : (wsOf G S).length = 242 := by simp [wsOf]
theorem ws_inv {G : Cx} {S : St} {k : Nat} {q : Nat × va_E} (h : (wsOf G S)[k]? = some q) : q = (G.1 + k, cellE G S k) ∧ k < 242 := by
  have hl := (List.getElem?_eq_some_iff.mp h).1
  rw [ws_len] at hl
  rw [ws_at hl] at h
  exact ⟨(Option.some.inj h).symm, hl⟩
theorem ws_D {G : Cx} {S : St} : va_D (fr_ G) (wsOf G S) := by
  refine ⟨fun i j p q hi hj hpq => ?_, fun k q hk => ?_⟩
  · obtain ⟨rfl, -⟩ := ws_inv hi
    obtain ⟨rfl, -⟩ := ws_inv hj
    exact Nat.add_left_cancel hpq
  · obtain ⟨rfl, -⟩ := ws_inv hk
    exact Nat.le_add_right _ _
/-- a cell that doesn't see a change in another one -/
theorem cellE_congr {G : Cx} {S S' : St} {c : Nat} (h : S' c = S c) : cellE G S' c = cellE G S c := by
  have ho : ∀ k, objF G S' c k = objF G S c k := by
    intro k
    rcases k with _ | _ | _ | _ | _ | _ | _ | _ | _ | k <;> simp [objF, h]
  unfold cellE
  split <;> simp [h, ho]
theorem ws_set {G : Cx} {S : St} {c k : Nat} {v : Int32} {e : va_E} (he : cellE G (su S c k v) c = e) : (wsOf G S).set c (G.1 + c, e) = wsOf G (su S c k v) := by
  apply List.ext_getElem?
  intro i
  by_cases hi : i < 242
  · rw [ws_at hi]
    by_cases hic : i = c
    · subst hic
      rw [List.getElem?_set_self (by rw [ws_len]; exact hi), he]
    · rw [List.getElem?_set_ne (Ne.symm hic), ws_at hi, cellE_congr (su_ne S k v hic)]
  · rw [List.getElem?_eq_none (by rw [List.length_set, ws_len]; omega), List.getElem?_eq_none (by rw [ws_len]; omega)]
/-- a polynomial's cell -/
def isP (q : Nat) : Prop := q < 242 ∧ kd q = (3, 2)
theorem isP_all : ∀ q, q < 242 → kd q = (3, 2) → (q + 2 < 242 ∧ kd (q + 1) = (0, 40)) ∧ kd (q + 2) = (0, 40) := by decide +kernel
theorem isP_1 {q : Nat} (h : isP q) : q + 1 < 242 ∧ kd (q + 1) = (0, 40) := ⟨Nat.lt_of_succ_lt (isP_all q h.1 h.2).1.1, (isP_all q h.1 h.2).1.2⟩
theorem isP_2 {q : Nat} (h : isP q) : q + 2 < 242 ∧ kd (q + 2) = (0, 40) := ⟨(isP_all q h.1 h.2).1.1, (isP_all q h.1 h.2).2⟩
/-- a row of ints -/
def isI (a : Nat) : Prop := a < 242 ∧ (kd a).1 = 0
def alen (a : Nat) : Nat := (kd a).2
theorem isI_kd {a : Nat} (h : isI a) : kd a = (0, alen a) := by
  unfold alen
  rw [← h.2]
/-- a row of the basis' polynomials -/
def isR (a : Nat) : Prop := a = 108 ∨ a = 109
theorem isR_kd {a : Nat} (h : isR a) : a < 242 ∧ kd a = (2, 18) := by
  rcases h with rfl | rfl <;> decide +kernel
end
section
/-! rows over a state S of all cells: q_P holds it in a heap, q_K knows the classes -/
abbrev q_P (G : Cx) (S : St) (H : Heap) : Prop := va_P G.2.1 vwCl (wsOf G S) H
abbrev q_K (G : Cx) (U : State) : Prop := va_K G.2.1 vwCl (tysOf G) U
abbrev q_Pc (G : Cx) (av : List Value) (S : St) : Array Value → State → Prop := va_Pc av (fun U => q_P G S U.heap ∧ q_K G U)
def q_Qc {Rt : Type} (G : Cx) (K : Rt → St → Prop) (val : Rt → Option Value) : Array Value → State → Outcome → State → Prop := fun _ st oc t => (∃ (r : Rt) (S' : St), oc = .returned (val r) ∧ K r S' ∧ q_P G S' t.heap) ∧ va_F (fr_ G) st t
def q_Met {Rt : Type} (l : Launch) (y : MethodName) (cb : ByteArray) (n : Nat) (ret : Option FieldType) (fr lo : Nat) (G : Cx) (av : List Value) (val : Rt → Option Value) (S : St) (K : Rt → St → Prop) : Prop :=
  Met l y (q_ws y cb n ret) (k2_rm fr lo) (q_Pc G av S) (q_Qc G K val) 0 0 (fr_ G)
abbrev v_i : Int32 → Option Value := fun r => some (.int r)
abbrev v_l : Int64 → Option Value := fun r => some (.long r)
abbrev v_v : Unit → Option Value := fun _ => none
abbrev v_q (G : Cx) : Option Nat → Option Value := fun r => some (va_re (fun y => G.1 + y) r)
theorem q_blind {G : Cx} {av : List Value} {S : St} : FrameBlind (q_Pc G av S) := fun a U g mk q => by
  obtain ⟨q0, qP, qK⟩ := q
  exact ⟨q0, qP, va_K.moved (u := U) (U := U.calling g mk a) (Vm.Alike.refl U.vm) qK⟩
/-- loops: a body over its own end, so many times -/
def q_it {β : Type} (bot : β) (F : β → β) : Nat → β
  | 0 => bot
  | n + 1 => F (q_it bot F n)
/-- what the table says of a method -/
def q_B (y : MethodName) (cb : ByteArray) (n : Nat) (ret : Option FieldType) (k : Nat) : Prop :=
  Cond.code y cb n ret ∈ q_tbl ∧ Cond.initialized y.cls ∈ q_tbl ∧ (y.cls ≠ "java/lang/invoke/MethodHandle" ∧ y.cls ≠ "java/lang/invoke/VarHandle" ∧ (parseMethodDescriptor y.desc).map (fun d => d.parameters.length) = some k)
def q_V (y : MethodName) (cb : ByteArray) (n : Nat) (ret : Option FieldType) (k : Nat) : Prop := q_B y cb n ret k ∧ Cond.instanceMethod y ∈ q_tbl ∧ Cond.selects y.cls y y ∈ q_tbl
def q_S (y : MethodName) (cb : ByteArray) (n : Nat) (ret : Option FieldType) (k : Nat) : Prop := q_B y cb n ret k ∧ Cond.static y ∈ q_tbl
theorem q_enter {Rt : Type} {l : Launch} {G : Cx} {S : St} {K : Rt → St → Prop} {val : Rt → Option Value} {y : MethodName} {cb : ByteArray} {n fr lo : Nat} {ret : Option FieldType} {av : List Value} (hy : plainName y.cls = true) (hn : (lg_sl av).length ≤ n)
    (body : ∀ (p : Program) (e : Env) (s : State) (m : MethodId) (args : Array Value) (below : List Frame) (meth : Method) (c : Code) (ls : Array Slot), CallFix p m c cb n s args q_tbl y.cls → q_K G s → q_P G S s.heap → meth.sig.returnType = ret → meth.locks = false → lv_has ls n (lv_args 0 av) →
      W p l e (k2_rm fr lo) s m args below meth c s.heap [] 0 0 (MQ below (q_Qc G K val) args s 0 0 (fr_ G)) (F0 m 0 ls [])) : q_Met l y cb n ret fr lo G av val S K := by
  unfold q_Met
  refine Met.ofW (cc := cb) (maxL := n) (ret := ret) hy rfl ?_
  intro p e s m args below meth c s₁ B hml hv
  obtain ⟨rfl, hP, hK⟩ := hv
  have hts := atoms_spec (ws := q_ws y cb n ret) B.pre
  have hown : s.vm.findClass y.cls = some m.cls := findClass_of_methodNamed B.named
  have hl := lv_entry av (n := n) hn
  rw [lg_entry_eq]
  exact body p e s m _ below meth c _ ⟨B.exec, B.bytes, hml, hown, fun w hw => hts w (List.mem_cons_of_mem _ hw)⟩ hK hP B.returns B.notSynchronized hl
section QR
variable {p : Program} {l : Launch} {e : Env} {R : Room} {s : State} {m : MethodId} {args : Array Value} {below : List Frame} {meth : Method} {c : Code} {H : Heap} {locs : List Loc} {cells slots : Nat} {Q : State → Prop}
variable {cc : ByteArray} {pc nL : Nat} {ls : Array Slot} {rest : List Value} {G : Cx} {S : St} {H0 : Heap} {own : String}
theorem q_get (X : CallFix p m c cc nL s args q_tbl own) (hK : q_K G s) (hP : q_P G S H) (a ci k : Nat) {C : String} {T : u_T} {N index : Nat} (hcl : vwCl[ci]? = some (C, T, N)) (hin : ∀ w ∈ u_ws C T N, w ∈ q_tbl) (ha : a < 242 ∧ kd a = (3, ci)) (hk : k < N)
    (hlink : Cond.fieldLink own index C (T k).2.1 (T k).2.2.1 ∈ q_tbl) (hTk : (T k).1 = C) {v : Value} (hv : (objF G S a ci)[k]? = some v) (hdg : decode cc pc = .ok (.getfield index, 3))
    (kk : W p l e R s m args below meth c H locs cells slots Q (F0 m (pc + 3) ls (v :: rest))) : W p l e R s m args below meth c H locs cells slots Q (F0 m pc ls (.ref (G.1 + a) :: rest)) :=
  va_get X.1 X.2.1 X.2.2.2.2 hin X.2.2.2.1 hK hP a (by rw [ws_at ha.1, ce_O ha.2]) hcl k hk (X.2.2.2.2 _ hlink) (fun x h => by rw [hTk] at h; exact h) hv hdg kk
theorem q_put (X : CallFix p m c cc nL s args q_tbl own) (hK : q_K G s) (hP : q_P G S H) (hS : va_S (fr_ G) H0 H locs) (a ci k : Nat) {C : String} {T : u_T} {N index : Nat} (hcl : vwCl[ci]? = some (C, T, N)) (hin : ∀ w ∈ u_ws C T N, w ∈ q_tbl) (ty0 : Nat → FieldType) (hty : ∀ k, k < N → parseFieldDescriptor (T k).2.2.1 = some (ty0 k)) (hnm : ∀ a, a < N → ∀ b, b < N → a ≠ b → (T a).2.1 ≠ (T b).2.1) (ha : a < 242 ∧ kd a = (3, ci)) (hk : k < N)
    (hlink : Cond.fieldLink own index C (T k).2.1 (T k).2.2.1 ∈ q_tbl) (hTk : (T k).1 = C) (hfin : (T k).2.2.2 = false) {ty : FieldType} {v : Value} (hd : parseFieldDescriptor (T k).2.2.1 = some ty) (hn : narrow ty v = v) (hfit : fits ty v = true) {x : Int32} (hset : (objF G S a ci).set k v = objF G (su S a k x) a ci) (hl : k < (objF G S a ci).length)
    (hdg : decode cc pc = .ok (.putfield index, 3))
    (kk : ∀ (H1 : Heap) (locs1 : List Loc), q_P G (su S a k x) H1 → va_S (fr_ G) H0 H1 locs1 → W p l e R s m args below meth c H1 locs1 cells slots Q (F0 m (pc + 3) ls rest)) : W p l e R s m args below meth c H locs cells slots Q (F0 m pc ls (v :: .ref (G.1 + a) :: rest)) :=
  va_put X.1 X.2.1 X.2.2.2.2 hin ty0 hty hnm X.2.2.2.1 hK hP ws_D hS a (by rw [ws_at ha.1, ce_O ha.2]) hcl k hk (X.2.2.2.2 _ hlink) (fun x h => by rw [hTk] at h; exact h) hfin hd hn hfit hl hdg
    (fun H1 locs1 hP1 _ hS1 => kk H1 locs1 (by rw [ws_set (k := k) (v := x) (by rw [ce_O ha.2, hset])] at hP1; exact hP1) hS1)
theorem q_iald (X : CallFix p m c cc nL s args q_tbl own) (hK : q_K G s) (hP : q_P G S H) {a n : Nat} (ha : a < 242 ∧ kd a = (0, n)) {i : Int32} (hin : vp_in i n) (hdg : decode cc pc = .ok (.iaload, 1))
    (kk : W p l e R s m args below meth c H locs cells slots Q (F0 m (pc + 1) ls (.int (S a (q_rf i)) :: rest))) : W p l e R s m args below meth c H locs cells slots Q (F0 m pc ls (.int i :: .ref (G.1 + a) :: rest)) :=
  va_iald X.1 X.2.1 hK hP a 0 (by rw [ws_at ha.1, ce_I ha.2]) rfl hin hdg kk
theorem q_zald (X : CallFix p m c cc nL s args q_tbl own) (hK : q_K G s) (hP : q_P G S H) {a n : Nat} (ha : a < 242 ∧ kd a = (1, n)) {i : Int32} (hin : vp_in i n) (hdg : decode cc pc = .ok (.baload, 1))
    (kk : W p l e R s m args below meth c H locs cells slots Q (F0 m (pc + 1) ls (.int (S a (q_rf i)) :: rest))) : W p l e R s m args below meth c H locs cells slots Q (F0 m pc ls (.int i :: .ref (G.1 + a) :: rest)) :=
  va_zald X.1 X.2.1 hK hP a 1 (by rw [ws_at ha.1, ce_Z ha.2]) rfl hin hdg kk
theorem q_aald (X : CallFix p m c cc nL s args q_tbl own) (hK : q_K G s) (hP : q_P G S H) {a n : Nat} (ha : a < 242 ∧ kd a = (2, n)) {i : Int32} (hin : vp_in i n) (hdg : decode cc pc = .ok (.aaload, 1))
    (kk : W p l e R s m args below meth c H locs cells slots Q (F0 m (pc + 1) ls (.ref (G.1 + pidx a (q_rf i)) :: rest))) : W p l e R s m args below meth c H locs cells slots Q (F0 m pc ls (.int i :: .ref (G.1 + a) :: rest)) :=
  va_aldq (f := fun j => some (G.1 + pidx a j)) X.1 X.2.1 hK hP a 2 (by rw [ws_at ha.1, ce_R ha.2]) rfl hin hdg kk
theorem q_iast (X : CallFix p m c cc nL s args q_tbl own) (hK : q_K G s) (hP : q_P G S H) (hS : va_S (fr_ G) H0 H locs) {a n : Nat} (ha : a < 242 ∧ kd a = (0, n)) {i x : Int32} (hin : vp_in i n) (hdg : decode cc pc = .ok (.iastore, 1))
    (kk : ∀ (H1 : Heap) (locs1 : List Loc), q_P G (su S a (q_rf i) x) H1 → va_S (fr_ G) H0 H1 locs1 → W p l e R s m args below meth c H1 locs1 cells slots Q (F0 m (pc + 1) ls rest)) : W p l e R s m args below meth c H locs cells slots Q (F0 m pc ls (.int x :: .int i :: .ref (G.1 + a) :: rest)) :=
  va_iast X.1 X.2.1 hK hP ws_D hS a 0 (by rw [ws_at ha.1, ce_I ha.2]) rfl hin hdg (fun H1 locs1 hP1 _ hS1 => kk H1 locs1 (by rw [ws_set (k := q_rf i) (v := x) (by rw [ce_I ha.2, su_eq]; rfl)] at hP1; exact hP1) hS1)
theorem q_zast (X : CallFix p m c cc nL s args q_tbl own) (hK : q_K G s) (hP : q_P G S H) (hS : va_S (fr_ G) H0 H locs) {a n : Nat} (ha : a < 242 ∧ kd a = (1, n)) {i x : Int32} (hin : vp_in i n) (hdg : decode cc pc = .ok (.bastore, 1))
    (kk : ∀ (H1 : Heap) (locs1 : List Loc), q_P G (su S a (q_rf i) (vp_nar .boolean x)) H1 → va_S (fr_ G) H0 H1 locs1 → W p l e R s m args below meth c H1 locs1 cells slots Q (F0 m (pc + 1) ls rest)) : W p l e R s m args below meth c H locs cells slots Q (F0 m pc ls (.int x :: .int i :: .ref (G.1 + a) :: rest)) :=
  va_zast X.1 X.2.1 hK hP ws_D hS a 1 (by rw [ws_at ha.1, ce_Z ha.2]) rfl hin hdg (fun H1 locs1 hP1 _ hS1 => kk H1 locs1 (by rw [ws_set (k := q_rf i) (v := vp_nar .boolean x) (by rw [ce_Z ha.2, su_eq]; rfl)] at hP1; exact hP1) hS1)
/-- a call, whatever runs it -/
theorem q_call {Rt : Type} {val : Rt → Option Value} {K : Rt → St → Prop} {st0 : List Value} {a : Array Value} (hr : va_Run p l e R s m args below meth c H locs cells slots 0 0 (F0 m pc ls st0) rest (q_Qc G K val a) (fr_ G)) (hS : va_S (fr_ G) H0 H locs)
    (kk : ∀ (r : Rt) (S' : St) (H1 : Heap) (locs1 : List Loc), K r S' → q_P G S' H1 → va_S (fr_ G) H0 H1 locs1 → W p l e R s m args below meth c H1 locs1 cells slots Q (F0 m (pc + 3) ls ((val r).toList ++ rest))) : W p l e R s m args below meth c H locs cells slots Q (F0 m pc ls st0) := by
  intro T hT X
  obtain ⟨v, st₀, t, T', L, h0, X', hL, e1, e2, ⟨⟨r, S', hv, hk, hP⟩, hz, hkp⟩, st⟩ := hr T hT X
  cases hv
  rw [h0] at hz hkp
  obtain ⟨t2, a1, b1⟩ := kk r S' T'.heap (locs ++ L) hk (by rw [e1]; exact hP)
    ⟨Nat.le_trans hS.1 (by rw [e1]; exact hz), fun q h1 h2 => by rw [e1, hkp q (Nat.lt_of_lt_of_le h1 hS.1) h2]; exact hS.2.1 q h1 h2, fun q hq => by
      rcases List.mem_append.mp hq with h | h
      · exact hS.2.2 q h
      · exact hL q h⟩ T' rfl X'
  exact ⟨t2, st t2 a1, b1⟩
theorem q_recv (hK : q_K G s) (hP : q_P G S H) {b ci : Nat} (hb : b < 242 ∧ kd b = (3, ci)) {r : vw_C} (hcl : vwCl[ci]? = some r) : ∃ cellB : Cell, H[G.1 + b]? = some cellB ∧ cellB.vm.isStatics = false ∧ s.vm.findClass r.1 = some cellB.cls :=
  va_recv hK hP hcl (q0 := b) (by rw [ws_at hb.1, ce_O hb.2])
theorem q_cb {y : MethodName} {cb : ByteArray} {n' fr lo idx k : Nat} {ret : Option FieldType} (X : CallFix p m c cc nL s args q_tbl own) (hy : q_B y cb n' ret k) (hlink : Cond.methodLink own idx y ∈ q_tbl) (hR : fr + 1 ≤ R.frames ∧ 8 + (n' + 11) + lo ≤ R.locals) :
    CallB R s args own idx y cb n' ret (q_ws y cb n' ret) (k2_rm fr lo) 0 0 k :=
  callB_of (Ts := q_tbl) k X.2.2.2.2 (q_goodIn (fun _ h => h) hy.1) rfl rfl rfl (X.2.2.2.2 _ hy.2.1) (X.2.2.2.2 _ hlink) hy.2.2 hR
theorem q_callV {Rt : Type} {val : Rt → Option Value} {K : Rt → St → Prop} {y : MethodName} {cb : ByteArray} {n' fr lo idx k : Nat} {ret : Option FieldType} {As st0 : List Value} {b ci : Nat} {r : vw_C}
    (X : CallFix p m c cc nL s args q_tbl own) (hK : q_K G s) (hP : q_P G S H) (hS : va_S (fr_ G) H0 H locs) (hM : q_Met l y cb n' ret fr lo G (.ref (G.1 + b) :: As) val S K) (hy : q_V y cb n' ret k)
    (hlink : Cond.methodLink own idx y ∈ q_tbl) (hdg : decode cc pc = .ok (.invokevirtual idx, 3)) (hb : b < 242 ∧ kd b = (3, ci)) (hcl : vwCl[ci]? = some r) (hrc : r.1 = y.cls) (hn : As.length = k) (hR : fr + 1 ≤ R.frames ∧ 8 + (n' + 11) + lo ≤ R.locals) (hls : ls.size = nL) (hst : st0 = As.reverse ++ .ref (G.1 + b) :: rest) (hcat : (rest.map fun v => v.category).sum ≤ 8) (hroom : cells + 0 ≤ R.cells ∧ slots + 0 ≤ R.slots)
    (kk : ∀ (r : Rt) (S' : St) (H1 : Heap) (locs1 : List Loc), K r S' → q_P G S' H1 → va_S (fr_ G) H0 H1 locs1 → W p l e R s m args below meth c H1 locs1 cells slots Q (F0 m (pc + 3) ls ((val r).toList ++ rest))) : W p l e R s m args below meth c H locs cells slots Q (F0 m pc ls st0) := by
  subst hst
  have hrv := q_recv hK hP hb hcl
  rw [hrc] at hrv
  exact q_call (va_runV (As := As) (rest := rest) X hM ⟨q_cb X hy.1 hlink hR, X.2.2.2.2 _ hy.2.1, X.2.2.2.2 _ hy.2.2⟩ ⟨q_blind, hrv, fun U hU hW => ⟨rfl, by rw [hU]; exact hP, va_K.moved hW.alike hK⟩⟩ rfl hn hls rfl (lv_room hcat) hdg hroom) hS kk
theorem q_callS {Rt : Type} {val : Rt → Option Value} {K : Rt → St → Prop} {y : MethodName} {cb : ByteArray} {n' fr lo idx k : Nat} {ret : Option FieldType} {As st0 : List Value}
    (X : CallFix p m c cc nL s args q_tbl own) (hK : q_K G s) (hP : q_P G S H) (hS : va_S (fr_ G) H0 H locs) (hM : q_Met l y cb n' ret fr lo G As val S K) (hy : q_S y cb n' ret k)
    (hlink : Cond.methodLink own idx y ∈ q_tbl) (hdg : decode cc pc = .ok (.invokestatic idx, 3)) (hn : As.length = k) (hR : fr + 1 ≤ R.frames ∧ 8 + (n' + 11) + lo ≤ R.locals) (hls : ls.size = nL) (hst : st0 = As.reverse ++ rest) (hcat : (rest.map fun v => v.category).sum ≤ 8) (hroom : cells + 0 ≤ R.cells ∧ slots + 0 ≤ R.slots)
    (kk : ∀ (r : Rt) (S' : St) (H1 : Heap) (locs1 : List Loc), K r S' → q_P G S' H1 → va_S (fr_ G) H0 H1 locs1 → W p l e R s m args below meth c H1 locs1 cells slots Q (F0 m (pc + 3) ls ((val r).toList ++ rest))) : W p l e R s m args below meth c H locs cells slots Q (F0 m pc ls st0) := by
  subst hst
  exact q_call (va_runS (As := As) (rest := rest) X hM ⟨q_cb X hy.1 hlink hR, X.2.2.2.2 _ hy.2⟩ ⟨q_blind, fun U hU hW => ⟨rfl, by rw [hU]; exact hP, va_K.moved hW.alike hK⟩⟩ rfl hn hls rfl (lv_room hcat) hdg hroom) hS kk
theorem q_iret {K : Int32 → St → Prop} {v : Int32} {ty : FieldType} (X : CallFix p m c cc nL s args q_tbl own) (hr : meth.sig.returnType = some ty) (hlocks : meth.locks = false) (hP : q_P G S H) (hS : va_S (fr_ G) s.heap H locs) (hn : narrow ty (.int v) = .int v) (hk : K v S) (hdg : decode cc pc = .ok (.ireturn, 1)) :
    W p l e R s m args below meth c H locs cells slots (MQ below (q_Qc G K v_i) args s cells slots (fr_ G)) (F0 m pc ls [.int v]) :=
  W.zret X.1 X.2.1 hr hn (fun t ht _ => ⟨⟨v, S, rfl, hk, by rw [ht]; exact hP⟩, hS.F ht⟩) hS.2.2 hdg hlocks
theorem q_lret {K : Int64 → St → Prop} {v : Int64} (X : CallFix p m c cc nL s args q_tbl own) (hr : meth.sig.returnType = some .long) (hlocks : meth.locks = false) (hP : q_P G S H) (hS : va_S (fr_ G) s.heap H locs) (hk : K v S) (hdg : decode cc pc = .ok (.lreturn, 1)) :
    W p l e R s m args below meth c H locs cells slots (MQ below (q_Qc G K v_l) args s cells slots (fr_ G)) (F0 m pc ls [.long v]) :=
  W.lret X.1 X.2.1 hr (fun t ht _ => ⟨⟨v, S, rfl, hk, by rw [ht]; exact hP⟩, hS.F ht⟩) hS.2.2 hdg hlocks
theorem q_vret {K : Unit → St → Prop} (X : CallFix p m c cc nL s args q_tbl own) (hr : meth.sig.returnType = none) (hlocks : meth.locks = false) (hP : q_P G S H) (hS : va_S (fr_ G) s.heap H locs) (hk : K () S) (hdg : decode cc pc = .ok (.return_, 1)) :
    W p l e R s m args below meth c H locs cells slots (MQ below (q_Qc G K v_v) args s cells slots (fr_ G)) (F0 m pc ls []) :=
  W.vret X.1 X.2.1 hr (fun t ht _ => ⟨⟨(), S, rfl, hk, by rw [ht]; exact hP⟩, hS.F ht⟩) hS.2.2 hdg hlocks
theorem q_aret {K : Option Nat → St → Prop} {q : Nat} {cn : String} (X : CallFix p m c cc nL s args q_tbl own) (hr : meth.sig.returnType = some (.object cn)) (hlocks : meth.locks = false) (hP : q_P G S H) (hS : va_S (fr_ G) s.heap H locs) (hk : K (some q) S) (hdg : decode cc pc = .ok (.areturn, 1)) :
    W p l e R s m args below meth c H locs cells slots (MQ below (q_Qc G K (v_q G)) args s cells slots (fr_ G)) (F0 m pc ls [.ref (G.1 + q)]) :=
  W.aret X.1 X.2.1 hr (Or.inl ⟨_, rfl⟩) (Or.inr ⟨_, rfl⟩) (fun t ht _ => ⟨⟨some q, S, rfl, hk, by rw [ht]; exact hP⟩, hS.F ht⟩) hS.2.2 hdg hlocks
theorem q_nret {K : Option Nat → St → Prop} {cn : String} (X : CallFix p m c cc nL s args q_tbl own) (hr : meth.sig.returnType = some (.object cn)) (hlocks : meth.locks = false) (hP : q_P G S H) (hS : va_S (fr_ G) s.heap H locs) (hk : K none S) (hdg : decode cc pc = .ok (.areturn, 1)) :
    W p l e R s m args below meth c H locs cells slots (MQ below (q_Qc G K (v_q G)) args s cells slots (fr_ G)) (F0 m pc ls [.null]) :=
  W.aret X.1 X.2.1 hr (Or.inl ⟨_, rfl⟩) (Or.inl rfl) (fun t ht _ => ⟨⟨none, S, rfl, hk, by rw [ht]; exact hP⟩, hS.F ht⟩) hS.2.2 hdg hlocks
end QR
end
