-- ===== PART A: goes FIRST, ahead of the names: the tables' words, and 'selects' of the private methods out of them =====
/-- a private method of a class that the tables say can be made, by its rows of tables_1 -/
def lw_okq (q : MethodName × Nat) : Prop := (q.1.cls ≠ "java/lang/invoke/MethodHandle" ∧ q.1.cls ≠ "java/lang/invoke/VarHandle") ∧ Cond.instantiable q.1.cls q.2 ∈ tables_1 ∧ Cond.privateMethod q.1 ∈ tables_1 ∧ Cond.instanceMethod q.1 ∈ tables_1
theorem lw_p0 : lw_okq (⟨"RegrowDesk$Nodes", "make", "(IIII)I"⟩, 10) := ⟨⟨by decide +kernel, by decide +kernel⟩, List.mem_of_getElem? (i := 133) (by decide +kernel), List.mem_of_getElem? (i := 474) (by decide +kernel), List.mem_of_getElem? (i := 475) (by decide +kernel)⟩
theorem lw_p1 : lw_okq (⟨"RegrowDesk$Tokens", "readOne", "(LRegrowDesk$Row;II)I"⟩, 6) := ⟨⟨by decide +kernel, by decide +kernel⟩, List.mem_of_getElem? (i := 44) (by decide +kernel), List.mem_of_getElem? (i := 502) (by decide +kernel), List.mem_of_getElem? (i := 503) (by decide +kernel)⟩
theorem lw_p2 : lw_okq (⟨"RegrowDesk$Tokens", "append", "(LRegrowDesk$Row;III)V"⟩, 6) := ⟨⟨by decide +kernel, by decide +kernel⟩, List.mem_of_getElem? (i := 44) (by decide +kernel), List.mem_of_getElem? (i := 518) (by decide +kernel), List.mem_of_getElem? (i := 519) (by decide +kernel)⟩
theorem lw_p3 : lw_okq (⟨"RegrowDesk", "now", "()LRegrowDesk$Moment;"⟩, 19) := ⟨⟨by decide +kernel, by decide +kernel⟩, List.mem_of_getElem? (i := 16) (by decide +kernel), List.mem_of_getElem? (i := 545) (by decide +kernel), List.mem_of_getElem? (i := 546) (by decide +kernel)⟩
theorem lw_p4 : lw_okq (⟨"RegrowDesk", "lookAt", "(LRegrowDesk$Moment;I)V"⟩, 19) := ⟨⟨by decide +kernel, by decide +kernel⟩, List.mem_of_getElem? (i := 16) (by decide +kernel), List.mem_of_getElem? (i := 562) (by decide +kernel), List.mem_of_getElem? (i := 563) (by decide +kernel)⟩
theorem lw_p5 : lw_okq (⟨"RegrowDesk$TreeView", "layFlat", "()V"⟩, 16) := ⟨⟨by decide +kernel, by decide +kernel⟩, List.mem_of_getElem? (i := 191) (by decide +kernel), List.mem_of_getElem? (i := 570) (by decide +kernel), List.mem_of_getElem? (i := 571) (by decide +kernel)⟩
theorem lw_p6 : lw_okq (⟨"RegrowDesk$TreeView", "layNode", "(III)V"⟩, 16) := ⟨⟨by decide +kernel, by decide +kernel⟩, List.mem_of_getElem? (i := 191) (by decide +kernel), List.mem_of_getElem? (i := 576) (by decide +kernel), List.mem_of_getElem? (i := 577) (by decide +kernel)⟩
theorem lw_p7 : lw_okq (⟨"RegrowDesk$TreeView", "sumUp", "()V"⟩, 16) := ⟨⟨by decide +kernel, by decide +kernel⟩, List.mem_of_getElem? (i := 191) (by decide +kernel), List.mem_of_getElem? (i := 598) (by decide +kernel), List.mem_of_getElem? (i := 599) (by decide +kernel)⟩
theorem lw_p8 : lw_okq (⟨"RegrowDesk$TreeView", "findRuns", "()V"⟩, 16) := ⟨⟨by decide +kernel, by decide +kernel⟩, List.mem_of_getElem? (i := 191) (by decide +kernel), List.mem_of_getElem? (i := 614) (by decide +kernel), List.mem_of_getElem? (i := 615) (by decide +kernel)⟩
theorem lw_p9 : lw_okq (⟨"RegrowDesk$Runner", "clear", "()V"⟩, 17) := ⟨⟨by decide +kernel, by decide +kernel⟩, List.mem_of_getElem? (i := 318) (by decide +kernel), List.mem_of_getElem? (i := 622) (by decide +kernel), List.mem_of_getElem? (i := 623) (by decide +kernel)⟩
theorem lw_p10 : lw_okq (⟨"RegrowDesk$Runner", "findNames", "(LRegrowDesk$Moment;)V"⟩, 17) := ⟨⟨by decide +kernel, by decide +kernel⟩, List.mem_of_getElem? (i := 318) (by decide +kernel), List.mem_of_getElem? (i := 627) (by decide +kernel), List.mem_of_getElem? (i := 628) (by decide +kernel)⟩
theorem lw_p11 : lw_okq (⟨"RegrowDesk$Runner", "runStatement", "(II)V"⟩, 17) := ⟨⟨by decide +kernel, by decide +kernel⟩, List.mem_of_getElem? (i := 318) (by decide +kernel), List.mem_of_getElem? (i := 637) (by decide +kernel), List.mem_of_getElem? (i := 638) (by decide +kernel)⟩
theorem lw_p12 : lw_okq (⟨"RegrowDesk$Runner", "recordReads", "(III)Z"⟩, 17) := ⟨⟨by decide +kernel, by decide +kernel⟩, List.mem_of_getElem? (i := 318) (by decide +kernel), List.mem_of_getElem? (i := 641) (by decide +kernel), List.mem_of_getElem? (i := 642) (by decide +kernel)⟩
theorem lw_p13 : lw_okq (⟨"RegrowDesk$Runner", "noteReads", "(II)V"⟩, 17) := ⟨⟨by decide +kernel, by decide +kernel⟩, List.mem_of_getElem? (i := 318) (by decide +kernel), List.mem_of_getElem? (i := 649) (by decide +kernel), List.mem_of_getElem? (i := 650) (by decide +kernel)⟩
theorem lw_p14 : lw_okq (⟨"RegrowDesk$Runner", "evaluate", "(II)V"⟩, 17) := ⟨⟨by decide +kernel, by decide +kernel⟩, List.mem_of_getElem? (i := 318) (by decide +kernel), List.mem_of_getElem? (i := 653) (by decide +kernel), List.mem_of_getElem? (i := 654) (by decide +kernel)⟩
theorem lw_p15 : lw_okq (⟨"RegrowDesk$Runner", "worthAt", "(I)I"⟩, 17) := ⟨⟨by decide +kernel, by decide +kernel⟩, List.mem_of_getElem? (i := 318) (by decide +kernel), List.mem_of_getElem? (i := 657) (by decide +kernel), List.mem_of_getElem? (i := 658) (by decide +kernel)⟩
def lw_privs_1 : List (MethodName × Nat) := [(⟨"RegrowDesk$Nodes", "make", "(IIII)I"⟩, 10), (⟨"RegrowDesk$Tokens", "readOne", "(LRegrowDesk$Row;II)I"⟩, 6), (⟨"RegrowDesk$Tokens", "append", "(LRegrowDesk$Row;III)V"⟩, 6), (⟨"RegrowDesk", "now", "()LRegrowDesk$Moment;"⟩, 19), (⟨"RegrowDesk", "lookAt", "(LRegrowDesk$Moment;I)V"⟩, 19), (⟨"RegrowDesk$TreeView", "layFlat", "()V"⟩, 16), (⟨"RegrowDesk$TreeView", "layNode", "(III)V"⟩, 16), (⟨"RegrowDesk$TreeView", "sumUp", "()V"⟩, 16), (⟨"RegrowDesk$TreeView", "findRuns", "()V"⟩, 16), (⟨"RegrowDesk$Runner", "clear", "()V"⟩, 17), (⟨"RegrowDesk$Runner", "findNames", "(LRegrowDesk$Moment;)V"⟩, 17), (⟨"RegrowDesk$Runner", "runStatement", "(II)V"⟩, 17), (⟨"RegrowDesk$Runner", "recordReads", "(III)Z"⟩, 17), (⟨"RegrowDesk$Runner", "noteReads", "(II)V"⟩, 17), (⟨"RegrowDesk$Runner", "evaluate", "(II)V"⟩, 17), (⟨"RegrowDesk$Runner", "worthAt", "(I)I"⟩, 17)]
theorem lw_r1 : ∀ q ∈ lw_privs_1, lw_okq q := List.forall_mem_cons.mpr ⟨lw_p0, List.forall_mem_cons.mpr ⟨lw_p1, List.forall_mem_cons.mpr ⟨lw_p2, List.forall_mem_cons.mpr ⟨lw_p3, List.forall_mem_cons.mpr ⟨lw_p4, List.forall_mem_cons.mpr ⟨lw_p5, List.forall_mem_cons.mpr ⟨lw_p6, List.forall_mem_cons.mpr ⟨lw_p7, List.forall_mem_cons.mpr ⟨lw_p8, List.forall_mem_cons.mpr ⟨lw_p9, List.forall_mem_cons.mpr ⟨lw_p10, List.forall_mem_cons.mpr ⟨lw_p11, List.forall_mem_cons.mpr ⟨lw_p12, List.forall_mem_cons.mpr ⟨lw_p13, List.forall_mem_cons.mpr ⟨lw_p14, List.forall_mem_cons.mpr ⟨lw_p15, fun _ h => absurd h List.not_mem_nil⟩⟩⟩⟩⟩⟩⟩⟩⟩⟩⟩⟩⟩⟩⟩⟩
theorem lw_p16 : lw_okq (⟨"RegrowDesk$Runner", "setName", "(III)V"⟩, 17) := ⟨⟨by decide +kernel, by decide +kernel⟩, List.mem_of_getElem? (i := 318) (by decide +kernel), List.mem_of_getElem? (i := 664) (by decide +kernel), List.mem_of_getElem? (i := 665) (by decide +kernel)⟩
theorem lw_p17 : lw_okq (⟨"RegrowDesk$Runner", "sumUp", "()V"⟩, 17) := ⟨⟨by decide +kernel, by decide +kernel⟩, List.mem_of_getElem? (i := 318) (by decide +kernel), List.mem_of_getElem? (i := 670) (by decide +kernel), List.mem_of_getElem? (i := 671) (by decide +kernel)⟩
theorem lw_p18 : lw_okq (⟨"RegrowDesk$Printer", "putOff", "(I)V"⟩, 4) := ⟨⟨by decide +kernel, by decide +kernel⟩, List.mem_of_getElem? (i := 408) (by decide +kernel), List.mem_of_getElem? (i := 678) (by decide +kernel), List.mem_of_getElem? (i := 679) (by decide +kernel)⟩
theorem lw_p19 : lw_okq (⟨"RegrowDesk$Printer", "writeByte", "(ILRegrowDesk$Row;)V"⟩, 4) := ⟨⟨by decide +kernel, by decide +kernel⟩, List.mem_of_getElem? (i := 408) (by decide +kernel), List.mem_of_getElem? (i := 684) (by decide +kernel), List.mem_of_getElem? (i := 685) (by decide +kernel)⟩
theorem lw_p20 : lw_okq (⟨"RegrowDesk$Printer", "writeToken", "(ILRegrowDesk$Row;)V"⟩, 4) := ⟨⟨by decide +kernel, by decide +kernel⟩, List.mem_of_getElem? (i := 408) (by decide +kernel), List.mem_of_getElem? (i := 689) (by decide +kernel), List.mem_of_getElem? (i := 690) (by decide +kernel)⟩
theorem lw_p21 : lw_okq (⟨"RegrowDesk$Printer", "openUp", "(I)V"⟩, 4) := ⟨⟨by decide +kernel, by decide +kernel⟩, List.mem_of_getElem? (i := 408) (by decide +kernel), List.mem_of_getElem? (i := 697) (by decide +kernel), List.mem_of_getElem? (i := 698) (by decide +kernel)⟩
theorem lw_p22 : lw_okq (⟨"RegrowDesk", "change", "(Z)I"⟩, 19) := ⟨⟨by decide +kernel, by decide +kernel⟩, List.mem_of_getElem? (i := 16) (by decide +kernel), List.mem_of_getElem? (i := 775) (by decide +kernel), List.mem_of_getElem? (i := 776) (by decide +kernel)⟩
theorem lw_p23 : lw_okq (⟨"RegrowDesk$Grower", "keepAlike", "(LRegrowDesk$Moment;LRegrowDesk$Tokens;)V"⟩, 14) := ⟨⟨by decide +kernel, by decide +kernel⟩, List.mem_of_getElem? (i := 260) (by decide +kernel), List.mem_of_getElem? (i := 787) (by decide +kernel), List.mem_of_getElem? (i := 788) (by decide +kernel)⟩
theorem lw_p24 : lw_okq (⟨"RegrowDesk$Grower", "nameTokens", "(LRegrowDesk$Moment;LRegrowDesk$Moment;I)V"⟩, 14) := ⟨⟨by decide +kernel, by decide +kernel⟩, List.mem_of_getElem? (i := 260) (by decide +kernel), List.mem_of_getElem? (i := 797) (by decide +kernel), List.mem_of_getElem? (i := 798) (by decide +kernel)⟩
theorem lw_p25 : lw_okq (⟨"RegrowDesk$Grower", "oldPlace", "(I)I"⟩, 14) := ⟨⟨by decide +kernel, by decide +kernel⟩, List.mem_of_getElem? (i := 260) (by decide +kernel), List.mem_of_getElem? (i := 801) (by decide +kernel), List.mem_of_getElem? (i := 802) (by decide +kernel)⟩
theorem lw_p26 : lw_okq (⟨"RegrowDesk$Grower", "growAll", "(LRegrowDesk$Moment;I)Z"⟩, 14) := ⟨⟨by decide +kernel, by decide +kernel⟩, List.mem_of_getElem? (i := 260) (by decide +kernel), List.mem_of_getElem? (i := 807) (by decide +kernel), List.mem_of_getElem? (i := 808) (by decide +kernel)⟩
theorem lw_p27 : lw_okq (⟨"RegrowDesk$Grower", "putSound", "(II)I"⟩, 14) := ⟨⟨by decide +kernel, by decide +kernel⟩, List.mem_of_getElem? (i := 260) (by decide +kernel), List.mem_of_getElem? (i := 811) (by decide +kernel), List.mem_of_getElem? (i := 812) (by decide +kernel)⟩
theorem lw_p28 : lw_okq (⟨"RegrowDesk$Grower", "isSound", "(II)Z"⟩, 14) := ⟨⟨by decide +kernel, by decide +kernel⟩, List.mem_of_getElem? (i := 260) (by decide +kernel), List.mem_of_getElem? (i := 831) (by decide +kernel), List.mem_of_getElem? (i := 832) (by decide +kernel)⟩
theorem lw_p29 : lw_okq (⟨"RegrowDesk$Grower", "put", "(II)V"⟩, 14) := ⟨⟨by decide +kernel, by decide +kernel⟩, List.mem_of_getElem? (i := 260) (by decide +kernel), List.mem_of_getElem? (i := 840) (by decide +kernel), List.mem_of_getElem? (i := 841) (by decide +kernel)⟩
theorem lw_p30 : lw_okq (⟨"RegrowDesk$Grower", "putToken", "(I)I"⟩, 14) := ⟨⟨by decide +kernel, by decide +kernel⟩, List.mem_of_getElem? (i := 260) (by decide +kernel), List.mem_of_getElem? (i := 844) (by decide +kernel), List.mem_of_getElem? (i := 845) (by decide +kernel)⟩
theorem lw_p31 : lw_okq (⟨"RegrowDesk$Grower", "makeByRule", "(I)Z"⟩, 14) := ⟨⟨by decide +kernel, by decide +kernel⟩, List.mem_of_getElem? (i := 260) (by decide +kernel), List.mem_of_getElem? (i := 848) (by decide +kernel), List.mem_of_getElem? (i := 849) (by decide +kernel)⟩
def lw_privs_2 : List (MethodName × Nat) := [(⟨"RegrowDesk$Runner", "setName", "(III)V"⟩, 17), (⟨"RegrowDesk$Runner", "sumUp", "()V"⟩, 17), (⟨"RegrowDesk$Printer", "putOff", "(I)V"⟩, 4), (⟨"RegrowDesk$Printer", "writeByte", "(ILRegrowDesk$Row;)V"⟩, 4), (⟨"RegrowDesk$Printer", "writeToken", "(ILRegrowDesk$Row;)V"⟩, 4), (⟨"RegrowDesk$Printer", "openUp", "(I)V"⟩, 4), (⟨"RegrowDesk", "change", "(Z)I"⟩, 19), (⟨"RegrowDesk$Grower", "keepAlike", "(LRegrowDesk$Moment;LRegrowDesk$Tokens;)V"⟩, 14), (⟨"RegrowDesk$Grower", "nameTokens", "(LRegrowDesk$Moment;LRegrowDesk$Moment;I)V"⟩, 14), (⟨"RegrowDesk$Grower", "oldPlace", "(I)I"⟩, 14), (⟨"RegrowDesk$Grower", "growAll", "(LRegrowDesk$Moment;I)Z"⟩, 14), (⟨"RegrowDesk$Grower", "putSound", "(II)I"⟩, 14), (⟨"RegrowDesk$Grower", "isSound", "(II)Z"⟩, 14), (⟨"RegrowDesk$Grower", "put", "(II)V"⟩, 14), (⟨"RegrowDesk$Grower", "putToken", "(I)I"⟩, 14), (⟨"RegrowDesk$Grower", "makeByRule", "(I)Z"⟩, 14)]
theorem lw_r2 : ∀ q ∈ lw_privs_2, lw_okq q := List.forall_mem_cons.mpr ⟨lw_p16, List.forall_mem_cons.mpr ⟨lw_p17, List.forall_mem_cons.mpr ⟨lw_p18, List.forall_mem_cons.mpr ⟨lw_p19, List.forall_mem_cons.mpr ⟨lw_p20, List.forall_mem_cons.mpr ⟨lw_p21, List.forall_mem_cons.mpr ⟨lw_p22, List.forall_mem_cons.mpr ⟨lw_p23, List.forall_mem_cons.mpr ⟨lw_p24, List.forall_mem_cons.mpr ⟨lw_p25, List.forall_mem_cons.mpr ⟨lw_p26, List.forall_mem_cons.mpr ⟨lw_p27, List.forall_mem_cons.mpr ⟨lw_p28, List.forall_mem_cons.mpr ⟨lw_p29, List.forall_mem_cons.mpr ⟨lw_p30, List.forall_mem_cons.mpr ⟨lw_p31, fun _ h => absurd h List.not_mem_nil⟩⟩⟩⟩⟩⟩⟩⟩⟩⟩⟩⟩⟩⟩⟩⟩
theorem lw_p32 : lw_okq (⟨"RegrowDesk", "tellGrowth", "(I)V"⟩, 19) := ⟨⟨by decide +kernel, by decide +kernel⟩, List.mem_of_getElem? (i := 16) (by decide +kernel), List.mem_of_getElem? (i := 870) (by decide +kernel), List.mem_of_getElem? (i := 871) (by decide +kernel)⟩
theorem lw_p33 : lw_okq (⟨"RegrowDesk", "layRow", "()V"⟩, 19) := ⟨⟨by decide +kernel, by decide +kernel⟩, List.mem_of_getElem? (i := 16) (by decide +kernel), List.mem_of_getElem? (i := 874) (by decide +kernel), List.mem_of_getElem? (i := 875) (by decide +kernel)⟩
theorem lw_p34 : lw_okq (⟨"RegrowDesk$Pairs", "findOrMake", "(II)I"⟩, 5) := ⟨⟨by decide +kernel, by decide +kernel⟩, List.mem_of_getElem? (i := 383) (by decide +kernel), List.mem_of_getElem? (i := 886) (by decide +kernel), List.mem_of_getElem? (i := 887) (by decide +kernel)⟩
theorem lw_p35 : lw_okq (⟨"RegrowDesk", "tellGood", "(I)V"⟩, 19) := ⟨⟨by decide +kernel, by decide +kernel⟩, List.mem_of_getElem? (i := 16) (by decide +kernel), List.mem_of_getElem? (i := 891) (by decide +kernel), List.mem_of_getElem? (i := 892) (by decide +kernel)⟩
theorem lw_p36 : lw_okq (⟨"RegrowDesk", "turnToNext", "()V"⟩, 19) := ⟨⟨by decide +kernel, by decide +kernel⟩, List.mem_of_getElem? (i := 16) (by decide +kernel), List.mem_of_getElem? (i := 895) (by decide +kernel), List.mem_of_getElem? (i := 896) (by decide +kernel)⟩
theorem lw_p37 : lw_okq (⟨"RegrowDesk", "nextSlot", "()I"⟩, 19) := ⟨⟨by decide +kernel, by decide +kernel⟩, List.mem_of_getElem? (i := 16) (by decide +kernel), List.mem_of_getElem? (i := 899) (by decide +kernel), List.mem_of_getElem? (i := 900) (by decide +kernel)⟩
theorem lw_p38 : lw_okq (⟨"RegrowDesk", "tapeIsName", "()Z"⟩, 19) := ⟨⟨by decide +kernel, by decide +kernel⟩, List.mem_of_getElem? (i := 16) (by decide +kernel), List.mem_of_getElem? (i := 913) (by decide +kernel), List.mem_of_getElem? (i := 914) (by decide +kernel)⟩
theorem lw_p39 : lw_okq (⟨"RegrowDesk", "runStart", "(I)I"⟩, 19) := ⟨⟨by decide +kernel, by decide +kernel⟩, List.mem_of_getElem? (i := 16) (by decide +kernel), List.mem_of_getElem? (i := 930) (by decide +kernel), List.mem_of_getElem? (i := 931) (by decide +kernel)⟩
theorem lw_p40 : lw_okq (⟨"RegrowDesk", "startOf", "(I)I"⟩, 19) := ⟨⟨by decide +kernel, by decide +kernel⟩, List.mem_of_getElem? (i := 16) (by decide +kernel), List.mem_of_getElem? (i := 934) (by decide +kernel), List.mem_of_getElem? (i := 935) (by decide +kernel)⟩
theorem lw_p41 : lw_okq (⟨"RegrowDesk", "runEnd", "(I)I"⟩, 19) := ⟨⟨by decide +kernel, by decide +kernel⟩, List.mem_of_getElem? (i := 16) (by decide +kernel), List.mem_of_getElem? (i := 939) (by decide +kernel), List.mem_of_getElem? (i := 940) (by decide +kernel)⟩
theorem lw_p42 : lw_okq (⟨"RegrowDesk", "endOf", "(I)I"⟩, 19) := ⟨⟨by decide +kernel, by decide +kernel⟩, List.mem_of_getElem? (i := 16) (by decide +kernel), List.mem_of_getElem? (i := 943) (by decide +kernel), List.mem_of_getElem? (i := 944) (by decide +kernel)⟩
theorem lw_p43 : lw_okq (⟨"RegrowDesk$Adviser", "weigh", "(LRegrowDesk$Tokens;)V"⟩, 5) := ⟨⟨by decide +kernel, by decide +kernel⟩, List.mem_of_getElem? (i := 429) (by decide +kernel), List.mem_of_getElem? (i := 983) (by decide +kernel), List.mem_of_getElem? (i := 984) (by decide +kernel)⟩
theorem lw_p44 : lw_okq (⟨"RegrowDesk$Adviser", "couldGo", "(LRegrowDesk$Tokens;II)Z"⟩, 5) := ⟨⟨by decide +kernel, by decide +kernel⟩, List.mem_of_getElem? (i := 429) (by decide +kernel), List.mem_of_getElem? (i := 1002) (by decide +kernel), List.mem_of_getElem? (i := 1003) (by decide +kernel)⟩
theorem lw_p45 : lw_okq (⟨"RegrowDesk$Adviser", "found", "(II)V"⟩, 5) := ⟨⟨by decide +kernel, by decide +kernel⟩, List.mem_of_getElem? (i := 429) (by decide +kernel), List.mem_of_getElem? (i := 1024) (by decide +kernel), List.mem_of_getElem? (i := 1025) (by decide +kernel)⟩
theorem lw_p46 : lw_okq (⟨"RegrowDesk$Adviser", "goToWrong", "(LRegrowDesk$Tokens;)V"⟩, 5) := ⟨⟨by decide +kernel, by decide +kernel⟩, List.mem_of_getElem? (i := 429) (by decide +kernel), List.mem_of_getElem? (i := 1037) (by decide +kernel), List.mem_of_getElem? (i := 1038) (by decide +kernel)⟩
theorem lw_p47 : lw_okq (⟨"RegrowDesk", "isGoodName", "(I)Z"⟩, 19) := ⟨⟨by decide +kernel, by decide +kernel⟩, List.mem_of_getElem? (i := 16) (by decide +kernel), List.mem_of_getElem? (i := 1070) (by decide +kernel), List.mem_of_getElem? (i := 1071) (by decide +kernel)⟩
def lw_privs_3 : List (MethodName × Nat) := [(⟨"RegrowDesk", "tellGrowth", "(I)V"⟩, 19), (⟨"RegrowDesk", "layRow", "()V"⟩, 19), (⟨"RegrowDesk$Pairs", "findOrMake", "(II)I"⟩, 5), (⟨"RegrowDesk", "tellGood", "(I)V"⟩, 19), (⟨"RegrowDesk", "turnToNext", "()V"⟩, 19), (⟨"RegrowDesk", "nextSlot", "()I"⟩, 19), (⟨"RegrowDesk", "tapeIsName", "()Z"⟩, 19), (⟨"RegrowDesk", "runStart", "(I)I"⟩, 19), (⟨"RegrowDesk", "startOf", "(I)I"⟩, 19), (⟨"RegrowDesk", "runEnd", "(I)I"⟩, 19), (⟨"RegrowDesk", "endOf", "(I)I"⟩, 19), (⟨"RegrowDesk$Adviser", "weigh", "(LRegrowDesk$Tokens;)V"⟩, 5), (⟨"RegrowDesk$Adviser", "couldGo", "(LRegrowDesk$Tokens;II)Z"⟩, 5), (⟨"RegrowDesk$Adviser", "found", "(II)V"⟩, 5), (⟨"RegrowDesk$Adviser", "goToWrong", "(LRegrowDesk$Tokens;)V"⟩, 5), (⟨"RegrowDesk", "isGoodName", "(I)Z"⟩, 19)]
theorem lw_r3 : ∀ q ∈ lw_privs_3, lw_okq q := List.forall_mem_cons.mpr ⟨lw_p32, List.forall_mem_cons.mpr ⟨lw_p33, List.forall_mem_cons.mpr ⟨lw_p34, List.forall_mem_cons.mpr ⟨lw_p35, List.forall_mem_cons.mpr ⟨lw_p36, List.forall_mem_cons.mpr ⟨lw_p37, List.forall_mem_cons.mpr ⟨lw_p38, List.forall_mem_cons.mpr ⟨lw_p39, List.forall_mem_cons.mpr ⟨lw_p40, List.forall_mem_cons.mpr ⟨lw_p41, List.forall_mem_cons.mpr ⟨lw_p42, List.forall_mem_cons.mpr ⟨lw_p43, List.forall_mem_cons.mpr ⟨lw_p44, List.forall_mem_cons.mpr ⟨lw_p45, List.forall_mem_cons.mpr ⟨lw_p46, List.forall_mem_cons.mpr ⟨lw_p47, fun _ h => absurd h List.not_mem_nil⟩⟩⟩⟩⟩⟩⟩⟩⟩⟩⟩⟩⟩⟩⟩⟩
theorem lw_p48 : lw_okq (⟨"RegrowDesk", "countInTree", "(I)I"⟩, 19) := ⟨⟨by decide +kernel, by decide +kernel⟩, List.mem_of_getElem? (i := 16) (by decide +kernel), List.mem_of_getElem? (i := 1099) (by decide +kernel), List.mem_of_getElem? (i := 1100) (by decide +kernel)⟩
theorem lw_p49 : lw_okq (⟨"RegrowDesk", "feedFour", "(I)V"⟩, 19) := ⟨⟨by decide +kernel, by decide +kernel⟩, List.mem_of_getElem? (i := 16) (by decide +kernel), List.mem_of_getElem? (i := 1130) (by decide +kernel), List.mem_of_getElem? (i := 1131) (by decide +kernel)⟩
theorem lw_p50 : lw_okq (⟨"RegrowDesk", "isEnd", "(I)Z"⟩, 19) := ⟨⟨by decide +kernel, by decide +kernel⟩, List.mem_of_getElem? (i := 16) (by decide +kernel), List.mem_of_getElem? (i := 1160) (by decide +kernel), List.mem_of_getElem? (i := 1161) (by decide +kernel)⟩
def lw_privs_4 : List (MethodName × Nat) := [(⟨"RegrowDesk", "countInTree", "(I)I"⟩, 19), (⟨"RegrowDesk", "feedFour", "(I)V"⟩, 19), (⟨"RegrowDesk", "isEnd", "(I)Z"⟩, 19)]
theorem lw_r4 : ∀ q ∈ lw_privs_4, lw_okq q := List.forall_mem_cons.mpr ⟨lw_p48, List.forall_mem_cons.mpr ⟨lw_p49, List.forall_mem_cons.mpr ⟨lw_p50, fun _ h => absurd h List.not_mem_nil⟩⟩⟩
def lw_privs : List (MethodName × Nat) := lw_privs_1 ++ (lw_privs_2 ++ (lw_privs_3 ++ (lw_privs_4)))
def lw_tbl : List Cond := k2_sels lw_privs ++ tables_1
theorem lw_privs_ok : ∀ q ∈ lw_privs, lw_okq q := by
  show ∀ q ∈ lw_privs_1 ++ (lw_privs_2 ++ (lw_privs_3 ++ (lw_privs_4))), lw_okq q
  exact List.forall_mem_append.mpr ⟨lw_r1, List.forall_mem_append.mpr ⟨lw_r2, List.forall_mem_append.mpr ⟨lw_r3, lw_r4⟩⟩⟩
/-! names (as printed for the claim) -/
def RX0 : String := "RegrowDesk$Adviser"
def TX0 : u_T := fun k => match k with
  | 0 => ("RegrowDesk$Adviser", "ahead", "LRegrowDesk$Trial;", true)
  | 1 => ("RegrowDesk$Adviser", "trial", "LRegrowDesk$Trial;", true)
  | 2 => ("RegrowDesk$Adviser", "balance", "LRegrowDesk$Row;", true)
  | 3 => ("RegrowDesk$Adviser", "foundAt", "I", false)
  | _ => ("RegrowDesk$Adviser", "foundWhat", "I", false)
def tyX0 : Nat → FieldType := fun k => match k with
  | 0 => .object "RegrowDesk$Trial"
  | 1 => .object "RegrowDesk$Trial"
  | 2 => .object "RegrowDesk$Row"
  | 3 => .int
  | _ => .int
theorem nmX0 : ∀ a, a < 5 → ∀ b, b < 5 → a ≠ b → (TX0 a).2.1 ≠ (TX0 b).2.1 := by decide +kernel
theorem tyX0_ok : ∀ k, k < 5 → parseFieldDescriptor (TX0 k).2.2.1 = some (tyX0 k) := by decide +kernel
abbrev cX0_init : ByteArray := prog_2_method_1_code
def yX0_init : MethodName := ⟨RX0, "<init>", "()V"⟩
abbrev cX0_findWay : ByteArray := prog_2_method_2_code
def yX0_findWay : MethodName := ⟨RX0, "findWay", "(LRegrowDesk$Tokens;)V"⟩
abbrev cX0_couldGo : ByteArray := prog_2_method_3_code
def yX0_couldGo : MethodName := ⟨RX0, "couldGo", "(LRegrowDesk$Tokens;II)Z"⟩
abbrev cX0_weigh : ByteArray := prog_2_method_4_code
def yX0_weigh : MethodName := ⟨RX0, "weigh", "(LRegrowDesk$Tokens;)V"⟩
abbrev cX0_lastMisfit : ByteArray := prog_2_method_5_code
def yX0_lastMisfit : MethodName := ⟨RX0, "lastMisfit", "(LRegrowDesk$Tokens;)I"⟩
abbrev cX0_findMend : ByteArray := prog_2_method_6_code
def yX0_findMend : MethodName := ⟨RX0, "findMend", "(LRegrowDesk$Tokens;)V"⟩
abbrev cX0_kindsInPlace : ByteArray := prog_2_method_7_code
def yX0_kindsInPlace : MethodName := ⟨RX0, "kindsInPlace", "(LRegrowDesk$Tokens;)I"⟩
abbrev cX0_goToWrong : ByteArray := prog_2_method_8_code
def yX0_goToWrong : MethodName := ⟨RX0, "goToWrong", "(LRegrowDesk$Tokens;)V"⟩
abbrev cX0_found : ByteArray := prog_2_method_9_code
def yX0_found : MethodName := ⟨RX0, "found", "(II)V"⟩
def RX1 : String := "RegrowDesk$Grower"
def TX1 : u_T := fun k => match k with
  | 0 => ("RegrowDesk$Grower", "nodes", "LRegrowDesk$Nodes;", true)
  | 1 => ("RegrowDesk$Grower", "view", "LRegrowDesk$TreeView;", true)
  | 2 => ("RegrowDesk$Grower", "states", "LRegrowDesk$Row;", true)
  | 3 => ("RegrowDesk$Grower", "stack", "LRegrowDesk$Row;", true)
  | 4 => ("RegrowDesk$Grower", "top", "I", false)
  | 5 => ("RegrowDesk$Grower", "oldMany", "I", false)
  | 6 => ("RegrowDesk$Grower", "newMany", "I", false)
  | 7 => ("RegrowDesk$Grower", "ahead", "I", false)
  | 8 => ("RegrowDesk$Grower", "behind", "I", false)
  | 9 => ("RegrowDesk$Grower", "tokensMade", "I", false)
  | 10 => ("RegrowDesk$Grower", "ruledMade", "I", false)
  | 11 => ("RegrowDesk$Grower", "taken", "I", false)
  | 12 => ("RegrowDesk$Grower", "steps", "I", false)
  | _ => ("RegrowDesk$Grower", "wrong", "I", false)
def tyX1 : Nat → FieldType := fun k => match k with
  | 0 => .object "RegrowDesk$Nodes"
  | 1 => .object "RegrowDesk$TreeView"
  | 2 => .object "RegrowDesk$Row"
  | 3 => .object "RegrowDesk$Row"
  | 4 => .int
  | 5 => .int
  | 6 => .int
  | 7 => .int
  | 8 => .int
  | 9 => .int
  | 10 => .int
  | 11 => .int
  | 12 => .int
  | _ => .int
theorem nmX1 : ∀ a, a < 14 → ∀ b, b < 14 → a ≠ b → (TX1 a).2.1 ≠ (TX1 b).2.1 := by decide +kernel
theorem tyX1_ok : ∀ k, k < 14 → parseFieldDescriptor (TX1 k).2.2.1 = some (tyX1 k) := by decide +kernel
abbrev cX1_init : ByteArray := prog_3_method_1_code
def yX1_init : MethodName := ⟨RX1, "<init>", "(LRegrowDesk$Nodes;LRegrowDesk$TreeView;)V"⟩
abbrev cX1_onTop : ByteArray := prog_3_method_2_code
def yX1_onTop : MethodName := ⟨RX1, "onTop", "()I"⟩
abbrev cX1_regrow : ByteArray := prog_3_method_3_code
def yX1_regrow : MethodName := ⟨RX1, "regrow", "(LRegrowDesk$Moment;LRegrowDesk$Moment;I)Z"⟩
abbrev cX1_keepAlike : ByteArray := prog_3_method_4_code
def yX1_keepAlike : MethodName := ⟨RX1, "keepAlike", "(LRegrowDesk$Moment;LRegrowDesk$Tokens;)V"⟩
abbrev cX1_nameTokens : ByteArray := prog_3_method_5_code
def yX1_nameTokens : MethodName := ⟨RX1, "nameTokens", "(LRegrowDesk$Moment;LRegrowDesk$Moment;I)V"⟩
abbrev cX1_oldPlace : ByteArray := prog_3_method_6_code
def yX1_oldPlace : MethodName := ⟨RX1, "oldPlace", "(I)I"⟩
abbrev cX1_growAll : ByteArray := prog_3_method_7_code
def yX1_growAll : MethodName := ⟨RX1, "growAll", "(LRegrowDesk$Moment;I)Z"⟩
abbrev cX1_putSound : ByteArray := prog_3_method_8_code
def yX1_putSound : MethodName := ⟨RX1, "putSound", "(II)I"⟩
abbrev cX1_isSound : ByteArray := prog_3_method_9_code
def yX1_isSound : MethodName := ⟨RX1, "isSound", "(II)Z"⟩
abbrev cX1_putToken : ByteArray := prog_3_method_10_code
def yX1_putToken : MethodName := ⟨RX1, "putToken", "(I)I"⟩
abbrev cX1_makeByRule : ByteArray := prog_3_method_11_code
def yX1_makeByRule : MethodName := ⟨RX1, "makeByRule", "(I)Z"⟩
abbrev cX1_put : ByteArray := prog_3_method_12_code
def yX1_put : MethodName := ⟨RX1, "put", "(II)V"⟩
def RX2 : String := "RegrowDesk$Moment"
def TX2 : u_T := fun k => match k with
  | 0 => ("RegrowDesk$Moment", "text", "LRegrowDesk$Row;", true)
  | 1 => ("RegrowDesk$Moment", "size", "I", false)
  | 2 => ("RegrowDesk$Moment", "tokens", "LRegrowDesk$Tokens;", true)
  | 3 => ("RegrowDesk$Moment", "good", "Z", false)
  | 4 => ("RegrowDesk$Moment", "goodNode", "LRegrowDesk$Row;", true)
  | 5 => ("RegrowDesk$Moment", "goodStart", "LRegrowDesk$Row;", true)
  | 6 => ("RegrowDesk$Moment", "goodMany", "I", false)
  | 7 => ("RegrowDesk$Moment", "tree", "I", false)
  | _ => ("RegrowDesk$Moment", "row", "I", false)
def tyX2 : Nat → FieldType := fun k => match k with
  | 0 => .object "RegrowDesk$Row"
  | 1 => .int
  | 2 => .object "RegrowDesk$Tokens"
  | 3 => .boolean
  | 4 => .object "RegrowDesk$Row"
  | 5 => .object "RegrowDesk$Row"
  | 6 => .int
  | 7 => .int
  | _ => .int
theorem nmX2 : ∀ a, a < 9 → ∀ b, b < 9 → a ≠ b → (TX2 a).2.1 ≠ (TX2 b).2.1 := by decide +kernel
theorem tyX2_ok : ∀ k, k < 9 → parseFieldDescriptor (TX2 k).2.2.1 = some (tyX2 k) := by decide +kernel
abbrev cX2_init : ByteArray := prog_4_method_1_code
def yX2_init : MethodName := ⟨RX2, "<init>", "()V"⟩
abbrev cX2_hasGood : ByteArray := prog_4_method_2_code
def yX2_hasGood : MethodName := ⟨RX2, "hasGood", "(I)Z"⟩
abbrev cX2_append : ByteArray := prog_4_method_3_code
def yX2_append : MethodName := ⟨RX2, "append", "(LRegrowDesk$Row;II)V"⟩
abbrev cX2_beGood : ByteArray := prog_4_method_4_code
def yX2_beGood : MethodName := ⟨RX2, "beGood", "(I)V"⟩
abbrev cX2_keepGood : ByteArray := prog_4_method_5_code
def yX2_keepGood : MethodName := ⟨RX2, "keepGood", "(LRegrowDesk$Moment;)V"⟩
abbrev cX2_copyFrom : ByteArray := prog_4_method_6_code
def yX2_copyFrom : MethodName := ⟨RX2, "copyFrom", "(LRegrowDesk$Moment;)V"⟩
def RX3 : String := "RegrowDesk$Nodes"
def TX3 : u_T := fun k => match k with
  | 0 => ("RegrowDesk$Nodes", "rule", "LRegrowDesk$Row;", true)
  | 1 => ("RegrowDesk$Nodes", "symbol", "LRegrowDesk$Row;", true)
  | 2 => ("RegrowDesk$Nodes", "state", "LRegrowDesk$Row;", true)
  | 3 => ("RegrowDesk$Nodes", "tokens", "LRegrowDesk$Row;", true)
  | 4 => ("RegrowDesk$Nodes", "madeBy", "LRegrowDesk$Row;", true)
  | 5 => ("RegrowDesk$Nodes", "length", "LRegrowDesk$Row;", true)
  | 6 => ("RegrowDesk$Nodes", "head", "LRegrowDesk$Row;", true)
  | 7 => ("RegrowDesk$Nodes", "tail", "LRegrowDesk$Row;", true)
  | 8 => ("RegrowDesk$Nodes", "children", "LRegrowDesk$Row;", true)
  | _ => ("RegrowDesk$Nodes", "many", "I", false)
def tyX3 : Nat → FieldType := fun k => match k with
  | 0 => .object "RegrowDesk$Row"
  | 1 => .object "RegrowDesk$Row"
  | 2 => .object "RegrowDesk$Row"
  | 3 => .object "RegrowDesk$Row"
  | 4 => .object "RegrowDesk$Row"
  | 5 => .object "RegrowDesk$Row"
  | 6 => .object "RegrowDesk$Row"
  | 7 => .object "RegrowDesk$Row"
  | 8 => .object "RegrowDesk$Row"
  | _ => .int
theorem nmX3 : ∀ a, a < 10 → ∀ b, b < 10 → a ≠ b → (TX3 a).2.1 ≠ (TX3 b).2.1 := by decide +kernel
theorem tyX3_ok : ∀ k, k < 10 → parseFieldDescriptor (TX3 k).2.2.1 = some (tyX3 k) := by decide +kernel
abbrev cX3_init : ByteArray := prog_5_method_1_code
def yX3_init : MethodName := ⟨RX3, "<init>", "()V"⟩
abbrev cX3_has : ByteArray := prog_5_method_2_code
def yX3_has : MethodName := ⟨RX3, "has", "(I)Z"⟩
abbrev cX3_makeToken : ByteArray := prog_5_method_3_code
def yX3_makeToken : MethodName := ⟨RX3, "makeToken", "(IIIII)I"⟩
abbrev cX3_makeRuled : ByteArray := prog_5_method_4_code
def yX3_makeRuled : MethodName := ⟨RX3, "makeRuled", "(III)I"⟩
abbrev cX3_make : ByteArray := prog_5_method_5_code
def yX3_make : MethodName := ⟨RX3, "make", "(IIII)I"⟩
abbrev cX3_giveChild : ByteArray := prog_5_method_6_code
def yX3_giveChild : MethodName := ⟨RX3, "giveChild", "(III)V"⟩
abbrev cX3_childrenOf : ByteArray := prog_5_method_7_code
def yX3_childrenOf : MethodName := ⟨RX3, "childrenOf", "(I)I"⟩
abbrev cX3_childOf : ByteArray := prog_5_method_8_code
def yX3_childOf : MethodName := ⟨RX3, "childOf", "(II)I"⟩
abbrev cX3_isToken : ByteArray := prog_5_method_9_code
def yX3_isToken : MethodName := ⟨RX3, "isToken", "(I)Z"⟩
abbrev cX3_byteOf : ByteArray := prog_5_method_10_code
def yX3_byteOf : MethodName := ⟨RX3, "byteOf", "(II)I"⟩
abbrev cX3_isLike : ByteArray := prog_5_method_11_code
def yX3_isLike : MethodName := ⟨RX3, "isLike", "(ILRegrowDesk$Tokens;I)Z"⟩
abbrev cX3_sameBytes : ByteArray := prog_5_method_12_code
def yX3_sameBytes : MethodName := ⟨RX3, "sameBytes", "(II)Z"⟩
def RX4 : String := "RegrowDesk$Pairs"
def TX4 : u_T := fun k => match k with
  | 0 => ("RegrowDesk$Pairs", "first", "LRegrowDesk$Row;", true)
  | 1 => ("RegrowDesk$Pairs", "other", "LRegrowDesk$Row;", true)
  | 2 => ("RegrowDesk$Pairs", "chain", "LRegrowDesk$Row;", true)
  | 3 => ("RegrowDesk$Pairs", "chainOf", "LRegrowDesk$Row;", true)
  | _ => ("RegrowDesk$Pairs", "many", "I", false)
def tyX4 : Nat → FieldType := fun k => match k with
  | 0 => .object "RegrowDesk$Row"
  | 1 => .object "RegrowDesk$Row"
  | 2 => .object "RegrowDesk$Row"
  | 3 => .object "RegrowDesk$Row"
  | _ => .int
theorem nmX4 : ∀ a, a < 5 → ∀ b, b < 5 → a ≠ b → (TX4 a).2.1 ≠ (TX4 b).2.1 := by decide +kernel
theorem tyX4_ok : ∀ k, k < 5 → parseFieldDescriptor (TX4 k).2.2.1 = some (tyX4 k) := by decide +kernel
abbrev cX4_init : ByteArray := prog_6_method_1_code
def yX4_init : MethodName := ⟨RX4, "<init>", "()V"⟩
abbrev cX4_layAll : ByteArray := prog_6_method_2_code
def yX4_layAll : MethodName := ⟨RX4, "layAll", "(LRegrowDesk$Row;I)I"⟩
abbrev cX4_layPart : ByteArray := prog_6_method_3_code
def yX4_layPart : MethodName := ⟨RX4, "layPart", "(LRegrowDesk$Pairs;LRegrowDesk$Row;III)I"⟩
abbrev cX4_findOrMake : ByteArray := prog_6_method_4_code
def yX4_findOrMake : MethodName := ⟨RX4, "findOrMake", "(II)I"⟩
def RX5 : String := "RegrowDesk$Printer"
def TX5 : u_T := fun k => match k with
  | 0 => ("RegrowDesk$Printer", "nodes", "LRegrowDesk$Nodes;", true)
  | 1 => ("RegrowDesk$Printer", "waiting", "LRegrowDesk$Row;", true)
  | 2 => ("RegrowDesk$Printer", "waitingMany", "I", false)
  | _ => ("RegrowDesk$Printer", "size", "I", false)
def tyX5 : Nat → FieldType := fun k => match k with
  | 0 => .object "RegrowDesk$Nodes"
  | 1 => .object "RegrowDesk$Row"
  | 2 => .int
  | _ => .int
theorem nmX5 : ∀ a, a < 4 → ∀ b, b < 4 → a ≠ b → (TX5 a).2.1 ≠ (TX5 b).2.1 := by decide +kernel
theorem tyX5_ok : ∀ k, k < 4 → parseFieldDescriptor (TX5 k).2.2.1 = some (tyX5 k) := by decide +kernel
abbrev cX5_init : ByteArray := prog_7_method_1_code
def yX5_init : MethodName := ⟨RX5, "<init>", "(LRegrowDesk$Nodes;)V"⟩
abbrev cX5_write : ByteArray := prog_7_method_2_code
def yX5_write : MethodName := ⟨RX5, "write", "(ILRegrowDesk$Row;)I"⟩
abbrev cX5_openUp : ByteArray := prog_7_method_3_code
def yX5_openUp : MethodName := ⟨RX5, "openUp", "(I)V"⟩
abbrev cX5_putOff : ByteArray := prog_7_method_4_code
def yX5_putOff : MethodName := ⟨RX5, "putOff", "(I)V"⟩
abbrev cX5_writeToken : ByteArray := prog_7_method_5_code
def yX5_writeToken : MethodName := ⟨RX5, "writeToken", "(ILRegrowDesk$Row;)V"⟩
abbrev cX5_writeByte : ByteArray := prog_7_method_6_code
def yX5_writeByte : MethodName := ⟨RX5, "writeByte", "(ILRegrowDesk$Row;)V"⟩
def RX6 : String := "RegrowDesk$Row"
def TX6 : u_T := fun k => match k with
  | _ => ("RegrowDesk$Row", "cells", "[I", true)
def tyX6 : Nat → FieldType := fun k => match k with
  | _ => .array .int
theorem nmX6 : ∀ a, a < 1 → ∀ b, b < 1 → a ≠ b → (TX6 a).2.1 ≠ (TX6 b).2.1 := by decide +kernel
theorem tyX6_ok : ∀ k, k < 1 → parseFieldDescriptor (TX6 k).2.2.1 = some (tyX6 k) := by decide +kernel
abbrev cX6_init : ByteArray := prog_8_method_1_code
def yX6_init : MethodName := ⟨RX6, "<init>", "(I)V"⟩
abbrev cX6_get : ByteArray := prog_8_method_2_code
def yX6_get : MethodName := ⟨RX6, "get", "(I)I"⟩
abbrev cX6_set : ByteArray := prog_8_method_3_code
def yX6_set : MethodName := ⟨RX6, "set", "(II)V"⟩
abbrev cX6_add : ByteArray := prog_8_method_4_code
def yX6_add : MethodName := ⟨RX6, "add", "(II)V"⟩
abbrev cX6_fill : ByteArray := prog_8_method_5_code
def yX6_fill : MethodName := ⟨RX6, "fill", "(I)V"⟩
abbrev cX6_copyFrom : ByteArray := prog_8_method_6_code
def yX6_copyFrom : MethodName := ⟨RX6, "copyFrom", "(LRegrowDesk$Row;I)V"⟩
def RX7 : String := "RegrowDesk$Runner"
def TX7 : u_T := fun k => match k with
  | 0 => ("RegrowDesk$Runner", "nodes", "LRegrowDesk$Nodes;", true)
  | 1 => ("RegrowDesk$Runner", "view", "LRegrowDesk$TreeView;", true)
  | 2 => ("RegrowDesk$Runner", "nameOf", "LRegrowDesk$Row;", true)
  | 3 => ("RegrowDesk$Runner", "values", "LRegrowDesk$Row;", true)
  | 4 => ("RegrowDesk$Runner", "setTimes", "LRegrowDesk$Row;", true)
  | 5 => ("RegrowDesk$Runner", "lastSet", "LRegrowDesk$Row;", true)
  | 6 => ("RegrowDesk$Runner", "unread", "LRegrowDesk$Row;", true)
  | 7 => ("RegrowDesk$Runner", "setAhead", "LRegrowDesk$Row;", true)
  | 8 => ("RegrowDesk$Runner", "worths", "LRegrowDesk$Row;", true)
  | 9 => ("RegrowDesk$Runner", "recordOf", "LRegrowDesk$Row;", true)
  | 10 => ("RegrowDesk$Runner", "records", "LRegrowDesk$Row;", true)
  | 11 => ("RegrowDesk$Runner", "recorded", "I", false)
  | 12 => ("RegrowDesk$Runner", "idleMany", "I", false)
  | 13 => ("RegrowDesk$Runner", "idleFirst", "I", false)
  | 14 => ("RegrowDesk$Runner", "doneAgain", "I", false)
  | 15 => ("RegrowDesk$Runner", "intSum", "I", false)
  | _ => ("RegrowDesk$Runner", "namesSet", "I", false)
def tyX7 : Nat → FieldType := fun k => match k with
  | 0 => .object "RegrowDesk$Nodes"
  | 1 => .object "RegrowDesk$TreeView"
  | 2 => .object "RegrowDesk$Row"
  | 3 => .object "RegrowDesk$Row"
  | 4 => .object "RegrowDesk$Row"
  | 5 => .object "RegrowDesk$Row"
  | 6 => .object "RegrowDesk$Row"
  | 7 => .object "RegrowDesk$Row"
  | 8 => .object "RegrowDesk$Row"
  | 9 => .object "RegrowDesk$Row"
  | 10 => .object "RegrowDesk$Row"
  | 11 => .int
  | 12 => .int
  | 13 => .int
  | 14 => .int
  | 15 => .int
  | _ => .int
theorem nmX7 : ∀ a, a < 17 → ∀ b, b < 17 → a ≠ b → (TX7 a).2.1 ≠ (TX7 b).2.1 := by decide +kernel
theorem tyX7_ok : ∀ k, k < 17 → parseFieldDescriptor (TX7 k).2.2.1 = some (tyX7 k) := by decide +kernel
abbrev cX7_init : ByteArray := prog_9_method_1_code
def yX7_init : MethodName := ⟨RX7, "<init>", "(LRegrowDesk$Nodes;LRegrowDesk$TreeView;)V"⟩
abbrev cX7_valueOf : ByteArray := prog_9_method_2_code
def yX7_valueOf : MethodName := ⟨RX7, "valueOf", "(I)I"⟩
abbrev cX7_timesSet : ByteArray := prog_9_method_3_code
def yX7_timesSet : MethodName := ⟨RX7, "timesSet", "(I)I"⟩
abbrev cX7_runAll : ByteArray := prog_9_method_4_code
def yX7_runAll : MethodName := ⟨RX7, "runAll", "(LRegrowDesk$Moment;I)V"⟩
abbrev cX7_clear : ByteArray := prog_9_method_5_code
def yX7_clear : MethodName := ⟨RX7, "clear", "()V"⟩
abbrev cX7_findNames : ByteArray := prog_9_method_6_code
def yX7_findNames : MethodName := ⟨RX7, "findNames", "(LRegrowDesk$Moment;)V"⟩
abbrev cX7_runStatement : ByteArray := prog_9_method_7_code
def yX7_runStatement : MethodName := ⟨RX7, "runStatement", "(II)V"⟩
abbrev cX7_recordReads : ByteArray := prog_9_method_8_code
def yX7_recordReads : MethodName := ⟨RX7, "recordReads", "(III)Z"⟩
abbrev cX7_noteReads : ByteArray := prog_9_method_9_code
def yX7_noteReads : MethodName := ⟨RX7, "noteReads", "(II)V"⟩
abbrev cX7_setName : ByteArray := prog_9_method_10_code
def yX7_setName : MethodName := ⟨RX7, "setName", "(III)V"⟩
abbrev cX7_evaluate : ByteArray := prog_9_method_11_code
def yX7_evaluate : MethodName := ⟨RX7, "evaluate", "(II)V"⟩
abbrev cX7_worthAt : ByteArray := prog_9_method_12_code
def yX7_worthAt : MethodName := ⟨RX7, "worthAt", "(I)I"⟩
abbrev cX7_numberOf : ByteArray := prog_9_method_13_code
def yX7_numberOf : MethodName := ⟨RX7, "numberOf", "(I)I"⟩
abbrev cX7_sumUp : ByteArray := prog_9_method_14_code
def yX7_sumUp : MethodName := ⟨RX7, "sumUp", "()V"⟩
def RX8 : String := "RegrowDesk$Tokens"
def TX8 : u_T := fun k => match k with
  | 0 => ("RegrowDesk$Tokens", "kind", "LRegrowDesk$Row;", true)
  | 1 => ("RegrowDesk$Tokens", "start", "LRegrowDesk$Row;", true)
  | 2 => ("RegrowDesk$Tokens", "length", "LRegrowDesk$Row;", true)
  | 3 => ("RegrowDesk$Tokens", "head", "LRegrowDesk$Row;", true)
  | 4 => ("RegrowDesk$Tokens", "tail", "LRegrowDesk$Row;", true)
  | _ => ("RegrowDesk$Tokens", "many", "I", false)
def tyX8 : Nat → FieldType := fun k => match k with
  | 0 => .object "RegrowDesk$Row"
  | 1 => .object "RegrowDesk$Row"
  | 2 => .object "RegrowDesk$Row"
  | 3 => .object "RegrowDesk$Row"
  | 4 => .object "RegrowDesk$Row"
  | _ => .int
theorem nmX8 : ∀ a, a < 6 → ∀ b, b < 6 → a ≠ b → (TX8 a).2.1 ≠ (TX8 b).2.1 := by decide +kernel
theorem tyX8_ok : ∀ k, k < 6 → parseFieldDescriptor (TX8 k).2.2.1 = some (tyX8 k) := by decide +kernel
abbrev cX8_init : ByteArray := prog_10_method_1_code
def yX8_init : MethodName := ⟨RX8, "<init>", "()V"⟩
abbrev cX8_has : ByteArray := prog_10_method_2_code
def yX8_has : MethodName := ⟨RX8, "has", "(I)Z"⟩
abbrev cX8_readAll : ByteArray := prog_10_method_3_code
def yX8_readAll : MethodName := ⟨RX8, "readAll", "(LRegrowDesk$Row;I)Z"⟩
abbrev cX8_readOne : ByteArray := prog_10_method_4_code
def yX8_readOne : MethodName := ⟨RX8, "readOne", "(LRegrowDesk$Row;II)I"⟩
abbrev cX8_append : ByteArray := prog_10_method_5_code
def yX8_append : MethodName := ⟨RX8, "append", "(LRegrowDesk$Row;III)V"⟩
abbrev cX8_pack : ByteArray := prog_10_method_6_code
def yX8_pack : MethodName := ⟨RX8, "pack", "(LRegrowDesk$Row;II)I"⟩
abbrev cX8_runFrom : ByteArray := prog_10_method_7_code
def yX8_runFrom : MethodName := ⟨RX8, "runFrom", "(LRegrowDesk$Row;III)I"⟩
abbrev cX8_sameBytes : ByteArray := prog_10_method_8_code
def yX8_sameBytes : MethodName := ⟨RX8, "sameBytes", "(II)Z"⟩
abbrev cX8_copyFrom : ByteArray := prog_10_method_10_code
def yX8_copyFrom : MethodName := ⟨RX8, "copyFrom", "(LRegrowDesk$Tokens;)V"⟩
abbrev cX8_isBlank : ByteArray := prog_10_method_11_code
def yX8_isBlank : MethodName := ⟨RX8, "isBlank", "(I)Z"⟩
abbrev cX8_isLetter : ByteArray := prog_10_method_12_code
def yX8_isLetter : MethodName := ⟨RX8, "isLetter", "(I)Z"⟩
abbrev cX8_isDigit : ByteArray := prog_10_method_13_code
def yX8_isDigit : MethodName := ⟨RX8, "isDigit", "(I)Z"⟩
abbrev cX8_signOf : ByteArray := prog_10_method_14_code
def yX8_signOf : MethodName := ⟨RX8, "signOf", "(I)I"⟩
def RX9 : String := "RegrowDesk$TreeView"
def TX9 : u_T := fun k => match k with
  | 0 => ("RegrowDesk$TreeView", "nodes", "LRegrowDesk$Nodes;", true)
  | 1 => ("RegrowDesk$TreeView", "order", "LRegrowDesk$Row;", true)
  | 2 => ("RegrowDesk$TreeView", "place", "LRegrowDesk$Row;", true)
  | 3 => ("RegrowDesk$TreeView", "parentPlace", "LRegrowDesk$Row;", true)
  | 4 => ("RegrowDesk$TreeView", "firstToken", "LRegrowDesk$Row;", true)
  | 5 => ("RegrowDesk$TreeView", "depth", "LRegrowDesk$Row;", true)
  | 6 => ("RegrowDesk$TreeView", "reach", "LRegrowDesk$Row;", true)
  | 7 => ("RegrowDesk$TreeView", "waiting", "LRegrowDesk$Row;", true)
  | 8 => ("RegrowDesk$TreeView", "waitingParent", "LRegrowDesk$Row;", true)
  | 9 => ("RegrowDesk$TreeView", "ruleMany", "LRegrowDesk$Row;", true)
  | 10 => ("RegrowDesk$TreeView", "runNode", "LRegrowDesk$Row;", true)
  | 11 => ("RegrowDesk$TreeView", "runMany", "I", false)
  | 12 => ("RegrowDesk$TreeView", "size", "I", false)
  | 13 => ("RegrowDesk$TreeView", "tree", "I", false)
  | 14 => ("RegrowDesk$TreeView", "deepest", "I", false)
  | _ => ("RegrowDesk$TreeView", "firstMade", "I", false)
def tyX9 : Nat → FieldType := fun k => match k with
  | 0 => .object "RegrowDesk$Nodes"
  | 1 => .object "RegrowDesk$Row"
  | 2 => .object "RegrowDesk$Row"
  | 3 => .object "RegrowDesk$Row"
  | 4 => .object "RegrowDesk$Row"
  | 5 => .object "RegrowDesk$Row"
  | 6 => .object "RegrowDesk$Row"
  | 7 => .object "RegrowDesk$Row"
  | 8 => .object "RegrowDesk$Row"
  | 9 => .object "RegrowDesk$Row"
  | 10 => .object "RegrowDesk$Row"
  | 11 => .int
  | 12 => .int
  | 13 => .int
  | 14 => .int
  | _ => .int
theorem nmX9 : ∀ a, a < 16 → ∀ b, b < 16 → a ≠ b → (TX9 a).2.1 ≠ (TX9 b).2.1 := by decide +kernel
theorem tyX9_ok : ∀ k, k < 16 → parseFieldDescriptor (TX9 k).2.2.1 = some (tyX9 k) := by decide +kernel
abbrev cX9_init : ByteArray := prog_11_method_1_code
def yX9_init : MethodName := ⟨RX9, "<init>", "(LRegrowDesk$Nodes;)V"⟩
abbrev cX9_lookAt : ByteArray := prog_11_method_2_code
def yX9_lookAt : MethodName := ⟨RX9, "lookAt", "(LRegrowDesk$Moment;)V"⟩
abbrev cX9_layFlat : ByteArray := prog_11_method_3_code
def yX9_layFlat : MethodName := ⟨RX9, "layFlat", "()V"⟩
abbrev cX9_layNode : ByteArray := prog_11_method_4_code
def yX9_layNode : MethodName := ⟨RX9, "layNode", "(III)V"⟩
abbrev cX9_sumUp : ByteArray := prog_11_method_5_code
def yX9_sumUp : MethodName := ⟨RX9, "sumUp", "()V"⟩
abbrev cX9_findRuns : ByteArray := prog_11_method_6_code
def yX9_findRuns : MethodName := ⟨RX9, "findRuns", "()V"⟩
abbrev cX9_hasRun : ByteArray := prog_11_method_7_code
def yX9_hasRun : MethodName := ⟨RX9, "hasRun", "(I)Z"⟩
abbrev cX9_holds : ByteArray := prog_11_method_8_code
def yX9_holds : MethodName := ⟨RX9, "holds", "(I)Z"⟩
abbrev cX9_parentOf : ByteArray := prog_11_method_10_code
def yX9_parentOf : MethodName := ⟨RX9, "parentOf", "(I)I"⟩
abbrev cX9_firstOf : ByteArray := prog_11_method_11_code
def yX9_firstOf : MethodName := ⟨RX9, "firstOf", "(I)I"⟩
abbrev cX9_placeBehind : ByteArray := prog_11_method_12_code
def yX9_placeBehind : MethodName := ⟨RX9, "placeBehind", "(I)I"⟩
abbrev cX9_ruledSize : ByteArray := prog_11_method_13_code
def yX9_ruledSize : MethodName := ⟨RX9, "ruledSize", "()I"⟩
abbrev cX9_sibling : ByteArray := prog_11_method_14_code
def yX9_sibling : MethodName := ⟨RX9, "sibling", "(II)I"⟩
abbrev cX9_madeWithin : ByteArray := prog_11_method_19_code
def yX9_madeWithin : MethodName := ⟨RX9, "madeWithin", "(II)I"⟩
def RX10 : String := "RegrowDesk$Trial"
def TX10 : u_T := fun k => match k with
  | 0 => ("RegrowDesk$Trial", "states", "LRegrowDesk$Row;", true)
  | _ => ("RegrowDesk$Trial", "top", "I", false)
def tyX10 : Nat → FieldType := fun k => match k with
  | 0 => .object "RegrowDesk$Row"
  | _ => .int
theorem nmX10 : ∀ a, a < 2 → ∀ b, b < 2 → a ≠ b → (TX10 a).2.1 ≠ (TX10 b).2.1 := by decide +kernel
theorem tyX10_ok : ∀ k, k < 2 → parseFieldDescriptor (TX10 k).2.2.1 = some (tyX10 k) := by decide +kernel
abbrev cX10_init : ByteArray := prog_12_method_1_code
def yX10_init : MethodName := ⟨RX10, "<init>", "()V"⟩
abbrev cX10_begin : ByteArray := prog_12_method_2_code
def yX10_begin : MethodName := ⟨RX10, "begin", "()V"⟩
abbrev cX10_copyFrom : ByteArray := prog_12_method_3_code
def yX10_copyFrom : MethodName := ⟨RX10, "copyFrom", "(LRegrowDesk$Trial;)V"⟩
abbrev cX10_accepts : ByteArray := prog_12_method_4_code
def yX10_accepts : MethodName := ⟨RX10, "accepts", "(I)Z"⟩
abbrev cX10_acceptsFrom : ByteArray := prog_12_method_5_code
def yX10_acceptsFrom : MethodName := ⟨RX10, "acceptsFrom", "(LRegrowDesk$Tokens;I)Z"⟩
def RX11 : String := "RegrowDesk"
def TX11 : u_T := fun k => match k with
  | 0 => ("RegrowDesk", "tape", "LRegrowDesk$Row;", true)
  | 1 => ("RegrowDesk", "tapeSize", "I", false)
  | 2 => ("RegrowDesk", "moments", "[LRegrowDesk$Moment;", true)
  | 3 => ("RegrowDesk", "draft", "LRegrowDesk$Moment;", true)
  | 4 => ("RegrowDesk", "slot", "I", false)
  | 5 => ("RegrowDesk", "undoable", "I", false)
  | 6 => ("RegrowDesk", "redoable", "I", false)
  | 7 => ("RegrowDesk", "edits", "I", false)
  | 8 => ("RegrowDesk", "latest", "LRegrowDesk$Row;", true)
  | 9 => ("RegrowDesk", "nodes", "LRegrowDesk$Nodes;", true)
  | 10 => ("RegrowDesk", "view", "LRegrowDesk$TreeView;", true)
  | 11 => ("RegrowDesk", "grower", "LRegrowDesk$Grower;", true)
  | 12 => ("RegrowDesk", "runner", "LRegrowDesk$Runner;", true)
  | 13 => ("RegrowDesk", "pairs", "LRegrowDesk$Pairs;", true)
  | 14 => ("RegrowDesk", "printer", "LRegrowDesk$Printer;", true)
  | 15 => ("RegrowDesk", "adviser", "LRegrowDesk$Adviser;", true)
  | 16 => ("RegrowDesk", "printed", "LRegrowDesk$Row;", true)
  | 17 => ("RegrowDesk", "printedOther", "LRegrowDesk$Row;", true)
  | _ => ("RegrowDesk", "printedSize", "I", false)
def tyX11 : Nat → FieldType := fun k => match k with
  | 0 => .object "RegrowDesk$Row"
  | 1 => .int
  | 2 => .array (.object "RegrowDesk$Moment")
  | 3 => .object "RegrowDesk$Moment"
  | 4 => .int
  | 5 => .int
  | 6 => .int
  | 7 => .int
  | 8 => .object "RegrowDesk$Row"
  | 9 => .object "RegrowDesk$Nodes"
  | 10 => .object "RegrowDesk$TreeView"
  | 11 => .object "RegrowDesk$Grower"
  | 12 => .object "RegrowDesk$Runner"
  | 13 => .object "RegrowDesk$Pairs"
  | 14 => .object "RegrowDesk$Printer"
  | 15 => .object "RegrowDesk$Adviser"
  | 16 => .object "RegrowDesk$Row"
  | 17 => .object "RegrowDesk$Row"
  | _ => .int
theorem nmX11 : ∀ a, a < 19 → ∀ b, b < 19 → a ≠ b → (TX11 a).2.1 ≠ (TX11 b).2.1 := by decide +kernel
theorem tyX11_ok : ∀ k, k < 19 → parseFieldDescriptor (TX11 k).2.2.1 = some (tyX11 k) := by decide +kernel
abbrev cX11_init : ByteArray := prog_1_method_1_code
def yX11_init : MethodName := ⟨RX11, "<init>", "()V"⟩
abbrev cX11_feed : ByteArray := prog_1_method_2_code
def yX11_feed : MethodName := ⟨RX11, "feed", "(IIIII)I"⟩
abbrev cX11_back : ByteArray := prog_1_method_3_code
def yX11_back : MethodName := ⟨RX11, "back", "(I)I"⟩
abbrev cX11_edit : ByteArray := prog_1_method_4_code
def yX11_edit : MethodName := ⟨RX11, "edit", "(II)I"⟩
abbrev cX11_rename : ByteArray := prog_1_method_5_code
def yX11_rename : MethodName := ⟨RX11, "rename", "(I)I"⟩
abbrev cX11_cut : ByteArray := prog_1_method_6_code
def yX11_cut : MethodName := ⟨RX11, "cut", "(I)I"⟩
abbrev cX11_twin : ByteArray := prog_1_method_7_code
def yX11_twin : MethodName := ⟨RX11, "twin", "(I)I"⟩
abbrev cX11_swap : ByteArray := prog_1_method_8_code
def yX11_swap : MethodName := ⟨RX11, "swap", "(I)I"⟩
abbrev cX11_undo : ByteArray := prog_1_method_9_code
def yX11_undo : MethodName := ⟨RX11, "undo", "()Z"⟩
abbrev cX11_redo : ByteArray := prog_1_method_10_code
def yX11_redo : MethodName := ⟨RX11, "redo", "()Z"⟩
abbrev cX11_text : ByteArray := prog_1_method_11_code
def yX11_text : MethodName := ⟨RX11, "text", "(I)I"⟩
abbrev cX11_token : ByteArray := prog_1_method_12_code
def yX11_token : MethodName := ⟨RX11, "token", "(II)I"⟩
abbrev cX11_good : ByteArray := prog_1_method_13_code
def yX11_good : MethodName := ⟨RX11, "good", "(I)I"⟩
abbrev cX11_fresh : ByteArray := prog_1_method_15_code
def yX11_fresh : MethodName := ⟨RX11, "fresh", "()I"⟩
abbrev cX11_inTheWay : ByteArray := prog_1_method_16_code
def yX11_inTheWay : MethodName := ⟨RX11, "inTheWay", "(I)I"⟩
abbrev cX11_expected : ByteArray := prog_1_method_17_code
def yX11_expected : MethodName := ⟨RX11, "expected", "()I"⟩
abbrev cX11_mend : ByteArray := prog_1_method_18_code
def yX11_mend : MethodName := ⟨RX11, "mend", "(I)I"⟩
abbrev cX11_node : ByteArray := prog_1_method_19_code
def yX11_node : MethodName := ⟨RX11, "node", "(II)I"⟩
abbrev cX11_child : ByteArray := prog_1_method_20_code
def yX11_child : MethodName := ⟨RX11, "child", "(II)I"⟩
abbrev cX11_beside : ByteArray := prog_1_method_21_code
def yX11_beside : MethodName := ⟨RX11, "beside", "(I)I"⟩
abbrev cX11_before : ByteArray := prog_1_method_22_code
def yX11_before : MethodName := ⟨RX11, "before", "(I)I"⟩
abbrev cX11_span : ByteArray := prog_1_method_23_code
def yX11_span : MethodName := ⟨RX11, "span", "(II)I"⟩
abbrev cX11_print : ByteArray := prog_1_method_28_code
def yX11_print : MethodName := ⟨RX11, "print", "(I)I"⟩
abbrev cX11_runs : ByteArray := prog_1_method_31_code
def yX11_runs : MethodName := ⟨RX11, "runs", "()I"⟩
abbrev cX11_run : ByteArray := prog_1_method_32_code
def yX11_run : MethodName := ⟨RX11, "run", "(I)I"⟩
abbrev cX11_value : ByteArray := prog_1_method_36_code
def yX11_value : MethodName := ⟨RX11, "value", "(I)I"⟩
abbrev cX11_sets : ByteArray := prog_1_method_39_code
def yX11_sets : MethodName := ⟨RX11, "sets", "(I)I"⟩
abbrev cX11_idle : ByteArray := prog_1_method_40_code
def yX11_idle : MethodName := ⟨RX11, "idle", "(I)I"⟩
abbrev cX11_last : ByteArray := prog_1_method_41_code
def yX11_last : MethodName := ⟨RX11, "last", "(I)I"⟩
abbrev cX11_count : ByteArray := prog_1_method_42_code
def yX11_count : MethodName := ⟨RX11, "count", "(I)I"⟩
abbrev cX11_countInTree : ByteArray := prog_1_method_43_code
def yX11_countInTree : MethodName := ⟨RX11, "countInTree", "(I)I"⟩
abbrev cX11_change : ByteArray := prog_1_method_44_code
def yX11_change : MethodName := ⟨RX11, "change", "(Z)I"⟩
abbrev cX11_tellGrowth : ByteArray := prog_1_method_45_code
def yX11_tellGrowth : MethodName := ⟨RX11, "tellGrowth", "(I)V"⟩
abbrev cX11_layRow : ByteArray := prog_1_method_46_code
def yX11_layRow : MethodName := ⟨RX11, "layRow", "()V"⟩
abbrev cX11_tellGood : ByteArray := prog_1_method_47_code
def yX11_tellGood : MethodName := ⟨RX11, "tellGood", "(I)V"⟩
abbrev cX11_turnToNext : ByteArray := prog_1_method_48_code
def yX11_turnToNext : MethodName := ⟨RX11, "turnToNext", "()V"⟩
abbrev cX11_nextSlot : ByteArray := prog_1_method_49_code
def yX11_nextSlot : MethodName := ⟨RX11, "nextSlot", "()I"⟩
abbrev cX11_lookAt : ByteArray := prog_1_method_50_code
def yX11_lookAt : MethodName := ⟨RX11, "lookAt", "(LRegrowDesk$Moment;I)V"⟩
abbrev cX11_now : ByteArray := prog_1_method_51_code
def yX11_now : MethodName := ⟨RX11, "now", "()LRegrowDesk$Moment;"⟩
abbrev cX11_feedFour : ByteArray := prog_1_method_52_code
def yX11_feedFour : MethodName := ⟨RX11, "feedFour", "(I)V"⟩
abbrev cX11_tapeIsName : ByteArray := prog_1_method_53_code
def yX11_tapeIsName : MethodName := ⟨RX11, "tapeIsName", "()Z"⟩
abbrev cX11_isEnd : ByteArray := prog_1_method_55_code
def yX11_isEnd : MethodName := ⟨RX11, "isEnd", "(I)Z"⟩
abbrev cX11_isGoodName : ByteArray := prog_1_method_56_code
def yX11_isGoodName : MethodName := ⟨RX11, "isGoodName", "(I)Z"⟩
abbrev cX11_startOf : ByteArray := prog_1_method_57_code
def yX11_startOf : MethodName := ⟨RX11, "startOf", "(I)I"⟩
abbrev cX11_endOf : ByteArray := prog_1_method_58_code
def yX11_endOf : MethodName := ⟨RX11, "endOf", "(I)I"⟩
abbrev cX11_runStart : ByteArray := prog_1_method_59_code
def yX11_runStart : MethodName := ⟨RX11, "runStart", "(I)I"⟩
abbrev cX11_runEnd : ByteArray := prog_1_method_60_code
def yX11_runEnd : MethodName := ⟨RX11, "runEnd", "(I)I"⟩
abbrev cX11_leadsTo : ByteArray := prog_1_method_61_code
def yX11_leadsTo : MethodName := ⟨RX11, "leadsTo", "(II)I"⟩
abbrev cX11_ruleAt : ByteArray := prog_1_method_62_code
def yX11_ruleAt : MethodName := ⟨RX11, "ruleAt", "(I)I"⟩
abbrev cX11_symbolOf : ByteArray := prog_1_method_63_code
def yX11_symbolOf : MethodName := ⟨RX11, "symbolOf", "(I)I"⟩
abbrev cX11_lengthOf : ByteArray := prog_1_method_64_code
def yX11_lengthOf : MethodName := ⟨RX11, "lengthOf", "(I)I"⟩
abbrev cX11_fits : ByteArray := prog_1_method_65_code
def yX11_fits : MethodName := ⟨RX11, "fits", "(II)Z"⟩
def RL : String := "RegrowDeskLaw"
abbrev cL_sign : ByteArray := method_3_code
def yL_sign : MethodName := ⟨RL, "sign", "(LRegrowDesk;I)V"⟩
abbrev cL_with : ByteArray := method_4_code
def yL_with : MethodName := ⟨RL, "with", "([I[I)[I"⟩
abbrev cL_part : ByteArray := method_5_code
def yL_part : MethodName := ⟨RL, "part", "([III)[I"⟩
abbrev cL_drawn : ByteArray := method_6_code
def yL_drawn : MethodName := ⟨RL, "drawn", "(II)[I"⟩
abbrev cL_tape : ByteArray := method_7_code
def yL_tape : MethodName := ⟨RL, "tape", "(LRegrowDesk;[I)V"⟩
abbrev cL_letter : ByteArray := method_8_code
def yL_letter : MethodName := ⟨RL, "letter", "(I)Z"⟩
abbrev cL_digit : ByteArray := method_9_code
def yL_digit : MethodName := ⟨RL, "digit", "(I)Z"⟩
abbrev cL_cut : ByteArray := method_10_code
def yL_cut : MethodName := ⟨RL, "cut", "([I)[[I"⟩
abbrev cL_wrong : ByteArray := method_11_code
def yL_wrong : MethodName := ⟨RL, "wrong", "([I)I"⟩
abbrev cL_kinds : ByteArray := method_12_code
def yL_kinds : MethodName := ⟨RL, "kinds", "([[I)[I"⟩
abbrev cL_stands : ByteArray := method_13_code
def yL_stands : MethodName := ⟨RL, "stands", "(LRegrowDesk;)Z"⟩
abbrev cL_symbols : ByteArray := method_14_code
def yL_symbols : MethodName := ⟨RL, "symbols", "(I)[I"⟩
abbrev cL_text : ByteArray := method_15_code
def yL_text : MethodName := ⟨RL, "text", "(LRegrowDesk;)[I"⟩
abbrev cL_replaced : ByteArray := method_16_code
def yL_replaced : MethodName := ⟨RL, "replaced", "(LRegrowDesk;[I)I"⟩
abbrev cL_law : ByteArray := code
abbrev classes : List vw_C := [(RX0, TX0, 5), (RX1, TX1, 14), (RX2, TX2, 9), (RX3, TX3, 10), (RX4, TX4, 5), (RX5, TX5, 4), (RX6, TX6, 1), (RX7, TX7, 17), (RX8, TX8, 6), (RX9, TX9, 16), (RX10, TX10, 2), (RX11, TX11, 19)]
def zTb : List Cond := lw_tbl.filter goodWord
theorem zTb_good (w : Cond) (h : w ∈ zTb) : (w.onTables && w.keeps) = true ∨ ∃ ty, w = .arrayClass ty := good_of_word (List.mem_filter.mp h).2
def zT (cA : Nat → ClassId) : List (ClassId × FieldType) := [(cA 0, .int), (cA 1, .array .int), (cA 2, .object "RegrowDesk$Moment")]
theorem zp_mem {w : Cond} (hg : goodWord w = true) (h : w ∈ k2_sels lw_privs) : w ∈ zTb := List.mem_filter.mpr ⟨List.mem_append_left _ h, hg⟩
theorem zt1_mem {w : Cond} (hg : goodWord w = true) (h : w ∈ tables_1_1) : w ∈ zTb := List.mem_filter.mpr ⟨List.mem_append_right _ (show w ∈ tables_1 from (show w ∈ tables_1_1 ++ (tables_1_2 ++ (tables_1_3 ++ (tables_1_4 ++ tables_1_5))) from List.mem_append_left _ h)), hg⟩
theorem zt2_mem {w : Cond} (hg : goodWord w = true) (h : w ∈ tables_1_2) : w ∈ zTb := List.mem_filter.mpr ⟨List.mem_append_right _ (show w ∈ tables_1 from (show w ∈ tables_1_1 ++ (tables_1_2 ++ (tables_1_3 ++ (tables_1_4 ++ tables_1_5))) from List.mem_append_right _ (List.mem_append_left _ h))), hg⟩
theorem zt3_mem {w : Cond} (hg : goodWord w = true) (h : w ∈ tables_1_3) : w ∈ zTb := List.mem_filter.mpr ⟨List.mem_append_right _ (show w ∈ tables_1 from (show w ∈ tables_1_1 ++ (tables_1_2 ++ (tables_1_3 ++ (tables_1_4 ++ tables_1_5))) from List.mem_append_right _ (List.mem_append_right _ (List.mem_append_left _ h)))), hg⟩
theorem zt4_mem {w : Cond} (hg : goodWord w = true) (h : w ∈ tables_1_4) : w ∈ zTb := List.mem_filter.mpr ⟨List.mem_append_right _ (show w ∈ tables_1 from (show w ∈ tables_1_1 ++ (tables_1_2 ++ (tables_1_3 ++ (tables_1_4 ++ tables_1_5))) from List.mem_append_right _ (List.mem_append_right _ (List.mem_append_right _ (List.mem_append_left _ h))))), hg⟩
theorem zt5_mem {w : Cond} (hg : goodWord w = true) (h : w ∈ tables_1_5) : w ∈ zTb := List.mem_filter.mpr ⟨List.mem_append_right _ (show w ∈ tables_1 from (show w ∈ tables_1_1 ++ (tables_1_2 ++ (tables_1_3 ++ (tables_1_4 ++ tables_1_5))) from List.mem_append_right _ (List.mem_append_right _ (List.mem_append_right _ (List.mem_append_right _ (h)))))), hg⟩
theorem zk_in_L : Cond.initialized RL ∈ zTb := zt1_mem rfl (List.mem_of_getElem? (i := 0) rfl)
theorem zk_in_11 : Cond.initialized RX11 ∈ zTb := zt1_mem rfl (List.mem_of_getElem? (i := 1) rfl)
theorem zk_in_6 : Cond.initialized RX6 ∈ zTb := zt1_mem rfl (List.mem_of_getElem? (i := 2) rfl)
theorem zk_in_2 : Cond.initialized RX2 ∈ zTb := zt1_mem rfl (List.mem_of_getElem? (i := 3) rfl)
theorem zk_in_8 : Cond.initialized RX8 ∈ zTb := zt1_mem rfl (List.mem_of_getElem? (i := 4) rfl)
theorem zk_in_3 : Cond.initialized RX3 ∈ zTb := zt1_mem rfl (List.mem_of_getElem? (i := 5) rfl)
theorem zk_in_9 : Cond.initialized RX9 ∈ zTb := zt1_mem rfl (List.mem_of_getElem? (i := 6) rfl)
theorem zk_in_1 : Cond.initialized RX1 ∈ zTb := zt1_mem rfl (List.mem_of_getElem? (i := 7) rfl)
theorem zk_in_7 : Cond.initialized RX7 ∈ zTb := zt1_mem rfl (List.mem_of_getElem? (i := 8) rfl)
theorem zk_in_4 : Cond.initialized RX4 ∈ zTb := zt1_mem rfl (List.mem_of_getElem? (i := 9) rfl)
theorem zk_in_5 : Cond.initialized RX5 ∈ zTb := zt1_mem rfl (List.mem_of_getElem? (i := 10) rfl)
theorem zk_in_0 : Cond.initialized RX0 ∈ zTb := zt1_mem rfl (List.mem_of_getElem? (i := 11) rfl)
theorem zk_in_10 : Cond.initialized RX10 ∈ zTb := zt1_mem rfl (List.mem_of_getElem? (i := 12) rfl)
theorem zk_in_Math : Cond.initialized "java/lang/Math" ∈ zTb := zt1_mem rfl (List.mem_of_getElem? (i := 13) rfl)
theorem zk_in_System : Cond.initialized "java/lang/System" ∈ zTb := zt1_mem rfl (List.mem_of_getElem? (i := 14) rfl)
theorem zk_cl_L_8 : Cond.classLink RL 8 RX11 ∈ zTb := zt1_mem rfl (List.mem_of_getElem? (i := 15) rfl)
theorem zk_ia_11 : Cond.instantiable RX11 19 ∈ zTb := zt1_mem rfl (List.mem_of_getElem? (i := 16) rfl)
theorem zk_ml_L_81 : Cond.methodLink RL 81 yX11_init ∈ zTb := zt1_mem rfl (List.mem_of_getElem? (i := 17) rfl)
theorem zk_im_yX11_init : Cond.instanceMethod yX11_init ∈ zTb := zt1_mem rfl (List.mem_of_getElem? (i := 18) rfl)
theorem zk_cd_yX11_init : Cond.code yX11_init cX11_init 3 none ∈ zTb := zt1_mem rfl (List.mem_of_getElem? (i := 19) rfl)
theorem zk_ml_11_1 : Cond.methodLink RX11 1 objectInit ∈ zTb := zt1_mem rfl (List.mem_of_getElem? (i := 20) rfl)
theorem zk_im_obj : Cond.instanceMethod objectInit ∈ zTb := zt1_mem rfl (List.mem_of_getElem? (i := 21) rfl)
theorem zk_cd_obj : Cond.code objectInit ⟨#[0xb1]⟩ 1 none ∈ zTb := zt1_mem rfl (List.mem_of_getElem? (i := 22) rfl)
theorem zk_cl_11_7 : Cond.classLink RX11 7 RX6 ∈ zTb := zt1_mem rfl (List.mem_of_getElem? (i := 23) rfl)
theorem zk_ia_6 : Cond.instantiable RX6 1 ∈ zTb := zt1_mem rfl (List.mem_of_getElem? (i := 24) rfl)
theorem zk_ml_11_11 : Cond.methodLink RX11 11 yX6_init ∈ zTb := zt1_mem rfl (List.mem_of_getElem? (i := 25) rfl)
theorem zk_im_yX6_init : Cond.instanceMethod yX6_init ∈ zTb := zt1_mem rfl (List.mem_of_getElem? (i := 26) rfl)
theorem zk_cd_yX6_init : Cond.code yX6_init cX6_init 2 none ∈ zTb := zt1_mem rfl (List.mem_of_getElem? (i := 27) rfl)
theorem zk_ml_6_1 : Cond.methodLink RX6 1 objectInit ∈ zTb := zt1_mem rfl (List.mem_of_getElem? (i := 28) rfl)
theorem zk_fl_6_7 : Cond.fieldLink RX6 7 "RegrowDesk$Row" "cells" "[I" ∈ zTb := zt1_mem rfl (List.mem_of_getElem? (i := 29) rfl)
theorem zk_ac_int : Cond.arrayClass .int ∈ zTb := zt1_mem rfl (List.mem_of_getElem? (i := 33) rfl)
theorem zk_cl_11_18 : Cond.classLink RX11 18 RX2 ∈ zTb := zt1_mem rfl (List.mem_of_getElem? (i := 34) rfl)
theorem zk_ia_2 : Cond.instantiable RX2 9 ∈ zTb := zt1_mem rfl (List.mem_of_getElem? (i := 36) rfl)
theorem zk_im_yX2_init : Cond.instanceMethod yX2_init ∈ zTb := zt1_mem rfl (List.mem_of_getElem? (i := 38) rfl)
theorem zk_cd_yX2_init : Cond.code yX2_init cX2_init 1 none ∈ zTb := zt1_mem rfl (List.mem_of_getElem? (i := 39) rfl)
theorem zk_ml_2_3 : Cond.methodLink RX2 3 objectInit ∈ zTb := zt1_mem rfl (List.mem_of_getElem? (i := 40) rfl)
theorem zk_cl_2_9 : Cond.classLink RX2 9 RX6 ∈ zTb := zt1_mem rfl (List.mem_of_getElem? (i := 41) rfl)
theorem zk_ml_2_11 : Cond.methodLink RX2 11 yX6_init ∈ zTb := zt1_mem rfl (List.mem_of_getElem? (i := 42) rfl)
theorem zk_cl_2_20 : Cond.classLink RX2 20 RX8 ∈ zTb := zt1_mem rfl (List.mem_of_getElem? (i := 43) rfl)
theorem zk_ia_8 : Cond.instantiable RX8 6 ∈ zTb := zt1_mem rfl (List.mem_of_getElem? (i := 44) rfl)
theorem zk_im_yX8_init : Cond.instanceMethod yX8_init ∈ zTb := zt1_mem rfl (List.mem_of_getElem? (i := 46) rfl)
theorem zk_cd_yX8_init : Cond.code yX8_init cX8_init 1 none ∈ zTb := zt1_mem rfl (List.mem_of_getElem? (i := 47) rfl)
theorem zk_ml_8_3 : Cond.methodLink RX8 3 objectInit ∈ zTb := zt1_mem rfl (List.mem_of_getElem? (i := 48) rfl)
theorem zk_cl_8_9 : Cond.classLink RX8 9 RX6 ∈ zTb := zt1_mem rfl (List.mem_of_getElem? (i := 49) rfl)
theorem zk_ml_8_11 : Cond.methodLink RX8 11 yX6_init ∈ zTb := zt1_mem rfl (List.mem_of_getElem? (i := 50) rfl)
theorem zk_fl_8_14 : Cond.fieldLink RX8 14 "RegrowDesk$Tokens" "kind" "LRegrowDesk$Row;" ∈ zTb := zt1_mem rfl (List.mem_of_getElem? (i := 51) rfl)
theorem zk_fl_0_63 : Cond.fieldLink RX0 63 "RegrowDesk$Tokens" "kind" "LRegrowDesk$Row;" ∈ zTb := zt1_mem rfl (List.mem_of_getElem? (i := 52) rfl)
theorem zk_fl_10_54 : Cond.fieldLink RX10 54 "RegrowDesk$Tokens" "kind" "LRegrowDesk$Row;" ∈ zTb := zt1_mem rfl (List.mem_of_getElem? (i := 53) rfl)
theorem zk_fl_11_163 : Cond.fieldLink RX11 163 "RegrowDesk$Tokens" "kind" "LRegrowDesk$Row;" ∈ zTb := zt1_mem rfl (List.mem_of_getElem? (i := 54) rfl)
theorem zk_fl_1_102 : Cond.fieldLink RX1 102 "RegrowDesk$Tokens" "kind" "LRegrowDesk$Row;" ∈ zTb := zt1_mem rfl (List.mem_of_getElem? (i := 55) rfl)
theorem zk_fl_3_69 : Cond.fieldLink RX3 69 "RegrowDesk$Tokens" "kind" "LRegrowDesk$Row;" ∈ zTb := zt1_mem rfl (List.mem_of_getElem? (i := 56) rfl)
theorem zk_fl_8_20 : Cond.fieldLink RX8 20 "RegrowDesk$Tokens" "start" "LRegrowDesk$Row;" ∈ zTb := zt1_mem rfl (List.mem_of_getElem? (i := 57) rfl)
theorem zk_fl_2_58 : Cond.fieldLink RX2 58 "RegrowDesk$Tokens" "start" "LRegrowDesk$Row;" ∈ zTb := zt1_mem rfl (List.mem_of_getElem? (i := 58) rfl)
theorem zk_fl_11_181 : Cond.fieldLink RX11 181 "RegrowDesk$Tokens" "start" "LRegrowDesk$Row;" ∈ zTb := zt1_mem rfl (List.mem_of_getElem? (i := 59) rfl)
theorem zk_fl_8_23 : Cond.fieldLink RX8 23 "RegrowDesk$Tokens" "length" "LRegrowDesk$Row;" ∈ zTb := zt1_mem rfl (List.mem_of_getElem? (i := 60) rfl)
theorem zk_fl_1_105 : Cond.fieldLink RX1 105 "RegrowDesk$Tokens" "length" "LRegrowDesk$Row;" ∈ zTb := zt1_mem rfl (List.mem_of_getElem? (i := 61) rfl)
theorem zk_fl_11_184 : Cond.fieldLink RX11 184 "RegrowDesk$Tokens" "length" "LRegrowDesk$Row;" ∈ zTb := zt1_mem rfl (List.mem_of_getElem? (i := 62) rfl)
theorem zk_fl_3_74 : Cond.fieldLink RX3 74 "RegrowDesk$Tokens" "length" "LRegrowDesk$Row;" ∈ zTb := zt1_mem rfl (List.mem_of_getElem? (i := 63) rfl)
theorem zk_fl_8_26 : Cond.fieldLink RX8 26 "RegrowDesk$Tokens" "head" "LRegrowDesk$Row;" ∈ zTb := zt1_mem rfl (List.mem_of_getElem? (i := 64) rfl)
theorem zk_fl_1_108 : Cond.fieldLink RX1 108 "RegrowDesk$Tokens" "head" "LRegrowDesk$Row;" ∈ zTb := zt1_mem rfl (List.mem_of_getElem? (i := 65) rfl)
theorem zk_fl_3_75 : Cond.fieldLink RX3 75 "RegrowDesk$Tokens" "head" "LRegrowDesk$Row;" ∈ zTb := zt1_mem rfl (List.mem_of_getElem? (i := 66) rfl)
theorem zk_fl_8_29 : Cond.fieldLink RX8 29 "RegrowDesk$Tokens" "tail" "LRegrowDesk$Row;" ∈ zTb := zt1_mem rfl (List.mem_of_getElem? (i := 67) rfl)
theorem zk_fl_1_111 : Cond.fieldLink RX1 111 "RegrowDesk$Tokens" "tail" "LRegrowDesk$Row;" ∈ zTb := zt1_mem rfl (List.mem_of_getElem? (i := 68) rfl)
theorem zk_fl_3_76 : Cond.fieldLink RX3 76 "RegrowDesk$Tokens" "tail" "LRegrowDesk$Row;" ∈ zTb := zt1_mem rfl (List.mem_of_getElem? (i := 69) rfl)
theorem zk_fl_8_32 : Cond.fieldLink RX8 32 "RegrowDesk$Tokens" "many" "I" ∈ zTb := zt1_mem rfl (List.mem_of_getElem? (i := 70) rfl)
theorem zk_fl_0_38 : Cond.fieldLink RX0 38 "RegrowDesk$Tokens" "many" "I" ∈ zTb := zt1_mem rfl (List.mem_of_getElem? (i := 71) rfl)
theorem zk_fl_1_51 : Cond.fieldLink RX1 51 "RegrowDesk$Tokens" "many" "I" ∈ zTb := zt1_mem rfl (List.mem_of_getElem? (i := 72) rfl)
theorem zk_fl_2_55 : Cond.fieldLink RX2 55 "RegrowDesk$Tokens" "many" "I" ∈ zTb := zt1_mem rfl (List.mem_of_getElem? (i := 73) rfl)
theorem zk_fl_10_49 : Cond.fieldLink RX10 49 "RegrowDesk$Tokens" "many" "I" ∈ zTb := zt1_mem rfl (List.mem_of_getElem? (i := 74) rfl)
theorem zk_fl_11_174 : Cond.fieldLink RX11 174 "RegrowDesk$Tokens" "many" "I" ∈ zTb := zt1_mem rfl (List.mem_of_getElem? (i := 75) rfl)
theorem zk_fl_2_14 : Cond.fieldLink RX2 14 "RegrowDesk$Moment" "text" "LRegrowDesk$Row;" ∈ zTb := zt1_mem rfl (List.mem_of_getElem? (i := 89) rfl)
theorem zk_fl_11_103 : Cond.fieldLink RX11 103 "RegrowDesk$Moment" "text" "LRegrowDesk$Row;" ∈ zTb := zt1_mem rfl (List.mem_of_getElem? (i := 90) rfl)
theorem zk_fl_2_37 : Cond.fieldLink RX2 37 "RegrowDesk$Moment" "size" "I" ∈ zTb := zt1_mem rfl (List.mem_of_getElem? (i := 91) rfl)
theorem zk_fl_11_144 : Cond.fieldLink RX11 144 "RegrowDesk$Moment" "size" "I" ∈ zTb := zt1_mem rfl (List.mem_of_getElem? (i := 92) rfl)
theorem zk_fl_2_23 : Cond.fieldLink RX2 23 "RegrowDesk$Moment" "tokens" "LRegrowDesk$Tokens;" ∈ zTb := zt1_mem rfl (List.mem_of_getElem? (i := 93) rfl)
theorem zk_fl_11_99 : Cond.fieldLink RX11 99 "RegrowDesk$Moment" "tokens" "LRegrowDesk$Tokens;" ∈ zTb := zt1_mem rfl (List.mem_of_getElem? (i := 94) rfl)
theorem zk_fl_1_47 : Cond.fieldLink RX1 47 "RegrowDesk$Moment" "tokens" "LRegrowDesk$Tokens;" ∈ zTb := zt1_mem rfl (List.mem_of_getElem? (i := 95) rfl)
theorem zk_fl_2_48 : Cond.fieldLink RX2 48 "RegrowDesk$Moment" "good" "Z" ∈ zTb := zt1_mem rfl (List.mem_of_getElem? (i := 96) rfl)
theorem zk_fl_11_155 : Cond.fieldLink RX11 155 "RegrowDesk$Moment" "good" "Z" ∈ zTb := zt1_mem rfl (List.mem_of_getElem? (i := 97) rfl)
theorem zk_fl_2_27 : Cond.fieldLink RX2 27 "RegrowDesk$Moment" "goodNode" "LRegrowDesk$Row;" ∈ zTb := zt1_mem rfl (List.mem_of_getElem? (i := 98) rfl)
theorem zk_fl_11_115 : Cond.fieldLink RX11 115 "RegrowDesk$Moment" "goodNode" "LRegrowDesk$Row;" ∈ zTb := zt1_mem rfl (List.mem_of_getElem? (i := 99) rfl)
theorem zk_fl_1_80 : Cond.fieldLink RX1 80 "RegrowDesk$Moment" "goodNode" "LRegrowDesk$Row;" ∈ zTb := zt1_mem rfl (List.mem_of_getElem? (i := 100) rfl)
theorem zk_fl_7_104 : Cond.fieldLink RX7 104 "RegrowDesk$Moment" "goodNode" "LRegrowDesk$Row;" ∈ zTb := zt1_mem rfl (List.mem_of_getElem? (i := 101) rfl)
theorem zk_fl_2_30 : Cond.fieldLink RX2 30 "RegrowDesk$Moment" "goodStart" "LRegrowDesk$Row;" ∈ zTb := zt1_mem rfl (List.mem_of_getElem? (i := 102) rfl)
theorem zk_fl_11_442 : Cond.fieldLink RX11 442 "RegrowDesk$Moment" "goodStart" "LRegrowDesk$Row;" ∈ zTb := zt1_mem rfl (List.mem_of_getElem? (i := 103) rfl)
theorem zk_fl_2_33 : Cond.fieldLink RX2 33 "RegrowDesk$Moment" "goodMany" "I" ∈ zTb := zt1_mem rfl (List.mem_of_getElem? (i := 104) rfl)
theorem zk_fl_1_39 : Cond.fieldLink RX1 39 "RegrowDesk$Moment" "goodMany" "I" ∈ zTb := zt1_mem rfl (List.mem_of_getElem? (i := 105) rfl)
theorem zk_fl_7_99 : Cond.fieldLink RX7 99 "RegrowDesk$Moment" "goodMany" "I" ∈ zTb := zt1_mem rfl (List.mem_of_getElem? (i := 106) rfl)
theorem zk_fl_11_260 : Cond.fieldLink RX11 260 "RegrowDesk$Moment" "goodMany" "I" ∈ zTb := zt1_mem rfl (List.mem_of_getElem? (i := 107) rfl)
theorem zk_fl_9_51 : Cond.fieldLink RX9 51 "RegrowDesk$Moment" "tree" "I" ∈ zTb := zt1_mem rfl (List.mem_of_getElem? (i := 108) rfl)
theorem zk_fl_2_52 : Cond.fieldLink RX2 52 "RegrowDesk$Moment" "tree" "I" ∈ zTb := zt1_mem rfl (List.mem_of_getElem? (i := 109) rfl)
theorem zk_fl_11_352 : Cond.fieldLink RX11 352 "RegrowDesk$Moment" "tree" "I" ∈ zTb := zt1_mem rfl (List.mem_of_getElem? (i := 110) rfl)
theorem zk_fl_11_122 : Cond.fieldLink RX11 122 "RegrowDesk$Moment" "row" "I" ∈ zTb := zt1_mem rfl (List.mem_of_getElem? (i := 111) rfl)
theorem zk_fl_2_65 : Cond.fieldLink RX2 65 "RegrowDesk$Moment" "row" "I" ∈ zTb := zt1_mem rfl (List.mem_of_getElem? (i := 112) rfl)
theorem zk_cl_11_32 : Cond.classLink RX11 32 RX3 ∈ zTb := zt1_mem rfl (List.mem_of_getElem? (i := 132) rfl)
theorem zk_ia_3 : Cond.instantiable RX3 10 ∈ zTb := zt1_mem rfl (List.mem_of_getElem? (i := 133) rfl)
theorem zk_im_yX3_init : Cond.instanceMethod yX3_init ∈ zTb := zt1_mem rfl (List.mem_of_getElem? (i := 135) rfl)
theorem zk_cd_yX3_init : Cond.code yX3_init cX3_init 1 none ∈ zTb := zt1_mem rfl (List.mem_of_getElem? (i := 136) rfl)
theorem zk_ml_3_3 : Cond.methodLink RX3 3 objectInit ∈ zTb := zt1_mem rfl (List.mem_of_getElem? (i := 137) rfl)
theorem zk_cl_3_9 : Cond.classLink RX3 9 RX6 ∈ zTb := zt1_mem rfl (List.mem_of_getElem? (i := 138) rfl)
theorem zk_ml_3_11 : Cond.methodLink RX3 11 yX6_init ∈ zTb := zt1_mem rfl (List.mem_of_getElem? (i := 139) rfl)
theorem zk_fl_3_14 : Cond.fieldLink RX3 14 "RegrowDesk$Nodes" "rule" "LRegrowDesk$Row;" ∈ zTb := zt1_mem rfl (List.mem_of_getElem? (i := 140) rfl)
theorem zk_fl_5_54 : Cond.fieldLink RX5 54 "RegrowDesk$Nodes" "rule" "LRegrowDesk$Row;" ∈ zTb := zt1_mem rfl (List.mem_of_getElem? (i := 141) rfl)
theorem zk_fl_7_69 : Cond.fieldLink RX7 69 "RegrowDesk$Nodes" "rule" "LRegrowDesk$Row;" ∈ zTb := zt1_mem rfl (List.mem_of_getElem? (i := 142) rfl)
theorem zk_fl_9_110 : Cond.fieldLink RX9 110 "RegrowDesk$Nodes" "rule" "LRegrowDesk$Row;" ∈ zTb := zt1_mem rfl (List.mem_of_getElem? (i := 143) rfl)
theorem zk_fl_11_234 : Cond.fieldLink RX11 234 "RegrowDesk$Nodes" "rule" "LRegrowDesk$Row;" ∈ zTb := zt1_mem rfl (List.mem_of_getElem? (i := 144) rfl)
theorem zk_fl_3_20 : Cond.fieldLink RX3 20 "RegrowDesk$Nodes" "symbol" "LRegrowDesk$Row;" ∈ zTb := zt1_mem rfl (List.mem_of_getElem? (i := 145) rfl)
theorem zk_fl_9_124 : Cond.fieldLink RX9 124 "RegrowDesk$Nodes" "symbol" "LRegrowDesk$Row;" ∈ zTb := zt1_mem rfl (List.mem_of_getElem? (i := 146) rfl)
theorem zk_fl_1_157 : Cond.fieldLink RX1 157 "RegrowDesk$Nodes" "symbol" "LRegrowDesk$Row;" ∈ zTb := zt1_mem rfl (List.mem_of_getElem? (i := 147) rfl)
theorem zk_fl_11_237 : Cond.fieldLink RX11 237 "RegrowDesk$Nodes" "symbol" "LRegrowDesk$Row;" ∈ zTb := zt1_mem rfl (List.mem_of_getElem? (i := 148) rfl)
theorem zk_fl_3_23 : Cond.fieldLink RX3 23 "RegrowDesk$Nodes" "state" "LRegrowDesk$Row;" ∈ zTb := zt1_mem rfl (List.mem_of_getElem? (i := 149) rfl)
theorem zk_fl_1_148 : Cond.fieldLink RX1 148 "RegrowDesk$Nodes" "state" "LRegrowDesk$Row;" ∈ zTb := zt1_mem rfl (List.mem_of_getElem? (i := 150) rfl)
theorem zk_fl_11_243 : Cond.fieldLink RX11 243 "RegrowDesk$Nodes" "state" "LRegrowDesk$Row;" ∈ zTb := zt1_mem rfl (List.mem_of_getElem? (i := 151) rfl)
theorem zk_fl_3_26 : Cond.fieldLink RX3 26 "RegrowDesk$Nodes" "tokens" "LRegrowDesk$Row;" ∈ zTb := zt1_mem rfl (List.mem_of_getElem? (i := 152) rfl)
theorem zk_fl_9_95 : Cond.fieldLink RX9 95 "RegrowDesk$Nodes" "tokens" "LRegrowDesk$Row;" ∈ zTb := zt1_mem rfl (List.mem_of_getElem? (i := 153) rfl)
theorem zk_fl_1_151 : Cond.fieldLink RX1 151 "RegrowDesk$Nodes" "tokens" "LRegrowDesk$Row;" ∈ zTb := zt1_mem rfl (List.mem_of_getElem? (i := 154) rfl)
theorem zk_fl_11_246 : Cond.fieldLink RX11 246 "RegrowDesk$Nodes" "tokens" "LRegrowDesk$Row;" ∈ zTb := zt1_mem rfl (List.mem_of_getElem? (i := 155) rfl)
theorem zk_fl_3_29 : Cond.fieldLink RX3 29 "RegrowDesk$Nodes" "madeBy" "LRegrowDesk$Row;" ∈ zTb := zt1_mem rfl (List.mem_of_getElem? (i := 156) rfl)
theorem zk_fl_7_121 : Cond.fieldLink RX7 121 "RegrowDesk$Nodes" "madeBy" "LRegrowDesk$Row;" ∈ zTb := zt1_mem rfl (List.mem_of_getElem? (i := 157) rfl)
theorem zk_fl_9_142 : Cond.fieldLink RX9 142 "RegrowDesk$Nodes" "madeBy" "LRegrowDesk$Row;" ∈ zTb := zt1_mem rfl (List.mem_of_getElem? (i := 158) rfl)
theorem zk_fl_11_248 : Cond.fieldLink RX11 248 "RegrowDesk$Nodes" "madeBy" "LRegrowDesk$Row;" ∈ zTb := zt1_mem rfl (List.mem_of_getElem? (i := 159) rfl)
theorem zk_fl_3_32 : Cond.fieldLink RX3 32 "RegrowDesk$Nodes" "length" "LRegrowDesk$Row;" ∈ zTb := zt1_mem rfl (List.mem_of_getElem? (i := 160) rfl)
theorem zk_fl_5_68 : Cond.fieldLink RX5 68 "RegrowDesk$Nodes" "length" "LRegrowDesk$Row;" ∈ zTb := zt1_mem rfl (List.mem_of_getElem? (i := 161) rfl)
theorem zk_fl_11_445 : Cond.fieldLink RX11 445 "RegrowDesk$Nodes" "length" "LRegrowDesk$Row;" ∈ zTb := zt1_mem rfl (List.mem_of_getElem? (i := 162) rfl)
theorem zk_fl_3_35 : Cond.fieldLink RX3 35 "RegrowDesk$Nodes" "head" "LRegrowDesk$Row;" ∈ zTb := zt1_mem rfl (List.mem_of_getElem? (i := 163) rfl)
theorem zk_fl_7_152 : Cond.fieldLink RX7 152 "RegrowDesk$Nodes" "head" "LRegrowDesk$Row;" ∈ zTb := zt1_mem rfl (List.mem_of_getElem? (i := 164) rfl)
theorem zk_fl_3_38 : Cond.fieldLink RX3 38 "RegrowDesk$Nodes" "tail" "LRegrowDesk$Row;" ∈ zTb := zt1_mem rfl (List.mem_of_getElem? (i := 165) rfl)
theorem zk_fl_3_41 : Cond.fieldLink RX3 41 "RegrowDesk$Nodes" "children" "LRegrowDesk$Row;" ∈ zTb := zt1_mem rfl (List.mem_of_getElem? (i := 166) rfl)
theorem zk_fl_3_44 : Cond.fieldLink RX3 44 "RegrowDesk$Nodes" "many" "I" ∈ zTb := zt1_mem rfl (List.mem_of_getElem? (i := 167) rfl)
theorem zk_fl_11_355 : Cond.fieldLink RX11 355 "RegrowDesk$Nodes" "many" "I" ∈ zTb := zt1_mem rfl (List.mem_of_getElem? (i := 168) rfl)
theorem zk_cl_11_39 : Cond.classLink RX11 39 RX9 ∈ zTb := zt1_mem rfl (List.mem_of_getElem? (i := 190) rfl)
theorem zk_ia_9 : Cond.instantiable RX9 16 ∈ zTb := zt1_mem rfl (List.mem_of_getElem? (i := 191) rfl)
theorem zk_ml_11_41 : Cond.methodLink RX11 41 yX9_init ∈ zTb := zt1_mem rfl (List.mem_of_getElem? (i := 192) rfl)
theorem zk_im_yX9_init : Cond.instanceMethod yX9_init ∈ zTb := zt1_mem rfl (List.mem_of_getElem? (i := 193) rfl)
theorem zk_cd_yX9_init : Cond.code yX9_init cX9_init 2 none ∈ zTb := zt1_mem rfl (List.mem_of_getElem? (i := 194) rfl)
theorem zk_ml_9_3 : Cond.methodLink RX9 3 objectInit ∈ zTb := zt1_mem rfl (List.mem_of_getElem? (i := 195) rfl)
theorem zk_cl_9_9 : Cond.classLink RX9 9 RX6 ∈ zTb := zt1_mem rfl (List.mem_of_getElem? (i := 196) rfl)
theorem zk_ml_9_11 : Cond.methodLink RX9 11 yX6_init ∈ zTb := zt1_mem rfl (List.mem_of_getElem? (i := 197) rfl)
theorem zk_fl_9_47 : Cond.fieldLink RX9 47 "RegrowDesk$TreeView" "nodes" "LRegrowDesk$Nodes;" ∈ zTb := zt1_mem rfl (List.mem_of_getElem? (i := 198) rfl)
theorem zk_fl_9_14 : Cond.fieldLink RX9 14 "RegrowDesk$TreeView" "order" "LRegrowDesk$Row;" ∈ zTb := zt1_mem rfl (List.mem_of_getElem? (i := 199) rfl)
theorem zk_fl_7_74 : Cond.fieldLink RX7 74 "RegrowDesk$TreeView" "order" "LRegrowDesk$Row;" ∈ zTb := zt1_mem rfl (List.mem_of_getElem? (i := 200) rfl)
theorem zk_fl_11_346 : Cond.fieldLink RX11 346 "RegrowDesk$TreeView" "order" "LRegrowDesk$Row;" ∈ zTb := zt1_mem rfl (List.mem_of_getElem? (i := 201) rfl)
theorem zk_fl_9_20 : Cond.fieldLink RX9 20 "RegrowDesk$TreeView" "place" "LRegrowDesk$Row;" ∈ zTb := zt1_mem rfl (List.mem_of_getElem? (i := 202) rfl)
theorem zk_fl_9_23 : Cond.fieldLink RX9 23 "RegrowDesk$TreeView" "parentPlace" "LRegrowDesk$Row;" ∈ zTb := zt1_mem rfl (List.mem_of_getElem? (i := 203) rfl)
theorem zk_fl_9_26 : Cond.fieldLink RX9 26 "RegrowDesk$TreeView" "firstToken" "LRegrowDesk$Row;" ∈ zTb := zt1_mem rfl (List.mem_of_getElem? (i := 204) rfl)
theorem zk_fl_7_127 : Cond.fieldLink RX7 127 "RegrowDesk$TreeView" "firstToken" "LRegrowDesk$Row;" ∈ zTb := zt1_mem rfl (List.mem_of_getElem? (i := 205) rfl)
theorem zk_fl_9_29 : Cond.fieldLink RX9 29 "RegrowDesk$TreeView" "depth" "LRegrowDesk$Row;" ∈ zTb := zt1_mem rfl (List.mem_of_getElem? (i := 206) rfl)
theorem zk_fl_9_32 : Cond.fieldLink RX9 32 "RegrowDesk$TreeView" "reach" "LRegrowDesk$Row;" ∈ zTb := zt1_mem rfl (List.mem_of_getElem? (i := 207) rfl)
theorem zk_fl_7_114 : Cond.fieldLink RX7 114 "RegrowDesk$TreeView" "reach" "LRegrowDesk$Row;" ∈ zTb := zt1_mem rfl (List.mem_of_getElem? (i := 208) rfl)
theorem zk_fl_9_35 : Cond.fieldLink RX9 35 "RegrowDesk$TreeView" "waiting" "LRegrowDesk$Row;" ∈ zTb := zt1_mem rfl (List.mem_of_getElem? (i := 209) rfl)
theorem zk_fl_9_38 : Cond.fieldLink RX9 38 "RegrowDesk$TreeView" "waitingParent" "LRegrowDesk$Row;" ∈ zTb := zt1_mem rfl (List.mem_of_getElem? (i := 210) rfl)
theorem zk_fl_9_41 : Cond.fieldLink RX9 41 "RegrowDesk$TreeView" "ruleMany" "LRegrowDesk$Row;" ∈ zTb := zt1_mem rfl (List.mem_of_getElem? (i := 211) rfl)
theorem zk_fl_11_279 : Cond.fieldLink RX11 279 "RegrowDesk$TreeView" "ruleMany" "LRegrowDesk$Row;" ∈ zTb := zt1_mem rfl (List.mem_of_getElem? (i := 212) rfl)
theorem zk_fl_9_44 : Cond.fieldLink RX9 44 "RegrowDesk$TreeView" "runNode" "LRegrowDesk$Row;" ∈ zTb := zt1_mem rfl (List.mem_of_getElem? (i := 213) rfl)
theorem zk_fl_11_306 : Cond.fieldLink RX11 306 "RegrowDesk$TreeView" "runNode" "LRegrowDesk$Row;" ∈ zTb := zt1_mem rfl (List.mem_of_getElem? (i := 214) rfl)
theorem zk_fl_9_121 : Cond.fieldLink RX9 121 "RegrowDesk$TreeView" "runMany" "I" ∈ zTb := zt1_mem rfl (List.mem_of_getElem? (i := 215) rfl)
theorem zk_fl_11_303 : Cond.fieldLink RX11 303 "RegrowDesk$TreeView" "runMany" "I" ∈ zTb := zt1_mem rfl (List.mem_of_getElem? (i := 216) rfl)
theorem zk_fl_9_67 : Cond.fieldLink RX9 67 "RegrowDesk$TreeView" "size" "I" ∈ zTb := zt1_mem rfl (List.mem_of_getElem? (i := 217) rfl)
theorem zk_fl_7_63 : Cond.fieldLink RX7 63 "RegrowDesk$TreeView" "size" "I" ∈ zTb := zt1_mem rfl (List.mem_of_getElem? (i := 218) rfl)
theorem zk_fl_11_215 : Cond.fieldLink RX11 215 "RegrowDesk$TreeView" "size" "I" ∈ zTb := zt1_mem rfl (List.mem_of_getElem? (i := 219) rfl)
theorem zk_fl_9_57 : Cond.fieldLink RX9 57 "RegrowDesk$TreeView" "tree" "I" ∈ zTb := zt1_mem rfl (List.mem_of_getElem? (i := 220) rfl)
theorem zk_fl_11_368 : Cond.fieldLink RX11 368 "RegrowDesk$TreeView" "tree" "I" ∈ zTb := zt1_mem rfl (List.mem_of_getElem? (i := 221) rfl)
theorem zk_fl_9_101 : Cond.fieldLink RX9 101 "RegrowDesk$TreeView" "deepest" "I" ∈ zTb := zt1_mem rfl (List.mem_of_getElem? (i := 222) rfl)
theorem zk_fl_11_359 : Cond.fieldLink RX11 359 "RegrowDesk$TreeView" "deepest" "I" ∈ zTb := zt1_mem rfl (List.mem_of_getElem? (i := 223) rfl)
theorem zk_fl_9_104 : Cond.fieldLink RX9 104 "RegrowDesk$TreeView" "firstMade" "I" ∈ zTb := zt1_mem rfl (List.mem_of_getElem? (i := 224) rfl)
theorem zk_fl_11_369 : Cond.fieldLink RX11 369 "RegrowDesk$TreeView" "firstMade" "I" ∈ zTb := zt1_mem rfl (List.mem_of_getElem? (i := 225) rfl)
theorem zk_cl_11_48 : Cond.classLink RX11 48 RX1 ∈ zTb := zt2_mem rfl (List.mem_of_getElem? (i := 19) rfl)
theorem zk_ia_1 : Cond.instantiable RX1 14 ∈ zTb := zt2_mem rfl (List.mem_of_getElem? (i := 20) rfl)
theorem zk_ml_11_50 : Cond.methodLink RX11 50 yX1_init ∈ zTb := zt2_mem rfl (List.mem_of_getElem? (i := 21) rfl)
theorem zk_im_yX1_init : Cond.instanceMethod yX1_init ∈ zTb := zt2_mem rfl (List.mem_of_getElem? (i := 22) rfl)
theorem zk_cd_yX1_init : Cond.code yX1_init cX1_init 3 none ∈ zTb := zt2_mem rfl (List.mem_of_getElem? (i := 23) rfl)
theorem zk_ml_1_3 : Cond.methodLink RX1 3 objectInit ∈ zTb := zt2_mem rfl (List.mem_of_getElem? (i := 24) rfl)
theorem zk_cl_1_9 : Cond.classLink RX1 9 RX6 ∈ zTb := zt2_mem rfl (List.mem_of_getElem? (i := 25) rfl)
theorem zk_ml_1_11 : Cond.methodLink RX1 11 yX6_init ∈ zTb := zt2_mem rfl (List.mem_of_getElem? (i := 26) rfl)
theorem zk_fl_1_23 : Cond.fieldLink RX1 23 "RegrowDesk$Grower" "nodes" "LRegrowDesk$Nodes;" ∈ zTb := zt2_mem rfl (List.mem_of_getElem? (i := 27) rfl)
theorem zk_fl_1_27 : Cond.fieldLink RX1 27 "RegrowDesk$Grower" "view" "LRegrowDesk$TreeView;" ∈ zTb := zt2_mem rfl (List.mem_of_getElem? (i := 28) rfl)
theorem zk_fl_1_14 : Cond.fieldLink RX1 14 "RegrowDesk$Grower" "states" "LRegrowDesk$Row;" ∈ zTb := zt2_mem rfl (List.mem_of_getElem? (i := 29) rfl)
theorem zk_fl_1_20 : Cond.fieldLink RX1 20 "RegrowDesk$Grower" "stack" "LRegrowDesk$Row;" ∈ zTb := zt2_mem rfl (List.mem_of_getElem? (i := 30) rfl)
theorem zk_fl_1_31 : Cond.fieldLink RX1 31 "RegrowDesk$Grower" "top" "I" ∈ zTb := zt2_mem rfl (List.mem_of_getElem? (i := 31) rfl)
theorem zk_fl_1_44 : Cond.fieldLink RX1 44 "RegrowDesk$Grower" "oldMany" "I" ∈ zTb := zt2_mem rfl (List.mem_of_getElem? (i := 32) rfl)
theorem zk_fl_1_56 : Cond.fieldLink RX1 56 "RegrowDesk$Grower" "newMany" "I" ∈ zTb := zt2_mem rfl (List.mem_of_getElem? (i := 33) rfl)
theorem zk_fl_1_77 : Cond.fieldLink RX1 77 "RegrowDesk$Grower" "ahead" "I" ∈ zTb := zt2_mem rfl (List.mem_of_getElem? (i := 34) rfl)
theorem zk_fl_11_397 : Cond.fieldLink RX11 397 "RegrowDesk$Grower" "ahead" "I" ∈ zTb := zt2_mem rfl (List.mem_of_getElem? (i := 35) rfl)
theorem zk_fl_1_89 : Cond.fieldLink RX1 89 "RegrowDesk$Grower" "behind" "I" ∈ zTb := zt2_mem rfl (List.mem_of_getElem? (i := 36) rfl)
theorem zk_fl_11_400 : Cond.fieldLink RX11 400 "RegrowDesk$Grower" "behind" "I" ∈ zTb := zt2_mem rfl (List.mem_of_getElem? (i := 37) rfl)
theorem zk_fl_1_92 : Cond.fieldLink RX1 92 "RegrowDesk$Grower" "tokensMade" "I" ∈ zTb := zt2_mem rfl (List.mem_of_getElem? (i := 38) rfl)
theorem zk_fl_11_412 : Cond.fieldLink RX11 412 "RegrowDesk$Grower" "tokensMade" "I" ∈ zTb := zt2_mem rfl (List.mem_of_getElem? (i := 39) rfl)
theorem zk_fl_1_118 : Cond.fieldLink RX1 118 "RegrowDesk$Grower" "ruledMade" "I" ∈ zTb := zt2_mem rfl (List.mem_of_getElem? (i := 40) rfl)
theorem zk_fl_11_419 : Cond.fieldLink RX11 419 "RegrowDesk$Grower" "ruledMade" "I" ∈ zTb := zt2_mem rfl (List.mem_of_getElem? (i := 41) rfl)
theorem zk_fl_1_121 : Cond.fieldLink RX1 121 "RegrowDesk$Grower" "taken" "I" ∈ zTb := zt2_mem rfl (List.mem_of_getElem? (i := 42) rfl)
theorem zk_fl_11_403 : Cond.fieldLink RX11 403 "RegrowDesk$Grower" "taken" "I" ∈ zTb := zt2_mem rfl (List.mem_of_getElem? (i := 43) rfl)
theorem zk_fl_1_124 : Cond.fieldLink RX1 124 "RegrowDesk$Grower" "steps" "I" ∈ zTb := zt2_mem rfl (List.mem_of_getElem? (i := 44) rfl)
theorem zk_fl_11_406 : Cond.fieldLink RX11 406 "RegrowDesk$Grower" "steps" "I" ∈ zTb := zt2_mem rfl (List.mem_of_getElem? (i := 45) rfl)
theorem zk_fl_1_127 : Cond.fieldLink RX1 127 "RegrowDesk$Grower" "wrong" "I" ∈ zTb := zt2_mem rfl (List.mem_of_getElem? (i := 46) rfl)
theorem zk_fl_11_409 : Cond.fieldLink RX11 409 "RegrowDesk$Grower" "wrong" "I" ∈ zTb := zt2_mem rfl (List.mem_of_getElem? (i := 47) rfl)
theorem zk_cl_11_57 : Cond.classLink RX11 57 RX7 ∈ zTb := zt2_mem rfl (List.mem_of_getElem? (i := 77) rfl)
theorem zk_ia_7 : Cond.instantiable RX7 17 ∈ zTb := zt2_mem rfl (List.mem_of_getElem? (i := 78) rfl)
theorem zk_ml_11_59 : Cond.methodLink RX11 59 yX7_init ∈ zTb := zt2_mem rfl (List.mem_of_getElem? (i := 79) rfl)
theorem zk_im_yX7_init : Cond.instanceMethod yX7_init ∈ zTb := zt2_mem rfl (List.mem_of_getElem? (i := 80) rfl)
theorem zk_cd_yX7_init : Cond.code yX7_init cX7_init 3 none ∈ zTb := zt2_mem rfl (List.mem_of_getElem? (i := 81) rfl)
theorem zk_ml_7_3 : Cond.methodLink RX7 3 objectInit ∈ zTb := zt2_mem rfl (List.mem_of_getElem? (i := 82) rfl)
theorem zk_cl_7_9 : Cond.classLink RX7 9 RX6 ∈ zTb := zt2_mem rfl (List.mem_of_getElem? (i := 83) rfl)
theorem zk_ml_7_11 : Cond.methodLink RX7 11 yX6_init ∈ zTb := zt2_mem rfl (List.mem_of_getElem? (i := 84) rfl)
theorem zk_fl_7_44 : Cond.fieldLink RX7 44 "RegrowDesk$Runner" "nodes" "LRegrowDesk$Nodes;" ∈ zTb := zt2_mem rfl (List.mem_of_getElem? (i := 85) rfl)
theorem zk_fl_7_48 : Cond.fieldLink RX7 48 "RegrowDesk$Runner" "view" "LRegrowDesk$TreeView;" ∈ zTb := zt2_mem rfl (List.mem_of_getElem? (i := 86) rfl)
theorem zk_fl_7_14 : Cond.fieldLink RX7 14 "RegrowDesk$Runner" "nameOf" "LRegrowDesk$Row;" ∈ zTb := zt2_mem rfl (List.mem_of_getElem? (i := 87) rfl)
theorem zk_fl_7_20 : Cond.fieldLink RX7 20 "RegrowDesk$Runner" "values" "LRegrowDesk$Row;" ∈ zTb := zt2_mem rfl (List.mem_of_getElem? (i := 88) rfl)
theorem zk_fl_7_23 : Cond.fieldLink RX7 23 "RegrowDesk$Runner" "setTimes" "LRegrowDesk$Row;" ∈ zTb := zt2_mem rfl (List.mem_of_getElem? (i := 89) rfl)
theorem zk_fl_7_26 : Cond.fieldLink RX7 26 "RegrowDesk$Runner" "lastSet" "LRegrowDesk$Row;" ∈ zTb := zt2_mem rfl (List.mem_of_getElem? (i := 90) rfl)
theorem zk_fl_7_29 : Cond.fieldLink RX7 29 "RegrowDesk$Runner" "unread" "LRegrowDesk$Row;" ∈ zTb := zt2_mem rfl (List.mem_of_getElem? (i := 91) rfl)
theorem zk_fl_7_32 : Cond.fieldLink RX7 32 "RegrowDesk$Runner" "setAhead" "LRegrowDesk$Row;" ∈ zTb := zt2_mem rfl (List.mem_of_getElem? (i := 92) rfl)
theorem zk_fl_7_35 : Cond.fieldLink RX7 35 "RegrowDesk$Runner" "worths" "LRegrowDesk$Row;" ∈ zTb := zt2_mem rfl (List.mem_of_getElem? (i := 93) rfl)
theorem zk_fl_7_38 : Cond.fieldLink RX7 38 "RegrowDesk$Runner" "recordOf" "LRegrowDesk$Row;" ∈ zTb := zt2_mem rfl (List.mem_of_getElem? (i := 94) rfl)
theorem zk_fl_7_41 : Cond.fieldLink RX7 41 "RegrowDesk$Runner" "records" "LRegrowDesk$Row;" ∈ zTb := zt2_mem rfl (List.mem_of_getElem? (i := 95) rfl)
theorem zk_fl_7_134 : Cond.fieldLink RX7 134 "RegrowDesk$Runner" "recorded" "I" ∈ zTb := zt2_mem rfl (List.mem_of_getElem? (i := 96) rfl)
theorem zk_fl_7_90 : Cond.fieldLink RX7 90 "RegrowDesk$Runner" "idleMany" "I" ∈ zTb := zt2_mem rfl (List.mem_of_getElem? (i := 97) rfl)
theorem zk_fl_11_343 : Cond.fieldLink RX11 343 "RegrowDesk$Runner" "idleMany" "I" ∈ zTb := zt2_mem rfl (List.mem_of_getElem? (i := 98) rfl)
theorem zk_fl_7_93 : Cond.fieldLink RX7 93 "RegrowDesk$Runner" "idleFirst" "I" ∈ zTb := zt2_mem rfl (List.mem_of_getElem? (i := 99) rfl)
theorem zk_fl_11_349 : Cond.fieldLink RX11 349 "RegrowDesk$Runner" "idleFirst" "I" ∈ zTb := zt2_mem rfl (List.mem_of_getElem? (i := 100) rfl)
theorem zk_fl_7_96 : Cond.fieldLink RX7 96 "RegrowDesk$Runner" "doneAgain" "I" ∈ zTb := zt2_mem rfl (List.mem_of_getElem? (i := 101) rfl)
theorem zk_fl_11_422 : Cond.fieldLink RX11 422 "RegrowDesk$Runner" "doneAgain" "I" ∈ zTb := zt2_mem rfl (List.mem_of_getElem? (i := 102) rfl)
theorem zk_fl_7_158 : Cond.fieldLink RX7 158 "RegrowDesk$Runner" "intSum" "I" ∈ zTb := zt2_mem rfl (List.mem_of_getElem? (i := 103) rfl)
theorem zk_fl_11_362 : Cond.fieldLink RX11 362 "RegrowDesk$Runner" "intSum" "I" ∈ zTb := zt2_mem rfl (List.mem_of_getElem? (i := 104) rfl)
theorem zk_fl_7_161 : Cond.fieldLink RX7 161 "RegrowDesk$Runner" "namesSet" "I" ∈ zTb := zt2_mem rfl (List.mem_of_getElem? (i := 105) rfl)
theorem zk_fl_11_365 : Cond.fieldLink RX11 365 "RegrowDesk$Runner" "namesSet" "I" ∈ zTb := zt2_mem rfl (List.mem_of_getElem? (i := 106) rfl)
theorem zk_cl_11_64 : Cond.classLink RX11 64 RX4 ∈ zTb := zt2_mem rfl (List.mem_of_getElem? (i := 142) rfl)
theorem zk_ia_4 : Cond.instantiable RX4 5 ∈ zTb := zt2_mem rfl (List.mem_of_getElem? (i := 143) rfl)
theorem zk_im_yX4_init : Cond.instanceMethod yX4_init ∈ zTb := zt2_mem rfl (List.mem_of_getElem? (i := 145) rfl)
theorem zk_cd_yX4_init : Cond.code yX4_init cX4_init 1 none ∈ zTb := zt2_mem rfl (List.mem_of_getElem? (i := 146) rfl)
theorem zk_ml_4_3 : Cond.methodLink RX4 3 objectInit ∈ zTb := zt2_mem rfl (List.mem_of_getElem? (i := 147) rfl)
theorem zk_cl_4_9 : Cond.classLink RX4 9 RX6 ∈ zTb := zt2_mem rfl (List.mem_of_getElem? (i := 148) rfl)
theorem zk_ml_4_11 : Cond.methodLink RX4 11 yX6_init ∈ zTb := zt2_mem rfl (List.mem_of_getElem? (i := 149) rfl)
theorem zk_fl_4_14 : Cond.fieldLink RX4 14 "RegrowDesk$Pairs" "first" "LRegrowDesk$Row;" ∈ zTb := zt2_mem rfl (List.mem_of_getElem? (i := 150) rfl)
theorem zk_fl_4_20 : Cond.fieldLink RX4 20 "RegrowDesk$Pairs" "other" "LRegrowDesk$Row;" ∈ zTb := zt2_mem rfl (List.mem_of_getElem? (i := 151) rfl)
theorem zk_fl_4_23 : Cond.fieldLink RX4 23 "RegrowDesk$Pairs" "chain" "LRegrowDesk$Row;" ∈ zTb := zt2_mem rfl (List.mem_of_getElem? (i := 152) rfl)
theorem zk_fl_4_26 : Cond.fieldLink RX4 26 "RegrowDesk$Pairs" "chainOf" "LRegrowDesk$Row;" ∈ zTb := zt2_mem rfl (List.mem_of_getElem? (i := 153) rfl)
theorem zk_fl_4_41 : Cond.fieldLink RX4 41 "RegrowDesk$Pairs" "many" "I" ∈ zTb := zt2_mem rfl (List.mem_of_getElem? (i := 154) rfl)
theorem zk_fl_11_318 : Cond.fieldLink RX11 318 "RegrowDesk$Pairs" "many" "I" ∈ zTb := zt2_mem rfl (List.mem_of_getElem? (i := 155) rfl)
theorem zk_cl_11_71 : Cond.classLink RX11 71 RX5 ∈ zTb := zt2_mem rfl (List.mem_of_getElem? (i := 167) rfl)
theorem zk_ia_5 : Cond.instantiable RX5 4 ∈ zTb := zt2_mem rfl (List.mem_of_getElem? (i := 168) rfl)
theorem zk_ml_11_73 : Cond.methodLink RX11 73 yX5_init ∈ zTb := zt2_mem rfl (List.mem_of_getElem? (i := 169) rfl)
theorem zk_im_yX5_init : Cond.instanceMethod yX5_init ∈ zTb := zt2_mem rfl (List.mem_of_getElem? (i := 170) rfl)
theorem zk_cd_yX5_init : Cond.code yX5_init cX5_init 2 none ∈ zTb := zt2_mem rfl (List.mem_of_getElem? (i := 171) rfl)
theorem zk_ml_5_3 : Cond.methodLink RX5 3 objectInit ∈ zTb := zt2_mem rfl (List.mem_of_getElem? (i := 172) rfl)
theorem zk_cl_5_9 : Cond.classLink RX5 9 RX6 ∈ zTb := zt2_mem rfl (List.mem_of_getElem? (i := 173) rfl)
theorem zk_ml_5_11 : Cond.methodLink RX5 11 yX6_init ∈ zTb := zt2_mem rfl (List.mem_of_getElem? (i := 174) rfl)
theorem zk_fl_5_20 : Cond.fieldLink RX5 20 "RegrowDesk$Printer" "nodes" "LRegrowDesk$Nodes;" ∈ zTb := zt2_mem rfl (List.mem_of_getElem? (i := 175) rfl)
theorem zk_fl_5_14 : Cond.fieldLink RX5 14 "RegrowDesk$Printer" "waiting" "LRegrowDesk$Row;" ∈ zTb := zt2_mem rfl (List.mem_of_getElem? (i := 176) rfl)
theorem zk_fl_5_28 : Cond.fieldLink RX5 28 "RegrowDesk$Printer" "waitingMany" "I" ∈ zTb := zt2_mem rfl (List.mem_of_getElem? (i := 177) rfl)
theorem zk_fl_5_24 : Cond.fieldLink RX5 24 "RegrowDesk$Printer" "size" "I" ∈ zTb := zt2_mem rfl (List.mem_of_getElem? (i := 178) rfl)
theorem zk_cl_11_78 : Cond.classLink RX11 78 RX0 ∈ zTb := zt2_mem rfl (List.mem_of_getElem? (i := 188) rfl)
theorem zk_ia_0 : Cond.instantiable RX0 5 ∈ zTb := zt2_mem rfl (List.mem_of_getElem? (i := 189) rfl)
theorem zk_im_yX0_init : Cond.instanceMethod yX0_init ∈ zTb := zt2_mem rfl (List.mem_of_getElem? (i := 191) rfl)
theorem zk_cd_yX0_init : Cond.code yX0_init cX0_init 1 none ∈ zTb := zt2_mem rfl (List.mem_of_getElem? (i := 192) rfl)
theorem zk_ml_0_3 : Cond.methodLink RX0 3 objectInit ∈ zTb := zt2_mem rfl (List.mem_of_getElem? (i := 193) rfl)
theorem zk_cl_0_9 : Cond.classLink RX0 9 RX10 ∈ zTb := zt2_mem rfl (List.mem_of_getElem? (i := 194) rfl)
theorem zk_ia_10 : Cond.instantiable RX10 2 ∈ zTb := zt2_mem rfl (List.mem_of_getElem? (i := 195) rfl)
theorem zk_im_yX10_init : Cond.instanceMethod yX10_init ∈ zTb := zt2_mem rfl (List.mem_of_getElem? (i := 197) rfl)
theorem zk_cd_yX10_init : Cond.code yX10_init cX10_init 1 none ∈ zTb := zt2_mem rfl (List.mem_of_getElem? (i := 198) rfl)
theorem zk_ml_10_3 : Cond.methodLink RX10 3 objectInit ∈ zTb := zt2_mem rfl (List.mem_of_getElem? (i := 199) rfl)
theorem zk_cl_10_9 : Cond.classLink RX10 9 RX6 ∈ zTb := zt2_mem rfl (List.mem_of_getElem? (i := 200) rfl)
theorem zk_ml_10_11 : Cond.methodLink RX10 11 yX6_init ∈ zTb := zt2_mem rfl (List.mem_of_getElem? (i := 201) rfl)
theorem zk_fl_10_14 : Cond.fieldLink RX10 14 "RegrowDesk$Trial" "states" "LRegrowDesk$Row;" ∈ zTb := zt2_mem rfl (List.mem_of_getElem? (i := 202) rfl)
theorem zk_fl_10_20 : Cond.fieldLink RX10 20 "RegrowDesk$Trial" "top" "I" ∈ zTb := zt2_mem rfl (List.mem_of_getElem? (i := 203) rfl)
theorem zk_cl_0_21 : Cond.classLink RX0 21 RX6 ∈ zTb := zt2_mem rfl (List.mem_of_getElem? (i := 209) rfl)
theorem zk_ml_0_23 : Cond.methodLink RX0 23 yX6_init ∈ zTb := zt2_mem rfl (List.mem_of_getElem? (i := 210) rfl)
theorem zk_fl_0_12 : Cond.fieldLink RX0 12 "RegrowDesk$Adviser" "ahead" "LRegrowDesk$Trial;" ∈ zTb := zt2_mem rfl (List.mem_of_getElem? (i := 211) rfl)
theorem zk_fl_0_18 : Cond.fieldLink RX0 18 "RegrowDesk$Adviser" "trial" "LRegrowDesk$Trial;" ∈ zTb := zt2_mem rfl (List.mem_of_getElem? (i := 212) rfl)
theorem zk_fl_0_26 : Cond.fieldLink RX0 26 "RegrowDesk$Adviser" "balance" "LRegrowDesk$Row;" ∈ zTb := zt2_mem rfl (List.mem_of_getElem? (i := 213) rfl)
theorem zk_fl_0_84 : Cond.fieldLink RX0 84 "RegrowDesk$Adviser" "foundAt" "I" ∈ zTb := zt2_mem rfl (List.mem_of_getElem? (i := 214) rfl)
theorem zk_fl_11_220 : Cond.fieldLink RX11 220 "RegrowDesk$Adviser" "foundAt" "I" ∈ zTb := zt2_mem rfl (List.mem_of_getElem? (i := 215) rfl)
theorem zk_fl_0_87 : Cond.fieldLink RX0 87 "RegrowDesk$Adviser" "foundWhat" "I" ∈ zTb := zt2_mem rfl (List.mem_of_getElem? (i := 216) rfl)
theorem zk_fl_11_223 : Cond.fieldLink RX11 223 "RegrowDesk$Adviser" "foundWhat" "I" ∈ zTb := zt2_mem rfl (List.mem_of_getElem? (i := 217) rfl)
theorem zk_ml_11_91 : Cond.methodLink RX11 91 yX3_makeToken ∈ zTb := zt2_mem rfl (List.mem_of_getElem? (i := 229) rfl)
theorem zk_im_yX3_makeToken : Cond.instanceMethod yX3_makeToken ∈ zTb := zt2_mem rfl (List.mem_of_getElem? (i := 230) rfl)
theorem zk_se_yX3_makeToken : Cond.selects RX3 yX3_makeToken yX3_makeToken ∈ zTb := zt2_mem rfl (List.mem_of_getElem? (i := 231) rfl)
theorem zk_cd_yX3_makeToken : Cond.code yX3_makeToken cX3_makeToken 7 (some .int) ∈ zTb := zt2_mem rfl (List.mem_of_getElem? (i := 232) rfl)
theorem zk_ml_3_48 : Cond.methodLink RX3 48 yX3_make ∈ zTb := zt2_mem rfl (List.mem_of_getElem? (i := 233) rfl)
theorem zk_im_yX3_make : Cond.instanceMethod yX3_make ∈ zTb := zt2_mem rfl (List.mem_of_getElem? (i := 235) rfl)
theorem zk_cd_yX3_make : Cond.code yX3_make cX3_make 6 (some .int) ∈ zTb := zt2_mem rfl (List.mem_of_getElem? (i := 236) rfl)
theorem zk_ml_3_52 : Cond.methodLink RX3 52 yX6_set ∈ zTb := zt2_mem rfl (List.mem_of_getElem? (i := 237) rfl)
theorem zk_im_yX6_set : Cond.instanceMethod yX6_set ∈ zTb := zt2_mem rfl (List.mem_of_getElem? (i := 238) rfl)
theorem zk_se_yX6_set : Cond.selects RX6 yX6_set yX6_set ∈ zTb := zt2_mem rfl (List.mem_of_getElem? (i := 239) rfl)
theorem zk_cd_yX6_set : Cond.code yX6_set cX6_set 3 none ∈ zTb := zt3_mem rfl (List.mem_of_getElem? (i := 0) rfl)
theorem zk_ml_11_95 : Cond.methodLink RX11 95 yX3_makeRuled ∈ zTb := zt3_mem rfl (List.mem_of_getElem? (i := 1) rfl)
theorem zk_im_yX3_makeRuled : Cond.instanceMethod yX3_makeRuled ∈ zTb := zt3_mem rfl (List.mem_of_getElem? (i := 2) rfl)
theorem zk_se_yX3_makeRuled : Cond.selects RX3 yX3_makeRuled yX3_makeRuled ∈ zTb := zt3_mem rfl (List.mem_of_getElem? (i := 3) rfl)
theorem zk_cd_yX3_makeRuled : Cond.code yX3_makeRuled cX3_makeRuled 5 (some .int) ∈ zTb := zt3_mem rfl (List.mem_of_getElem? (i := 4) rfl)
theorem zk_st_yX11_symbolOf : Cond.static yX11_symbolOf ∈ zTb := zt3_mem rfl (List.mem_of_getElem? (i := 6) rfl)
theorem zk_cd_yX11_symbolOf : Cond.code yX11_symbolOf cX11_symbolOf 1 (some .int) ∈ zTb := zt3_mem rfl (List.mem_of_getElem? (i := 7) rfl)
theorem zk_fl_11_453 : Cond.fieldLink RX11 453 "RegrowDesk" "RULE_SYMBOL" "[I" ∈ zTb := zt3_mem rfl (List.mem_of_getElem? (i := 8) rfl)
theorem zk_ml_11_106 : Cond.methodLink RX11 106 yX8_readAll ∈ zTb := zt3_mem rfl (List.mem_of_getElem? (i := 10) rfl)
theorem zk_im_yX8_readAll : Cond.instanceMethod yX8_readAll ∈ zTb := zt3_mem rfl (List.mem_of_getElem? (i := 11) rfl)
theorem zk_se_yX8_readAll : Cond.selects RX8 yX8_readAll yX8_readAll ∈ zTb := zt3_mem rfl (List.mem_of_getElem? (i := 12) rfl)
theorem zk_cd_yX8_readAll : Cond.code yX8_readAll cX8_readAll 5 (some .boolean) ∈ zTb := zt3_mem rfl (List.mem_of_getElem? (i := 13) rfl)
theorem zk_ml_8_36 : Cond.methodLink RX8 36 yX6_get ∈ zTb := zt3_mem rfl (List.mem_of_getElem? (i := 14) rfl)
theorem zk_im_yX6_get : Cond.instanceMethod yX6_get ∈ zTb := zt3_mem rfl (List.mem_of_getElem? (i := 15) rfl)
theorem zk_se_yX6_get : Cond.selects RX6 yX6_get yX6_get ∈ zTb := zt3_mem rfl (List.mem_of_getElem? (i := 16) rfl)
theorem zk_cd_yX6_get : Cond.code yX6_get cX6_get 2 (some .int) ∈ zTb := zt3_mem rfl (List.mem_of_getElem? (i := 17) rfl)
theorem zk_ml_8_40 : Cond.methodLink RX8 40 yX8_isBlank ∈ zTb := zt3_mem rfl (List.mem_of_getElem? (i := 18) rfl)
theorem zk_st_yX8_isBlank : Cond.static yX8_isBlank ∈ zTb := zt3_mem rfl (List.mem_of_getElem? (i := 19) rfl)
theorem zk_cd_yX8_isBlank : Cond.code yX8_isBlank cX8_isBlank 1 (some .boolean) ∈ zTb := zt3_mem rfl (List.mem_of_getElem? (i := 20) rfl)
theorem zk_ml_8_44 : Cond.methodLink RX8 44 yX8_readOne ∈ zTb := zt3_mem rfl (List.mem_of_getElem? (i := 21) rfl)
theorem zk_im_yX8_readOne : Cond.instanceMethod yX8_readOne ∈ zTb := zt3_mem rfl (List.mem_of_getElem? (i := 23) rfl)
theorem zk_cd_yX8_readOne : Cond.code yX8_readOne cX8_readOne 9 (some .int) ∈ zTb := zt3_mem rfl (List.mem_of_getElem? (i := 24) rfl)
theorem zk_ml_8_58 : Cond.methodLink RX8 58 yX8_signOf ∈ zTb := zt3_mem rfl (List.mem_of_getElem? (i := 25) rfl)
theorem zk_st_yX8_signOf : Cond.static yX8_signOf ∈ zTb := zt3_mem rfl (List.mem_of_getElem? (i := 26) rfl)
theorem zk_cd_yX8_signOf : Cond.code yX8_signOf cX8_signOf 1 (some .int) ∈ zTb := zt3_mem rfl (List.mem_of_getElem? (i := 27) rfl)
theorem zk_ml_8_61 : Cond.methodLink RX8 61 yX8_isLetter ∈ zTb := zt3_mem rfl (List.mem_of_getElem? (i := 28) rfl)
theorem zk_st_yX8_isLetter : Cond.static yX8_isLetter ∈ zTb := zt3_mem rfl (List.mem_of_getElem? (i := 29) rfl)
theorem zk_cd_yX8_isLetter : Cond.code yX8_isLetter cX8_isLetter 1 (some .boolean) ∈ zTb := zt3_mem rfl (List.mem_of_getElem? (i := 30) rfl)
theorem zk_ml_8_64 : Cond.methodLink RX8 64 yX8_isDigit ∈ zTb := zt3_mem rfl (List.mem_of_getElem? (i := 31) rfl)
theorem zk_st_yX8_isDigit : Cond.static yX8_isDigit ∈ zTb := zt3_mem rfl (List.mem_of_getElem? (i := 32) rfl)
theorem zk_cd_yX8_isDigit : Cond.code yX8_isDigit cX8_isDigit 1 (some .boolean) ∈ zTb := zt3_mem rfl (List.mem_of_getElem? (i := 33) rfl)
theorem zk_ml_8_67 : Cond.methodLink RX8 67 yX8_runFrom ∈ zTb := zt3_mem rfl (List.mem_of_getElem? (i := 34) rfl)
theorem zk_st_yX8_runFrom : Cond.static yX8_runFrom ∈ zTb := zt3_mem rfl (List.mem_of_getElem? (i := 35) rfl)
theorem zk_cd_yX8_runFrom : Cond.code yX8_runFrom cX8_runFrom 6 (some .int) ∈ zTb := zt3_mem rfl (List.mem_of_getElem? (i := 36) rfl)
theorem zk_ml_8_54 : Cond.methodLink RX8 54 yX8_append ∈ zTb := zt3_mem rfl (List.mem_of_getElem? (i := 37) rfl)
theorem zk_im_yX8_append : Cond.instanceMethod yX8_append ∈ zTb := zt3_mem rfl (List.mem_of_getElem? (i := 39) rfl)
theorem zk_cd_yX8_append : Cond.code yX8_append cX8_append 5 none ∈ zTb := zt3_mem rfl (List.mem_of_getElem? (i := 40) rfl)
theorem zk_ml_8_71 : Cond.methodLink RX8 71 yX6_set ∈ zTb := zt3_mem rfl (List.mem_of_getElem? (i := 41) rfl)
theorem zk_ml_8_75 : Cond.methodLink RX8 75 Lib.Math.min.name ∈ zTb := zt3_mem rfl (List.mem_of_getElem? (i := 42) rfl)
theorem zk_st_J_min : Cond.static Lib.Math.min.name ∈ zTb := zt3_mem rfl (List.mem_of_getElem? (i := 43) rfl)
theorem zk_cd_J_min : Cond.code Lib.Math.min.name Lib.Math.min.code 2 (some .int) ∈ zTb := zt3_mem rfl (List.mem_of_getElem? (i := 44) rfl)
theorem zk_ml_8_78 : Cond.methodLink RX8 78 yX8_pack ∈ zTb := zt3_mem rfl (List.mem_of_getElem? (i := 45) rfl)
theorem zk_st_yX8_pack : Cond.static yX8_pack ∈ zTb := zt3_mem rfl (List.mem_of_getElem? (i := 46) rfl)
theorem zk_cd_yX8_pack : Cond.code yX8_pack cX8_pack 5 (some .int) ∈ zTb := zt3_mem rfl (List.mem_of_getElem? (i := 47) rfl)
theorem zk_ml_8_48 : Cond.methodLink RX8 48 Lib.Math.max.name ∈ zTb := zt3_mem rfl (List.mem_of_getElem? (i := 48) rfl)
theorem zk_st_J_max : Cond.static Lib.Math.max.name ∈ zTb := zt3_mem rfl (List.mem_of_getElem? (i := 49) rfl)
theorem zk_cd_J_max : Cond.code Lib.Math.max.name Lib.Math.max.code 2 (some .int) ∈ zTb := zt3_mem rfl (List.mem_of_getElem? (i := 50) rfl)
theorem zk_ml_11_112 : Cond.methodLink RX11 112 yX2_beGood ∈ zTb := zt3_mem rfl (List.mem_of_getElem? (i := 51) rfl)
theorem zk_im_yX2_beGood : Cond.instanceMethod yX2_beGood ∈ zTb := zt3_mem rfl (List.mem_of_getElem? (i := 52) rfl)
theorem zk_se_yX2_beGood : Cond.selects RX2 yX2_beGood yX2_beGood ∈ zTb := zt3_mem rfl (List.mem_of_getElem? (i := 53) rfl)
theorem zk_cd_yX2_beGood : Cond.code yX2_beGood cX2_beGood 2 none ∈ zTb := zt3_mem rfl (List.mem_of_getElem? (i := 54) rfl)
theorem zk_ml_2_61 : Cond.methodLink RX2 61 yX6_copyFrom ∈ zTb := zt3_mem rfl (List.mem_of_getElem? (i := 55) rfl)
theorem zk_im_yX6_copyFrom : Cond.instanceMethod yX6_copyFrom ∈ zTb := zt3_mem rfl (List.mem_of_getElem? (i := 56) rfl)
theorem zk_se_yX6_copyFrom : Cond.selects RX6 yX6_copyFrom yX6_copyFrom ∈ zTb := zt3_mem rfl (List.mem_of_getElem? (i := 57) rfl)
theorem zk_cd_yX6_copyFrom : Cond.code yX6_copyFrom cX6_copyFrom 4 none ∈ zTb := zt3_mem rfl (List.mem_of_getElem? (i := 58) rfl)
theorem zk_ml_6_21 : Cond.methodLink RX6 21 Lib.Math.min.name ∈ zTb := zt3_mem rfl (List.mem_of_getElem? (i := 59) rfl)
theorem zk_ml_6_27 : Cond.methodLink RX6 27 arraycopyName ∈ zTb := zt3_mem rfl (List.mem_of_getElem? (i := 60) rfl)
theorem zk_st_J_arraycopy : Cond.static arraycopyName ∈ zTb := zt3_mem rfl (List.mem_of_getElem? (i := 61) rfl)
theorem zk_nat : Cond.native arraycopyName ∈ zTb := zt3_mem rfl (List.mem_of_getElem? (i := 62) rfl)
theorem zk_ml_11_118 : Cond.methodLink RX11 118 yX6_set ∈ zTb := zt3_mem rfl (List.mem_of_getElem? (i := 63) rfl)
theorem zk_ml_11_126 : Cond.methodLink RX11 126 yX11_now ∈ zTb := zt3_mem rfl (List.mem_of_getElem? (i := 64) rfl)
theorem zk_im_yX11_now : Cond.instanceMethod yX11_now ∈ zTb := zt3_mem rfl (List.mem_of_getElem? (i := 66) rfl)
theorem zk_cd_yX11_now : Cond.code yX11_now cX11_now 2 (some (.object "RegrowDesk$Moment")) ∈ zTb := zt3_mem rfl (List.mem_of_getElem? (i := 67) rfl)
theorem zk_ml_11_130 : Cond.methodLink RX11 130 yX2_copyFrom ∈ zTb := zt3_mem rfl (List.mem_of_getElem? (i := 68) rfl)
theorem zk_im_yX2_copyFrom : Cond.instanceMethod yX2_copyFrom ∈ zTb := zt3_mem rfl (List.mem_of_getElem? (i := 69) rfl)
theorem zk_se_yX2_copyFrom : Cond.selects RX2 yX2_copyFrom yX2_copyFrom ∈ zTb := zt3_mem rfl (List.mem_of_getElem? (i := 70) rfl)
theorem zk_cd_yX2_copyFrom : Cond.code yX2_copyFrom cX2_copyFrom 2 none ∈ zTb := zt3_mem rfl (List.mem_of_getElem? (i := 71) rfl)
theorem zk_ml_2_68 : Cond.methodLink RX2 68 yX8_copyFrom ∈ zTb := zt3_mem rfl (List.mem_of_getElem? (i := 72) rfl)
theorem zk_im_yX8_copyFrom : Cond.instanceMethod yX8_copyFrom ∈ zTb := zt3_mem rfl (List.mem_of_getElem? (i := 73) rfl)
theorem zk_se_yX8_copyFrom : Cond.selects RX8 yX8_copyFrom yX8_copyFrom ∈ zTb := zt3_mem rfl (List.mem_of_getElem? (i := 74) rfl)
theorem zk_cd_yX8_copyFrom : Cond.code yX8_copyFrom cX8_copyFrom 2 none ∈ zTb := zt3_mem rfl (List.mem_of_getElem? (i := 75) rfl)
theorem zk_ml_8_81 : Cond.methodLink RX8 81 yX6_copyFrom ∈ zTb := zt3_mem rfl (List.mem_of_getElem? (i := 76) rfl)
theorem zk_ml_2_71 : Cond.methodLink RX2 71 yX2_keepGood ∈ zTb := zt3_mem rfl (List.mem_of_getElem? (i := 77) rfl)
theorem zk_im_yX2_keepGood : Cond.instanceMethod yX2_keepGood ∈ zTb := zt3_mem rfl (List.mem_of_getElem? (i := 78) rfl)
theorem zk_se_yX2_keepGood : Cond.selects RX2 yX2_keepGood yX2_keepGood ∈ zTb := zt3_mem rfl (List.mem_of_getElem? (i := 79) rfl)
theorem zk_cd_yX2_keepGood : Cond.code yX2_keepGood cX2_keepGood 2 none ∈ zTb := zt3_mem rfl (List.mem_of_getElem? (i := 80) rfl)
theorem zk_ml_11_134 : Cond.methodLink RX11 134 yX11_lookAt ∈ zTb := zt3_mem rfl (List.mem_of_getElem? (i := 81) rfl)
theorem zk_im_yX11_lookAt : Cond.instanceMethod yX11_lookAt ∈ zTb := zt3_mem rfl (List.mem_of_getElem? (i := 83) rfl)
theorem zk_cd_yX11_lookAt : Cond.code yX11_lookAt cX11_lookAt 3 none ∈ zTb := zt3_mem rfl (List.mem_of_getElem? (i := 84) rfl)
theorem zk_ml_11_430 : Cond.methodLink RX11 430 yX9_lookAt ∈ zTb := zt3_mem rfl (List.mem_of_getElem? (i := 85) rfl)
theorem zk_im_yX9_lookAt : Cond.instanceMethod yX9_lookAt ∈ zTb := zt3_mem rfl (List.mem_of_getElem? (i := 86) rfl)
theorem zk_se_yX9_lookAt : Cond.selects RX9 yX9_lookAt yX9_lookAt ∈ zTb := zt3_mem rfl (List.mem_of_getElem? (i := 87) rfl)
theorem zk_cd_yX9_lookAt : Cond.code yX9_lookAt cX9_lookAt 2 none ∈ zTb := zt3_mem rfl (List.mem_of_getElem? (i := 88) rfl)
theorem zk_ml_9_58 : Cond.methodLink RX9 58 yX9_layFlat ∈ zTb := zt3_mem rfl (List.mem_of_getElem? (i := 89) rfl)
theorem zk_im_yX9_layFlat : Cond.instanceMethod yX9_layFlat ∈ zTb := zt3_mem rfl (List.mem_of_getElem? (i := 91) rfl)
theorem zk_cd_yX9_layFlat : Cond.code yX9_layFlat cX9_layFlat 6 none ∈ zTb := zt3_mem rfl (List.mem_of_getElem? (i := 92) rfl)
theorem zk_ml_9_70 : Cond.methodLink RX9 70 yX6_set ∈ zTb := zt3_mem rfl (List.mem_of_getElem? (i := 93) rfl)
theorem zk_ml_9_74 : Cond.methodLink RX9 74 yX6_get ∈ zTb := zt3_mem rfl (List.mem_of_getElem? (i := 94) rfl)
theorem zk_ml_9_78 : Cond.methodLink RX9 78 yX9_layNode ∈ zTb := zt3_mem rfl (List.mem_of_getElem? (i := 95) rfl)
theorem zk_im_yX9_layNode : Cond.instanceMethod yX9_layNode ∈ zTb := zt3_mem rfl (List.mem_of_getElem? (i := 97) rfl)
theorem zk_cd_yX9_layNode : Cond.code yX9_layNode cX9_layNode 4 none ∈ zTb := zt3_mem rfl (List.mem_of_getElem? (i := 98) rfl)
theorem zk_ml_9_82 : Cond.methodLink RX9 82 yX3_isToken ∈ zTb := zt3_mem rfl (List.mem_of_getElem? (i := 99) rfl)
theorem zk_im_yX3_isToken : Cond.instanceMethod yX3_isToken ∈ zTb := zt3_mem rfl (List.mem_of_getElem? (i := 100) rfl)
theorem zk_se_yX3_isToken : Cond.selects RX3 yX3_isToken yX3_isToken ∈ zTb := zt3_mem rfl (List.mem_of_getElem? (i := 101) rfl)
theorem zk_cd_yX3_isToken : Cond.code yX3_isToken cX3_isToken 2 (some .boolean) ∈ zTb := zt3_mem rfl (List.mem_of_getElem? (i := 102) rfl)
theorem zk_ml_3_60 : Cond.methodLink RX3 60 yX6_get ∈ zTb := zt3_mem rfl (List.mem_of_getElem? (i := 103) rfl)
theorem zk_ml_9_88 : Cond.methodLink RX9 88 yX3_childrenOf ∈ zTb := zt3_mem rfl (List.mem_of_getElem? (i := 104) rfl)
theorem zk_im_yX3_childrenOf : Cond.instanceMethod yX3_childrenOf ∈ zTb := zt3_mem rfl (List.mem_of_getElem? (i := 105) rfl)
theorem zk_se_yX3_childrenOf : Cond.selects RX3 yX3_childrenOf yX3_childrenOf ∈ zTb := zt3_mem rfl (List.mem_of_getElem? (i := 106) rfl)
theorem zk_cd_yX3_childrenOf : Cond.code yX3_childrenOf cX3_childrenOf 2 (some .int) ∈ zTb := zt3_mem rfl (List.mem_of_getElem? (i := 107) rfl)
theorem zk_st_yX11_lengthOf : Cond.static yX11_lengthOf ∈ zTb := zt3_mem rfl (List.mem_of_getElem? (i := 109) rfl)
theorem zk_cd_yX11_lengthOf : Cond.code yX11_lengthOf cX11_lengthOf 1 (some .int) ∈ zTb := zt3_mem rfl (List.mem_of_getElem? (i := 110) rfl)
theorem zk_fl_11_456 : Cond.fieldLink RX11 456 "RegrowDesk" "RULE_LENGTH" "[I" ∈ zTb := zt3_mem rfl (List.mem_of_getElem? (i := 111) rfl)
theorem zk_ml_9_91 : Cond.methodLink RX9 91 yX3_childOf ∈ zTb := zt3_mem rfl (List.mem_of_getElem? (i := 113) rfl)
theorem zk_im_yX3_childOf : Cond.instanceMethod yX3_childOf ∈ zTb := zt3_mem rfl (List.mem_of_getElem? (i := 114) rfl)
theorem zk_se_yX3_childOf : Cond.selects RX3 yX3_childOf yX3_childOf ∈ zTb := zt3_mem rfl (List.mem_of_getElem? (i := 115) rfl)
theorem zk_cd_yX3_childOf : Cond.code yX3_childOf cX3_childOf 3 (some .int) ∈ zTb := zt3_mem rfl (List.mem_of_getElem? (i := 116) rfl)
theorem zk_ml_9_61 : Cond.methodLink RX9 61 yX9_sumUp ∈ zTb := zt3_mem rfl (List.mem_of_getElem? (i := 117) rfl)
theorem zk_im_yX9_sumUp : Cond.instanceMethod yX9_sumUp ∈ zTb := zt3_mem rfl (List.mem_of_getElem? (i := 119) rfl)
theorem zk_cd_yX9_sumUp : Cond.code yX9_sumUp cX9_sumUp 3 none ∈ zTb := zt3_mem rfl (List.mem_of_getElem? (i := 120) rfl)
theorem zk_ml_9_98 : Cond.methodLink RX9 98 yX6_fill ∈ zTb := zt3_mem rfl (List.mem_of_getElem? (i := 121) rfl)
theorem zk_im_yX6_fill : Cond.instanceMethod yX6_fill ∈ zTb := zt3_mem rfl (List.mem_of_getElem? (i := 122) rfl)
theorem zk_se_yX6_fill : Cond.selects RX6 yX6_fill yX6_fill ∈ zTb := zt3_mem rfl (List.mem_of_getElem? (i := 123) rfl)
theorem zk_cd_yX6_fill : Cond.code yX6_fill cX6_fill 3 none ∈ zTb := zt3_mem rfl (List.mem_of_getElem? (i := 124) rfl)
theorem zk_ml_9_107 : Cond.methodLink RX9 107 yX6_add ∈ zTb := zt3_mem rfl (List.mem_of_getElem? (i := 125) rfl)
theorem zk_im_yX6_add : Cond.instanceMethod yX6_add ∈ zTb := zt3_mem rfl (List.mem_of_getElem? (i := 126) rfl)
theorem zk_se_yX6_add : Cond.selects RX6 yX6_add yX6_add ∈ zTb := zt3_mem rfl (List.mem_of_getElem? (i := 127) rfl)
theorem zk_cd_yX6_add : Cond.code yX6_add cX6_add 3 none ∈ zTb := zt3_mem rfl (List.mem_of_getElem? (i := 128) rfl)
theorem zk_ml_6_13 : Cond.methodLink RX6 13 yX6_get ∈ zTb := zt3_mem rfl (List.mem_of_getElem? (i := 129) rfl)
theorem zk_ml_6_17 : Cond.methodLink RX6 17 yX6_set ∈ zTb := zt3_mem rfl (List.mem_of_getElem? (i := 130) rfl)
theorem zk_ml_9_113 : Cond.methodLink RX9 113 Lib.Math.max.name ∈ zTb := zt3_mem rfl (List.mem_of_getElem? (i := 131) rfl)
theorem zk_ml_9_118 : Cond.methodLink RX9 118 Lib.Math.min.name ∈ zTb := zt3_mem rfl (List.mem_of_getElem? (i := 132) rfl)
theorem zk_ml_9_64 : Cond.methodLink RX9 64 yX9_findRuns ∈ zTb := zt3_mem rfl (List.mem_of_getElem? (i := 133) rfl)
theorem zk_im_yX9_findRuns : Cond.instanceMethod yX9_findRuns ∈ zTb := zt3_mem rfl (List.mem_of_getElem? (i := 135) rfl)
theorem zk_cd_yX9_findRuns : Cond.code yX9_findRuns cX9_findRuns 4 none ∈ zTb := zt3_mem rfl (List.mem_of_getElem? (i := 136) rfl)
theorem zk_ml_11_432 : Cond.methodLink RX11 432 yX7_runAll ∈ zTb := zt3_mem rfl (List.mem_of_getElem? (i := 137) rfl)
theorem zk_im_yX7_runAll : Cond.instanceMethod yX7_runAll ∈ zTb := zt3_mem rfl (List.mem_of_getElem? (i := 138) rfl)
theorem zk_se_yX7_runAll : Cond.selects RX7 yX7_runAll yX7_runAll ∈ zTb := zt3_mem rfl (List.mem_of_getElem? (i := 139) rfl)
theorem zk_cd_yX7_runAll : Cond.code yX7_runAll cX7_runAll 4 none ∈ zTb := zt3_mem rfl (List.mem_of_getElem? (i := 140) rfl)
theorem zk_ml_7_56 : Cond.methodLink RX7 56 yX7_clear ∈ zTb := zt3_mem rfl (List.mem_of_getElem? (i := 141) rfl)
theorem zk_im_yX7_clear : Cond.instanceMethod yX7_clear ∈ zTb := zt3_mem rfl (List.mem_of_getElem? (i := 143) rfl)
theorem zk_cd_yX7_clear : Cond.code yX7_clear cX7_clear 1 none ∈ zTb := zt3_mem rfl (List.mem_of_getElem? (i := 144) rfl)
theorem zk_ml_7_87 : Cond.methodLink RX7 87 yX6_fill ∈ zTb := zt3_mem rfl (List.mem_of_getElem? (i := 145) rfl)
theorem zk_ml_7_59 : Cond.methodLink RX7 59 yX7_findNames ∈ zTb := zt3_mem rfl (List.mem_of_getElem? (i := 146) rfl)
theorem zk_im_yX7_findNames : Cond.instanceMethod yX7_findNames ∈ zTb := zt3_mem rfl (List.mem_of_getElem? (i := 148) rfl)
theorem zk_cd_yX7_findNames : Cond.code yX7_findNames cX7_findNames 5 none ∈ zTb := zt3_mem rfl (List.mem_of_getElem? (i := 149) rfl)
theorem zk_ml_7_52 : Cond.methodLink RX7 52 yX6_get ∈ zTb := zt3_mem rfl (List.mem_of_getElem? (i := 150) rfl)
theorem zk_ml_7_107 : Cond.methodLink RX7 107 yX3_sameBytes ∈ zTb := zt3_mem rfl (List.mem_of_getElem? (i := 151) rfl)
theorem zk_im_yX3_sameBytes : Cond.instanceMethod yX3_sameBytes ∈ zTb := zt3_mem rfl (List.mem_of_getElem? (i := 152) rfl)
theorem zk_se_yX3_sameBytes : Cond.selects RX3 yX3_sameBytes yX3_sameBytes ∈ zTb := zt3_mem rfl (List.mem_of_getElem? (i := 153) rfl)
theorem zk_cd_yX3_sameBytes : Cond.code yX3_sameBytes cX3_sameBytes 3 (some .boolean) ∈ zTb := zt3_mem rfl (List.mem_of_getElem? (i := 154) rfl)
theorem zk_ml_7_111 : Cond.methodLink RX7 111 yX6_set ∈ zTb := zt3_mem rfl (List.mem_of_getElem? (i := 155) rfl)
theorem zk_ml_7_77 : Cond.methodLink RX7 77 yX7_runStatement ∈ zTb := zt3_mem rfl (List.mem_of_getElem? (i := 156) rfl)
theorem zk_im_yX7_runStatement : Cond.instanceMethod yX7_runStatement ∈ zTb := zt3_mem rfl (List.mem_of_getElem? (i := 158) rfl)
theorem zk_cd_yX7_runStatement : Cond.code yX7_runStatement cX7_runStatement 7 none ∈ zTb := zt3_mem rfl (List.mem_of_getElem? (i := 159) rfl)
theorem zk_ml_7_117 : Cond.methodLink RX7 117 yX7_recordReads ∈ zTb := zt3_mem rfl (List.mem_of_getElem? (i := 160) rfl)
theorem zk_im_yX7_recordReads : Cond.instanceMethod yX7_recordReads ∈ zTb := zt3_mem rfl (List.mem_of_getElem? (i := 162) rfl)
theorem zk_cd_yX7_recordReads : Cond.code yX7_recordReads cX7_recordReads 9 (some .boolean) ∈ zTb := zt3_mem rfl (List.mem_of_getElem? (i := 163) rfl)
theorem zk_ml_7_137 : Cond.methodLink RX7 137 yX7_valueOf ∈ zTb := zt3_mem rfl (List.mem_of_getElem? (i := 164) rfl)
theorem zk_im_yX7_valueOf : Cond.instanceMethod yX7_valueOf ∈ zTb := zt3_mem rfl (List.mem_of_getElem? (i := 165) rfl)
theorem zk_se_yX7_valueOf : Cond.selects RX7 yX7_valueOf yX7_valueOf ∈ zTb := zt3_mem rfl (List.mem_of_getElem? (i := 166) rfl)
theorem zk_cd_yX7_valueOf : Cond.code yX7_valueOf cX7_valueOf 2 (some .int) ∈ zTb := zt3_mem rfl (List.mem_of_getElem? (i := 167) rfl)
theorem zk_ml_7_124 : Cond.methodLink RX7 124 yX7_noteReads ∈ zTb := zt3_mem rfl (List.mem_of_getElem? (i := 168) rfl)
theorem zk_im_yX7_noteReads : Cond.instanceMethod yX7_noteReads ∈ zTb := zt3_mem rfl (List.mem_of_getElem? (i := 170) rfl)
theorem zk_cd_yX7_noteReads : Cond.code yX7_noteReads cX7_noteReads 6 none ∈ zTb := zt3_mem rfl (List.mem_of_getElem? (i := 171) rfl)
theorem zk_ml_7_81 : Cond.methodLink RX7 81 yX7_evaluate ∈ zTb := zt3_mem rfl (List.mem_of_getElem? (i := 172) rfl)
theorem zk_im_yX7_evaluate : Cond.instanceMethod yX7_evaluate ∈ zTb := zt3_mem rfl (List.mem_of_getElem? (i := 174) rfl)
theorem zk_cd_yX7_evaluate : Cond.code yX7_evaluate cX7_evaluate 4 none ∈ zTb := zt3_mem rfl (List.mem_of_getElem? (i := 175) rfl)
theorem zk_ml_7_149 : Cond.methodLink RX7 149 yX7_worthAt ∈ zTb := zt3_mem rfl (List.mem_of_getElem? (i := 176) rfl)
theorem zk_im_yX7_worthAt : Cond.instanceMethod yX7_worthAt ∈ zTb := zt3_mem rfl (List.mem_of_getElem? (i := 178) rfl)
theorem zk_cd_yX7_worthAt : Cond.code yX7_worthAt cX7_worthAt 4 (some .int) ∈ zTb := zt3_mem rfl (List.mem_of_getElem? (i := 179) rfl)
theorem zk_ml_7_155 : Cond.methodLink RX7 155 yX7_numberOf ∈ zTb := zt3_mem rfl (List.mem_of_getElem? (i := 180) rfl)
theorem zk_st_yX7_numberOf : Cond.static yX7_numberOf ∈ zTb := zt3_mem rfl (List.mem_of_getElem? (i := 181) rfl)
theorem zk_cd_yX7_numberOf : Cond.code yX7_numberOf cX7_numberOf 4 (some .int) ∈ zTb := zt3_mem rfl (List.mem_of_getElem? (i := 182) rfl)
theorem zk_ml_7_130 : Cond.methodLink RX7 130 yX7_setName ∈ zTb := zt3_mem rfl (List.mem_of_getElem? (i := 183) rfl)
theorem zk_im_yX7_setName : Cond.instanceMethod yX7_setName ∈ zTb := zt3_mem rfl (List.mem_of_getElem? (i := 185) rfl)
theorem zk_cd_yX7_setName : Cond.code yX7_setName cX7_setName 5 none ∈ zTb := zt3_mem rfl (List.mem_of_getElem? (i := 186) rfl)
theorem zk_ml_7_140 : Cond.methodLink RX7 140 Lib.Math.min.name ∈ zTb := zt3_mem rfl (List.mem_of_getElem? (i := 187) rfl)
theorem zk_ml_7_146 : Cond.methodLink RX7 146 yX6_add ∈ zTb := zt3_mem rfl (List.mem_of_getElem? (i := 188) rfl)
theorem zk_ml_7_84 : Cond.methodLink RX7 84 yX7_sumUp ∈ zTb := zt3_mem rfl (List.mem_of_getElem? (i := 189) rfl)
theorem zk_im_yX7_sumUp : Cond.instanceMethod yX7_sumUp ∈ zTb := zt3_mem rfl (List.mem_of_getElem? (i := 191) rfl)
theorem zk_cd_yX7_sumUp : Cond.code yX7_sumUp cX7_sumUp 3 none ∈ zTb := zt3_mem rfl (List.mem_of_getElem? (i := 192) rfl)
theorem zk_ml_11_435 : Cond.methodLink RX11 435 yX5_write ∈ zTb := zt3_mem rfl (List.mem_of_getElem? (i := 193) rfl)
theorem zk_im_yX5_write : Cond.instanceMethod yX5_write ∈ zTb := zt3_mem rfl (List.mem_of_getElem? (i := 194) rfl)
theorem zk_se_yX5_write : Cond.selects RX5 yX5_write yX5_write ∈ zTb := zt3_mem rfl (List.mem_of_getElem? (i := 195) rfl)
theorem zk_cd_yX5_write : Cond.code yX5_write cX5_write 5 (some .int) ∈ zTb := zt3_mem rfl (List.mem_of_getElem? (i := 196) rfl)
theorem zk_ml_5_31 : Cond.methodLink RX5 31 yX5_putOff ∈ zTb := zt3_mem rfl (List.mem_of_getElem? (i := 197) rfl)
theorem zk_im_yX5_putOff : Cond.instanceMethod yX5_putOff ∈ zTb := zt3_mem rfl (List.mem_of_getElem? (i := 199) rfl)
theorem zk_cd_yX5_putOff : Cond.code yX5_putOff cX5_putOff 2 none ∈ zTb := zt3_mem rfl (List.mem_of_getElem? (i := 200) rfl)
theorem zk_ml_5_64 : Cond.methodLink RX5 64 yX6_set ∈ zTb := zt3_mem rfl (List.mem_of_getElem? (i := 201) rfl)
theorem zk_ml_5_34 : Cond.methodLink RX5 34 yX6_get ∈ zTb := zt3_mem rfl (List.mem_of_getElem? (i := 202) rfl)
theorem zk_ml_5_38 : Cond.methodLink RX5 38 yX5_writeByte ∈ zTb := zt3_mem rfl (List.mem_of_getElem? (i := 203) rfl)
theorem zk_im_yX5_writeByte : Cond.instanceMethod yX5_writeByte ∈ zTb := zt3_mem rfl (List.mem_of_getElem? (i := 205) rfl)
theorem zk_cd_yX5_writeByte : Cond.code yX5_writeByte cX5_writeByte 3 none ∈ zTb := zt3_mem rfl (List.mem_of_getElem? (i := 206) rfl)
theorem zk_ml_5_42 : Cond.methodLink RX5 42 yX3_isToken ∈ zTb := zt3_mem rfl (List.mem_of_getElem? (i := 207) rfl)
theorem zk_ml_5_48 : Cond.methodLink RX5 48 yX5_writeToken ∈ zTb := zt3_mem rfl (List.mem_of_getElem? (i := 208) rfl)
theorem zk_im_yX5_writeToken : Cond.instanceMethod yX5_writeToken ∈ zTb := zt3_mem rfl (List.mem_of_getElem? (i := 210) rfl)
theorem zk_cd_yX5_writeToken : Cond.code yX5_writeToken cX5_writeToken 4 none ∈ zTb := zt3_mem rfl (List.mem_of_getElem? (i := 211) rfl)
theorem zk_ml_5_71 : Cond.methodLink RX5 71 yX3_byteOf ∈ zTb := zt3_mem rfl (List.mem_of_getElem? (i := 212) rfl)
theorem zk_im_yX3_byteOf : Cond.instanceMethod yX3_byteOf ∈ zTb := zt3_mem rfl (List.mem_of_getElem? (i := 213) rfl)
theorem zk_se_yX3_byteOf : Cond.selects RX3 yX3_byteOf yX3_byteOf ∈ zTb := zt3_mem rfl (List.mem_of_getElem? (i := 214) rfl)
theorem zk_cd_yX3_byteOf : Cond.code yX3_byteOf cX3_byteOf 4 (some .int) ∈ zTb := zt3_mem rfl (List.mem_of_getElem? (i := 215) rfl)
theorem zk_ml_5_51 : Cond.methodLink RX5 51 yX5_openUp ∈ zTb := zt3_mem rfl (List.mem_of_getElem? (i := 216) rfl)
theorem zk_im_yX5_openUp : Cond.instanceMethod yX5_openUp ∈ zTb := zt3_mem rfl (List.mem_of_getElem? (i := 218) rfl)
theorem zk_cd_yX5_openUp : Cond.code yX5_openUp cX5_openUp 5 none ∈ zTb := zt3_mem rfl (List.mem_of_getElem? (i := 219) rfl)
theorem zk_ml_5_57 : Cond.methodLink RX5 57 yX3_childOf ∈ zTb := zt3_mem rfl (List.mem_of_getElem? (i := 220) rfl)
theorem zk_ml_5_61 : Cond.methodLink RX5 61 yX3_childrenOf ∈ zTb := zt3_mem rfl (List.mem_of_getElem? (i := 221) rfl)
theorem zk_fl_11_14 : Cond.fieldLink RX11 14 "RegrowDesk" "tape" "LRegrowDesk$Row;" ∈ zTb := zt3_mem rfl (List.mem_of_getElem? (i := 222) rfl)
theorem zk_fl_11_138 : Cond.fieldLink RX11 138 "RegrowDesk" "tapeSize" "I" ∈ zTb := zt3_mem rfl (List.mem_of_getElem? (i := 223) rfl)
theorem zk_fl_11_20 : Cond.fieldLink RX11 20 "RegrowDesk" "moments" "[LRegrowDesk$Moment;" ∈ zTb := zt3_mem rfl (List.mem_of_getElem? (i := 224) rfl)
theorem zk_fl_11_25 : Cond.fieldLink RX11 25 "RegrowDesk" "draft" "LRegrowDesk$Moment;" ∈ zTb := zt3_mem rfl (List.mem_of_getElem? (i := 225) rfl)
theorem zk_fl_11_202 : Cond.fieldLink RX11 202 "RegrowDesk" "slot" "I" ∈ zTb := zt3_mem rfl (List.mem_of_getElem? (i := 226) rfl)
theorem zk_fl_11_196 : Cond.fieldLink RX11 196 "RegrowDesk" "undoable" "I" ∈ zTb := zt3_mem rfl (List.mem_of_getElem? (i := 227) rfl)
theorem zk_fl_11_199 : Cond.fieldLink RX11 199 "RegrowDesk" "redoable" "I" ∈ zTb := zt3_mem rfl (List.mem_of_getElem? (i := 228) rfl)
theorem zk_fl_11_309 : Cond.fieldLink RX11 309 "RegrowDesk" "edits" "I" ∈ zTb := zt3_mem rfl (List.mem_of_getElem? (i := 229) rfl)
theorem zk_fl_11_29 : Cond.fieldLink RX11 29 "RegrowDesk" "latest" "LRegrowDesk$Row;" ∈ zTb := zt3_mem rfl (List.mem_of_getElem? (i := 230) rfl)
theorem zk_fl_11_35 : Cond.fieldLink RX11 35 "RegrowDesk" "nodes" "LRegrowDesk$Nodes;" ∈ zTb := zt3_mem rfl (List.mem_of_getElem? (i := 231) rfl)
theorem zk_fl_11_44 : Cond.fieldLink RX11 44 "RegrowDesk" "view" "LRegrowDesk$TreeView;" ∈ zTb := zt3_mem rfl (List.mem_of_getElem? (i := 232) rfl)
theorem zk_fl_11_53 : Cond.fieldLink RX11 53 "RegrowDesk" "grower" "LRegrowDesk$Grower;" ∈ zTb := zt3_mem rfl (List.mem_of_getElem? (i := 233) rfl)
theorem zk_fl_11_60 : Cond.fieldLink RX11 60 "RegrowDesk" "runner" "LRegrowDesk$Runner;" ∈ zTb := zt3_mem rfl (List.mem_of_getElem? (i := 234) rfl)
theorem zk_fl_11_67 : Cond.fieldLink RX11 67 "RegrowDesk" "pairs" "LRegrowDesk$Pairs;" ∈ zTb := zt3_mem rfl (List.mem_of_getElem? (i := 235) rfl)
theorem zk_fl_11_74 : Cond.fieldLink RX11 74 "RegrowDesk" "printer" "LRegrowDesk$Printer;" ∈ zTb := zt3_mem rfl (List.mem_of_getElem? (i := 236) rfl)
theorem zk_fl_11_81 : Cond.fieldLink RX11 81 "RegrowDesk" "adviser" "LRegrowDesk$Adviser;" ∈ zTb := zt3_mem rfl (List.mem_of_getElem? (i := 237) rfl)
theorem zk_fl_11_85 : Cond.fieldLink RX11 85 "RegrowDesk" "printed" "LRegrowDesk$Row;" ∈ zTb := zt3_mem rfl (List.mem_of_getElem? (i := 238) rfl)
theorem zk_fl_11_88 : Cond.fieldLink RX11 88 "RegrowDesk" "printedOther" "LRegrowDesk$Row;" ∈ zTb := zt3_mem rfl (List.mem_of_getElem? (i := 239) rfl)
theorem zk_fl_11_291 : Cond.fieldLink RX11 291 "RegrowDesk" "printedSize" "I" ∈ zTb := zt4_mem rfl (List.mem_of_getElem? (i := 0) rfl)
theorem zk_ml_L_13 : Cond.methodLink RL 13 yX11_back ∈ zTb := zt4_mem rfl (List.mem_of_getElem? (i := 40) rfl)
theorem zk_im_yX11_back : Cond.instanceMethod yX11_back ∈ zTb := zt4_mem rfl (List.mem_of_getElem? (i := 41) rfl)
theorem zk_se_yX11_back : Cond.selects RX11 yX11_back yX11_back ∈ zTb := zt4_mem rfl (List.mem_of_getElem? (i := 42) rfl)
theorem zk_cd_yX11_back : Cond.code yX11_back cX11_back 2 (some .int) ∈ zTb := zt4_mem rfl (List.mem_of_getElem? (i := 43) rfl)
theorem zk_ml_L_65 : Cond.methodLink RL 65 yX11_edit ∈ zTb := zt4_mem rfl (List.mem_of_getElem? (i := 44) rfl)
theorem zk_im_yX11_edit : Cond.instanceMethod yX11_edit ∈ zTb := zt4_mem rfl (List.mem_of_getElem? (i := 45) rfl)
theorem zk_se_yX11_edit : Cond.selects RX11 yX11_edit yX11_edit ∈ zTb := zt4_mem rfl (List.mem_of_getElem? (i := 46) rfl)
theorem zk_cd_yX11_edit : Cond.code yX11_edit cX11_edit 4 (some .int) ∈ zTb := zt4_mem rfl (List.mem_of_getElem? (i := 47) rfl)
theorem zk_ml_11_147 : Cond.methodLink RX11 147 yX2_append ∈ zTb := zt4_mem rfl (List.mem_of_getElem? (i := 48) rfl)
theorem zk_im_yX2_append : Cond.instanceMethod yX2_append ∈ zTb := zt4_mem rfl (List.mem_of_getElem? (i := 49) rfl)
theorem zk_se_yX2_append : Cond.selects RX2 yX2_append yX2_append ∈ zTb := zt4_mem rfl (List.mem_of_getElem? (i := 50) rfl)
theorem zk_cd_yX2_append : Cond.code yX2_append cX2_append 5 none ∈ zTb := zt4_mem rfl (List.mem_of_getElem? (i := 51) rfl)
theorem zk_ml_2_40 : Cond.methodLink RX2 40 yX6_get ∈ zTb := zt4_mem rfl (List.mem_of_getElem? (i := 52) rfl)
theorem zk_ml_2_44 : Cond.methodLink RX2 44 yX6_set ∈ zTb := zt4_mem rfl (List.mem_of_getElem? (i := 53) rfl)
theorem zk_ml_11_151 : Cond.methodLink RX11 151 yX11_change ∈ zTb := zt4_mem rfl (List.mem_of_getElem? (i := 54) rfl)
theorem zk_im_yX11_change : Cond.instanceMethod yX11_change ∈ zTb := zt4_mem rfl (List.mem_of_getElem? (i := 56) rfl)
theorem zk_cd_yX11_change : Cond.code yX11_change cX11_change 5 (some .int) ∈ zTb := zt4_mem rfl (List.mem_of_getElem? (i := 57) rfl)
theorem zk_ml_11_372 : Cond.methodLink RX11 372 yX9_ruledSize ∈ zTb := zt4_mem rfl (List.mem_of_getElem? (i := 58) rfl)
theorem zk_im_yX9_ruledSize : Cond.instanceMethod yX9_ruledSize ∈ zTb := zt4_mem rfl (List.mem_of_getElem? (i := 59) rfl)
theorem zk_se_yX9_ruledSize : Cond.selects RX9 yX9_ruledSize yX9_ruledSize ∈ zTb := zt4_mem rfl (List.mem_of_getElem? (i := 60) rfl)
theorem zk_cd_yX9_ruledSize : Cond.code yX9_ruledSize cX9_ruledSize 3 (some .int) ∈ zTb := zt4_mem rfl (List.mem_of_getElem? (i := 61) rfl)
theorem zk_ml_11_375 : Cond.methodLink RX11 375 yX1_regrow ∈ zTb := zt4_mem rfl (List.mem_of_getElem? (i := 62) rfl)
theorem zk_im_yX1_regrow : Cond.instanceMethod yX1_regrow ∈ zTb := zt4_mem rfl (List.mem_of_getElem? (i := 63) rfl)
theorem zk_se_yX1_regrow : Cond.selects RX1 yX1_regrow yX1_regrow ∈ zTb := zt4_mem rfl (List.mem_of_getElem? (i := 64) rfl)
theorem zk_cd_yX1_regrow : Cond.code yX1_regrow cX1_regrow 4 (some .boolean) ∈ zTb := zt4_mem rfl (List.mem_of_getElem? (i := 65) rfl)
theorem zk_ml_1_59 : Cond.methodLink RX1 59 yX1_keepAlike ∈ zTb := zt4_mem rfl (List.mem_of_getElem? (i := 66) rfl)
theorem zk_im_yX1_keepAlike : Cond.instanceMethod yX1_keepAlike ∈ zTb := zt4_mem rfl (List.mem_of_getElem? (i := 68) rfl)
theorem zk_cd_yX1_keepAlike : Cond.code yX1_keepAlike cX1_keepAlike 4 none ∈ zTb := zt4_mem rfl (List.mem_of_getElem? (i := 69) rfl)
theorem zk_ml_1_71 : Cond.methodLink RX1 71 Lib.Math.min.name ∈ zTb := zt4_mem rfl (List.mem_of_getElem? (i := 70) rfl)
theorem zk_ml_1_35 : Cond.methodLink RX1 35 yX6_get ∈ zTb := zt4_mem rfl (List.mem_of_getElem? (i := 71) rfl)
theorem zk_ml_1_83 : Cond.methodLink RX1 83 yX3_isLike ∈ zTb := zt4_mem rfl (List.mem_of_getElem? (i := 72) rfl)
theorem zk_im_yX3_isLike : Cond.instanceMethod yX3_isLike ∈ zTb := zt4_mem rfl (List.mem_of_getElem? (i := 73) rfl)
theorem zk_se_yX3_isLike : Cond.selects RX3 yX3_isLike yX3_isLike ∈ zTb := zt4_mem rfl (List.mem_of_getElem? (i := 74) rfl)
theorem zk_cd_yX3_isLike : Cond.code yX3_isLike cX3_isLike 4 (some .boolean) ∈ zTb := zt4_mem rfl (List.mem_of_getElem? (i := 75) rfl)
theorem zk_ml_1_63 : Cond.methodLink RX1 63 yX1_nameTokens ∈ zTb := zt4_mem rfl (List.mem_of_getElem? (i := 76) rfl)
theorem zk_im_yX1_nameTokens : Cond.instanceMethod yX1_nameTokens ∈ zTb := zt4_mem rfl (List.mem_of_getElem? (i := 78) rfl)
theorem zk_cd_yX1_nameTokens : Cond.code yX1_nameTokens cX1_nameTokens 7 none ∈ zTb := zt4_mem rfl (List.mem_of_getElem? (i := 79) rfl)
theorem zk_ml_1_95 : Cond.methodLink RX1 95 yX1_oldPlace ∈ zTb := zt4_mem rfl (List.mem_of_getElem? (i := 80) rfl)
theorem zk_im_yX1_oldPlace : Cond.instanceMethod yX1_oldPlace ∈ zTb := zt4_mem rfl (List.mem_of_getElem? (i := 82) rfl)
theorem zk_cd_yX1_oldPlace : Cond.code yX1_oldPlace cX1_oldPlace 2 (some .int) ∈ zTb := zt4_mem rfl (List.mem_of_getElem? (i := 83) rfl)
theorem zk_ml_1_98 : Cond.methodLink RX1 98 yX6_set ∈ zTb := zt4_mem rfl (List.mem_of_getElem? (i := 84) rfl)
theorem zk_ml_1_114 : Cond.methodLink RX1 114 yX3_makeToken ∈ zTb := zt4_mem rfl (List.mem_of_getElem? (i := 85) rfl)
theorem zk_ml_1_67 : Cond.methodLink RX1 67 yX1_growAll ∈ zTb := zt4_mem rfl (List.mem_of_getElem? (i := 86) rfl)
theorem zk_im_yX1_growAll : Cond.instanceMethod yX1_growAll ∈ zTb := zt4_mem rfl (List.mem_of_getElem? (i := 88) rfl)
theorem zk_cd_yX1_growAll : Cond.code yX1_growAll cX1_growAll 8 (some .boolean) ∈ zTb := zt4_mem rfl (List.mem_of_getElem? (i := 89) rfl)
theorem zk_ml_1_130 : Cond.methodLink RX1 130 yX1_putSound ∈ zTb := zt4_mem rfl (List.mem_of_getElem? (i := 90) rfl)
theorem zk_im_yX1_putSound : Cond.instanceMethod yX1_putSound ∈ zTb := zt4_mem rfl (List.mem_of_getElem? (i := 92) rfl)
theorem zk_cd_yX1_putSound : Cond.code yX1_putSound cX1_putSound 7 (some .int) ∈ zTb := zt4_mem rfl (List.mem_of_getElem? (i := 93) rfl)
theorem zk_ml_1_140 : Cond.methodLink RX1 140 yX9_parentOf ∈ zTb := zt4_mem rfl (List.mem_of_getElem? (i := 94) rfl)
theorem zk_im_yX9_parentOf : Cond.instanceMethod yX9_parentOf ∈ zTb := zt4_mem rfl (List.mem_of_getElem? (i := 95) rfl)
theorem zk_se_yX9_parentOf : Cond.selects RX9 yX9_parentOf yX9_parentOf ∈ zTb := zt4_mem rfl (List.mem_of_getElem? (i := 96) rfl)
theorem zk_cd_yX9_parentOf : Cond.code yX9_parentOf cX9_parentOf 2 (some .int) ∈ zTb := zt4_mem rfl (List.mem_of_getElem? (i := 97) rfl)
theorem zk_ml_9_130 : Cond.methodLink RX9 130 yX9_holds ∈ zTb := zt4_mem rfl (List.mem_of_getElem? (i := 98) rfl)
theorem zk_im_yX9_holds : Cond.instanceMethod yX9_holds ∈ zTb := zt4_mem rfl (List.mem_of_getElem? (i := 99) rfl)
theorem zk_se_yX9_holds : Cond.selects RX9 yX9_holds yX9_holds ∈ zTb := zt4_mem rfl (List.mem_of_getElem? (i := 100) rfl)
theorem zk_cd_yX9_holds : Cond.code yX9_holds cX9_holds 3 (some .boolean) ∈ zTb := zt4_mem rfl (List.mem_of_getElem? (i := 101) rfl)
theorem zk_ml_9_127 : Cond.methodLink RX9 127 yX3_has ∈ zTb := zt4_mem rfl (List.mem_of_getElem? (i := 102) rfl)
theorem zk_im_yX3_has : Cond.instanceMethod yX3_has ∈ zTb := zt4_mem rfl (List.mem_of_getElem? (i := 103) rfl)
theorem zk_se_yX3_has : Cond.selects RX3 yX3_has yX3_has ∈ zTb := zt4_mem rfl (List.mem_of_getElem? (i := 104) rfl)
theorem zk_cd_yX3_has : Cond.code yX3_has cX3_has 2 (some .boolean) ∈ zTb := zt4_mem rfl (List.mem_of_getElem? (i := 105) rfl)
theorem zk_ml_1_145 : Cond.methodLink RX1 145 yX9_firstOf ∈ zTb := zt4_mem rfl (List.mem_of_getElem? (i := 106) rfl)
theorem zk_im_yX9_firstOf : Cond.instanceMethod yX9_firstOf ∈ zTb := zt4_mem rfl (List.mem_of_getElem? (i := 107) rfl)
theorem zk_se_yX9_firstOf : Cond.selects RX9 yX9_firstOf yX9_firstOf ∈ zTb := zt4_mem rfl (List.mem_of_getElem? (i := 108) rfl)
theorem zk_cd_yX9_firstOf : Cond.code yX9_firstOf cX9_firstOf 2 (some .int) ∈ zTb := zt4_mem rfl (List.mem_of_getElem? (i := 109) rfl)
theorem zk_ml_1_153 : Cond.methodLink RX1 153 yX1_isSound ∈ zTb := zt4_mem rfl (List.mem_of_getElem? (i := 110) rfl)
theorem zk_im_yX1_isSound : Cond.instanceMethod yX1_isSound ∈ zTb := zt4_mem rfl (List.mem_of_getElem? (i := 112) rfl)
theorem zk_cd_yX1_isSound : Cond.code yX1_isSound cX1_isSound 4 (some .boolean) ∈ zTb := zt4_mem rfl (List.mem_of_getElem? (i := 113) rfl)
theorem zk_st_yX11_leadsTo : Cond.static yX11_leadsTo ∈ zTb := zt4_mem rfl (List.mem_of_getElem? (i := 115) rfl)
theorem zk_cd_yX11_leadsTo : Cond.code yX11_leadsTo cX11_leadsTo 3 (some .int) ∈ zTb := zt4_mem rfl (List.mem_of_getElem? (i := 116) rfl)
theorem zk_fl_11_446 : Cond.fieldLink RX11 446 "RegrowDesk" "LEADS" "[I" ∈ zTb := zt4_mem rfl (List.mem_of_getElem? (i := 117) rfl)
theorem zk_ml_1_163 : Cond.methodLink RX1 163 yX1_put ∈ zTb := zt4_mem rfl (List.mem_of_getElem? (i := 119) rfl)
theorem zk_im_yX1_put : Cond.instanceMethod yX1_put ∈ zTb := zt4_mem rfl (List.mem_of_getElem? (i := 121) rfl)
theorem zk_cd_yX1_put : Cond.code yX1_put cX1_put 3 none ∈ zTb := zt4_mem rfl (List.mem_of_getElem? (i := 122) rfl)
theorem zk_ml_1_133 : Cond.methodLink RX1 133 yX1_putToken ∈ zTb := zt4_mem rfl (List.mem_of_getElem? (i := 123) rfl)
theorem zk_im_yX1_putToken : Cond.instanceMethod yX1_putToken ∈ zTb := zt4_mem rfl (List.mem_of_getElem? (i := 125) rfl)
theorem zk_cd_yX1_putToken : Cond.code yX1_putToken cX1_putToken 4 (some .int) ∈ zTb := zt4_mem rfl (List.mem_of_getElem? (i := 126) rfl)
theorem zk_ml_1_136 : Cond.methodLink RX1 136 yX1_makeByRule ∈ zTb := zt4_mem rfl (List.mem_of_getElem? (i := 127) rfl)
theorem zk_im_yX1_makeByRule : Cond.instanceMethod yX1_makeByRule ∈ zTb := zt4_mem rfl (List.mem_of_getElem? (i := 129) rfl)
theorem zk_cd_yX1_makeByRule : Cond.code yX1_makeByRule cX1_makeByRule 7 (some .boolean) ∈ zTb := zt4_mem rfl (List.mem_of_getElem? (i := 130) rfl)
theorem zk_st_yX11_ruleAt : Cond.static yX11_ruleAt ∈ zTb := zt4_mem rfl (List.mem_of_getElem? (i := 132) rfl)
theorem zk_cd_yX11_ruleAt : Cond.code yX11_ruleAt cX11_ruleAt 1 (some .int) ∈ zTb := zt4_mem rfl (List.mem_of_getElem? (i := 133) rfl)
theorem zk_fl_11_450 : Cond.fieldLink RX11 450 "RegrowDesk" "STATE_RULE" "[I" ∈ zTb := zt4_mem rfl (List.mem_of_getElem? (i := 134) rfl)
theorem zk_ml_1_172 : Cond.methodLink RX1 172 yX3_makeRuled ∈ zTb := zt4_mem rfl (List.mem_of_getElem? (i := 137) rfl)
theorem zk_ml_1_176 : Cond.methodLink RX1 176 yX3_giveChild ∈ zTb := zt4_mem rfl (List.mem_of_getElem? (i := 138) rfl)
theorem zk_im_yX3_giveChild : Cond.instanceMethod yX3_giveChild ∈ zTb := zt4_mem rfl (List.mem_of_getElem? (i := 139) rfl)
theorem zk_se_yX3_giveChild : Cond.selects RX3 yX3_giveChild yX3_giveChild ∈ zTb := zt4_mem rfl (List.mem_of_getElem? (i := 140) rfl)
theorem zk_cd_yX3_giveChild : Cond.code yX3_giveChild cX3_giveChild 4 none ∈ zTb := zt4_mem rfl (List.mem_of_getElem? (i := 141) rfl)
theorem zk_ml_3_63 : Cond.methodLink RX3 63 yX6_add ∈ zTb := zt4_mem rfl (List.mem_of_getElem? (i := 142) rfl)
theorem zk_ml_11_379 : Cond.methodLink RX11 379 yX1_onTop ∈ zTb := zt4_mem rfl (List.mem_of_getElem? (i := 144) rfl)
theorem zk_im_yX1_onTop : Cond.instanceMethod yX1_onTop ∈ zTb := zt4_mem rfl (List.mem_of_getElem? (i := 145) rfl)
theorem zk_se_yX1_onTop : Cond.selects RX1 yX1_onTop yX1_onTop ∈ zTb := zt4_mem rfl (List.mem_of_getElem? (i := 146) rfl)
theorem zk_cd_yX1_onTop : Cond.code yX1_onTop cX1_onTop 1 (some .int) ∈ zTb := zt4_mem rfl (List.mem_of_getElem? (i := 147) rfl)
theorem zk_ml_11_382 : Cond.methodLink RX11 382 yX2_keepGood ∈ zTb := zt4_mem rfl (List.mem_of_getElem? (i := 148) rfl)
theorem zk_ml_11_385 : Cond.methodLink RX11 385 yX11_tellGrowth ∈ zTb := zt4_mem rfl (List.mem_of_getElem? (i := 149) rfl)
theorem zk_im_yX11_tellGrowth : Cond.instanceMethod yX11_tellGrowth ∈ zTb := zt4_mem rfl (List.mem_of_getElem? (i := 151) rfl)
theorem zk_cd_yX11_tellGrowth : Cond.code yX11_tellGrowth cX11_tellGrowth 2 none ∈ zTb := zt4_mem rfl (List.mem_of_getElem? (i := 152) rfl)
theorem zk_ml_11_388 : Cond.methodLink RX11 388 yX11_layRow ∈ zTb := zt4_mem rfl (List.mem_of_getElem? (i := 153) rfl)
theorem zk_im_yX11_layRow : Cond.instanceMethod yX11_layRow ∈ zTb := zt4_mem rfl (List.mem_of_getElem? (i := 155) rfl)
theorem zk_cd_yX11_layRow : Cond.code yX11_layRow cX11_layRow 2 none ∈ zTb := zt4_mem rfl (List.mem_of_getElem? (i := 156) rfl)
theorem zk_ml_11_415 : Cond.methodLink RX11 415 yX4_layAll ∈ zTb := zt4_mem rfl (List.mem_of_getElem? (i := 157) rfl)
theorem zk_im_yX4_layAll : Cond.instanceMethod yX4_layAll ∈ zTb := zt4_mem rfl (List.mem_of_getElem? (i := 158) rfl)
theorem zk_se_yX4_layAll : Cond.selects RX4 yX4_layAll yX4_layAll ∈ zTb := zt4_mem rfl (List.mem_of_getElem? (i := 159) rfl)
theorem zk_cd_yX4_layAll : Cond.code yX4_layAll cX4_layAll 3 (some .int) ∈ zTb := zt4_mem rfl (List.mem_of_getElem? (i := 160) rfl)
theorem zk_ml_4_29 : Cond.methodLink RX4 29 yX4_layPart ∈ zTb := zt4_mem rfl (List.mem_of_getElem? (i := 161) rfl)
theorem zk_st_yX4_layPart : Cond.static yX4_layPart ∈ zTb := zt4_mem rfl (List.mem_of_getElem? (i := 162) rfl)
theorem zk_cd_yX4_layPart : Cond.code yX4_layPart cX4_layPart 8 (some .int) ∈ zTb := zt4_mem rfl (List.mem_of_getElem? (i := 163) rfl)
theorem zk_ml_4_33 : Cond.methodLink RX4 33 yX6_get ∈ zTb := zt4_mem rfl (List.mem_of_getElem? (i := 164) rfl)
theorem zk_ml_4_37 : Cond.methodLink RX4 37 yX4_findOrMake ∈ zTb := zt4_mem rfl (List.mem_of_getElem? (i := 165) rfl)
theorem zk_im_yX4_findOrMake : Cond.instanceMethod yX4_findOrMake ∈ zTb := zt4_mem rfl (List.mem_of_getElem? (i := 167) rfl)
theorem zk_cd_yX4_findOrMake : Cond.code yX4_findOrMake cX4_findOrMake 6 (some .int) ∈ zTb := zt4_mem rfl (List.mem_of_getElem? (i := 168) rfl)
theorem zk_ml_4_45 : Cond.methodLink RX4 45 yX6_set ∈ zTb := zt4_mem rfl (List.mem_of_getElem? (i := 169) rfl)
theorem zk_ml_11_391 : Cond.methodLink RX11 391 yX11_tellGood ∈ zTb := zt4_mem rfl (List.mem_of_getElem? (i := 170) rfl)
theorem zk_im_yX11_tellGood : Cond.instanceMethod yX11_tellGood ∈ zTb := zt4_mem rfl (List.mem_of_getElem? (i := 172) rfl)
theorem zk_cd_yX11_tellGood : Cond.code yX11_tellGood cX11_tellGood 2 none ∈ zTb := zt4_mem rfl (List.mem_of_getElem? (i := 173) rfl)
theorem zk_ml_11_394 : Cond.methodLink RX11 394 yX11_turnToNext ∈ zTb := zt4_mem rfl (List.mem_of_getElem? (i := 174) rfl)
theorem zk_im_yX11_turnToNext : Cond.instanceMethod yX11_turnToNext ∈ zTb := zt4_mem rfl (List.mem_of_getElem? (i := 176) rfl)
theorem zk_cd_yX11_turnToNext : Cond.code yX11_turnToNext cX11_turnToNext 1 none ∈ zTb := zt4_mem rfl (List.mem_of_getElem? (i := 177) rfl)
theorem zk_ml_11_205 : Cond.methodLink RX11 205 yX11_nextSlot ∈ zTb := zt4_mem rfl (List.mem_of_getElem? (i := 178) rfl)
theorem zk_im_yX11_nextSlot : Cond.instanceMethod yX11_nextSlot ∈ zTb := zt4_mem rfl (List.mem_of_getElem? (i := 180) rfl)
theorem zk_cd_yX11_nextSlot : Cond.code yX11_nextSlot cX11_nextSlot 1 (some .int) ∈ zTb := zt4_mem rfl (List.mem_of_getElem? (i := 181) rfl)
theorem zk_ml_11_425 : Cond.methodLink RX11 425 Lib.Math.min.name ∈ zTb := zt4_mem rfl (List.mem_of_getElem? (i := 182) rfl)
theorem zk_ml_L_120 : Cond.methodLink RL 120 yX11_rename ∈ zTb := zt4_mem rfl (List.mem_of_getElem? (i := 183) rfl)
theorem zk_im_yX11_rename : Cond.instanceMethod yX11_rename ∈ zTb := zt4_mem rfl (List.mem_of_getElem? (i := 184) rfl)
theorem zk_se_yX11_rename : Cond.selects RX11 yX11_rename yX11_rename ∈ zTb := zt4_mem rfl (List.mem_of_getElem? (i := 185) rfl)
theorem zk_cd_yX11_rename : Cond.code yX11_rename cX11_rename 5 (some .int) ∈ zTb := zt4_mem rfl (List.mem_of_getElem? (i := 186) rfl)
theorem zk_ml_11_159 : Cond.methodLink RX11 159 yX8_has ∈ zTb := zt4_mem rfl (List.mem_of_getElem? (i := 187) rfl)
theorem zk_im_yX8_has : Cond.instanceMethod yX8_has ∈ zTb := zt4_mem rfl (List.mem_of_getElem? (i := 188) rfl)
theorem zk_se_yX8_has : Cond.selects RX8 yX8_has yX8_has ∈ zTb := zt4_mem rfl (List.mem_of_getElem? (i := 189) rfl)
theorem zk_cd_yX8_has : Cond.code yX8_has cX8_has 2 (some .boolean) ∈ zTb := zt4_mem rfl (List.mem_of_getElem? (i := 190) rfl)
theorem zk_ml_11_166 : Cond.methodLink RX11 166 yX6_get ∈ zTb := zt4_mem rfl (List.mem_of_getElem? (i := 191) rfl)
theorem zk_ml_11_170 : Cond.methodLink RX11 170 yX11_tapeIsName ∈ zTb := zt4_mem rfl (List.mem_of_getElem? (i := 192) rfl)
theorem zk_im_yX11_tapeIsName : Cond.instanceMethod yX11_tapeIsName ∈ zTb := zt4_mem rfl (List.mem_of_getElem? (i := 194) rfl)
theorem zk_cd_yX11_tapeIsName : Cond.code yX11_tapeIsName cX11_tapeIsName 2 (some .boolean) ∈ zTb := zt4_mem rfl (List.mem_of_getElem? (i := 195) rfl)
theorem zk_ml_11_439 : Cond.methodLink RX11 439 yX8_isLetter ∈ zTb := zt4_mem rfl (List.mem_of_getElem? (i := 196) rfl)
theorem zk_ml_11_177 : Cond.methodLink RX11 177 yX8_sameBytes ∈ zTb := zt4_mem rfl (List.mem_of_getElem? (i := 197) rfl)
theorem zk_im_yX8_sameBytes : Cond.instanceMethod yX8_sameBytes ∈ zTb := zt4_mem rfl (List.mem_of_getElem? (i := 198) rfl)
theorem zk_se_yX8_sameBytes : Cond.selects RX8 yX8_sameBytes yX8_sameBytes ∈ zTb := zt4_mem rfl (List.mem_of_getElem? (i := 199) rfl)
theorem zk_cd_yX8_sameBytes : Cond.code yX8_sameBytes cX8_sameBytes 3 (some .boolean) ∈ zTb := zt4_mem rfl (List.mem_of_getElem? (i := 200) rfl)
theorem zk_ml_L_99 : Cond.methodLink RL 99 yX11_cut ∈ zTb := zt4_mem rfl (List.mem_of_getElem? (i := 201) rfl)
theorem zk_im_yX11_cut : Cond.instanceMethod yX11_cut ∈ zTb := zt4_mem rfl (List.mem_of_getElem? (i := 202) rfl)
theorem zk_se_yX11_cut : Cond.selects RX11 yX11_cut yX11_cut ∈ zTb := zt4_mem rfl (List.mem_of_getElem? (i := 203) rfl)
theorem zk_cd_yX11_cut : Cond.code yX11_cut cX11_cut 3 (some .int) ∈ zTb := zt4_mem rfl (List.mem_of_getElem? (i := 204) rfl)
theorem zk_ml_11_187 : Cond.methodLink RX11 187 yX9_hasRun ∈ zTb := zt4_mem rfl (List.mem_of_getElem? (i := 205) rfl)
theorem zk_im_yX9_hasRun : Cond.instanceMethod yX9_hasRun ∈ zTb := zt4_mem rfl (List.mem_of_getElem? (i := 206) rfl)
theorem zk_se_yX9_hasRun : Cond.selects RX9 yX9_hasRun yX9_hasRun ∈ zTb := zt4_mem rfl (List.mem_of_getElem? (i := 207) rfl)
theorem zk_cd_yX9_hasRun : Cond.code yX9_hasRun cX9_hasRun 2 (some .boolean) ∈ zTb := zt4_mem rfl (List.mem_of_getElem? (i := 208) rfl)
theorem zk_ml_11_190 : Cond.methodLink RX11 190 yX11_runStart ∈ zTb := zt4_mem rfl (List.mem_of_getElem? (i := 209) rfl)
theorem zk_im_yX11_runStart : Cond.instanceMethod yX11_runStart ∈ zTb := zt4_mem rfl (List.mem_of_getElem? (i := 211) rfl)
theorem zk_cd_yX11_runStart : Cond.code yX11_runStart cX11_runStart 2 (some .int) ∈ zTb := zt4_mem rfl (List.mem_of_getElem? (i := 212) rfl)
theorem zk_ml_11_273 : Cond.methodLink RX11 273 yX11_startOf ∈ zTb := zt4_mem rfl (List.mem_of_getElem? (i := 213) rfl)
theorem zk_im_yX11_startOf : Cond.instanceMethod yX11_startOf ∈ zTb := zt4_mem rfl (List.mem_of_getElem? (i := 215) rfl)
theorem zk_cd_yX11_startOf : Cond.code yX11_startOf cX11_startOf 2 (some .int) ∈ zTb := zt4_mem rfl (List.mem_of_getElem? (i := 216) rfl)
theorem zk_ml_11_263 : Cond.methodLink RX11 263 yX9_firstOf ∈ zTb := zt4_mem rfl (List.mem_of_getElem? (i := 217) rfl)
theorem zk_ml_11_193 : Cond.methodLink RX11 193 yX11_runEnd ∈ zTb := zt4_mem rfl (List.mem_of_getElem? (i := 218) rfl)
theorem zk_im_yX11_runEnd : Cond.instanceMethod yX11_runEnd ∈ zTb := zt4_mem rfl (List.mem_of_getElem? (i := 220) rfl)
theorem zk_cd_yX11_runEnd : Cond.code yX11_runEnd cX11_runEnd 2 (some .int) ∈ zTb := zt4_mem rfl (List.mem_of_getElem? (i := 221) rfl)
theorem zk_ml_11_276 : Cond.methodLink RX11 276 yX11_endOf ∈ zTb := zt4_mem rfl (List.mem_of_getElem? (i := 222) rfl)
theorem zk_im_yX11_endOf : Cond.instanceMethod yX11_endOf ∈ zTb := zt4_mem rfl (List.mem_of_getElem? (i := 224) rfl)
theorem zk_cd_yX11_endOf : Cond.code yX11_endOf cX11_endOf 4 (some .int) ∈ zTb := zt4_mem rfl (List.mem_of_getElem? (i := 225) rfl)
theorem zk_ml_L_102 : Cond.methodLink RL 102 yX11_twin ∈ zTb := zt4_mem rfl (List.mem_of_getElem? (i := 226) rfl)
theorem zk_im_yX11_twin : Cond.instanceMethod yX11_twin ∈ zTb := zt4_mem rfl (List.mem_of_getElem? (i := 227) rfl)
theorem zk_se_yX11_twin : Cond.selects RX11 yX11_twin yX11_twin ∈ zTb := zt4_mem rfl (List.mem_of_getElem? (i := 228) rfl)
theorem zk_cd_yX11_twin : Cond.code yX11_twin cX11_twin 3 (some .int) ∈ zTb := zt4_mem rfl (List.mem_of_getElem? (i := 229) rfl)
theorem zk_ml_L_105 : Cond.methodLink RL 105 yX11_swap ∈ zTb := zt4_mem rfl (List.mem_of_getElem? (i := 230) rfl)
theorem zk_im_yX11_swap : Cond.instanceMethod yX11_swap ∈ zTb := zt4_mem rfl (List.mem_of_getElem? (i := 231) rfl)
theorem zk_se_yX11_swap : Cond.selects RX11 yX11_swap yX11_swap ∈ zTb := zt4_mem rfl (List.mem_of_getElem? (i := 232) rfl)
theorem zk_cd_yX11_swap : Cond.code yX11_swap cX11_swap 3 (some .int) ∈ zTb := zt4_mem rfl (List.mem_of_getElem? (i := 233) rfl)
theorem zk_ml_L_89 : Cond.methodLink RL 89 yX11_undo ∈ zTb := zt4_mem rfl (List.mem_of_getElem? (i := 234) rfl)
theorem zk_im_yX11_undo : Cond.instanceMethod yX11_undo ∈ zTb := zt4_mem rfl (List.mem_of_getElem? (i := 235) rfl)
theorem zk_se_yX11_undo : Cond.selects RX11 yX11_undo yX11_undo ∈ zTb := zt4_mem rfl (List.mem_of_getElem? (i := 236) rfl)
theorem zk_cd_yX11_undo : Cond.code yX11_undo cX11_undo 1 (some .boolean) ∈ zTb := zt4_mem rfl (List.mem_of_getElem? (i := 237) rfl)
theorem zk_ml_L_93 : Cond.methodLink RL 93 yX11_redo ∈ zTb := zt4_mem rfl (List.mem_of_getElem? (i := 238) rfl)
theorem zk_im_yX11_redo : Cond.instanceMethod yX11_redo ∈ zTb := zt4_mem rfl (List.mem_of_getElem? (i := 239) rfl)
theorem zk_se_yX11_redo : Cond.selects RX11 yX11_redo yX11_redo ∈ zTb := zt5_mem rfl (List.mem_of_getElem? (i := 0) rfl)
theorem zk_cd_yX11_redo : Cond.code yX11_redo cX11_redo 1 (some .boolean) ∈ zTb := zt5_mem rfl (List.mem_of_getElem? (i := 1) rfl)
theorem zk_ml_L_62 : Cond.methodLink RL 62 yX11_text ∈ zTb := zt5_mem rfl (List.mem_of_getElem? (i := 2) rfl)
theorem zk_im_yX11_text : Cond.instanceMethod yX11_text ∈ zTb := zt5_mem rfl (List.mem_of_getElem? (i := 3) rfl)
theorem zk_se_yX11_text : Cond.selects RX11 yX11_text yX11_text ∈ zTb := zt5_mem rfl (List.mem_of_getElem? (i := 4) rfl)
theorem zk_cd_yX11_text : Cond.code yX11_text cX11_text 3 (some .int) ∈ zTb := zt5_mem rfl (List.mem_of_getElem? (i := 5) rfl)
theorem zk_ml_L_108 : Cond.methodLink RL 108 yX11_token ∈ zTb := zt5_mem rfl (List.mem_of_getElem? (i := 6) rfl)
theorem zk_im_yX11_token : Cond.instanceMethod yX11_token ∈ zTb := zt5_mem rfl (List.mem_of_getElem? (i := 7) rfl)
theorem zk_se_yX11_token : Cond.selects RX11 yX11_token yX11_token ∈ zTb := zt5_mem rfl (List.mem_of_getElem? (i := 8) rfl)
theorem zk_cd_yX11_token : Cond.code yX11_token cX11_token 4 (some .int) ∈ zTb := zt5_mem rfl (List.mem_of_getElem? (i := 9) rfl)
theorem zk_ml_L_117 : Cond.methodLink RL 117 yX11_fresh ∈ zTb := zt5_mem rfl (List.mem_of_getElem? (i := 10) rfl)
theorem zk_im_yX11_fresh : Cond.instanceMethod yX11_fresh ∈ zTb := zt5_mem rfl (List.mem_of_getElem? (i := 11) rfl)
theorem zk_se_yX11_fresh : Cond.selects RX11 yX11_fresh yX11_fresh ∈ zTb := zt5_mem rfl (List.mem_of_getElem? (i := 12) rfl)
theorem zk_cd_yX11_fresh : Cond.code yX11_fresh cX11_fresh 1 (some .int) ∈ zTb := zt5_mem rfl (List.mem_of_getElem? (i := 13) rfl)
theorem zk_ml_L_145 : Cond.methodLink RL 145 yX11_inTheWay ∈ zTb := zt5_mem rfl (List.mem_of_getElem? (i := 14) rfl)
theorem zk_im_yX11_inTheWay : Cond.instanceMethod yX11_inTheWay ∈ zTb := zt5_mem rfl (List.mem_of_getElem? (i := 15) rfl)
theorem zk_se_yX11_inTheWay : Cond.selects RX11 yX11_inTheWay yX11_inTheWay ∈ zTb := zt5_mem rfl (List.mem_of_getElem? (i := 16) rfl)
theorem zk_cd_yX11_inTheWay : Cond.code yX11_inTheWay cX11_inTheWay 3 (some .int) ∈ zTb := zt5_mem rfl (List.mem_of_getElem? (i := 17) rfl)
theorem zk_ml_11_216 : Cond.methodLink RX11 216 yX0_findWay ∈ zTb := zt5_mem rfl (List.mem_of_getElem? (i := 18) rfl)
theorem zk_im_yX0_findWay : Cond.instanceMethod yX0_findWay ∈ zTb := zt5_mem rfl (List.mem_of_getElem? (i := 19) rfl)
theorem zk_se_yX0_findWay : Cond.selects RX0 yX0_findWay yX0_findWay ∈ zTb := zt5_mem rfl (List.mem_of_getElem? (i := 20) rfl)
theorem zk_cd_yX0_findWay : Cond.code yX0_findWay cX0_findWay 6 none ∈ zTb := zt5_mem rfl (List.mem_of_getElem? (i := 21) rfl)
theorem zk_ml_0_30 : Cond.methodLink RX0 30 yX0_weigh ∈ zTb := zt5_mem rfl (List.mem_of_getElem? (i := 22) rfl)
theorem zk_im_yX0_weigh : Cond.instanceMethod yX0_weigh ∈ zTb := zt5_mem rfl (List.mem_of_getElem? (i := 24) rfl)
theorem zk_cd_yX0_weigh : Cond.code yX0_weigh cX0_weigh 4 none ∈ zTb := zt5_mem rfl (List.mem_of_getElem? (i := 25) rfl)
theorem zk_ml_0_78 : Cond.methodLink RX0 78 yX6_set ∈ zTb := zt5_mem rfl (List.mem_of_getElem? (i := 26) rfl)
theorem zk_ml_0_66 : Cond.methodLink RX0 66 yX6_get ∈ zTb := zt5_mem rfl (List.mem_of_getElem? (i := 27) rfl)
theorem zk_ml_0_34 : Cond.methodLink RX0 34 yX0_lastMisfit ∈ zTb := zt5_mem rfl (List.mem_of_getElem? (i := 28) rfl)
theorem zk_st_yX0_lastMisfit : Cond.static yX0_lastMisfit ∈ zTb := zt5_mem rfl (List.mem_of_getElem? (i := 29) rfl)
theorem zk_cd_yX0_lastMisfit : Cond.code yX0_lastMisfit cX0_lastMisfit 2 (some .int) ∈ zTb := zt5_mem rfl (List.mem_of_getElem? (i := 30) rfl)
theorem zk_st_yX11_fits : Cond.static yX11_fits ∈ zTb := zt5_mem rfl (List.mem_of_getElem? (i := 32) rfl)
theorem zk_cd_yX11_fits : Cond.code yX11_fits cX11_fits 2 (some .boolean) ∈ zTb := zt5_mem rfl (List.mem_of_getElem? (i := 33) rfl)
theorem zk_fl_11_459 : Cond.fieldLink RX11 459 "RegrowDesk" "FOLLOWERS" "[I" ∈ zTb := zt5_mem rfl (List.mem_of_getElem? (i := 34) rfl)
theorem zk_ml_0_44 : Cond.methodLink RX0 44 yX10_begin ∈ zTb := zt5_mem rfl (List.mem_of_getElem? (i := 36) rfl)
theorem zk_im_yX10_begin : Cond.instanceMethod yX10_begin ∈ zTb := zt5_mem rfl (List.mem_of_getElem? (i := 37) rfl)
theorem zk_se_yX10_begin : Cond.selects RX10 yX10_begin yX10_begin ∈ zTb := zt5_mem rfl (List.mem_of_getElem? (i := 38) rfl)
theorem zk_cd_yX10_begin : Cond.code yX10_begin cX10_begin 1 none ∈ zTb := zt5_mem rfl (List.mem_of_getElem? (i := 39) rfl)
theorem zk_ml_10_24 : Cond.methodLink RX10 24 yX6_set ∈ zTb := zt5_mem rfl (List.mem_of_getElem? (i := 40) rfl)
theorem zk_ml_0_47 : Cond.methodLink RX0 47 yX0_couldGo ∈ zTb := zt5_mem rfl (List.mem_of_getElem? (i := 41) rfl)
theorem zk_im_yX0_couldGo : Cond.instanceMethod yX0_couldGo ∈ zTb := zt5_mem rfl (List.mem_of_getElem? (i := 43) rfl)
theorem zk_cd_yX0_couldGo : Cond.code yX0_couldGo cX0_couldGo 6 (some .boolean) ∈ zTb := zt5_mem rfl (List.mem_of_getElem? (i := 44) rfl)
theorem zk_ml_0_51 : Cond.methodLink RX0 51 yX10_copyFrom ∈ zTb := zt5_mem rfl (List.mem_of_getElem? (i := 45) rfl)
theorem zk_im_yX10_copyFrom : Cond.instanceMethod yX10_copyFrom ∈ zTb := zt5_mem rfl (List.mem_of_getElem? (i := 46) rfl)
theorem zk_se_yX10_copyFrom : Cond.selects RX10 yX10_copyFrom yX10_copyFrom ∈ zTb := zt5_mem rfl (List.mem_of_getElem? (i := 47) rfl)
theorem zk_cd_yX10_copyFrom : Cond.code yX10_copyFrom cX10_copyFrom 2 none ∈ zTb := zt5_mem rfl (List.mem_of_getElem? (i := 48) rfl)
theorem zk_ml_10_28 : Cond.methodLink RX10 28 yX6_copyFrom ∈ zTb := zt5_mem rfl (List.mem_of_getElem? (i := 49) rfl)
theorem zk_ml_0_55 : Cond.methodLink RX0 55 yX10_acceptsFrom ∈ zTb := zt5_mem rfl (List.mem_of_getElem? (i := 50) rfl)
theorem zk_im_yX10_acceptsFrom : Cond.instanceMethod yX10_acceptsFrom ∈ zTb := zt5_mem rfl (List.mem_of_getElem? (i := 51) rfl)
theorem zk_se_yX10_acceptsFrom : Cond.selects RX10 yX10_acceptsFrom yX10_acceptsFrom ∈ zTb := zt5_mem rfl (List.mem_of_getElem? (i := 52) rfl)
theorem zk_cd_yX10_acceptsFrom : Cond.code yX10_acceptsFrom cX10_acceptsFrom 4 (some .boolean) ∈ zTb := zt5_mem rfl (List.mem_of_getElem? (i := 53) rfl)
theorem zk_ml_10_32 : Cond.methodLink RX10 32 yX6_get ∈ zTb := zt5_mem rfl (List.mem_of_getElem? (i := 54) rfl)
theorem zk_ml_10_57 : Cond.methodLink RX10 57 yX10_accepts ∈ zTb := zt5_mem rfl (List.mem_of_getElem? (i := 55) rfl)
theorem zk_im_yX10_accepts : Cond.instanceMethod yX10_accepts ∈ zTb := zt5_mem rfl (List.mem_of_getElem? (i := 56) rfl)
theorem zk_se_yX10_accepts : Cond.selects RX10 yX10_accepts yX10_accepts ∈ zTb := zt5_mem rfl (List.mem_of_getElem? (i := 57) rfl)
theorem zk_cd_yX10_accepts : Cond.code yX10_accepts cX10_accepts 6 (some .boolean) ∈ zTb := zt5_mem rfl (List.mem_of_getElem? (i := 58) rfl)
theorem zk_ml_0_59 : Cond.methodLink RX0 59 yX0_found ∈ zTb := zt5_mem rfl (List.mem_of_getElem? (i := 63) rfl)
theorem zk_im_yX0_found : Cond.instanceMethod yX0_found ∈ zTb := zt5_mem rfl (List.mem_of_getElem? (i := 65) rfl)
theorem zk_cd_yX0_found : Cond.code yX0_found cX0_found 3 none ∈ zTb := zt5_mem rfl (List.mem_of_getElem? (i := 66) rfl)
theorem zk_ml_0_70 : Cond.methodLink RX0 70 yX10_accepts ∈ zTb := zt5_mem rfl (List.mem_of_getElem? (i := 67) rfl)
theorem zk_ml_L_151 : Cond.methodLink RL 151 yX11_expected ∈ zTb := zt5_mem rfl (List.mem_of_getElem? (i := 68) rfl)
theorem zk_im_yX11_expected : Cond.instanceMethod yX11_expected ∈ zTb := zt5_mem rfl (List.mem_of_getElem? (i := 69) rfl)
theorem zk_se_yX11_expected : Cond.selects RX11 yX11_expected yX11_expected ∈ zTb := zt5_mem rfl (List.mem_of_getElem? (i := 70) rfl)
theorem zk_cd_yX11_expected : Cond.code yX11_expected cX11_expected 2 (some .int) ∈ zTb := zt5_mem rfl (List.mem_of_getElem? (i := 71) rfl)
theorem zk_ml_11_226 : Cond.methodLink RX11 226 yX0_kindsInPlace ∈ zTb := zt5_mem rfl (List.mem_of_getElem? (i := 72) rfl)
theorem zk_im_yX0_kindsInPlace : Cond.instanceMethod yX0_kindsInPlace ∈ zTb := zt5_mem rfl (List.mem_of_getElem? (i := 73) rfl)
theorem zk_se_yX0_kindsInPlace : Cond.selects RX0 yX0_kindsInPlace yX0_kindsInPlace ∈ zTb := zt5_mem rfl (List.mem_of_getElem? (i := 74) rfl)
theorem zk_cd_yX0_kindsInPlace : Cond.code yX0_kindsInPlace cX0_kindsInPlace 4 (some .int) ∈ zTb := zt5_mem rfl (List.mem_of_getElem? (i := 75) rfl)
theorem zk_ml_0_81 : Cond.methodLink RX0 81 yX0_goToWrong ∈ zTb := zt5_mem rfl (List.mem_of_getElem? (i := 76) rfl)
theorem zk_im_yX0_goToWrong : Cond.instanceMethod yX0_goToWrong ∈ zTb := zt5_mem rfl (List.mem_of_getElem? (i := 78) rfl)
theorem zk_cd_yX0_goToWrong : Cond.code yX0_goToWrong cX0_goToWrong 3 none ∈ zTb := zt5_mem rfl (List.mem_of_getElem? (i := 79) rfl)
theorem zk_ml_L_148 : Cond.methodLink RL 148 yX11_mend ∈ zTb := zt5_mem rfl (List.mem_of_getElem? (i := 80) rfl)
theorem zk_im_yX11_mend : Cond.instanceMethod yX11_mend ∈ zTb := zt5_mem rfl (List.mem_of_getElem? (i := 81) rfl)
theorem zk_se_yX11_mend : Cond.selects RX11 yX11_mend yX11_mend ∈ zTb := zt5_mem rfl (List.mem_of_getElem? (i := 82) rfl)
theorem zk_cd_yX11_mend : Cond.code yX11_mend cX11_mend 3 (some .int) ∈ zTb := zt5_mem rfl (List.mem_of_getElem? (i := 83) rfl)
theorem zk_ml_11_230 : Cond.methodLink RX11 230 yX0_findMend ∈ zTb := zt5_mem rfl (List.mem_of_getElem? (i := 84) rfl)
theorem zk_im_yX0_findMend : Cond.instanceMethod yX0_findMend ∈ zTb := zt5_mem rfl (List.mem_of_getElem? (i := 85) rfl)
theorem zk_se_yX0_findMend : Cond.selects RX0 yX0_findMend yX0_findMend ∈ zTb := zt5_mem rfl (List.mem_of_getElem? (i := 86) rfl)
theorem zk_cd_yX0_findMend : Cond.code yX0_findMend cX0_findMend 5 none ∈ zTb := zt5_mem rfl (List.mem_of_getElem? (i := 87) rfl)
theorem zk_ml_L_46 : Cond.methodLink RL 46 yX11_span ∈ zTb := zt5_mem rfl (List.mem_of_getElem? (i := 88) rfl)
theorem zk_im_yX11_span : Cond.instanceMethod yX11_span ∈ zTb := zt5_mem rfl (List.mem_of_getElem? (i := 89) rfl)
theorem zk_se_yX11_span : Cond.selects RX11 yX11_span yX11_span ∈ zTb := zt5_mem rfl (List.mem_of_getElem? (i := 90) rfl)
theorem zk_cd_yX11_span : Cond.code yX11_span cX11_span 3 (some .int) ∈ zTb := zt5_mem rfl (List.mem_of_getElem? (i := 91) rfl)
theorem zk_ml_11_254 : Cond.methodLink RX11 254 yX9_holds ∈ zTb := zt5_mem rfl (List.mem_of_getElem? (i := 92) rfl)
theorem zk_ml_L_154 : Cond.methodLink RL 154 yX11_print ∈ zTb := zt5_mem rfl (List.mem_of_getElem? (i := 93) rfl)
theorem zk_im_yX11_print : Cond.instanceMethod yX11_print ∈ zTb := zt5_mem rfl (List.mem_of_getElem? (i := 94) rfl)
theorem zk_se_yX11_print : Cond.selects RX11 yX11_print yX11_print ∈ zTb := zt5_mem rfl (List.mem_of_getElem? (i := 95) rfl)
theorem zk_cd_yX11_print : Cond.code yX11_print cX11_print 2 (some .int) ∈ zTb := zt5_mem rfl (List.mem_of_getElem? (i := 96) rfl)
theorem zk_ml_L_82 : Cond.methodLink RL 82 yX11_runs ∈ zTb := zt5_mem rfl (List.mem_of_getElem? (i := 97) rfl)
theorem zk_im_yX11_runs : Cond.instanceMethod yX11_runs ∈ zTb := zt5_mem rfl (List.mem_of_getElem? (i := 98) rfl)
theorem zk_se_yX11_runs : Cond.selects RX11 yX11_runs yX11_runs ∈ zTb := zt5_mem rfl (List.mem_of_getElem? (i := 99) rfl)
theorem zk_cd_yX11_runs : Cond.code yX11_runs cX11_runs 1 (some .int) ∈ zTb := zt5_mem rfl (List.mem_of_getElem? (i := 100) rfl)
theorem zk_ml_L_96 : Cond.methodLink RL 96 yX11_run ∈ zTb := zt5_mem rfl (List.mem_of_getElem? (i := 101) rfl)
theorem zk_im_yX11_run : Cond.instanceMethod yX11_run ∈ zTb := zt5_mem rfl (List.mem_of_getElem? (i := 102) rfl)
theorem zk_se_yX11_run : Cond.selects RX11 yX11_run yX11_run ∈ zTb := zt5_mem rfl (List.mem_of_getElem? (i := 103) rfl)
theorem zk_cd_yX11_run : Cond.code yX11_run cX11_run 2 (some .int) ∈ zTb := zt5_mem rfl (List.mem_of_getElem? (i := 104) rfl)
theorem zk_ml_L_111 : Cond.methodLink RL 111 yX11_value ∈ zTb := zt5_mem rfl (List.mem_of_getElem? (i := 105) rfl)
theorem zk_im_yX11_value : Cond.instanceMethod yX11_value ∈ zTb := zt5_mem rfl (List.mem_of_getElem? (i := 106) rfl)
theorem zk_se_yX11_value : Cond.selects RX11 yX11_value yX11_value ∈ zTb := zt5_mem rfl (List.mem_of_getElem? (i := 107) rfl)
theorem zk_cd_yX11_value : Cond.code yX11_value cX11_value 2 (some .int) ∈ zTb := zt5_mem rfl (List.mem_of_getElem? (i := 108) rfl)
theorem zk_ml_11_325 : Cond.methodLink RX11 325 yX11_isGoodName ∈ zTb := zt5_mem rfl (List.mem_of_getElem? (i := 109) rfl)
theorem zk_im_yX11_isGoodName : Cond.instanceMethod yX11_isGoodName ∈ zTb := zt5_mem rfl (List.mem_of_getElem? (i := 111) rfl)
theorem zk_cd_yX11_isGoodName : Cond.code yX11_isGoodName cX11_isGoodName 3 (some .boolean) ∈ zTb := zt5_mem rfl (List.mem_of_getElem? (i := 112) rfl)
theorem zk_ml_11_209 : Cond.methodLink RX11 209 yX2_hasGood ∈ zTb := zt5_mem rfl (List.mem_of_getElem? (i := 113) rfl)
theorem zk_im_yX2_hasGood : Cond.instanceMethod yX2_hasGood ∈ zTb := zt5_mem rfl (List.mem_of_getElem? (i := 114) rfl)
theorem zk_se_yX2_hasGood : Cond.selects RX2 yX2_hasGood yX2_hasGood ∈ zTb := zt5_mem rfl (List.mem_of_getElem? (i := 115) rfl)
theorem zk_cd_yX2_hasGood : Cond.code yX2_hasGood cX2_hasGood 2 (some .boolean) ∈ zTb := zt5_mem rfl (List.mem_of_getElem? (i := 116) rfl)
theorem zk_ml_11_328 : Cond.methodLink RX11 328 yX7_valueOf ∈ zTb := zt5_mem rfl (List.mem_of_getElem? (i := 117) rfl)
theorem zk_ml_L_114 : Cond.methodLink RL 114 yX11_sets ∈ zTb := zt5_mem rfl (List.mem_of_getElem? (i := 118) rfl)
theorem zk_im_yX11_sets : Cond.instanceMethod yX11_sets ∈ zTb := zt5_mem rfl (List.mem_of_getElem? (i := 119) rfl)
theorem zk_se_yX11_sets : Cond.selects RX11 yX11_sets yX11_sets ∈ zTb := zt5_mem rfl (List.mem_of_getElem? (i := 120) rfl)
theorem zk_cd_yX11_sets : Cond.code yX11_sets cX11_sets 2 (some .int) ∈ zTb := zt5_mem rfl (List.mem_of_getElem? (i := 121) rfl)
theorem zk_ml_11_340 : Cond.methodLink RX11 340 yX7_timesSet ∈ zTb := zt5_mem rfl (List.mem_of_getElem? (i := 122) rfl)
theorem zk_im_yX7_timesSet : Cond.instanceMethod yX7_timesSet ∈ zTb := zt5_mem rfl (List.mem_of_getElem? (i := 123) rfl)
theorem zk_se_yX7_timesSet : Cond.selects RX7 yX7_timesSet yX7_timesSet ∈ zTb := zt5_mem rfl (List.mem_of_getElem? (i := 124) rfl)
theorem zk_cd_yX7_timesSet : Cond.code yX7_timesSet cX7_timesSet 2 (some .int) ∈ zTb := zt5_mem rfl (List.mem_of_getElem? (i := 125) rfl)
theorem zk_ml_L_157 : Cond.methodLink RL 157 yX11_idle ∈ zTb := zt5_mem rfl (List.mem_of_getElem? (i := 126) rfl)
theorem zk_im_yX11_idle : Cond.instanceMethod yX11_idle ∈ zTb := zt5_mem rfl (List.mem_of_getElem? (i := 127) rfl)
theorem zk_se_yX11_idle : Cond.selects RX11 yX11_idle yX11_idle ∈ zTb := zt5_mem rfl (List.mem_of_getElem? (i := 128) rfl)
theorem zk_cd_yX11_idle : Cond.code yX11_idle cX11_idle 2 (some .int) ∈ zTb := zt5_mem rfl (List.mem_of_getElem? (i := 129) rfl)
theorem zk_ml_L_138 : Cond.methodLink RL 138 yX11_last ∈ zTb := zt5_mem rfl (List.mem_of_getElem? (i := 130) rfl)
theorem zk_im_yX11_last : Cond.instanceMethod yX11_last ∈ zTb := zt5_mem rfl (List.mem_of_getElem? (i := 131) rfl)
theorem zk_se_yX11_last : Cond.selects RX11 yX11_last yX11_last ∈ zTb := zt5_mem rfl (List.mem_of_getElem? (i := 132) rfl)
theorem zk_cd_yX11_last : Cond.code yX11_last cX11_last 2 (some .int) ∈ zTb := zt5_mem rfl (List.mem_of_getElem? (i := 133) rfl)
theorem zk_ml_L_36 : Cond.methodLink RL 36 yX11_count ∈ zTb := zt5_mem rfl (List.mem_of_getElem? (i := 134) rfl)
theorem zk_im_yX11_count : Cond.instanceMethod yX11_count ∈ zTb := zt5_mem rfl (List.mem_of_getElem? (i := 135) rfl)
theorem zk_se_yX11_count : Cond.selects RX11 yX11_count yX11_count ∈ zTb := zt5_mem rfl (List.mem_of_getElem? (i := 136) rfl)
theorem zk_cd_yX11_count : Cond.code yX11_count cX11_count 3 (some .int) ∈ zTb := zt5_mem rfl (List.mem_of_getElem? (i := 137) rfl)
theorem zk_ml_11_356 : Cond.methodLink RX11 356 yX11_countInTree ∈ zTb := zt5_mem rfl (List.mem_of_getElem? (i := 138) rfl)
theorem zk_im_yX11_countInTree : Cond.instanceMethod yX11_countInTree ∈ zTb := zt5_mem rfl (List.mem_of_getElem? (i := 140) rfl)
theorem zk_cd_yX11_countInTree : Cond.code yX11_countInTree cX11_countInTree 2 (some .int) ∈ zTb := zt5_mem rfl (List.mem_of_getElem? (i := 141) rfl)
theorem zk_ml_11_312 : Cond.methodLink RX11 312 yX9_madeWithin ∈ zTb := zt5_mem rfl (List.mem_of_getElem? (i := 142) rfl)
theorem zk_im_yX9_madeWithin : Cond.instanceMethod yX9_madeWithin ∈ zTb := zt5_mem rfl (List.mem_of_getElem? (i := 143) rfl)
theorem zk_se_yX9_madeWithin : Cond.selects RX9 yX9_madeWithin yX9_madeWithin ∈ zTb := zt5_mem rfl (List.mem_of_getElem? (i := 144) rfl)
theorem zk_cd_yX9_madeWithin : Cond.code yX9_madeWithin cX9_madeWithin 6 (some .int) ∈ zTb := zt5_mem rfl (List.mem_of_getElem? (i := 145) rfl)
theorem zk_ml_9_139 : Cond.methodLink RX9 139 yX9_placeBehind ∈ zTb := zt5_mem rfl (List.mem_of_getElem? (i := 146) rfl)
theorem zk_im_yX9_placeBehind : Cond.instanceMethod yX9_placeBehind ∈ zTb := zt5_mem rfl (List.mem_of_getElem? (i := 147) rfl)
theorem zk_se_yX9_placeBehind : Cond.selects RX9 yX9_placeBehind yX9_placeBehind ∈ zTb := zt5_mem rfl (List.mem_of_getElem? (i := 148) rfl)
theorem zk_cd_yX9_placeBehind : Cond.code yX9_placeBehind cX9_placeBehind 3 (some .int) ∈ zTb := zt5_mem rfl (List.mem_of_getElem? (i := 149) rfl)
theorem zk_ml_L_17 : Cond.methodLink RL 17 yL_with ∈ zTb := zt5_mem rfl (List.mem_of_getElem? (i := 150) rfl)
theorem zk_st_yL_with : Cond.static yL_with ∈ zTb := zt5_mem rfl (List.mem_of_getElem? (i := 151) rfl)
theorem zk_cd_yL_with : Cond.code yL_with cL_with 4 (some (.array .int)) ∈ zTb := zt5_mem rfl (List.mem_of_getElem? (i := 152) rfl)
theorem zk_ml_L_73 : Cond.methodLink RL 73 yL_part ∈ zTb := zt5_mem rfl (List.mem_of_getElem? (i := 153) rfl)
theorem zk_st_yL_part : Cond.static yL_part ∈ zTb := zt5_mem rfl (List.mem_of_getElem? (i := 154) rfl)
theorem zk_cd_yL_part : Cond.code yL_part cL_part 5 (some (.array .int)) ∈ zTb := zt5_mem rfl (List.mem_of_getElem? (i := 155) rfl)
theorem zk_ml_L_123 : Cond.methodLink RL 123 yL_drawn ∈ zTb := zt5_mem rfl (List.mem_of_getElem? (i := 156) rfl)
theorem zk_st_yL_drawn : Cond.static yL_drawn ∈ zTb := zt5_mem rfl (List.mem_of_getElem? (i := 157) rfl)
theorem zk_cd_yL_drawn : Cond.code yL_drawn cL_drawn 8 (some (.array .int)) ∈ zTb := zt5_mem rfl (List.mem_of_getElem? (i := 158) rfl)
theorem zk_ml_L_77 : Cond.methodLink RL 77 yL_tape ∈ zTb := zt5_mem rfl (List.mem_of_getElem? (i := 159) rfl)
theorem zk_st_yL_tape : Cond.static yL_tape ∈ zTb := zt5_mem rfl (List.mem_of_getElem? (i := 160) rfl)
theorem zk_cd_yL_tape : Cond.code yL_tape cL_tape 6 none ∈ zTb := zt5_mem rfl (List.mem_of_getElem? (i := 161) rfl)
theorem zk_ml_L_23 : Cond.methodLink RL 23 yL_sign ∈ zTb := zt5_mem rfl (List.mem_of_getElem? (i := 162) rfl)
theorem zk_st_yL_sign : Cond.static yL_sign ∈ zTb := zt5_mem rfl (List.mem_of_getElem? (i := 163) rfl)
theorem zk_cd_yL_sign : Cond.code yL_sign cL_sign 2 none ∈ zTb := zt5_mem rfl (List.mem_of_getElem? (i := 164) rfl)
theorem zk_ml_L_7 : Cond.methodLink RL 7 yX11_feed ∈ zTb := zt5_mem rfl (List.mem_of_getElem? (i := 165) rfl)
theorem zk_im_yX11_feed : Cond.instanceMethod yX11_feed ∈ zTb := zt5_mem rfl (List.mem_of_getElem? (i := 166) rfl)
theorem zk_se_yX11_feed : Cond.selects RX11 yX11_feed yX11_feed ∈ zTb := zt5_mem rfl (List.mem_of_getElem? (i := 167) rfl)
theorem zk_cd_yX11_feed : Cond.code yX11_feed cX11_feed 6 (some .int) ∈ zTb := zt5_mem rfl (List.mem_of_getElem? (i := 168) rfl)
theorem zk_ml_11_141 : Cond.methodLink RX11 141 yX11_feedFour ∈ zTb := zt5_mem rfl (List.mem_of_getElem? (i := 169) rfl)
theorem zk_im_yX11_feedFour : Cond.instanceMethod yX11_feedFour ∈ zTb := zt5_mem rfl (List.mem_of_getElem? (i := 171) rfl)
theorem zk_cd_yX11_feedFour : Cond.code yX11_feedFour cX11_feedFour 3 none ∈ zTb := zt5_mem rfl (List.mem_of_getElem? (i := 172) rfl)
theorem zk_ml_L_127 : Cond.methodLink RL 127 yL_cut ∈ zTb := zt5_mem rfl (List.mem_of_getElem? (i := 173) rfl)
theorem zk_st_yL_cut : Cond.static yL_cut ∈ zTb := zt5_mem rfl (List.mem_of_getElem? (i := 174) rfl)
theorem zk_cd_yL_cut : Cond.code yL_cut cL_cut 9 (some (.array (.array .int))) ∈ zTb := zt5_mem rfl (List.mem_of_getElem? (i := 175) rfl)
theorem zk_cl_L_27 : Cond.classLink RL 27 "[I" ∈ zTb := zt5_mem rfl (List.mem_of_getElem? (i := 176) rfl)
theorem zk_ml_L_29 : Cond.methodLink RL 29 yL_letter ∈ zTb := zt5_mem rfl (List.mem_of_getElem? (i := 178) rfl)
theorem zk_st_yL_letter : Cond.static yL_letter ∈ zTb := zt5_mem rfl (List.mem_of_getElem? (i := 179) rfl)
theorem zk_cd_yL_letter : Cond.code yL_letter cL_letter 1 (some .boolean) ∈ zTb := zt5_mem rfl (List.mem_of_getElem? (i := 180) rfl)
theorem zk_ml_L_33 : Cond.methodLink RL 33 yL_digit ∈ zTb := zt5_mem rfl (List.mem_of_getElem? (i := 181) rfl)
theorem zk_st_yL_digit : Cond.static yL_digit ∈ zTb := zt5_mem rfl (List.mem_of_getElem? (i := 182) rfl)
theorem zk_cd_yL_digit : Cond.code yL_digit cL_digit 1 (some .boolean) ∈ zTb := zt5_mem rfl (List.mem_of_getElem? (i := 183) rfl)
theorem zk_ml_L_134 : Cond.methodLink RL 134 yL_wrong ∈ zTb := zt5_mem rfl (List.mem_of_getElem? (i := 184) rfl)
theorem zk_st_yL_wrong : Cond.static yL_wrong ∈ zTb := zt5_mem rfl (List.mem_of_getElem? (i := 185) rfl)
theorem zk_cd_yL_wrong : Cond.code yL_wrong cL_wrong 6 (some .int) ∈ zTb := zt5_mem rfl (List.mem_of_getElem? (i := 186) rfl)
theorem zk_ml_L_130 : Cond.methodLink RL 130 yL_kinds ∈ zTb := zt5_mem rfl (List.mem_of_getElem? (i := 187) rfl)
theorem zk_st_yL_kinds : Cond.static yL_kinds ∈ zTb := zt5_mem rfl (List.mem_of_getElem? (i := 188) rfl)
theorem zk_cd_yL_kinds : Cond.code yL_kinds cL_kinds 3 (some (.array .int)) ∈ zTb := zt5_mem rfl (List.mem_of_getElem? (i := 189) rfl)
theorem zk_ml_L_141 : Cond.methodLink RL 141 yL_stands ∈ zTb := zt5_mem rfl (List.mem_of_getElem? (i := 190) rfl)
theorem zk_st_yL_stands : Cond.static yL_stands ∈ zTb := zt5_mem rfl (List.mem_of_getElem? (i := 191) rfl)
theorem zk_cd_yL_stands : Cond.code yL_stands cL_stands 14 (some .boolean) ∈ zTb := zt5_mem rfl (List.mem_of_getElem? (i := 192) rfl)
theorem zk_ml_L_39 : Cond.methodLink RL 39 yX11_node ∈ zTb := zt5_mem rfl (List.mem_of_getElem? (i := 193) rfl)
theorem zk_im_yX11_node : Cond.instanceMethod yX11_node ∈ zTb := zt5_mem rfl (List.mem_of_getElem? (i := 194) rfl)
theorem zk_se_yX11_node : Cond.selects RX11 yX11_node yX11_node ∈ zTb := zt5_mem rfl (List.mem_of_getElem? (i := 195) rfl)
theorem zk_cd_yX11_node : Cond.code yX11_node cX11_node 3 (some .int) ∈ zTb := zt5_mem rfl (List.mem_of_getElem? (i := 196) rfl)
theorem zk_ml_11_233 : Cond.methodLink RX11 233 yX3_has ∈ zTb := zt5_mem rfl (List.mem_of_getElem? (i := 197) rfl)
theorem zk_ml_11_240 : Cond.methodLink RX11 240 yX3_childrenOf ∈ zTb := zt5_mem rfl (List.mem_of_getElem? (i := 198) rfl)
theorem zk_ml_11_251 : Cond.methodLink RX11 251 yX11_isEnd ∈ zTb := zt5_mem rfl (List.mem_of_getElem? (i := 199) rfl)
theorem zk_im_yX11_isEnd : Cond.instanceMethod yX11_isEnd ∈ zTb := zt5_mem rfl (List.mem_of_getElem? (i := 201) rfl)
theorem zk_cd_yX11_isEnd : Cond.code yX11_isEnd cX11_isEnd 2 (some .boolean) ∈ zTb := zt5_mem rfl (List.mem_of_getElem? (i := 202) rfl)
theorem zk_ml_11_257 : Cond.methodLink RX11 257 yX9_parentOf ∈ zTb := zt5_mem rfl (List.mem_of_getElem? (i := 203) rfl)
theorem zk_ml_L_43 : Cond.methodLink RL 43 yX11_good ∈ zTb := zt5_mem rfl (List.mem_of_getElem? (i := 204) rfl)
theorem zk_im_yX11_good : Cond.instanceMethod yX11_good ∈ zTb := zt5_mem rfl (List.mem_of_getElem? (i := 205) rfl)
theorem zk_se_yX11_good : Cond.selects RX11 yX11_good yX11_good ∈ zTb := zt5_mem rfl (List.mem_of_getElem? (i := 206) rfl)
theorem zk_cd_yX11_good : Cond.code yX11_good cX11_good 3 (some .int) ∈ zTb := zt5_mem rfl (List.mem_of_getElem? (i := 207) rfl)
theorem zk_ml_L_49 : Cond.methodLink RL 49 yL_symbols ∈ zTb := zt5_mem rfl (List.mem_of_getElem? (i := 208) rfl)
theorem zk_st_yL_symbols : Cond.static yL_symbols ∈ zTb := zt5_mem rfl (List.mem_of_getElem? (i := 209) rfl)
theorem zk_cd_yL_symbols : Cond.code yL_symbols cL_symbols 1 (some (.array .int)) ∈ zTb := zt5_mem rfl (List.mem_of_getElem? (i := 210) rfl)
theorem zk_ml_L_53 : Cond.methodLink RL 53 yX11_child ∈ zTb := zt5_mem rfl (List.mem_of_getElem? (i := 211) rfl)
theorem zk_im_yX11_child : Cond.instanceMethod yX11_child ∈ zTb := zt5_mem rfl (List.mem_of_getElem? (i := 212) rfl)
theorem zk_se_yX11_child : Cond.selects RX11 yX11_child yX11_child ∈ zTb := zt5_mem rfl (List.mem_of_getElem? (i := 213) rfl)
theorem zk_cd_yX11_child : Cond.code yX11_child cX11_child 3 (some .int) ∈ zTb := zt5_mem rfl (List.mem_of_getElem? (i := 214) rfl)
theorem zk_ml_11_266 : Cond.methodLink RX11 266 yX3_childOf ∈ zTb := zt5_mem rfl (List.mem_of_getElem? (i := 215) rfl)
theorem zk_ml_L_56 : Cond.methodLink RL 56 yX11_beside ∈ zTb := zt5_mem rfl (List.mem_of_getElem? (i := 216) rfl)
theorem zk_im_yX11_beside : Cond.instanceMethod yX11_beside ∈ zTb := zt5_mem rfl (List.mem_of_getElem? (i := 217) rfl)
theorem zk_se_yX11_beside : Cond.selects RX11 yX11_beside yX11_beside ∈ zTb := zt5_mem rfl (List.mem_of_getElem? (i := 218) rfl)
theorem zk_cd_yX11_beside : Cond.code yX11_beside cX11_beside 2 (some .int) ∈ zTb := zt5_mem rfl (List.mem_of_getElem? (i := 219) rfl)
theorem zk_ml_11_270 : Cond.methodLink RX11 270 yX9_sibling ∈ zTb := zt5_mem rfl (List.mem_of_getElem? (i := 220) rfl)
theorem zk_im_yX9_sibling : Cond.instanceMethod yX9_sibling ∈ zTb := zt5_mem rfl (List.mem_of_getElem? (i := 221) rfl)
theorem zk_se_yX9_sibling : Cond.selects RX9 yX9_sibling yX9_sibling ∈ zTb := zt5_mem rfl (List.mem_of_getElem? (i := 222) rfl)
theorem zk_cd_yX9_sibling : Cond.code yX9_sibling cX9_sibling 7 (some .int) ∈ zTb := zt5_mem rfl (List.mem_of_getElem? (i := 223) rfl)
theorem zk_ml_9_133 : Cond.methodLink RX9 133 yX9_parentOf ∈ zTb := zt5_mem rfl (List.mem_of_getElem? (i := 224) rfl)
theorem zk_ml_L_59 : Cond.methodLink RL 59 yX11_before ∈ zTb := zt5_mem rfl (List.mem_of_getElem? (i := 225) rfl)
theorem zk_im_yX11_before : Cond.instanceMethod yX11_before ∈ zTb := zt5_mem rfl (List.mem_of_getElem? (i := 226) rfl)
theorem zk_se_yX11_before : Cond.selects RX11 yX11_before yX11_before ∈ zTb := zt5_mem rfl (List.mem_of_getElem? (i := 227) rfl)
theorem zk_cd_yX11_before : Cond.code yX11_before cX11_before 2 (some .int) ∈ zTb := zt5_mem rfl (List.mem_of_getElem? (i := 228) rfl)
theorem zk_ml_L_86 : Cond.methodLink RL 86 yL_text ∈ zTb := zt5_mem rfl (List.mem_of_getElem? (i := 229) rfl)
theorem zk_st_yL_text : Cond.static yL_text ∈ zTb := zt5_mem rfl (List.mem_of_getElem? (i := 230) rfl)
theorem zk_cd_yL_text : Cond.code yL_text cL_text 3 (some (.array .int)) ∈ zTb := zt5_mem rfl (List.mem_of_getElem? (i := 231) rfl)
theorem zk_ml_L_160 : Cond.methodLink RL 160 yL_replaced ∈ zTb := zt5_mem rfl (List.mem_of_getElem? (i := 232) rfl)
theorem zk_st_yL_replaced : Cond.static yL_replaced ∈ zTb := zt5_mem rfl (List.mem_of_getElem? (i := 233) rfl)
theorem zk_cd_yL_replaced : Cond.code yL_replaced cL_replaced 5 (some .int) ∈ zTb := zt5_mem rfl (List.mem_of_getElem? (i := 234) rfl)
theorem zk_ml_L_68 : Cond.methodLink RL 68 Lib.Math.min.name ∈ zTb := zt5_mem rfl (List.mem_of_getElem? (i := 235) rfl)
set_option maxRecDepth 20000 in
theorem zk_se_yX3_make : Cond.selects RX3 yX3_make yX3_make ∈ zTb := zp_mem rfl (List.mem_of_getElem? (i := 0) rfl)
set_option maxRecDepth 20000 in
theorem zk_se_yX8_readOne : Cond.selects RX8 yX8_readOne yX8_readOne ∈ zTb := zp_mem rfl (List.mem_of_getElem? (i := 1) rfl)
set_option maxRecDepth 20000 in
theorem zk_se_yX8_append : Cond.selects RX8 yX8_append yX8_append ∈ zTb := zp_mem rfl (List.mem_of_getElem? (i := 2) rfl)
set_option maxRecDepth 20000 in
theorem zk_se_yX11_now : Cond.selects RX11 yX11_now yX11_now ∈ zTb := zp_mem rfl (List.mem_of_getElem? (i := 3) rfl)
set_option maxRecDepth 20000 in
theorem zk_se_yX11_lookAt : Cond.selects RX11 yX11_lookAt yX11_lookAt ∈ zTb := zp_mem rfl (List.mem_of_getElem? (i := 4) rfl)
set_option maxRecDepth 20000 in
theorem zk_se_yX9_layFlat : Cond.selects RX9 yX9_layFlat yX9_layFlat ∈ zTb := zp_mem rfl (List.mem_of_getElem? (i := 5) rfl)
set_option maxRecDepth 20000 in
theorem zk_se_yX9_layNode : Cond.selects RX9 yX9_layNode yX9_layNode ∈ zTb := zp_mem rfl (List.mem_of_getElem? (i := 6) rfl)
set_option maxRecDepth 20000 in
theorem zk_se_yX9_sumUp : Cond.selects RX9 yX9_sumUp yX9_sumUp ∈ zTb := zp_mem rfl (List.mem_of_getElem? (i := 7) rfl)
set_option maxRecDepth 20000 in
theorem zk_se_yX9_findRuns : Cond.selects RX9 yX9_findRuns yX9_findRuns ∈ zTb := zp_mem rfl (List.mem_of_getElem? (i := 8) rfl)
set_option maxRecDepth 20000 in
theorem zk_se_yX7_clear : Cond.selects RX7 yX7_clear yX7_clear ∈ zTb := zp_mem rfl (List.mem_of_getElem? (i := 9) rfl)
set_option maxRecDepth 20000 in
theorem zk_se_yX7_findNames : Cond.selects RX7 yX7_findNames yX7_findNames ∈ zTb := zp_mem rfl (List.mem_of_getElem? (i := 10) rfl)
set_option maxRecDepth 20000 in
theorem zk_se_yX7_runStatement : Cond.selects RX7 yX7_runStatement yX7_runStatement ∈ zTb := zp_mem rfl (List.mem_of_getElem? (i := 11) rfl)
set_option maxRecDepth 20000 in
theorem zk_se_yX7_recordReads : Cond.selects RX7 yX7_recordReads yX7_recordReads ∈ zTb := zp_mem rfl (List.mem_of_getElem? (i := 12) rfl)
set_option maxRecDepth 20000 in
theorem zk_se_yX7_noteReads : Cond.selects RX7 yX7_noteReads yX7_noteReads ∈ zTb := zp_mem rfl (List.mem_of_getElem? (i := 13) rfl)
set_option maxRecDepth 20000 in
theorem zk_se_yX7_evaluate : Cond.selects RX7 yX7_evaluate yX7_evaluate ∈ zTb := zp_mem rfl (List.mem_of_getElem? (i := 14) rfl)
set_option maxRecDepth 20000 in
theorem zk_se_yX7_worthAt : Cond.selects RX7 yX7_worthAt yX7_worthAt ∈ zTb := zp_mem rfl (List.mem_of_getElem? (i := 15) rfl)
set_option maxRecDepth 20000 in
theorem zk_se_yX7_setName : Cond.selects RX7 yX7_setName yX7_setName ∈ zTb := zp_mem rfl (List.mem_of_getElem? (i := 16) rfl)
set_option maxRecDepth 20000 in
theorem zk_se_yX7_sumUp : Cond.selects RX7 yX7_sumUp yX7_sumUp ∈ zTb := zp_mem rfl (List.mem_of_getElem? (i := 17) rfl)
set_option maxRecDepth 20000 in
theorem zk_se_yX5_putOff : Cond.selects RX5 yX5_putOff yX5_putOff ∈ zTb := zp_mem rfl (List.mem_of_getElem? (i := 18) rfl)
set_option maxRecDepth 20000 in
theorem zk_se_yX5_writeByte : Cond.selects RX5 yX5_writeByte yX5_writeByte ∈ zTb := zp_mem rfl (List.mem_of_getElem? (i := 19) rfl)
set_option maxRecDepth 20000 in
theorem zk_se_yX5_writeToken : Cond.selects RX5 yX5_writeToken yX5_writeToken ∈ zTb := zp_mem rfl (List.mem_of_getElem? (i := 20) rfl)
set_option maxRecDepth 20000 in
theorem zk_se_yX5_openUp : Cond.selects RX5 yX5_openUp yX5_openUp ∈ zTb := zp_mem rfl (List.mem_of_getElem? (i := 21) rfl)
set_option maxRecDepth 20000 in
theorem zk_se_yX11_change : Cond.selects RX11 yX11_change yX11_change ∈ zTb := zp_mem rfl (List.mem_of_getElem? (i := 22) rfl)
set_option maxRecDepth 20000 in
theorem zk_se_yX1_keepAlike : Cond.selects RX1 yX1_keepAlike yX1_keepAlike ∈ zTb := zp_mem rfl (List.mem_of_getElem? (i := 23) rfl)
set_option maxRecDepth 20000 in
theorem zk_se_yX1_nameTokens : Cond.selects RX1 yX1_nameTokens yX1_nameTokens ∈ zTb := zp_mem rfl (List.mem_of_getElem? (i := 24) rfl)
set_option maxRecDepth 20000 in
theorem zk_se_yX1_oldPlace : Cond.selects RX1 yX1_oldPlace yX1_oldPlace ∈ zTb := zp_mem rfl (List.mem_of_getElem? (i := 25) rfl)
set_option maxRecDepth 20000 in
theorem zk_se_yX1_growAll : Cond.selects RX1 yX1_growAll yX1_growAll ∈ zTb := zp_mem rfl (List.mem_of_getElem? (i := 26) rfl)
set_option maxRecDepth 20000 in
theorem zk_se_yX1_putSound : Cond.selects RX1 yX1_putSound yX1_putSound ∈ zTb := zp_mem rfl (List.mem_of_getElem? (i := 27) rfl)
set_option maxRecDepth 20000 in
theorem zk_se_yX1_isSound : Cond.selects RX1 yX1_isSound yX1_isSound ∈ zTb := zp_mem rfl (List.mem_of_getElem? (i := 28) rfl)
set_option maxRecDepth 20000 in
theorem zk_se_yX1_put : Cond.selects RX1 yX1_put yX1_put ∈ zTb := zp_mem rfl (List.mem_of_getElem? (i := 29) rfl)
set_option maxRecDepth 20000 in
theorem zk_se_yX1_putToken : Cond.selects RX1 yX1_putToken yX1_putToken ∈ zTb := zp_mem rfl (List.mem_of_getElem? (i := 30) rfl)
set_option maxRecDepth 20000 in
theorem zk_se_yX1_makeByRule : Cond.selects RX1 yX1_makeByRule yX1_makeByRule ∈ zTb := zp_mem rfl (List.mem_of_getElem? (i := 31) rfl)
set_option maxRecDepth 20000 in
theorem zk_se_yX11_tellGrowth : Cond.selects RX11 yX11_tellGrowth yX11_tellGrowth ∈ zTb := zp_mem rfl (List.mem_of_getElem? (i := 32) rfl)
set_option maxRecDepth 20000 in
theorem zk_se_yX11_layRow : Cond.selects RX11 yX11_layRow yX11_layRow ∈ zTb := zp_mem rfl (List.mem_of_getElem? (i := 33) rfl)
set_option maxRecDepth 20000 in
theorem zk_se_yX4_findOrMake : Cond.selects RX4 yX4_findOrMake yX4_findOrMake ∈ zTb := zp_mem rfl (List.mem_of_getElem? (i := 34) rfl)
set_option maxRecDepth 20000 in
theorem zk_se_yX11_tellGood : Cond.selects RX11 yX11_tellGood yX11_tellGood ∈ zTb := zp_mem rfl (List.mem_of_getElem? (i := 35) rfl)
set_option maxRecDepth 20000 in
theorem zk_se_yX11_turnToNext : Cond.selects RX11 yX11_turnToNext yX11_turnToNext ∈ zTb := zp_mem rfl (List.mem_of_getElem? (i := 36) rfl)
set_option maxRecDepth 20000 in
theorem zk_se_yX11_nextSlot : Cond.selects RX11 yX11_nextSlot yX11_nextSlot ∈ zTb := zp_mem rfl (List.mem_of_getElem? (i := 37) rfl)
set_option maxRecDepth 20000 in
theorem zk_se_yX11_tapeIsName : Cond.selects RX11 yX11_tapeIsName yX11_tapeIsName ∈ zTb := zp_mem rfl (List.mem_of_getElem? (i := 38) rfl)
set_option maxRecDepth 20000 in
theorem zk_se_yX11_runStart : Cond.selects RX11 yX11_runStart yX11_runStart ∈ zTb := zp_mem rfl (List.mem_of_getElem? (i := 39) rfl)
set_option maxRecDepth 20000 in
theorem zk_se_yX11_startOf : Cond.selects RX11 yX11_startOf yX11_startOf ∈ zTb := zp_mem rfl (List.mem_of_getElem? (i := 40) rfl)
set_option maxRecDepth 20000 in
theorem zk_se_yX11_runEnd : Cond.selects RX11 yX11_runEnd yX11_runEnd ∈ zTb := zp_mem rfl (List.mem_of_getElem? (i := 41) rfl)
set_option maxRecDepth 20000 in
theorem zk_se_yX11_endOf : Cond.selects RX11 yX11_endOf yX11_endOf ∈ zTb := zp_mem rfl (List.mem_of_getElem? (i := 42) rfl)
set_option maxRecDepth 20000 in
theorem zk_se_yX0_weigh : Cond.selects RX0 yX0_weigh yX0_weigh ∈ zTb := zp_mem rfl (List.mem_of_getElem? (i := 43) rfl)
set_option maxRecDepth 20000 in
theorem zk_se_yX0_couldGo : Cond.selects RX0 yX0_couldGo yX0_couldGo ∈ zTb := zp_mem rfl (List.mem_of_getElem? (i := 44) rfl)
set_option maxRecDepth 20000 in
theorem zk_se_yX0_found : Cond.selects RX0 yX0_found yX0_found ∈ zTb := zp_mem rfl (List.mem_of_getElem? (i := 45) rfl)
set_option maxRecDepth 20000 in
theorem zk_se_yX0_goToWrong : Cond.selects RX0 yX0_goToWrong yX0_goToWrong ∈ zTb := zp_mem rfl (List.mem_of_getElem? (i := 46) rfl)
set_option maxRecDepth 20000 in
theorem zk_se_yX11_isGoodName : Cond.selects RX11 yX11_isGoodName yX11_isGoodName ∈ zTb := zp_mem rfl (List.mem_of_getElem? (i := 47) rfl)
set_option maxRecDepth 20000 in
theorem zk_se_yX11_countInTree : Cond.selects RX11 yX11_countInTree yX11_countInTree ∈ zTb := zp_mem rfl (List.mem_of_getElem? (i := 48) rfl)
set_option maxRecDepth 20000 in
theorem zk_se_yX11_feedFour : Cond.selects RX11 yX11_feedFour yX11_feedFour ∈ zTb := zp_mem rfl (List.mem_of_getElem? (i := 49) rfl)
set_option maxRecDepth 20000 in
theorem zk_se_yX11_isEnd : Cond.selects RX11 yX11_isEnd yX11_isEnd ∈ zTb := zp_mem rfl (List.mem_of_getElem? (i := 50) rfl)
theorem zin_of {ws : List Cond} (ps : List Nat) (h : ws = ps.filterMap (fun i => lw_tbl[i]?)) (hg : ws.all goodWord = true) : ∀ w ∈ ws, w ∈ zTb := by
  intro w hw
  have hw2 := hw
  rw [h] at hw
  obtain ⟨i, -, hi⟩ := List.mem_filterMap.mp hw
  exact List.mem_filter.mpr ⟨List.mem_of_getElem? hi, List.all_eq_true.mp hg w hw2⟩
set_option maxRecDepth 20000 in
theorem zin_0 : ∀ w ∈ u_ws RX0 TX0 5, w ∈ zTb := zin_of [509, 511, 513, 515, 517] (by decide +kernel) (by decide +kernel)
set_option maxRecDepth 20000 in
theorem zin_1 : ∀ w ∈ u_ws RX1 TX1 14, w ∈ zTb := zin_of [339, 341, 343, 345, 347, 349, 351, 353, 355, 357, 359, 361, 363, 365] (by decide +kernel) (by decide +kernel)
set_option maxRecDepth 20000 in
theorem zin_2 : ∀ w ∈ u_ws RX2 TX2 9, w ∈ zTb := zin_of [164, 166, 168, 170, 172, 174, 176, 178, 180] (by decide +kernel) (by decide +kernel)
set_option maxRecDepth 20000 in
theorem zin_3 : ∀ w ∈ u_ws RX3 TX3 10, w ∈ zTb := zin_of [220, 222, 224, 226, 228, 230, 232, 234, 236, 238] (by decide +kernel) (by decide +kernel)
set_option maxRecDepth 20000 in
theorem zin_4 : ∀ w ∈ u_ws RX4 TX4 5, w ∈ zTb := zin_of [447, 449, 451, 453, 455] (by decide +kernel) (by decide +kernel)
set_option maxRecDepth 20000 in
theorem zin_5 : ∀ w ∈ u_ws RX5 TX5 4, w ∈ zTb := zin_of [470, 472, 474, 476] (by decide +kernel) (by decide +kernel)
set_option maxRecDepth 20000 in
theorem zin_6 : ∀ w ∈ u_ws RX6 TX6 1, w ∈ zTb := zin_of [81] (by decide +kernel) (by decide +kernel)
set_option maxRecDepth 20000 in
theorem zin_7 : ∀ w ∈ u_ws RX7 TX7 17, w ∈ zTb := zin_of [398, 400, 402, 404, 406, 408, 410, 412, 414, 416, 418, 420, 422, 424, 426, 428, 430] (by decide +kernel) (by decide +kernel)
set_option maxRecDepth 20000 in
theorem zin_8 : ∀ w ∈ u_ws RX8 TX8 6, w ∈ zTb := zin_of [127, 129, 131, 133, 135, 137] (by decide +kernel) (by decide +kernel)
set_option maxRecDepth 20000 in
theorem zin_9 : ∀ w ∈ u_ws RX9 TX9 16, w ∈ zTb := zin_of [277, 279, 281, 283, 285, 287, 289, 291, 293, 295, 297, 299, 301, 303, 305, 307] (by decide +kernel) (by decide +kernel)
set_option maxRecDepth 20000 in
theorem zin_10 : ∀ w ∈ u_ws RX10 TX10 2, w ∈ zTb := zin_of [495, 497] (by decide +kernel) (by decide +kernel)
set_option maxRecDepth 20000 in
theorem zin_11 : ∀ w ∈ u_ws RX11 TX11 19, w ∈ zTb := zin_of [772, 774, 776, 778, 780, 782, 784, 786, 788, 790, 792, 794, 796, 798, 800, 802, 804, 806, 808] (by decide +kernel) (by decide +kernel)
/-- the calls of private ones of a nest mate -/
abbrev zNsT : List (String × Nat × MethodName × String) := [(RX11, 24, yX2_init, RX11), (RX2, 22, yX8_init, RX11), (RX11, 34, yX3_init, RX11), (RX11, 66, yX4_init, RX11), (RX11, 80, yX0_init, RX11), (RX0, 11, yX10_init, RX11), (RX3, 56, yX11_symbolOf, RX11), (RX3, 66, yX11_lengthOf, RX11), (RX1, 160, yX11_leadsTo, RX11), (RX1, 166, yX11_ruleAt, RX11), (RX1, 169, yX11_lengthOf, RX11), (RX1, 180, yX11_symbolOf, RX11), (RX0, 74, yX11_fits, RX11), (RX10, 36, yX11_leadsTo, RX11), (RX10, 40, yX11_ruleAt, RX11), (RX10, 43, yX11_lengthOf, RX11), (RX10, 46, yX11_symbolOf, RX11)]
/-- arrays of arrays of ints can be made -/
def zOA (U : State) : Prop := (Cond.arrayOver (.array .int)).before #[] U = true
theorem zOA.of {A : Array Value} {U : State} (h : (Cond.arrayOver (.array .int)).before A U = true) : zOA U := h
theorem zOA.use {A : Array Value} {U : State} (h : zOA U) : (Cond.arrayOver (.array .int)).before A U = true := h
theorem zOA.moved {u U : State} (hvm : u.vm.Alike U.vm) (h : zOA u) : zOA U := by
  obtain ⟨comp, c, k, h1, h2, h3, h4, h5⟩ := arrayOverA_spec h
  obtain ⟨k', hk', he⟩ := hvm.2.2 _ _ h3
  have hi : (U.vm.classes.findIdx? fun x => match x.kind with | .array component _ => component == comp | _ => false) = some c := by
    rw [hvm.findIdx?_eq _ (fun _ => rfl)]
    exact h2
  have hkind : k'.kind = .array comp (.array .int) := by rw [he]; exact h4
  have f1 : U.vm.findClass (FieldType.array .int).toString = some comp := by rw [hvm.findClass]; exact h1
  have f2 : U.vm.findClass ("[" ++ (FieldType.array .int).toString) = some c := by rw [hvm.findClass]; exact h5
  unfold zOA Cond.before
  simp only [Cond.holds, Cond.value, beq_iff_eq, f1, Option.bind_some, Option.bind_eq_some_iff, Option.map_eq_some_iff]
  exact ⟨c, hi, k', hk', by rw [hkind]; simp [f2]⟩
def zNest (U : State) : Prop := (∀ q ∈ zNsT, va_Nw (.methodLinkNest q.1 q.2.1 q.2.2.1 q.2.2.2) U) ∧ va_AO "RegrowDesk$Moment" U ∧ zOA U
theorem zk_mn_11_24 : (RX11, 24, yX2_init, RX11) ∈ zNsT := List.mem_of_getElem? (i := 0) rfl
theorem zk_mn_2_22 : (RX2, 22, yX8_init, RX11) ∈ zNsT := List.mem_of_getElem? (i := 1) rfl
theorem zk_mn_11_34 : (RX11, 34, yX3_init, RX11) ∈ zNsT := List.mem_of_getElem? (i := 2) rfl
theorem zk_mn_11_66 : (RX11, 66, yX4_init, RX11) ∈ zNsT := List.mem_of_getElem? (i := 3) rfl
theorem zk_mn_11_80 : (RX11, 80, yX0_init, RX11) ∈ zNsT := List.mem_of_getElem? (i := 4) rfl
theorem zk_mn_0_11 : (RX0, 11, yX10_init, RX11) ∈ zNsT := List.mem_of_getElem? (i := 5) rfl
theorem zk_mn_3_56 : (RX3, 56, yX11_symbolOf, RX11) ∈ zNsT := List.mem_of_getElem? (i := 6) rfl
theorem zk_mn_3_66 : (RX3, 66, yX11_lengthOf, RX11) ∈ zNsT := List.mem_of_getElem? (i := 7) rfl
theorem zk_mn_1_160 : (RX1, 160, yX11_leadsTo, RX11) ∈ zNsT := List.mem_of_getElem? (i := 8) rfl
theorem zk_mn_1_166 : (RX1, 166, yX11_ruleAt, RX11) ∈ zNsT := List.mem_of_getElem? (i := 9) rfl
theorem zk_mn_1_169 : (RX1, 169, yX11_lengthOf, RX11) ∈ zNsT := List.mem_of_getElem? (i := 10) rfl
theorem zk_mn_1_180 : (RX1, 180, yX11_symbolOf, RX11) ∈ zNsT := List.mem_of_getElem? (i := 11) rfl
theorem zk_mn_0_74 : (RX0, 74, yX11_fits, RX11) ∈ zNsT := List.mem_of_getElem? (i := 12) rfl
theorem zk_mn_10_36 : (RX10, 36, yX11_leadsTo, RX11) ∈ zNsT := List.mem_of_getElem? (i := 13) rfl
theorem zk_mn_10_40 : (RX10, 40, yX11_ruleAt, RX11) ∈ zNsT := List.mem_of_getElem? (i := 14) rfl
theorem zk_mn_10_43 : (RX10, 43, yX11_lengthOf, RX11) ∈ zNsT := List.mem_of_getElem? (i := 15) rfl
theorem zk_mn_10_46 : (RX10, 46, yX11_symbolOf, RX11) ∈ zNsT := List.mem_of_getElem? (i := 16) rfl
theorem zNs_tbl : ∀ q ∈ zNsT, Cond.methodLinkNest q.1 q.2.1 q.2.2.1 q.2.2.2 ∈ lw_tbl := by
  intro q hq
  have h : (zNsT.map (fun q => Cond.methodLinkNest q.1 q.2.1 q.2.2.1 q.2.2.2)) = [88, 96, 185, 435, 481, 487, 536, 639, 885, 902, 907, 914, 1042, 1070, 1071, 1072, 1073].filterMap (fun i => lw_tbl[i]?) := by decide +kernel
  have h2 : Cond.methodLinkNest q.1 q.2.1 q.2.2.1 q.2.2.2 ∈ zNsT.map (fun q => Cond.methodLinkNest q.1 q.2.1 q.2.2.1 q.2.2.2) := List.mem_map_of_mem hq
  rw [h] at h2
  obtain ⟨i, -, hi⟩ := List.mem_filterMap.mp h2
  exact List.mem_of_getElem? hi
def zst_LEADS : List Int32 := [1, 0, 0, 0, 0, 0, 0, 0, 0, 0, 0, 0, 0, 0, 0, 0, 0, 0, 2, 0, 0, 0, 3, 0, 0, 0, 0, 0, 0, 0, 4, 0, 0, 0, 0, 0, 0, 0, 0, 0, 0, 0, 0, 0, 0, 0, 0, 0, 0, 0, 0, 0, 0, 0, 0, 0, 0, 0, 5, 0, 0, 0, 0, 0, 0, 0, 0, 0, 6, 0, 0, 0, 0, 0, 0, 0, 0, 0, 0, 0, 0, 0, 0, 0, 0, 0, 0, 7, 8, 9, 10, 11, 0, 0, 0, 0, 12, 0, 0, 0, 0, 0, 0, 2, 0, 0, 0, 3, 0, 0, 0, 0, 0, 0, 0, 4, 13, 0, 0, 0, 0, 0, 0, 0, 0, 0, 0, 14, 15, 0, 0, 0, 0, 0, 0, 0, 0, 0, 0, 0, 0, 0, 0, 0, 0, 0, 16, 0, 0, 0, 0, 0, 0, 0, 0, 0, 0, 0, 0, 0, 0, 0, 0, 0, 0, 0, 0, 0, 0, 0, 0, 0, 0, 0, 0, 0, 0, 0, 0, 0, 0, 0, 0, 0, 0, 0, 0, 0, 0, 0, 0, 0, 0, 0, 0, 0, 0, 0, 0, 0, 0, 0, 0, 0, 0, 0, 17, 8, 9, 10, 11, 0, 0, 0, 0, 12, 0, 0, 0, 0, 0, 0, 0, 0, 0, 0, 0, 0, 0, 0, 0, 0, 0, 0, 0, 0, 0, 0, 0, 0, 0, 0, 0, 0, 0, 0, 0, 0, 0, 0, 0, 0, 0, 0, 0, 0, 0, 0, 18, 9, 10, 11, 0, 0, 0, 0, 12, 0, 0, 0, 0, 0, 0, 0, 0, 0, 19, 10, 11, 0, 0, 0, 0, 12, 0, 0, 0, 0, 0, 0, 0, 0, 0, 0, 0, 0, 0, 0, 15, 0, 0, 20, 0, 0, 0, 0, 0, 0, 0, 0, 0, 0, 0, 0, 0, 0, 16, 0, 0, 0, 0, 0, 0, 0, 0, 0, 0, 0, 0, 0, 0, 0, 0, 0, 0, 0, 0, 0, 0, 0, 0, 0, 0, 0, 0, 0, 0, 0, 0, 0, 0, 0, 0, 0, 0, 0, 0]
def zst_STATE_RULE : List Int32 := [0, (-1), 1, (-1), 0, (-1), (-1), (-1), 5, 7, 8, 9, (-1), 3, 2, (-1), (-1), (-1), 4, 6, 10]
def zst_RULE_SYMBOL : List Int32 := [0, 0, 1, 1, 2, 2, 3, 3, 4, 4, 4]
def zst_FOLLOWERS : List Int32 := [188, 184, 67, 1793, 67, 67, 67, 184, 769, 1793, 0, 0, 1281]
def zst_RULE_LENGTH : List Int32 := [0, 2, 4, 3, 3, 1, 3, 1, 1, 1, 3]
/-- the statics that are rows of numbers -/
abbrev zTab : List (String × String × List Int32) := [("RegrowDesk", "LEADS", zst_LEADS), ("RegrowDesk", "STATE_RULE", zst_STATE_RULE), ("RegrowDesk", "RULE_SYMBOL", zst_RULE_SYMBOL), ("RegrowDesk", "FOLLOWERS", zst_FOLLOWERS), ("RegrowDesk", "RULE_LENGTH", zst_RULE_LENGTH)]
