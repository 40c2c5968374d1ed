-- ===== PART A: goes FIRST, ahead of the names: the tables' words, and 'selects' of the private methods out of them =====
/-- a private method of a class that the tables say can be made, by its rows of tables_1 -/
def lw_okq (q : MethodName × Nat) : Prop := (q.1.cls ≠ "java/lang/invoke/MethodHandle" ∧ q.1.cls ≠ "java/lang/invoke/VarHandle") ∧ Cond.instantiable q.1.cls q.2 ∈ tables_1 ∧ Cond.privateMethod q.1 ∈ tables_1 ∧ Cond.instanceMethod q.1 ∈ tables_1
theorem lw_tm1 {w : Cond} (h : w ∈ tables_1_1) : w ∈ tables_1 := (show w ∈ tables_1 from (show w ∈ tables_1_1 ++ (tables_1_2 ++ (tables_1_3 ++ (tables_1_4 ++ (tables_1_5 ++ (tables_1_6 ++ (tables_1_7 ++ tables_1_8)))))) from List.mem_append_left _ h))
theorem lw_tm2 {w : Cond} (h : w ∈ tables_1_2) : w ∈ tables_1 := (show w ∈ tables_1 from (show w ∈ tables_1_1 ++ (tables_1_2 ++ (tables_1_3 ++ (tables_1_4 ++ (tables_1_5 ++ (tables_1_6 ++ (tables_1_7 ++ tables_1_8)))))) from List.mem_append_right _ (List.mem_append_left _ h)))
theorem lw_tm3 {w : Cond} (h : w ∈ tables_1_3) : w ∈ tables_1 := (show w ∈ tables_1 from (show w ∈ tables_1_1 ++ (tables_1_2 ++ (tables_1_3 ++ (tables_1_4 ++ (tables_1_5 ++ (tables_1_6 ++ (tables_1_7 ++ tables_1_8)))))) from List.mem_append_right _ (List.mem_append_right _ (List.mem_append_left _ h))))
theorem lw_tm4 {w : Cond} (h : w ∈ tables_1_4) : w ∈ tables_1 := (show w ∈ tables_1 from (show w ∈ tables_1_1 ++ (tables_1_2 ++ (tables_1_3 ++ (tables_1_4 ++ (tables_1_5 ++ (tables_1_6 ++ (tables_1_7 ++ tables_1_8)))))) from List.mem_append_right _ (List.mem_append_right _ (List.mem_append_right _ (List.mem_append_left _ h)))))
theorem lw_tm5 {w : Cond} (h : w ∈ tables_1_5) : w ∈ tables_1 := (show w ∈ tables_1 from (show w ∈ tables_1_1 ++ (tables_1_2 ++ (tables_1_3 ++ (tables_1_4 ++ (tables_1_5 ++ (tables_1_6 ++ (tables_1_7 ++ tables_1_8)))))) from List.mem_append_right _ (List.mem_append_right _ (List.mem_append_right _ (List.mem_append_right _ (List.mem_append_left _ h))))))
theorem lw_tm6 {w : Cond} (h : w ∈ tables_1_6) : w ∈ tables_1 := (show w ∈ tables_1 from (show w ∈ tables_1_1 ++ (tables_1_2 ++ (tables_1_3 ++ (tables_1_4 ++ (tables_1_5 ++ (tables_1_6 ++ (tables_1_7 ++ tables_1_8)))))) from List.mem_append_right _ (List.mem_append_right _ (List.mem_append_right _ (List.mem_append_right _ (List.mem_append_right _ (List.mem_append_left _ h)))))))
theorem lw_tm7 {w : Cond} (h : w ∈ tables_1_7) : w ∈ tables_1 := (show w ∈ tables_1 from (show w ∈ tables_1_1 ++ (tables_1_2 ++ (tables_1_3 ++ (tables_1_4 ++ (tables_1_5 ++ (tables_1_6 ++ (tables_1_7 ++ tables_1_8)))))) from List.mem_append_right _ (List.mem_append_right _ (List.mem_append_right _ (List.mem_append_right _ (List.mem_append_right _ (List.mem_append_right _ (List.mem_append_left _ h))))))))
theorem lw_tm8 {w : Cond} (h : w ∈ tables_1_8) : w ∈ tables_1 := (show w ∈ tables_1 from (show w ∈ tables_1_1 ++ (tables_1_2 ++ (tables_1_3 ++ (tables_1_4 ++ (tables_1_5 ++ (tables_1_6 ++ (tables_1_7 ++ tables_1_8)))))) from List.mem_append_right _ (List.mem_append_right _ (List.mem_append_right _ (List.mem_append_right _ (List.mem_append_right _ (List.mem_append_right _ (List.mem_append_right _ (h)))))))))
theorem lw_p0 : lw_okq (⟨"RegrowDesk$Nodes", "make", "(IIII)I"⟩, 10) := ⟨⟨by decide +kernel, by decide +kernel⟩, lw_tm1 (List.mem_of_getElem? (i := 134) rfl), lw_tm3 (List.mem_of_getElem? (i := 0) rfl), lw_tm3 (List.mem_of_getElem? (i := 1) rfl)⟩
theorem lw_p1 : lw_okq (⟨"RegrowDesk$Tokens", "readOne", "(LRegrowDesk$Row;II)I"⟩, 6) := ⟨⟨by decide +kernel, by decide +kernel⟩, lw_tm1 (List.mem_of_getElem? (i := 45) rfl), lw_tm3 (List.mem_of_getElem? (i := 28) rfl), lw_tm3 (List.mem_of_getElem? (i := 29) rfl)⟩
theorem lw_p2 : lw_okq (⟨"RegrowDesk$Tokens", "append", "(LRegrowDesk$Row;III)V"⟩, 6) := ⟨⟨by decide +kernel, by decide +kernel⟩, lw_tm1 (List.mem_of_getElem? (i := 45) rfl), lw_tm3 (List.mem_of_getElem? (i := 44) rfl), lw_tm3 (List.mem_of_getElem? (i := 45) rfl)⟩
theorem lw_p3 : lw_okq (⟨"RegrowDesk", "now", "()LRegrowDesk$Moment;"⟩, 19) := ⟨⟨by decide +kernel, by decide +kernel⟩, lw_tm1 (List.mem_of_getElem? (i := 17) rfl), lw_tm3 (List.mem_of_getElem? (i := 71) rfl), lw_tm3 (List.mem_of_getElem? (i := 72) rfl)⟩
theorem lw_p4 : lw_okq (⟨"RegrowDesk", "lookAt", "(LRegrowDesk$Moment;I)V"⟩, 19) := ⟨⟨by decide +kernel, by decide +kernel⟩, lw_tm1 (List.mem_of_getElem? (i := 17) rfl), lw_tm3 (List.mem_of_getElem? (i := 88) rfl), lw_tm3 (List.mem_of_getElem? (i := 89) rfl)⟩
theorem lw_p5 : lw_okq (⟨"RegrowDesk$TreeView", "layFlat", "()V"⟩, 16) := ⟨⟨by decide +kernel, by decide +kernel⟩, lw_tm1 (List.mem_of_getElem? (i := 192) rfl), lw_tm3 (List.mem_of_getElem? (i := 96) rfl), lw_tm3 (List.mem_of_getElem? (i := 97) rfl)⟩
theorem lw_p6 : lw_okq (⟨"RegrowDesk$TreeView", "layNode", "(III)V"⟩, 16) := ⟨⟨by decide +kernel, by decide +kernel⟩, lw_tm1 (List.mem_of_getElem? (i := 192) rfl), lw_tm3 (List.mem_of_getElem? (i := 102) rfl), lw_tm3 (List.mem_of_getElem? (i := 103) rfl)⟩
theorem lw_p7 : lw_okq (⟨"RegrowDesk$TreeView", "sumUp", "()V"⟩, 16) := ⟨⟨by decide +kernel, by decide +kernel⟩, lw_tm1 (List.mem_of_getElem? (i := 192) rfl), lw_tm3 (List.mem_of_getElem? (i := 124) rfl), lw_tm3 (List.mem_of_getElem? (i := 125) rfl)⟩
theorem lw_p8 : lw_okq (⟨"RegrowDesk$TreeView", "findRuns", "()V"⟩, 16) := ⟨⟨by decide +kernel, by decide +kernel⟩, lw_tm1 (List.mem_of_getElem? (i := 192) rfl), lw_tm3 (List.mem_of_getElem? (i := 140) rfl), lw_tm3 (List.mem_of_getElem? (i := 141) rfl)⟩
theorem lw_p9 : lw_okq (⟨"RegrowDesk$Runner", "clear", "()V"⟩, 17) := ⟨⟨by decide +kernel, by decide +kernel⟩, lw_tm2 (List.mem_of_getElem? (i := 80) rfl), lw_tm3 (List.mem_of_getElem? (i := 148) rfl), lw_tm3 (List.mem_of_getElem? (i := 149) rfl)⟩
theorem lw_p10 : lw_okq (⟨"RegrowDesk$Runner", "findNames", "(LRegrowDesk$Moment;)V"⟩, 17) := ⟨⟨by decide +kernel, by decide +kernel⟩, lw_tm2 (List.mem_of_getElem? (i := 80) rfl), lw_tm3 (List.mem_of_getElem? (i := 153) rfl), lw_tm3 (List.mem_of_getElem? (i := 154) rfl)⟩
theorem lw_p11 : lw_okq (⟨"RegrowDesk$Runner", "runStatement", "(II)V"⟩, 17) := ⟨⟨by decide +kernel, by decide +kernel⟩, lw_tm2 (List.mem_of_getElem? (i := 80) rfl), lw_tm3 (List.mem_of_getElem? (i := 163) rfl), lw_tm3 (List.mem_of_getElem? (i := 164) rfl)⟩
theorem lw_p12 : lw_okq (⟨"RegrowDesk$Runner", "recordReads", "(III)Z"⟩, 17) := ⟨⟨by decide +kernel, by decide +kernel⟩, lw_tm2 (List.mem_of_getElem? (i := 80) rfl), lw_tm3 (List.mem_of_getElem? (i := 167) rfl), lw_tm3 (List.mem_of_getElem? (i := 168) rfl)⟩
theorem lw_p13 : lw_okq (⟨"RegrowDesk$Runner", "noteReads", "(II)V"⟩, 17) := ⟨⟨by decide +kernel, by decide +kernel⟩, lw_tm2 (List.mem_of_getElem? (i := 80) rfl), lw_tm3 (List.mem_of_getElem? (i := 175) rfl), lw_tm3 (List.mem_of_getElem? (i := 176) rfl)⟩
theorem lw_p14 : lw_okq (⟨"RegrowDesk$Runner", "evaluate", "(II)V"⟩, 17) := ⟨⟨by decide +kernel, by decide +kernel⟩, lw_tm2 (List.mem_of_getElem? (i := 80) rfl), lw_tm3 (List.mem_of_getElem? (i := 179) rfl), lw_tm3 (List.mem_of_getElem? (i := 180) rfl)⟩
theorem lw_p15 : lw_okq (⟨"RegrowDesk$Runner", "worthAt", "(I)I"⟩, 17) := ⟨⟨by decide +kernel, by decide +kernel⟩, lw_tm2 (List.mem_of_getElem? (i := 80) rfl), lw_tm3 (List.mem_of_getElem? (i := 183) rfl), lw_tm3 (List.mem_of_getElem? (i := 184) rfl)⟩
def lw_privs_1 : List (MethodName × Nat) := [(⟨"RegrowDesk$Nodes", "make", "(IIII)I"⟩, 10), (⟨"RegrowDesk$Tokens", "readOne", "(LRegrowDesk$Row;II)I"⟩, 6), (⟨"RegrowDesk$Tokens", "append", "(LRegrowDesk$Row;III)V"⟩, 6), (⟨"RegrowDesk", "now", "()LRegrowDesk$Moment;"⟩, 19), (⟨"RegrowDesk", "lookAt", "(LRegrowDesk$Moment;I)V"⟩, 19), (⟨"RegrowDesk$TreeView", "layFlat", "()V"⟩, 16), (⟨"RegrowDesk$TreeView", "layNode", "(III)V"⟩, 16), (⟨"RegrowDesk$TreeView", "sumUp", "()V"⟩, 16), (⟨"RegrowDesk$TreeView", "findRuns", "()V"⟩, 16), (⟨"RegrowDesk$Runner", "clear", "()V"⟩, 17), (⟨"RegrowDesk$Runner", "findNames", "(LRegrowDesk$Moment;)V"⟩, 17), (⟨"RegrowDesk$Runner", "runStatement", "(II)V"⟩, 17), (⟨"RegrowDesk$Runner", "recordReads", "(III)Z"⟩, 17), (⟨"RegrowDesk$Runner", "noteReads", "(II)V"⟩, 17), (⟨"RegrowDesk$Runner", "evaluate", "(II)V"⟩, 17), (⟨"RegrowDesk$Runner", "worthAt", "(I)I"⟩, 17)]
theorem lw_r1 : ∀ q ∈ lw_privs_1, lw_okq q := List.forall_mem_cons.mpr ⟨lw_p0, List.forall_mem_cons.mpr ⟨lw_p1, List.forall_mem_cons.mpr ⟨lw_p2, List.forall_mem_cons.mpr ⟨lw_p3, List.forall_mem_cons.mpr ⟨lw_p4, List.forall_mem_cons.mpr ⟨lw_p5, List.forall_mem_cons.mpr ⟨lw_p6, List.forall_mem_cons.mpr ⟨lw_p7, List.forall_mem_cons.mpr ⟨lw_p8, List.forall_mem_cons.mpr ⟨lw_p9, List.forall_mem_cons.mpr ⟨lw_p10, List.forall_mem_cons.mpr ⟨lw_p11, List.forall_mem_cons.mpr ⟨lw_p12, List.forall_mem_cons.mpr ⟨lw_p13, List.forall_mem_cons.mpr ⟨lw_p14, List.forall_mem_cons.mpr ⟨lw_p15, fun _ h => absurd h List.not_mem_nil⟩⟩⟩⟩⟩⟩⟩⟩⟩⟩⟩⟩⟩⟩⟩⟩
theorem lw_p16 : lw_okq (⟨"RegrowDesk$Runner", "setName", "(III)V"⟩, 17) := ⟨⟨by decide +kernel, by decide +kernel⟩, lw_tm2 (List.mem_of_getElem? (i := 80) rfl), lw_tm3 (List.mem_of_getElem? (i := 190) rfl), lw_tm3 (List.mem_of_getElem? (i := 191) rfl)⟩
theorem lw_p17 : lw_okq (⟨"RegrowDesk$Runner", "sumUp", "()V"⟩, 17) := ⟨⟨by decide +kernel, by decide +kernel⟩, lw_tm2 (List.mem_of_getElem? (i := 80) rfl), lw_tm3 (List.mem_of_getElem? (i := 196) rfl), lw_tm3 (List.mem_of_getElem? (i := 197) rfl)⟩
theorem lw_p18 : lw_okq (⟨"RegrowDesk$Printer", "putOff", "(I)V"⟩, 4) := ⟨⟨by decide +kernel, by decide +kernel⟩, lw_tm2 (List.mem_of_getElem? (i := 174) rfl), lw_tm3 (List.mem_of_getElem? (i := 204) rfl), lw_tm3 (List.mem_of_getElem? (i := 205) rfl)⟩
theorem lw_p19 : lw_okq (⟨"RegrowDesk$Printer", "writeByte", "(ILRegrowDesk$Row;)V"⟩, 4) := ⟨⟨by decide +kernel, by decide +kernel⟩, lw_tm2 (List.mem_of_getElem? (i := 174) rfl), lw_tm3 (List.mem_of_getElem? (i := 210) rfl), lw_tm3 (List.mem_of_getElem? (i := 211) rfl)⟩
theorem lw_p20 : lw_okq (⟨"RegrowDesk$Printer", "writeToken", "(ILRegrowDesk$Row;)V"⟩, 4) := ⟨⟨by decide +kernel, by decide +kernel⟩, lw_tm2 (List.mem_of_getElem? (i := 174) rfl), lw_tm3 (List.mem_of_getElem? (i := 215) rfl), lw_tm3 (List.mem_of_getElem? (i := 216) rfl)⟩
theorem lw_p21 : lw_okq (⟨"RegrowDesk$Printer", "openUp", "(I)V"⟩, 4) := ⟨⟨by decide +kernel, by decide +kernel⟩, lw_tm2 (List.mem_of_getElem? (i := 174) rfl), lw_tm3 (List.mem_of_getElem? (i := 223) rfl), lw_tm3 (List.mem_of_getElem? (i := 224) rfl)⟩
theorem lw_p22 : lw_okq (⟨"RegrowDesk", "feedFour", "(I)V"⟩, 19) := ⟨⟨by decide +kernel, by decide +kernel⟩, lw_tm1 (List.mem_of_getElem? (i := 17) rfl), lw_tm4 (List.mem_of_getElem? (i := 51) rfl), lw_tm4 (List.mem_of_getElem? (i := 52) rfl)⟩
theorem lw_p23 : lw_okq (⟨"RegrowDesk", "change", "(Z)I"⟩, 19) := ⟨⟨by decide +kernel, by decide +kernel⟩, lw_tm1 (List.mem_of_getElem? (i := 17) rfl), lw_tm4 (List.mem_of_getElem? (i := 69) rfl), lw_tm4 (List.mem_of_getElem? (i := 70) rfl)⟩
theorem lw_p24 : lw_okq (⟨"RegrowDesk$Grower", "keepAlike", "(LRegrowDesk$Moment;LRegrowDesk$Tokens;)V"⟩, 14) := ⟨⟨by decide +kernel, by decide +kernel⟩, lw_tm2 (List.mem_of_getElem? (i := 22) rfl), lw_tm4 (List.mem_of_getElem? (i := 81) rfl), lw_tm4 (List.mem_of_getElem? (i := 82) rfl)⟩
theorem lw_p25 : lw_okq (⟨"RegrowDesk$Grower", "nameTokens", "(LRegrowDesk$Moment;LRegrowDesk$Moment;I)V"⟩, 14) := ⟨⟨by decide +kernel, by decide +kernel⟩, lw_tm2 (List.mem_of_getElem? (i := 22) rfl), lw_tm4 (List.mem_of_getElem? (i := 91) rfl), lw_tm4 (List.mem_of_getElem? (i := 92) rfl)⟩
theorem lw_p26 : lw_okq (⟨"RegrowDesk$Grower", "oldPlace", "(I)I"⟩, 14) := ⟨⟨by decide +kernel, by decide +kernel⟩, lw_tm2 (List.mem_of_getElem? (i := 22) rfl), lw_tm4 (List.mem_of_getElem? (i := 95) rfl), lw_tm4 (List.mem_of_getElem? (i := 96) rfl)⟩
theorem lw_p27 : lw_okq (⟨"RegrowDesk$Grower", "growAll", "(LRegrowDesk$Moment;I)Z"⟩, 14) := ⟨⟨by decide +kernel, by decide +kernel⟩, lw_tm2 (List.mem_of_getElem? (i := 22) rfl), lw_tm4 (List.mem_of_getElem? (i := 101) rfl), lw_tm4 (List.mem_of_getElem? (i := 102) rfl)⟩
theorem lw_p28 : lw_okq (⟨"RegrowDesk$Grower", "putSound", "(II)I"⟩, 14) := ⟨⟨by decide +kernel, by decide +kernel⟩, lw_tm2 (List.mem_of_getElem? (i := 22) rfl), lw_tm4 (List.mem_of_getElem? (i := 105) rfl), lw_tm4 (List.mem_of_getElem? (i := 106) rfl)⟩
theorem lw_p29 : lw_okq (⟨"RegrowDesk$Grower", "isSound", "(II)Z"⟩, 14) := ⟨⟨by decide +kernel, by decide +kernel⟩, lw_tm2 (List.mem_of_getElem? (i := 22) rfl), lw_tm4 (List.mem_of_getElem? (i := 125) rfl), lw_tm4 (List.mem_of_getElem? (i := 126) rfl)⟩
theorem lw_p30 : lw_okq (⟨"RegrowDesk$Grower", "put", "(II)V"⟩, 14) := ⟨⟨by decide +kernel, by decide +kernel⟩, lw_tm2 (List.mem_of_getElem? (i := 22) rfl), lw_tm4 (List.mem_of_getElem? (i := 134) rfl), lw_tm4 (List.mem_of_getElem? (i := 135) rfl)⟩
theorem lw_p31 : lw_okq (⟨"RegrowDesk$Grower", "putToken", "(I)I"⟩, 14) := ⟨⟨by decide +kernel, by decide +kernel⟩, lw_tm2 (List.mem_of_getElem? (i := 22) rfl), lw_tm4 (List.mem_of_getElem? (i := 138) rfl), lw_tm4 (List.mem_of_getElem? (i := 139) rfl)⟩
def lw_privs_2 : List (MethodName × Nat) := [(⟨"RegrowDesk$Runner", "setName", "(III)V"⟩, 17), (⟨"RegrowDesk$Runner", "sumUp", "()V"⟩, 17), (⟨"RegrowDesk$Printer", "putOff", "(I)V"⟩, 4), (⟨"RegrowDesk$Printer", "writeByte", "(ILRegrowDesk$Row;)V"⟩, 4), (⟨"RegrowDesk$Printer", "writeToken", "(ILRegrowDesk$Row;)V"⟩, 4), (⟨"RegrowDesk$Printer", "openUp", "(I)V"⟩, 4), (⟨"RegrowDesk", "feedFour", "(I)V"⟩, 19), (⟨"RegrowDesk", "change", "(Z)I"⟩, 19), (⟨"RegrowDesk$Grower", "keepAlike", "(LRegrowDesk$Moment;LRegrowDesk$Tokens;)V"⟩, 14), (⟨"RegrowDesk$Grower", "nameTokens", "(LRegrowDesk$Moment;LRegrowDesk$Moment;I)V"⟩, 14), (⟨"RegrowDesk$Grower", "oldPlace", "(I)I"⟩, 14), (⟨"RegrowDesk$Grower", "growAll", "(LRegrowDesk$Moment;I)Z"⟩, 14), (⟨"RegrowDesk$Grower", "putSound", "(II)I"⟩, 14), (⟨"RegrowDesk$Grower", "isSound", "(II)Z"⟩, 14), (⟨"RegrowDesk$Grower", "put", "(II)V"⟩, 14), (⟨"RegrowDesk$Grower", "putToken", "(I)I"⟩, 14)]
theorem lw_r2 : ∀ q ∈ lw_privs_2, lw_okq q := List.forall_mem_cons.mpr ⟨lw_p16, List.forall_mem_cons.mpr ⟨lw_p17, List.forall_mem_cons.mpr ⟨lw_p18, List.forall_mem_cons.mpr ⟨lw_p19, List.forall_mem_cons.mpr ⟨lw_p20, List.forall_mem_cons.mpr ⟨lw_p21, List.forall_mem_cons.mpr ⟨lw_p22, List.forall_mem_cons.mpr ⟨lw_p23, List.forall_mem_cons.mpr ⟨lw_p24, List.forall_mem_cons.mpr ⟨lw_p25, List.forall_mem_cons.mpr ⟨lw_p26, List.forall_mem_cons.mpr ⟨lw_p27, List.forall_mem_cons.mpr ⟨lw_p28, List.forall_mem_cons.mpr ⟨lw_p29, List.forall_mem_cons.mpr ⟨lw_p30, List.forall_mem_cons.mpr ⟨lw_p31, fun _ h => absurd h List.not_mem_nil⟩⟩⟩⟩⟩⟩⟩⟩⟩⟩⟩⟩⟩⟩⟩⟩
theorem lw_p32 : lw_okq (⟨"RegrowDesk$Grower", "makeByRule", "(I)Z"⟩, 14) := ⟨⟨by decide +kernel, by decide +kernel⟩, lw_tm2 (List.mem_of_getElem? (i := 22) rfl), lw_tm4 (List.mem_of_getElem? (i := 142) rfl), lw_tm4 (List.mem_of_getElem? (i := 143) rfl)⟩
theorem lw_p33 : lw_okq (⟨"RegrowDesk", "tellGrowth", "(I)V"⟩, 19) := ⟨⟨by decide +kernel, by decide +kernel⟩, lw_tm1 (List.mem_of_getElem? (i := 17) rfl), lw_tm4 (List.mem_of_getElem? (i := 164) rfl), lw_tm4 (List.mem_of_getElem? (i := 165) rfl)⟩
theorem lw_p34 : lw_okq (⟨"RegrowDesk", "layRow", "()V"⟩, 19) := ⟨⟨by decide +kernel, by decide +kernel⟩, lw_tm1 (List.mem_of_getElem? (i := 17) rfl), lw_tm4 (List.mem_of_getElem? (i := 168) rfl), lw_tm4 (List.mem_of_getElem? (i := 169) rfl)⟩
theorem lw_p35 : lw_okq (⟨"RegrowDesk$Pairs", "findOrMake", "(II)I"⟩, 5) := ⟨⟨by decide +kernel, by decide +kernel⟩, lw_tm2 (List.mem_of_getElem? (i := 147) rfl), lw_tm4 (List.mem_of_getElem? (i := 180) rfl), lw_tm4 (List.mem_of_getElem? (i := 181) rfl)⟩
theorem lw_p36 : lw_okq (⟨"RegrowDesk", "tellGood", "(I)V"⟩, 19) := ⟨⟨by decide +kernel, by decide +kernel⟩, lw_tm1 (List.mem_of_getElem? (i := 17) rfl), lw_tm4 (List.mem_of_getElem? (i := 185) rfl), lw_tm4 (List.mem_of_getElem? (i := 186) rfl)⟩
theorem lw_p37 : lw_okq (⟨"RegrowDesk", "turnToNext", "()V"⟩, 19) := ⟨⟨by decide +kernel, by decide +kernel⟩, lw_tm1 (List.mem_of_getElem? (i := 17) rfl), lw_tm4 (List.mem_of_getElem? (i := 189) rfl), lw_tm4 (List.mem_of_getElem? (i := 190) rfl)⟩
theorem lw_p38 : lw_okq (⟨"RegrowDesk", "nextSlot", "()I"⟩, 19) := ⟨⟨by decide +kernel, by decide +kernel⟩, lw_tm1 (List.mem_of_getElem? (i := 17) rfl), lw_tm4 (List.mem_of_getElem? (i := 193) rfl), lw_tm4 (List.mem_of_getElem? (i := 194) rfl)⟩
theorem lw_p39 : lw_okq (⟨"RegrowDesk", "tapeIsName", "()Z"⟩, 19) := ⟨⟨by decide +kernel, by decide +kernel⟩, lw_tm1 (List.mem_of_getElem? (i := 17) rfl), lw_tm4 (List.mem_of_getElem? (i := 207) rfl), lw_tm4 (List.mem_of_getElem? (i := 208) rfl)⟩
theorem lw_p40 : lw_okq (⟨"RegrowDesk", "runStart", "(I)I"⟩, 19) := ⟨⟨by decide +kernel, by decide +kernel⟩, lw_tm1 (List.mem_of_getElem? (i := 17) rfl), lw_tm4 (List.mem_of_getElem? (i := 224) rfl), lw_tm4 (List.mem_of_getElem? (i := 225) rfl)⟩
theorem lw_p41 : lw_okq (⟨"RegrowDesk", "startOf", "(I)I"⟩, 19) := ⟨⟨by decide +kernel, by decide +kernel⟩, lw_tm1 (List.mem_of_getElem? (i := 17) rfl), lw_tm4 (List.mem_of_getElem? (i := 228) rfl), lw_tm4 (List.mem_of_getElem? (i := 229) rfl)⟩
theorem lw_p42 : lw_okq (⟨"RegrowDesk", "runEnd", "(I)I"⟩, 19) := ⟨⟨by decide +kernel, by decide +kernel⟩, lw_tm1 (List.mem_of_getElem? (i := 17) rfl), lw_tm4 (List.mem_of_getElem? (i := 233) rfl), lw_tm4 (List.mem_of_getElem? (i := 234) rfl)⟩
theorem lw_p43 : lw_okq (⟨"RegrowDesk", "endOf", "(I)I"⟩, 19) := ⟨⟨by decide +kernel, by decide +kernel⟩, lw_tm1 (List.mem_of_getElem? (i := 17) rfl), lw_tm4 (List.mem_of_getElem? (i := 237) rfl), lw_tm4 (List.mem_of_getElem? (i := 238) rfl)⟩
theorem lw_p44 : lw_okq (⟨"RegrowDesk$Adviser", "weigh", "(LRegrowDesk$Tokens;)V"⟩, 5) := ⟨⟨by decide +kernel, by decide +kernel⟩, lw_tm2 (List.mem_of_getElem? (i := 195) rfl), lw_tm5 (List.mem_of_getElem? (i := 53) rfl), lw_tm5 (List.mem_of_getElem? (i := 54) rfl)⟩
theorem lw_p45 : lw_okq (⟨"RegrowDesk$Adviser", "couldGo", "(LRegrowDesk$Tokens;II)Z"⟩, 5) := ⟨⟨by decide +kernel, by decide +kernel⟩, lw_tm2 (List.mem_of_getElem? (i := 195) rfl), lw_tm5 (List.mem_of_getElem? (i := 72) rfl), lw_tm5 (List.mem_of_getElem? (i := 73) rfl)⟩
theorem lw_p46 : lw_okq (⟨"RegrowDesk$Adviser", "found", "(II)V"⟩, 5) := ⟨⟨by decide +kernel, by decide +kernel⟩, lw_tm2 (List.mem_of_getElem? (i := 195) rfl), lw_tm5 (List.mem_of_getElem? (i := 94) rfl), lw_tm5 (List.mem_of_getElem? (i := 95) rfl)⟩
theorem lw_p47 : lw_okq (⟨"RegrowDesk$Adviser", "goToWrong", "(LRegrowDesk$Tokens;)V"⟩, 5) := ⟨⟨by decide +kernel, by decide +kernel⟩, lw_tm2 (List.mem_of_getElem? (i := 195) rfl), lw_tm5 (List.mem_of_getElem? (i := 107) rfl), lw_tm5 (List.mem_of_getElem? (i := 108) rfl)⟩
def lw_privs_3 : List (MethodName × Nat) := [(⟨"RegrowDesk$Grower", "makeByRule", "(I)Z"⟩, 14), (⟨"RegrowDesk", "tellGrowth", "(I)V"⟩, 19), (⟨"RegrowDesk", "layRow", "()V"⟩, 19), (⟨"RegrowDesk$Pairs", "findOrMake", "(II)I"⟩, 5), (⟨"RegrowDesk", "tellGood", "(I)V"⟩, 19), (⟨"RegrowDesk", "turnToNext", "()V"⟩, 19), (⟨"RegrowDesk", "nextSlot", "()I"⟩, 19), (⟨"RegrowDesk", "tapeIsName", "()Z"⟩, 19), (⟨"RegrowDesk", "runStart", "(I)I"⟩, 19), (⟨"RegrowDesk", "startOf", "(I)I"⟩, 19), (⟨"RegrowDesk", "runEnd", "(I)I"⟩, 19), (⟨"RegrowDesk", "endOf", "(I)I"⟩, 19), (⟨"RegrowDesk$Adviser", "weigh", "(LRegrowDesk$Tokens;)V"⟩, 5), (⟨"RegrowDesk$Adviser", "couldGo", "(LRegrowDesk$Tokens;II)Z"⟩, 5), (⟨"RegrowDesk$Adviser", "found", "(II)V"⟩, 5), (⟨"RegrowDesk$Adviser", "goToWrong", "(LRegrowDesk$Tokens;)V"⟩, 5)]
theorem lw_r3 : ∀ q ∈ lw_privs_3, lw_okq q := List.forall_mem_cons.mpr ⟨lw_p32, List.forall_mem_cons.mpr ⟨lw_p33, List.forall_mem_cons.mpr ⟨lw_p34, List.forall_mem_cons.mpr ⟨lw_p35, List.forall_mem_cons.mpr ⟨lw_p36, List.forall_mem_cons.mpr ⟨lw_p37, List.forall_mem_cons.mpr ⟨lw_p38, List.forall_mem_cons.mpr ⟨lw_p39, List.forall_mem_cons.mpr ⟨lw_p40, List.forall_mem_cons.mpr ⟨lw_p41, List.forall_mem_cons.mpr ⟨lw_p42, List.forall_mem_cons.mpr ⟨lw_p43, List.forall_mem_cons.mpr ⟨lw_p44, List.forall_mem_cons.mpr ⟨lw_p45, List.forall_mem_cons.mpr ⟨lw_p46, List.forall_mem_cons.mpr ⟨lw_p47, fun _ h => absurd h List.not_mem_nil⟩⟩⟩⟩⟩⟩⟩⟩⟩⟩⟩⟩⟩⟩⟩⟩
theorem lw_p48 : lw_okq (⟨"RegrowDesk", "isEnd", "(I)Z"⟩, 19) := ⟨⟨by decide +kernel, by decide +kernel⟩, lw_tm1 (List.mem_of_getElem? (i := 17) rfl), lw_tm5 (List.mem_of_getElem? (i := 125) rfl), lw_tm5 (List.mem_of_getElem? (i := 126) rfl)⟩
theorem lw_p49 : lw_okq (⟨"RegrowDesk", "printsAlike", "(II)Z"⟩, 19) := ⟨⟨by decide +kernel, by decide +kernel⟩, lw_tm1 (List.mem_of_getElem? (i := 17) rfl), lw_tm5 (List.mem_of_getElem? (i := 194) rfl), lw_tm5 (List.mem_of_getElem? (i := 195) rfl)⟩
theorem lw_p50 : lw_okq (⟨"RegrowDesk", "isGoodName", "(I)Z"⟩, 19) := ⟨⟨by decide +kernel, by decide +kernel⟩, lw_tm1 (List.mem_of_getElem? (i := 17) rfl), lw_tm6 (List.mem_of_getElem? (i := 1) rfl), lw_tm6 (List.mem_of_getElem? (i := 2) rfl)⟩
theorem lw_p51 : lw_okq (⟨"RegrowDesk", "countInTree", "(I)I"⟩, 19) := ⟨⟨by decide +kernel, by decide +kernel⟩, lw_tm1 (List.mem_of_getElem? (i := 17) rfl), lw_tm6 (List.mem_of_getElem? (i := 34) rfl), lw_tm6 (List.mem_of_getElem? (i := 35) rfl)⟩
theorem lw_p52 : lw_okq (⟨"RegrowDeskModel", "newNode", "(II)I"⟩, 82) := ⟨⟨by decide +kernel, by decide +kernel⟩, lw_tm6 (List.mem_of_getElem? (i := 38) rfl), lw_tm6 (List.mem_of_getElem? (i := 45) rfl), lw_tm6 (List.mem_of_getElem? (i := 46) rfl)⟩
theorem lw_p53 : lw_okq (⟨"RegrowDeskModel", "cutsUp", "(I)V"⟩, 82) := ⟨⟨by decide +kernel, by decide +kernel⟩, lw_tm6 (List.mem_of_getElem? (i := 38) rfl), lw_tm6 (List.mem_of_getElem? (i := 49) rfl), lw_tm6 (List.mem_of_getElem? (i := 50) rfl)⟩
theorem lw_p54 : lw_okq (⟨"RegrowDeskModel", "tokenAt", "(I)I"⟩, 82) := ⟨⟨by decide +kernel, by decide +kernel⟩, lw_tm6 (List.mem_of_getElem? (i := 38) rfl), lw_tm6 (List.mem_of_getElem? (i := 53) rfl), lw_tm6 (List.mem_of_getElem? (i := 54) rfl)⟩
theorem lw_p55 : lw_okq (⟨"RegrowDeskModel", "byteAt", "(I)I"⟩, 82) := ⟨⟨by decide +kernel, by decide +kernel⟩, lw_tm6 (List.mem_of_getElem? (i := 38) rfl), lw_tm6 (List.mem_of_getElem? (i := 57) rfl), lw_tm6 (List.mem_of_getElem? (i := 58) rfl)⟩
theorem lw_p56 : lw_okq (⟨"RegrowDeskModel", "keepsTokens", "()V"⟩, 82) := ⟨⟨by decide +kernel, by decide +kernel⟩, lw_tm6 (List.mem_of_getElem? (i := 38) rfl), lw_tm6 (List.mem_of_getElem? (i := 72) rfl), lw_tm6 (List.mem_of_getElem? (i := 73) rfl)⟩
theorem lw_p57 : lw_okq (⟨"RegrowDeskModel", "keepsGood", "()V"⟩, 82) := ⟨⟨by decide +kernel, by decide +kernel⟩, lw_tm6 (List.mem_of_getElem? (i := 38) rfl), lw_tm6 (List.mem_of_getElem? (i := 76) rfl), lw_tm6 (List.mem_of_getElem? (i := 77) rfl)⟩
theorem lw_p58 : lw_okq (⟨"RegrowDeskModel", "fillsTree", "()V"⟩, 82) := ⟨⟨by decide +kernel, by decide +kernel⟩, lw_tm6 (List.mem_of_getElem? (i := 38) rfl), lw_tm6 (List.mem_of_getElem? (i := 80) rfl), lw_tm6 (List.mem_of_getElem? (i := 81) rfl)⟩
theorem lw_p59 : lw_okq (⟨"RegrowDeskModel", "fillsRuns", "()V"⟩, 82) := ⟨⟨by decide +kernel, by decide +kernel⟩, lw_tm6 (List.mem_of_getElem? (i := 38) rfl), lw_tm6 (List.mem_of_getElem? (i := 84) rfl), lw_tm6 (List.mem_of_getElem? (i := 85) rfl)⟩
theorem lw_p60 : lw_okq (⟨"RegrowDeskModel", "keeps", "(I)V"⟩, 82) := ⟨⟨by decide +kernel, by decide +kernel⟩, lw_tm6 (List.mem_of_getElem? (i := 38) rfl), lw_tm6 (List.mem_of_getElem? (i := 88) rfl), lw_tm6 (List.mem_of_getElem? (i := 89) rfl)⟩
theorem lw_p61 : lw_okq (⟨"RegrowDeskModel", "lays", "(I)V"⟩, 82) := ⟨⟨by decide +kernel, by decide +kernel⟩, lw_tm6 (List.mem_of_getElem? (i := 38) rfl), lw_tm7 (List.mem_of_getElem? (i := 104) rfl), lw_tm7 (List.mem_of_getElem? (i := 105) rfl)⟩
theorem lw_p62 : lw_okq (⟨"RegrowDeskModel", "goesTo", "(I)V"⟩, 82) := ⟨⟨by decide +kernel, by decide +kernel⟩, lw_tm6 (List.mem_of_getElem? (i := 38) rfl), lw_tm7 (List.mem_of_getElem? (i := 116) rfl), lw_tm7 (List.mem_of_getElem? (i := 117) rfl)⟩
theorem lw_p63 : lw_okq (⟨"RegrowDeskModel", "isRefused", "(I)Z"⟩, 82) := ⟨⟨by decide +kernel, by decide +kernel⟩, lw_tm6 (List.mem_of_getElem? (i := 38) rfl), lw_tm7 (List.mem_of_getElem? (i := 131) rfl), lw_tm7 (List.mem_of_getElem? (i := 132) rfl)⟩
def lw_privs_4 : List (MethodName × Nat) := [(⟨"RegrowDesk", "isEnd", "(I)Z"⟩, 19), (⟨"RegrowDesk", "printsAlike", "(II)Z"⟩, 19), (⟨"RegrowDesk", "isGoodName", "(I)Z"⟩, 19), (⟨"RegrowDesk", "countInTree", "(I)I"⟩, 19), (⟨"RegrowDeskModel", "newNode", "(II)I"⟩, 82), (⟨"RegrowDeskModel", "cutsUp", "(I)V"⟩, 82), (⟨"RegrowDeskModel", "tokenAt", "(I)I"⟩, 82), (⟨"RegrowDeskModel", "byteAt", "(I)I"⟩, 82), (⟨"RegrowDeskModel", "keepsTokens", "()V"⟩, 82), (⟨"RegrowDeskModel", "keepsGood", "()V"⟩, 82), (⟨"RegrowDeskModel", "fillsTree", "()V"⟩, 82), (⟨"RegrowDeskModel", "fillsRuns", "()V"⟩, 82), (⟨"RegrowDeskModel", "keeps", "(I)V"⟩, 82), (⟨"RegrowDeskModel", "lays", "(I)V"⟩, 82), (⟨"RegrowDeskModel", "goesTo", "(I)V"⟩, 82), (⟨"RegrowDeskModel", "isRefused", "(I)Z"⟩, 82)]
theorem lw_r4 : ∀ q ∈ lw_privs_4, lw_okq q := List.forall_mem_cons.mpr ⟨lw_p48, List.forall_mem_cons.mpr ⟨lw_p49, List.forall_mem_cons.mpr ⟨lw_p50, List.forall_mem_cons.mpr ⟨lw_p51, List.forall_mem_cons.mpr ⟨lw_p52, List.forall_mem_cons.mpr ⟨lw_p53, List.forall_mem_cons.mpr ⟨lw_p54, List.forall_mem_cons.mpr ⟨lw_p55, List.forall_mem_cons.mpr ⟨lw_p56, List.forall_mem_cons.mpr ⟨lw_p57, List.forall_mem_cons.mpr ⟨lw_p58, List.forall_mem_cons.mpr ⟨lw_p59, List.forall_mem_cons.mpr ⟨lw_p60, List.forall_mem_cons.mpr ⟨lw_p61, List.forall_mem_cons.mpr ⟨lw_p62, List.forall_mem_cons.mpr ⟨lw_p63, fun _ h => absurd h List.not_mem_nil⟩⟩⟩⟩⟩⟩⟩⟩⟩⟩⟩⟩⟩⟩⟩⟩
theorem lw_p64 : lw_okq (⟨"RegrowDeskModel", "edited", "()I"⟩, 82) := ⟨⟨by decide +kernel, by decide +kernel⟩, lw_tm6 (List.mem_of_getElem? (i := 38) rfl), lw_tm7 (List.mem_of_getElem? (i := 135) rfl), lw_tm7 (List.mem_of_getElem? (i := 136) rfl)⟩
theorem lw_p65 : lw_okq (⟨"RegrowDeskModel", "ruleNodes", "()I"⟩, 82) := ⟨⟨by decide +kernel, by decide +kernel⟩, lw_tm6 (List.mem_of_getElem? (i := 38) rfl), lw_tm7 (List.mem_of_getElem? (i := 139) rfl), lw_tm7 (List.mem_of_getElem? (i := 140) rfl)⟩
theorem lw_p66 : lw_okq (⟨"RegrowDeskModel", "fillsKept", "()V"⟩, 82) := ⟨⟨by decide +kernel, by decide +kernel⟩, lw_tm6 (List.mem_of_getElem? (i := 38) rfl), lw_tm7 (List.mem_of_getElem? (i := 143) rfl), lw_tm7 (List.mem_of_getElem? (i := 144) rfl)⟩
theorem lw_p67 : lw_okq (⟨"RegrowDeskModel", "areAlike", "(II)Z"⟩, 82) := ⟨⟨by decide +kernel, by decide +kernel⟩, lw_tm6 (List.mem_of_getElem? (i := 38) rfl), lw_tm7 (List.mem_of_getElem? (i := 147) rfl), lw_tm7 (List.mem_of_getElem? (i := 148) rfl)⟩
theorem lw_p68 : lw_okq (⟨"RegrowDeskModel", "makesTokens", "()I"⟩, 82) := ⟨⟨by decide +kernel, by decide +kernel⟩, lw_tm6 (List.mem_of_getElem? (i := 38) rfl), lw_tm7 (List.mem_of_getElem? (i := 151) rfl), lw_tm7 (List.mem_of_getElem? (i := 152) rfl)⟩
theorem lw_p69 : lw_okq (⟨"RegrowDeskModel", "wasOf", "(I)I"⟩, 82) := ⟨⟨by decide +kernel, by decide +kernel⟩, lw_tm6 (List.mem_of_getElem? (i := 38) rfl), lw_tm7 (List.mem_of_getElem? (i := 155) rfl), lw_tm7 (List.mem_of_getElem? (i := 156) rfl)⟩
theorem lw_p70 : lw_okq (⟨"RegrowDeskModel", "grows", "()I"⟩, 82) := ⟨⟨by decide +kernel, by decide +kernel⟩, lw_tm6 (List.mem_of_getElem? (i := 38) rfl), lw_tm7 (List.mem_of_getElem? (i := 159) rfl), lw_tm7 (List.mem_of_getElem? (i := 160) rfl)⟩
theorem lw_p71 : lw_okq (⟨"RegrowDeskModel", "laysOn", "(II)V"⟩, 82) := ⟨⟨by decide +kernel, by decide +kernel⟩, lw_tm6 (List.mem_of_getElem? (i := 38) rfl), lw_tm7 (List.mem_of_getElem? (i := 163) rfl), lw_tm7 (List.mem_of_getElem? (i := 164) rfl)⟩
theorem lw_p72 : lw_okq (⟨"RegrowDeskModel", "takenFor", "(II)I"⟩, 82) := ⟨⟨by decide +kernel, by decide +kernel⟩, lw_tm6 (List.mem_of_getElem? (i := 38) rfl), lw_tm7 (List.mem_of_getElem? (i := 167) rfl), lw_tm7 (List.mem_of_getElem? (i := 168) rfl)⟩
theorem lw_p73 : lw_okq (⟨"RegrowDeskModel", "areTogether", "(II)Z"⟩, 82) := ⟨⟨by decide +kernel, by decide +kernel⟩, lw_tm6 (List.mem_of_getElem? (i := 38) rfl), lw_tm7 (List.mem_of_getElem? (i := 171) rfl), lw_tm7 (List.mem_of_getElem? (i := 172) rfl)⟩
theorem lw_p74 : lw_okq (⟨"RegrowDeskModel", "makesBy", "(I)V"⟩, 82) := ⟨⟨by decide +kernel, by decide +kernel⟩, lw_tm6 (List.mem_of_getElem? (i := 38) rfl), lw_tm7 (List.mem_of_getElem? (i := 187) rfl), lw_tm7 (List.mem_of_getElem? (i := 188) rfl)⟩
theorem lw_p75 : lw_okq (⟨"RegrowDeskModel", "rowNow", "()I"⟩, 82) := ⟨⟨by decide +kernel, by decide +kernel⟩, lw_tm6 (List.mem_of_getElem? (i := 38) rfl), lw_tm7 (List.mem_of_getElem? (i := 194) rfl), lw_tm7 (List.mem_of_getElem? (i := 195) rfl)⟩
theorem lw_p76 : lw_okq (⟨"RegrowDeskModel", "pairOf", "(II)I"⟩, 82) := ⟨⟨by decide +kernel, by decide +kernel⟩, lw_tm6 (List.mem_of_getElem? (i := 38) rfl), lw_tm7 (List.mem_of_getElem? (i := 198) rfl), lw_tm7 (List.mem_of_getElem? (i := 199) rfl)⟩
theorem lw_p77 : lw_okq (⟨"RegrowDeskModel", "runsAll", "(Z)I"⟩, 82) := ⟨⟨by decide +kernel, by decide +kernel⟩, lw_tm6 (List.mem_of_getElem? (i := 38) rfl), lw_tm7 (List.mem_of_getElem? (i := 202) rfl), lw_tm7 (List.mem_of_getElem? (i := 203) rfl)⟩
theorem lw_p78 : lw_okq (⟨"RegrowDeskModel", "reads", "(I)I"⟩, 82) := ⟨⟨by decide +kernel, by decide +kernel⟩, lw_tm6 (List.mem_of_getElem? (i := 38) rfl), lw_tm7 (List.mem_of_getElem? (i := 206) rfl), lw_tm7 (List.mem_of_getElem? (i := 207) rfl)⟩
theorem lw_p79 : lw_okq (⟨"RegrowDeskModel", "childOf", "(II)I"⟩, 82) := ⟨⟨by decide +kernel, by decide +kernel⟩, lw_tm6 (List.mem_of_getElem? (i := 38) rfl), lw_tm7 (List.mem_of_getElem? (i := 210) rfl), lw_tm7 (List.mem_of_getElem? (i := 211) rfl)⟩
def lw_privs_5 : List (MethodName × Nat) := [(⟨"RegrowDeskModel", "edited", "()I"⟩, 82), (⟨"RegrowDeskModel", "ruleNodes", "()I"⟩, 82), (⟨"RegrowDeskModel", "fillsKept", "()V"⟩, 82), (⟨"RegrowDeskModel", "areAlike", "(II)Z"⟩, 82), (⟨"RegrowDeskModel", "makesTokens", "()I"⟩, 82), (⟨"RegrowDeskModel", "wasOf", "(I)I"⟩, 82), (⟨"RegrowDeskModel", "grows", "()I"⟩, 82), (⟨"RegrowDeskModel", "laysOn", "(II)V"⟩, 82), (⟨"RegrowDeskModel", "takenFor", "(II)I"⟩, 82), (⟨"RegrowDeskModel", "areTogether", "(II)Z"⟩, 82), (⟨"RegrowDeskModel", "makesBy", "(I)V"⟩, 82), (⟨"RegrowDeskModel", "rowNow", "()I"⟩, 82), (⟨"RegrowDeskModel", "pairOf", "(II)I"⟩, 82), (⟨"RegrowDeskModel", "runsAll", "(Z)I"⟩, 82), (⟨"RegrowDeskModel", "reads", "(I)I"⟩, 82), (⟨"RegrowDeskModel", "childOf", "(II)I"⟩, 82)]
theorem lw_r5 : ∀ q ∈ lw_privs_5, lw_okq q := List.forall_mem_cons.mpr ⟨lw_p64, List.forall_mem_cons.mpr ⟨lw_p65, List.forall_mem_cons.mpr ⟨lw_p66, List.forall_mem_cons.mpr ⟨lw_p67, List.forall_mem_cons.mpr ⟨lw_p68, List.forall_mem_cons.mpr ⟨lw_p69, List.forall_mem_cons.mpr ⟨lw_p70, List.forall_mem_cons.mpr ⟨lw_p71, List.forall_mem_cons.mpr ⟨lw_p72, List.forall_mem_cons.mpr ⟨lw_p73, List.forall_mem_cons.mpr ⟨lw_p74, List.forall_mem_cons.mpr ⟨lw_p75, List.forall_mem_cons.mpr ⟨lw_p76, List.forall_mem_cons.mpr ⟨lw_p77, List.forall_mem_cons.mpr ⟨lw_p78, List.forall_mem_cons.mpr ⟨lw_p79, fun _ h => absurd h List.not_mem_nil⟩⟩⟩⟩⟩⟩⟩⟩⟩⟩⟩⟩⟩⟩⟩⟩
theorem lw_p80 : lw_okq (⟨"RegrowDeskModel", "nameOf", "(J)I"⟩, 82) := ⟨⟨by decide +kernel, by decide +kernel⟩, lw_tm6 (List.mem_of_getElem? (i := 38) rfl), lw_tm7 (List.mem_of_getElem? (i := 214) rfl), lw_tm7 (List.mem_of_getElem? (i := 215) rfl)⟩
theorem lw_p81 : lw_okq (⟨"RegrowDeskModel", "reckons", "(I)V"⟩, 82) := ⟨⟨by decide +kernel, by decide +kernel⟩, lw_tm6 (List.mem_of_getElem? (i := 38) rfl), lw_tm7 (List.mem_of_getElem? (i := 218) rfl), lw_tm7 (List.mem_of_getElem? (i := 219) rfl)⟩
theorem lw_p82 : lw_okq (⟨"RegrowDeskModel", "remembers", "()V"⟩, 82) := ⟨⟨by decide +kernel, by decide +kernel⟩, lw_tm6 (List.mem_of_getElem? (i := 38) rfl), lw_tm7 (List.mem_of_getElem? (i := 222) rfl), lw_tm7 (List.mem_of_getElem? (i := 223) rfl)⟩
theorem lw_p83 : lw_okq (⟨"RegrowDeskModel", "isGoodName", "(I)Z"⟩, 82) := ⟨⟨by decide +kernel, by decide +kernel⟩, lw_tm6 (List.mem_of_getElem? (i := 38) rfl), lw_tm7 (List.mem_of_getElem? (i := 230) rfl), lw_tm7 (List.mem_of_getElem? (i := 231) rfl)⟩
theorem lw_p84 : lw_okq (⟨"RegrowDeskModel", "isName", "()Z"⟩, 82) := ⟨⟨by decide +kernel, by decide +kernel⟩, lw_tm6 (List.mem_of_getElem? (i := 38) rfl), lw_tm7 (List.mem_of_getElem? (i := 234) rfl), lw_tm7 (List.mem_of_getElem? (i := 235) rfl)⟩
theorem lw_p85 : lw_okq (⟨"RegrowDeskModel", "isRun", "(I)Z"⟩, 82) := ⟨⟨by decide +kernel, by decide +kernel⟩, lw_tm6 (List.mem_of_getElem? (i := 38) rfl), lw_tm8 (List.mem_of_getElem? (i := 2) rfl), lw_tm8 (List.mem_of_getElem? (i := 3) rfl)⟩
theorem lw_p86 : lw_okq (⟨"RegrowDeskModel", "beginOf", "(I)I"⟩, 82) := ⟨⟨by decide +kernel, by decide +kernel⟩, lw_tm6 (List.mem_of_getElem? (i := 38) rfl), lw_tm8 (List.mem_of_getElem? (i := 6) rfl), lw_tm8 (List.mem_of_getElem? (i := 7) rfl)⟩
theorem lw_p87 : lw_okq (⟨"RegrowDeskModel", "copies", "(III)I"⟩, 82) := ⟨⟨by decide +kernel, by decide +kernel⟩, lw_tm6 (List.mem_of_getElem? (i := 38) rfl), lw_tm8 (List.mem_of_getElem? (i := 10) rfl), lw_tm8 (List.mem_of_getElem? (i := 11) rfl)⟩
theorem lw_p88 : lw_okq (⟨"RegrowDeskModel", "endOf", "(I)I"⟩, 82) := ⟨⟨by decide +kernel, by decide +kernel⟩, lw_tm6 (List.mem_of_getElem? (i := 38) rfl), lw_tm8 (List.mem_of_getElem? (i := 14) rfl), lw_tm8 (List.mem_of_getElem? (i := 15) rfl)⟩
theorem lw_p89 : lw_okq (⟨"RegrowDeskModel", "isToken", "(I)Z"⟩, 82) := ⟨⟨by decide +kernel, by decide +kernel⟩, lw_tm6 (List.mem_of_getElem? (i := 38) rfl), lw_tm8 (List.mem_of_getElem? (i := 42) rfl), lw_tm8 (List.mem_of_getElem? (i := 43) rfl)⟩
theorem lw_p90 : lw_okq (⟨"RegrowDeskModel", "besideOf", "(II)I"⟩, 82) := ⟨⟨by decide +kernel, by decide +kernel⟩, lw_tm6 (List.mem_of_getElem? (i := 38) rfl), lw_tm8 (List.mem_of_getElem? (i := 58) rfl), lw_tm8 (List.mem_of_getElem? (i := 59) rfl)⟩
theorem lw_p91 : lw_okq (⟨"RegrowDeskModel", "isIn", "(I)Z"⟩, 82) := ⟨⟨by decide +kernel, by decide +kernel⟩, lw_tm6 (List.mem_of_getElem? (i := 38) rfl), lw_tm8 (List.mem_of_getElem? (i := 62) rfl), lw_tm8 (List.mem_of_getElem? (i := 63) rfl)⟩
theorem lw_p92 : lw_okq (⟨"RegrowDeskModel", "wrongOf", "()I"⟩, 82) := ⟨⟨by decide +kernel, by decide +kernel⟩, lw_tm6 (List.mem_of_getElem? (i := 38) rfl), lw_tm8 (List.mem_of_getElem? (i := 86) rfl), lw_tm8 (List.mem_of_getElem? (i := 87) rfl)⟩
theorem lw_p93 : lw_okq (⟨"RegrowDeskModel", "reduces", "(I)V"⟩, 82) := ⟨⟨by decide +kernel, by decide +kernel⟩, lw_tm6 (List.mem_of_getElem? (i := 38) rfl), lw_tm8 (List.mem_of_getElem? (i := 90) rfl), lw_tm8 (List.mem_of_getElem? (i := 91) rfl)⟩
theorem lw_p94 : lw_okq (⟨"RegrowDeskModel", "laysTry", "(IIII)V"⟩, 82) := ⟨⟨by decide +kernel, by decide +kernel⟩, lw_tm6 (List.mem_of_getElem? (i := 38) rfl), lw_tm8 (List.mem_of_getElem? (i := 98) rfl), lw_tm8 (List.mem_of_getElem? (i := 99) rfl)⟩
theorem lw_p95 : lw_okq (⟨"RegrowDeskModel", "prints", "(I)V"⟩, 82) := ⟨⟨by decide +kernel, by decide +kernel⟩, lw_tm6 (List.mem_of_getElem? (i := 38) rfl), lw_tm8 (List.mem_of_getElem? (i := 114) rfl), lw_tm8 (List.mem_of_getElem? (i := 115) rfl)⟩
def lw_privs_6 : List (MethodName × Nat) := [(⟨"RegrowDeskModel", "nameOf", "(J)I"⟩, 82), (⟨"RegrowDeskModel", "reckons", "(I)V"⟩, 82), (⟨"RegrowDeskModel", "remembers", "()V"⟩, 82), (⟨"RegrowDeskModel", "isGoodName", "(I)Z"⟩, 82), (⟨"RegrowDeskModel", "isName", "()Z"⟩, 82), (⟨"RegrowDeskModel", "isRun", "(I)Z"⟩, 82), (⟨"RegrowDeskModel", "beginOf", "(I)I"⟩, 82), (⟨"RegrowDeskModel", "copies", "(III)I"⟩, 82), (⟨"RegrowDeskModel", "endOf", "(I)I"⟩, 82), (⟨"RegrowDeskModel", "isToken", "(I)Z"⟩, 82), (⟨"RegrowDeskModel", "besideOf", "(II)I"⟩, 82), (⟨"RegrowDeskModel", "isIn", "(I)Z"⟩, 82), (⟨"RegrowDeskModel", "wrongOf", "()I"⟩, 82), (⟨"RegrowDeskModel", "reduces", "(I)V"⟩, 82), (⟨"RegrowDeskModel", "laysTry", "(IIII)V"⟩, 82), (⟨"RegrowDeskModel", "prints", "(I)V"⟩, 82)]
theorem lw_r6 : ∀ q ∈ lw_privs_6, lw_okq q := List.forall_mem_cons.mpr ⟨lw_p80, List.forall_mem_cons.mpr ⟨lw_p81, List.forall_mem_cons.mpr ⟨lw_p82, List.forall_mem_cons.mpr ⟨lw_p83, List.forall_mem_cons.mpr ⟨lw_p84, List.forall_mem_cons.mpr ⟨lw_p85, List.forall_mem_cons.mpr ⟨lw_p86, List.forall_mem_cons.mpr ⟨lw_p87, List.forall_mem_cons.mpr ⟨lw_p88, List.forall_mem_cons.mpr ⟨lw_p89, List.forall_mem_cons.mpr ⟨lw_p90, List.forall_mem_cons.mpr ⟨lw_p91, List.forall_mem_cons.mpr ⟨lw_p92, List.forall_mem_cons.mpr ⟨lw_p93, List.forall_mem_cons.mpr ⟨lw_p94, List.forall_mem_cons.mpr ⟨lw_p95, fun _ h => absurd h List.not_mem_nil⟩⟩⟩⟩⟩⟩⟩⟩⟩⟩⟩⟩⟩⟩⟩⟩
theorem lw_p96 : lw_okq (⟨"RegrowDeskModel", "pushes", "(II)I"⟩, 82) := ⟨⟨by decide +kernel, by decide +kernel⟩, lw_tm6 (List.mem_of_getElem? (i := 38) rfl), lw_tm8 (List.mem_of_getElem? (i := 118) rfl), lw_tm8 (List.mem_of_getElem? (i := 119) rfl)⟩
theorem lw_p97 : lw_okq (⟨"RegrowDeskModel", "says", "(I)V"⟩, 82) := ⟨⟨by decide +kernel, by decide +kernel⟩, lw_tm6 (List.mem_of_getElem? (i := 38) rfl), lw_tm8 (List.mem_of_getElem? (i := 122) rfl), lw_tm8 (List.mem_of_getElem? (i := 123) rfl)⟩
theorem lw_p98 : lw_okq (⟨"RegrowDeskModel", "saysToken", "(I)V"⟩, 82) := ⟨⟨by decide +kernel, by decide +kernel⟩, lw_tm6 (List.mem_of_getElem? (i := 38) rfl), lw_tm8 (List.mem_of_getElem? (i := 126) rfl), lw_tm8 (List.mem_of_getElem? (i := 127) rfl)⟩
theorem lw_p99 : lw_okq (⟨"RegrowDeskModel", "isTerm", "(I)Z"⟩, 82) := ⟨⟨by decide +kernel, by decide +kernel⟩, lw_tm6 (List.mem_of_getElem? (i := 38) rfl), lw_tm8 (List.mem_of_getElem? (i := 134) rfl), lw_tm8 (List.mem_of_getElem? (i := 135) rfl)⟩
theorem lw_p100 : lw_okq (⟨"RegrowDeskModel", "youngBelow", "(I)I"⟩, 82) := ⟨⟨by decide +kernel, by decide +kernel⟩, lw_tm6 (List.mem_of_getElem? (i := 38) rfl), lw_tm8 (List.mem_of_getElem? (i := 150) rfl), lw_tm8 (List.mem_of_getElem? (i := 151) rfl)⟩
theorem lw_p101 : lw_okq (⟨"RegrowDeskModel", "setName", "(I)J"⟩, 82) := ⟨⟨by decide +kernel, by decide +kernel⟩, lw_tm6 (List.mem_of_getElem? (i := 38) rfl), lw_tm8 (List.mem_of_getElem? (i := 178) rfl), lw_tm8 (List.mem_of_getElem? (i := 179) rfl)⟩
theorem lw_p102 : lw_okq (⟨"RegrowDeskModel", "isIdle", "(I)Z"⟩, 82) := ⟨⟨by decide +kernel, by decide +kernel⟩, lw_tm6 (List.mem_of_getElem? (i := 38) rfl), lw_tm8 (List.mem_of_getElem? (i := 190) rfl), lw_tm8 (List.mem_of_getElem? (i := 191) rfl)⟩
theorem lw_p103 : lw_okq (⟨"RegrowDeskModel", "doesRead", "(IJ)Z"⟩, 82) := ⟨⟨by decide +kernel, by decide +kernel⟩, lw_tm6 (List.mem_of_getElem? (i := 38) rfl), lw_tm8 (List.mem_of_getElem? (i := 194) rfl), lw_tm8 (List.mem_of_getElem? (i := 195) rfl)⟩
theorem lw_p104 : lw_okq (⟨"RegrowDeskModel", "isInner", "(I)Z"⟩, 82) := ⟨⟨by decide +kernel, by decide +kernel⟩, lw_tm6 (List.mem_of_getElem? (i := 38) rfl), lw_tm8 (List.mem_of_getElem? (i := 202) rfl), lw_tm8 (List.mem_of_getElem? (i := 203) rfl)⟩
theorem lw_p105 : lw_okq (⟨"RegrowDeskModel", "deepOf", "(I)I"⟩, 82) := ⟨⟨by decide +kernel, by decide +kernel⟩, lw_tm6 (List.mem_of_getElem? (i := 38) rfl), lw_tm8 (List.mem_of_getElem? (i := 210) rfl), lw_tm8 (List.mem_of_getElem? (i := 211) rfl)⟩
theorem lw_p106 : lw_okq (⟨"RegrowDeskModel", "setNames", "()I"⟩, 82) := ⟨⟨by decide +kernel, by decide +kernel⟩, lw_tm6 (List.mem_of_getElem? (i := 38) rfl), lw_tm8 (List.mem_of_getElem? (i := 222) rfl), lw_tm8 (List.mem_of_getElem? (i := 223) rfl)⟩
def lw_privs_7 : List (MethodName × Nat) := [(⟨"RegrowDeskModel", "pushes", "(II)I"⟩, 82), (⟨"RegrowDeskModel", "says", "(I)V"⟩, 82), (⟨"RegrowDeskModel", "saysToken", "(I)V"⟩, 82), (⟨"RegrowDeskModel", "isTerm", "(I)Z"⟩, 82), (⟨"RegrowDeskModel", "youngBelow", "(I)I"⟩, 82), (⟨"RegrowDeskModel", "setName", "(I)J"⟩, 82), (⟨"RegrowDeskModel", "isIdle", "(I)Z"⟩, 82), (⟨"RegrowDeskModel", "doesRead", "(IJ)Z"⟩, 82), (⟨"RegrowDeskModel", "isInner", "(I)Z"⟩, 82), (⟨"RegrowDeskModel", "deepOf", "(I)I"⟩, 82), (⟨"RegrowDeskModel", "setNames", "()I"⟩, 82)]
theorem lw_r7 : ∀ q ∈ lw_privs_7, lw_okq q := List.forall_mem_cons.mpr ⟨lw_p96, List.forall_mem_cons.mpr ⟨lw_p97, List.forall_mem_cons.mpr ⟨lw_p98, List.forall_mem_cons.mpr ⟨lw_p99, List.forall_mem_cons.mpr ⟨lw_p100, List.forall_mem_cons.mpr ⟨lw_p101, List.forall_mem_cons.mpr ⟨lw_p102, List.forall_mem_cons.mpr ⟨lw_p103, List.forall_mem_cons.mpr ⟨lw_p104, List.forall_mem_cons.mpr ⟨lw_p105, List.forall_mem_cons.mpr ⟨lw_p106, fun _ h => absurd h List.not_mem_nil⟩⟩⟩⟩⟩⟩⟩⟩⟩⟩⟩
def lw_privs : List (MethodName × Nat) := lw_privs_1 ++ (lw_privs_2 ++ (lw_privs_3 ++ (lw_privs_4 ++ (lw_privs_5 ++ (lw_privs_6 ++ (lw_privs_7))))))
def lw_tbl : List Cond := k2_sels lw_privs ++ tables_1
theorem lw_privs_ok : ∀ q ∈ lw_privs, lw_okq q := by
  show ∀ q ∈ lw_privs_1 ++ (lw_privs_2 ++ (lw_privs_3 ++ (lw_privs_4 ++ (lw_privs_5 ++ (lw_privs_6 ++ (lw_privs_7)))))), lw_okq q
  exact List.forall_mem_append.mpr ⟨lw_r1, List.forall_mem_append.mpr ⟨lw_r2, List.forall_mem_append.mpr ⟨lw_r3, List.forall_mem_append.mpr ⟨lw_r4, List.forall_mem_append.mpr ⟨lw_r5, List.forall_mem_append.mpr ⟨lw_r6, lw_r7⟩⟩⟩⟩⟩⟩
/-! names (as printed for the claim) -/
def RX0 : String := "RegrowDesk$Adviser"
def TX0 : u_T := fun k => match k with
  | 0 => ("RegrowDesk$Adviser", "ahead", "LRegrowDesk$Trial;", true)
  | 1 => ("RegrowDesk$Adviser", "trial", "LRegrowDesk$Trial;", true)
  | 2 => ("RegrowDesk$Adviser", "balance", "LRegrowDesk$Row;", true)
  | 3 => ("RegrowDesk$Adviser", "foundAt", "I", false)
  | _ => ("RegrowDesk$Adviser", "foundWhat", "I", false)
def tyX0 : Nat → FieldType := fun k => match k with
  | 0 => .object "RegrowDesk$Trial"
  | 1 => .object "RegrowDesk$Trial"
  | 2 => .object "RegrowDesk$Row"
  | 3 => .int
  | _ => .int
theorem nmX0 : ∀ a, a < 5 → ∀ b, b < 5 → a ≠ b → (TX0 a).2.1 ≠ (TX0 b).2.1 := by decide +kernel
theorem tyX0_ok : ∀ k, k < 5 → parseFieldDescriptor (TX0 k).2.2.1 = some (tyX0 k) := by decide +kernel
abbrev cX0_init : ByteArray := prog_2_method_1_code
def yX0_init : MethodName := ⟨RX0, "<init>", "()V"⟩
abbrev cX0_findWay : ByteArray := prog_2_method_2_code
def yX0_findWay : MethodName := ⟨RX0, "findWay", "(LRegrowDesk$Tokens;)V"⟩
abbrev cX0_couldGo : ByteArray := prog_2_method_3_code
def yX0_couldGo : MethodName := ⟨RX0, "couldGo", "(LRegrowDesk$Tokens;II)Z"⟩
abbrev cX0_weigh : ByteArray := prog_2_method_4_code
def yX0_weigh : MethodName := ⟨RX0, "weigh", "(LRegrowDesk$Tokens;)V"⟩
abbrev cX0_lastMisfit : ByteArray := prog_2_method_5_code
def yX0_lastMisfit : MethodName := ⟨RX0, "lastMisfit", "(LRegrowDesk$Tokens;)I"⟩
abbrev cX0_findMend : ByteArray := prog_2_method_6_code
def yX0_findMend : MethodName := ⟨RX0, "findMend", "(LRegrowDesk$Tokens;)V"⟩
abbrev cX0_kindsInPlace : ByteArray := prog_2_method_7_code
def yX0_kindsInPlace : MethodName := ⟨RX0, "kindsInPlace", "(LRegrowDesk$Tokens;)I"⟩
abbrev cX0_goToWrong : ByteArray := prog_2_method_8_code
def yX0_goToWrong : MethodName := ⟨RX0, "goToWrong", "(LRegrowDesk$Tokens;)V"⟩
abbrev cX0_found : ByteArray := prog_2_method_9_code
def yX0_found : MethodName := ⟨RX0, "found", "(II)V"⟩
def RX1 : String := "RegrowDesk$Grower"
def TX1 : u_T := fun k => match k with
  | 0 => ("RegrowDesk$Grower", "nodes", "LRegrowDesk$Nodes;", true)
  | 1 => ("RegrowDesk$Grower", "view", "LRegrowDesk$TreeView;", true)
  | 2 => ("RegrowDesk$Grower", "states", "LRegrowDesk$Row;", true)
  | 3 => ("RegrowDesk$Grower", "stack", "LRegrowDesk$Row;", true)
  | 4 => ("RegrowDesk$Grower", "top", "I", false)
  | 5 => ("RegrowDesk$Grower", "oldMany", "I", false)
  | 6 => ("RegrowDesk$Grower", "newMany", "I", false)
  | 7 => ("RegrowDesk$Grower", "ahead", "I", false)
  | 8 => ("RegrowDesk$Grower", "behind", "I", false)
  | 9 => ("RegrowDesk$Grower", "tokensMade", "I", false)
  | 10 => ("RegrowDesk$Grower", "ruledMade", "I", false)
  | 11 => ("RegrowDesk$Grower", "taken", "I", false)
  | 12 => ("RegrowDesk$Grower", "steps", "I", false)
  | _ => ("RegrowDesk$Grower", "wrong", "I", false)
def tyX1 : Nat → FieldType := fun k => match k with
  | 0 => .object "RegrowDesk$Nodes"
  | 1 => .object "RegrowDesk$TreeView"
  | 2 => .object "RegrowDesk$Row"
  | 3 => .object "RegrowDesk$Row"
  | 4 => .int
  | 5 => .int
  | 6 => .int
  | 7 => .int
  | 8 => .int
  | 9 => .int
  | 10 => .int
  | 11 => .int
  | 12 => .int
  | _ => .int
theorem nmX1 : ∀ a, a < 14 → ∀ b, b < 14 → a ≠ b → (TX1 a).2.1 ≠ (TX1 b).2.1 := by decide +kernel
theorem tyX1_ok : ∀ k, k < 14 → parseFieldDescriptor (TX1 k).2.2.1 = some (tyX1 k) := by decide +kernel
abbrev cX1_init : ByteArray := prog_3_method_1_code
def yX1_init : MethodName := ⟨RX1, "<init>", "(LRegrowDesk$Nodes;LRegrowDesk$TreeView;)V"⟩
abbrev cX1_onTop : ByteArray := prog_3_method_2_code
def yX1_onTop : MethodName := ⟨RX1, "onTop", "()I"⟩
abbrev cX1_regrow : ByteArray := prog_3_method_3_code
def yX1_regrow : MethodName := ⟨RX1, "regrow", "(LRegrowDesk$Moment;LRegrowDesk$Moment;I)Z"⟩
abbrev cX1_keepAlike : ByteArray := prog_3_method_4_code
def yX1_keepAlike : MethodName := ⟨RX1, "keepAlike", "(LRegrowDesk$Moment;LRegrowDesk$Tokens;)V"⟩
abbrev cX1_nameTokens : ByteArray := prog_3_method_5_code
def yX1_nameTokens : MethodName := ⟨RX1, "nameTokens", "(LRegrowDesk$Moment;LRegrowDesk$Moment;I)V"⟩
abbrev cX1_oldPlace : ByteArray := prog_3_method_6_code
def yX1_oldPlace : MethodName := ⟨RX1, "oldPlace", "(I)I"⟩
abbrev cX1_growAll : ByteArray := prog_3_method_7_code
def yX1_growAll : MethodName := ⟨RX1, "growAll", "(LRegrowDesk$Moment;I)Z"⟩
abbrev cX1_putSound : ByteArray := prog_3_method_8_code
def yX1_putSound : MethodName := ⟨RX1, "putSound", "(II)I"⟩
abbrev cX1_isSound : ByteArray := prog_3_method_9_code
def yX1_isSound : MethodName := ⟨RX1, "isSound", "(II)Z"⟩
abbrev cX1_putToken : ByteArray := prog_3_method_10_code
def yX1_putToken : MethodName := ⟨RX1, "putToken", "(I)I"⟩
abbrev cX1_makeByRule : ByteArray := prog_3_method_11_code
def yX1_makeByRule : MethodName := ⟨RX1, "makeByRule", "(I)Z"⟩
abbrev cX1_put : ByteArray := prog_3_method_12_code
def yX1_put : MethodName := ⟨RX1, "put", "(II)V"⟩
def RX2 : String := "RegrowDesk$Moment"
def TX2 : u_T := fun k => match k with
  | 0 => ("RegrowDesk$Moment", "text", "LRegrowDesk$Row;", true)
  | 1 => ("RegrowDesk$Moment", "size", "I", false)
  | 2 => ("RegrowDesk$Moment", "tokens", "LRegrowDesk$Tokens;", true)
  | 3 => ("RegrowDesk$Moment", "good", "Z", false)
  | 4 => ("RegrowDesk$Moment", "goodNode", "LRegrowDesk$Row;", true)
  | 5 => ("RegrowDesk$Moment", "goodStart", "LRegrowDesk$Row;", true)
  | 6 => ("RegrowDesk$Moment", "goodMany", "I", false)
  | 7 => ("RegrowDesk$Moment", "tree", "I", false)
  | _ => ("RegrowDesk$Moment", "row", "I", false)
def tyX2 : Nat → FieldType := fun k => match k with
  | 0 => .object "RegrowDesk$Row"
  | 1 => .int
  | 2 => .object "RegrowDesk$Tokens"
  | 3 => .boolean
  | 4 => .object "RegrowDesk$Row"
  | 5 => .object "RegrowDesk$Row"
  | 6 => .int
  | 7 => .int
  | _ => .int
theorem nmX2 : ∀ a, a < 9 → ∀ b, b < 9 → a ≠ b → (TX2 a).2.1 ≠ (TX2 b).2.1 := by decide +kernel
theorem tyX2_ok : ∀ k, k < 9 → parseFieldDescriptor (TX2 k).2.2.1 = some (tyX2 k) := by decide +kernel
abbrev cX2_init : ByteArray := prog_4_method_1_code
def yX2_init : MethodName := ⟨RX2, "<init>", "()V"⟩
abbrev cX2_hasGood : ByteArray := prog_4_method_2_code
def yX2_hasGood : MethodName := ⟨RX2, "hasGood", "(I)Z"⟩
abbrev cX2_append : ByteArray := prog_4_method_3_code
def yX2_append : MethodName := ⟨RX2, "append", "(LRegrowDesk$Row;II)V"⟩
abbrev cX2_beGood : ByteArray := prog_4_method_4_code
def yX2_beGood : MethodName := ⟨RX2, "beGood", "(I)V"⟩
abbrev cX2_keepGood : ByteArray := prog_4_method_5_code
def yX2_keepGood : MethodName := ⟨RX2, "keepGood", "(LRegrowDesk$Moment;)V"⟩
abbrev cX2_copyFrom : ByteArray := prog_4_method_6_code
def yX2_copyFrom : MethodName := ⟨RX2, "copyFrom", "(LRegrowDesk$Moment;)V"⟩
def RX3 : String := "RegrowDesk$Nodes"
def TX3 : u_T := fun k => match k with
  | 0 => ("RegrowDesk$Nodes", "rule", "LRegrowDesk$Row;", true)
  | 1 => ("RegrowDesk$Nodes", "symbol", "LRegrowDesk$Row;", true)
  | 2 => ("RegrowDesk$Nodes", "state", "LRegrowDesk$Row;", true)
  | 3 => ("RegrowDesk$Nodes", "tokens", "LRegrowDesk$Row;", true)
  | 4 => ("RegrowDesk$Nodes", "madeBy", "LRegrowDesk$Row;", true)
  | 5 => ("RegrowDesk$Nodes", "length", "LRegrowDesk$Row;", true)
  | 6 => ("RegrowDesk$Nodes", "head", "LRegrowDesk$Row;", true)
  | 7 => ("RegrowDesk$Nodes", "tail", "LRegrowDesk$Row;", true)
  | 8 => ("RegrowDesk$Nodes", "children", "LRegrowDesk$Row;", true)
  | _ => ("RegrowDesk$Nodes", "many", "I", false)
def tyX3 : Nat → FieldType := fun k => match k with
  | 0 => .object "RegrowDesk$Row"
  | 1 => .object "RegrowDesk$Row"
  | 2 => .object "RegrowDesk$Row"
  | 3 => .object "RegrowDesk$Row"
  | 4 => .object "RegrowDesk$Row"
  | 5 => .object "RegrowDesk$Row"
  | 6 => .object "RegrowDesk$Row"
  | 7 => .object "RegrowDesk$Row"
  | 8 => .object "RegrowDesk$Row"
  | _ => .int
theorem nmX3 : ∀ a, a < 10 → ∀ b, b < 10 → a ≠ b → (TX3 a).2.1 ≠ (TX3 b).2.1 := by decide +kernel
theorem tyX3_ok : ∀ k, k < 10 → parseFieldDescriptor (TX3 k).2.2.1 = some (tyX3 k) := by decide +kernel
abbrev cX3_init : ByteArray := prog_5_method_1_code
def yX3_init : MethodName := ⟨RX3, "<init>", "()V"⟩
abbrev cX3_has : ByteArray := prog_5_method_2_code
def yX3_has : MethodName := ⟨RX3, "has", "(I)Z"⟩
abbrev cX3_makeToken : ByteArray := prog_5_method_3_code
def yX3_makeToken : MethodName := ⟨RX3, "makeToken", "(IIIII)I"⟩
abbrev cX3_makeRuled : ByteArray := prog_5_method_4_code
def yX3_makeRuled : MethodName := ⟨RX3, "makeRuled", "(III)I"⟩
abbrev cX3_make : ByteArray := prog_5_method_5_code
def yX3_make : MethodName := ⟨RX3, "make", "(IIII)I"⟩
abbrev cX3_giveChild : ByteArray := prog_5_method_6_code
def yX3_giveChild : MethodName := ⟨RX3, "giveChild", "(III)V"⟩
abbrev cX3_childrenOf : ByteArray := prog_5_method_7_code
def yX3_childrenOf : MethodName := ⟨RX3, "childrenOf", "(I)I"⟩
abbrev cX3_childOf : ByteArray := prog_5_method_8_code
def yX3_childOf : MethodName := ⟨RX3, "childOf", "(II)I"⟩
abbrev cX3_isToken : ByteArray := prog_5_method_9_code
def yX3_isToken : MethodName := ⟨RX3, "isToken", "(I)Z"⟩
abbrev cX3_byteOf : ByteArray := prog_5_method_10_code
def yX3_byteOf : MethodName := ⟨RX3, "byteOf", "(II)I"⟩
abbrev cX3_isLike : ByteArray := prog_5_method_11_code
def yX3_isLike : MethodName := ⟨RX3, "isLike", "(ILRegrowDesk$Tokens;I)Z"⟩
abbrev cX3_sameBytes : ByteArray := prog_5_method_12_code
def yX3_sameBytes : MethodName := ⟨RX3, "sameBytes", "(II)Z"⟩
def RX4 : String := "RegrowDesk$Pairs"
def TX4 : u_T := fun k => match k with
  | 0 => ("RegrowDesk$Pairs", "first", "LRegrowDesk$Row;", true)
  | 1 => ("RegrowDesk$Pairs", "other", "LRegrowDesk$Row;", true)
  | 2 => ("RegrowDesk$Pairs", "chain", "LRegrowDesk$Row;", true)
  | 3 => ("RegrowDesk$Pairs", "chainOf", "LRegrowDesk$Row;", true)
  | _ => ("RegrowDesk$Pairs", "many", "I", false)
def tyX4 : Nat → FieldType := fun k => match k with
  | 0 => .object "RegrowDesk$Row"
  | 1 => .object "RegrowDesk$Row"
  | 2 => .object "RegrowDesk$Row"
  | 3 => .object "RegrowDesk$Row"
  | _ => .int
theorem nmX4 : ∀ a, a < 5 → ∀ b, b < 5 → a ≠ b → (TX4 a).2.1 ≠ (TX4 b).2.1 := by decide +kernel
theorem tyX4_ok : ∀ k, k < 5 → parseFieldDescriptor (TX4 k).2.2.1 = some (tyX4 k) := by decide +kernel
abbrev cX4_init : ByteArray := prog_6_method_1_code
def yX4_init : MethodName := ⟨RX4, "<init>", "()V"⟩
abbrev cX4_layAll : ByteArray := prog_6_method_2_code
def yX4_layAll : MethodName := ⟨RX4, "layAll", "(LRegrowDesk$Row;I)I"⟩
abbrev cX4_layPart : ByteArray := prog_6_method_3_code
def yX4_layPart : MethodName := ⟨RX4, "layPart", "(LRegrowDesk$Pairs;LRegrowDesk$Row;III)I"⟩
abbrev cX4_findOrMake : ByteArray := prog_6_method_4_code
def yX4_findOrMake : MethodName := ⟨RX4, "findOrMake", "(II)I"⟩
abbrev cX4_depthOf : ByteArray := prog_6_method_5_code
def yX4_depthOf : MethodName := ⟨RX4, "depthOf", "(I)I"⟩
def RX5 : String := "RegrowDesk$Printer"
def TX5 : u_T := fun k => match k with
  | 0 => ("RegrowDesk$Printer", "nodes", "LRegrowDesk$Nodes;", true)
  | 1 => ("RegrowDesk$Printer", "waiting", "LRegrowDesk$Row;", true)
  | 2 => ("RegrowDesk$Printer", "waitingMany", "I", false)
  | _ => ("RegrowDesk$Printer", "size", "I", false)
def tyX5 : Nat → FieldType := fun k => match k with
  | 0 => .object "RegrowDesk$Nodes"
  | 1 => .object "RegrowDesk$Row"
  | 2 => .int
  | _ => .int
theorem nmX5 : ∀ a, a < 4 → ∀ b, b < 4 → a ≠ b → (TX5 a).2.1 ≠ (TX5 b).2.1 := by decide +kernel
theorem tyX5_ok : ∀ k, k < 4 → parseFieldDescriptor (TX5 k).2.2.1 = some (tyX5 k) := by decide +kernel
abbrev cX5_init : ByteArray := prog_7_method_1_code
def yX5_init : MethodName := ⟨RX5, "<init>", "(LRegrowDesk$Nodes;)V"⟩
abbrev cX5_write : ByteArray := prog_7_method_2_code
def yX5_write : MethodName := ⟨RX5, "write", "(ILRegrowDesk$Row;)I"⟩
abbrev cX5_openUp : ByteArray := prog_7_method_3_code
def yX5_openUp : MethodName := ⟨RX5, "openUp", "(I)V"⟩
abbrev cX5_putOff : ByteArray := prog_7_method_4_code
def yX5_putOff : MethodName := ⟨RX5, "putOff", "(I)V"⟩
abbrev cX5_writeToken : ByteArray := prog_7_method_5_code
def yX5_writeToken : MethodName := ⟨RX5, "writeToken", "(ILRegrowDesk$Row;)V"⟩
abbrev cX5_writeByte : ByteArray := prog_7_method_6_code
def yX5_writeByte : MethodName := ⟨RX5, "writeByte", "(ILRegrowDesk$Row;)V"⟩
def RX6 : String := "RegrowDesk$Row"
def TX6 : u_T := fun k => match k with
  | _ => ("RegrowDesk$Row", "cells", "[I", true)
def tyX6 : Nat → FieldType := fun k => match k with
  | _ => .array .int
theorem nmX6 : ∀ a, a < 1 → ∀ b, b < 1 → a ≠ b → (TX6 a).2.1 ≠ (TX6 b).2.1 := by decide +kernel
theorem tyX6_ok : ∀ k, k < 1 → parseFieldDescriptor (TX6 k).2.2.1 = some (tyX6 k) := by decide +kernel
abbrev cX6_init : ByteArray := prog_8_method_1_code
def yX6_init : MethodName := ⟨RX6, "<init>", "(I)V"⟩
abbrev cX6_get : ByteArray := prog_8_method_2_code
def yX6_get : MethodName := ⟨RX6, "get", "(I)I"⟩
abbrev cX6_set : ByteArray := prog_8_method_3_code
def yX6_set : MethodName := ⟨RX6, "set", "(II)V"⟩
abbrev cX6_add : ByteArray := prog_8_method_4_code
def yX6_add : MethodName := ⟨RX6, "add", "(II)V"⟩
abbrev cX6_fill : ByteArray := prog_8_method_5_code
def yX6_fill : MethodName := ⟨RX6, "fill", "(I)V"⟩
abbrev cX6_copyFrom : ByteArray := prog_8_method_6_code
def yX6_copyFrom : MethodName := ⟨RX6, "copyFrom", "(LRegrowDesk$Row;I)V"⟩
def RX7 : String := "RegrowDesk$Runner"
def TX7 : u_T := fun k => match k with
  | 0 => ("RegrowDesk$Runner", "nodes", "LRegrowDesk$Nodes;", true)
  | 1 => ("RegrowDesk$Runner", "view", "LRegrowDesk$TreeView;", true)
  | 2 => ("RegrowDesk$Runner", "nameOf", "LRegrowDesk$Row;", true)
  | 3 => ("RegrowDesk$Runner", "values", "LRegrowDesk$Row;", true)
  | 4 => ("RegrowDesk$Runner", "setTimes", "LRegrowDesk$Row;", true)
  | 5 => ("RegrowDesk$Runner", "lastSet", "LRegrowDesk$Row;", true)
  | 6 => ("RegrowDesk$Runner", "unread", "LRegrowDesk$Row;", true)
  | 7 => ("RegrowDesk$Runner", "setAhead", "LRegrowDesk$Row;", true)
  | 8 => ("RegrowDesk$Runner", "worths", "LRegrowDesk$Row;", true)
  | 9 => ("RegrowDesk$Runner", "recordOf", "LRegrowDesk$Row;", true)
  | 10 => ("RegrowDesk$Runner", "records", "LRegrowDesk$Row;", true)
  | 11 => ("RegrowDesk$Runner", "recorded", "I", false)
  | 12 => ("RegrowDesk$Runner", "idleMany", "I", false)
  | 13 => ("RegrowDesk$Runner", "idleFirst", "I", false)
  | 14 => ("RegrowDesk$Runner", "doneAgain", "I", false)
  | 15 => ("RegrowDesk$Runner", "intSum", "I", false)
  | _ => ("RegrowDesk$Runner", "namesSet", "I", false)
def tyX7 : Nat → FieldType := fun k => match k with
  | 0 => .object "RegrowDesk$Nodes"
  | 1 => .object "RegrowDesk$TreeView"
  | 2 => .object "RegrowDesk$Row"
  | 3 => .object "RegrowDesk$Row"
  | 4 => .object "RegrowDesk$Row"
  | 5 => .object "RegrowDesk$Row"
  | 6 => .object "RegrowDesk$Row"
  | 7 => .object "RegrowDesk$Row"
  | 8 => .object "RegrowDesk$Row"
  | 9 => .object "RegrowDesk$Row"
  | 10 => .object "RegrowDesk$Row"
  | 11 => .int
  | 12 => .int
  | 13 => .int
  | 14 => .int
  | 15 => .int
  | _ => .int
theorem nmX7 : ∀ a, a < 17 → ∀ b, b < 17 → a ≠ b → (TX7 a).2.1 ≠ (TX7 b).2.1 := by decide +kernel
theorem tyX7_ok : ∀ k, k < 17 → parseFieldDescriptor (TX7 k).2.2.1 = some (tyX7 k) := by decide +kernel
abbrev cX7_init : ByteArray := prog_9_method_1_code
def yX7_init : MethodName := ⟨RX7, "<init>", "(LRegrowDesk$Nodes;LRegrowDesk$TreeView;)V"⟩
abbrev cX7_valueOf : ByteArray := prog_9_method_2_code
def yX7_valueOf : MethodName := ⟨RX7, "valueOf", "(I)I"⟩
abbrev cX7_timesSet : ByteArray := prog_9_method_3_code
def yX7_timesSet : MethodName := ⟨RX7, "timesSet", "(I)I"⟩
abbrev cX7_runAll : ByteArray := prog_9_method_4_code
def yX7_runAll : MethodName := ⟨RX7, "runAll", "(LRegrowDesk$Moment;I)V"⟩
abbrev cX7_clear : ByteArray := prog_9_method_5_code
def yX7_clear : MethodName := ⟨RX7, "clear", "()V"⟩
abbrev cX7_findNames : ByteArray := prog_9_method_6_code
def yX7_findNames : MethodName := ⟨RX7, "findNames", "(LRegrowDesk$Moment;)V"⟩
abbrev cX7_runStatement : ByteArray := prog_9_method_7_code
def yX7_runStatement : MethodName := ⟨RX7, "runStatement", "(II)V"⟩
abbrev cX7_recordReads : ByteArray := prog_9_method_8_code
def yX7_recordReads : MethodName := ⟨RX7, "recordReads", "(III)Z"⟩
abbrev cX7_noteReads : ByteArray := prog_9_method_9_code
def yX7_noteReads : MethodName := ⟨RX7, "noteReads", "(II)V"⟩
abbrev cX7_setName : ByteArray := prog_9_method_10_code
def yX7_setName : MethodName := ⟨RX7, "setName", "(III)V"⟩
abbrev cX7_evaluate : ByteArray := prog_9_method_11_code
def yX7_evaluate : MethodName := ⟨RX7, "evaluate", "(II)V"⟩
abbrev cX7_worthAt : ByteArray := prog_9_method_12_code
def yX7_worthAt : MethodName := ⟨RX7, "worthAt", "(I)I"⟩
abbrev cX7_numberOf : ByteArray := prog_9_method_13_code
def yX7_numberOf : MethodName := ⟨RX7, "numberOf", "(I)I"⟩
abbrev cX7_sumUp : ByteArray := prog_9_method_14_code
def yX7_sumUp : MethodName := ⟨RX7, "sumUp", "()V"⟩
def RX8 : String := "RegrowDesk$Tokens"
def TX8 : u_T := fun k => match k with
  | 0 => ("RegrowDesk$Tokens", "kind", "LRegrowDesk$Row;", true)
  | 1 => ("RegrowDesk$Tokens", "start", "LRegrowDesk$Row;", true)
  | 2 => ("RegrowDesk$Tokens", "length", "LRegrowDesk$Row;", true)
  | 3 => ("RegrowDesk$Tokens", "head", "LRegrowDesk$Row;", true)
  | 4 => ("RegrowDesk$Tokens", "tail", "LRegrowDesk$Row;", true)
  | _ => ("RegrowDesk$Tokens", "many", "I", false)
def tyX8 : Nat → FieldType := fun k => match k with
  | 0 => .object "RegrowDesk$Row"
  | 1 => .object "RegrowDesk$Row"
  | 2 => .object "RegrowDesk$Row"
  | 3 => .object "RegrowDesk$Row"
  | 4 => .object "RegrowDesk$Row"
  | _ => .int
theorem nmX8 : ∀ a, a < 6 → ∀ b, b < 6 → a ≠ b → (TX8 a).2.1 ≠ (TX8 b).2.1 := by decide +kernel
theorem tyX8_ok : ∀ k, k < 6 → parseFieldDescriptor (TX8 k).2.2.1 = some (tyX8 k) := by decide +kernel
abbrev cX8_init : ByteArray := prog_10_method_1_code
def yX8_init : MethodName := ⟨RX8, "<init>", "()V"⟩
abbrev cX8_has : ByteArray := prog_10_method_2_code
def yX8_has : MethodName := ⟨RX8, "has", "(I)Z"⟩
abbrev cX8_readAll : ByteArray := prog_10_method_3_code
def yX8_readAll : MethodName := ⟨RX8, "readAll", "(LRegrowDesk$Row;I)Z"⟩
abbrev cX8_readOne : ByteArray := prog_10_method_4_code
def yX8_readOne : MethodName := ⟨RX8, "readOne", "(LRegrowDesk$Row;II)I"⟩
abbrev cX8_append : ByteArray := prog_10_method_5_code
def yX8_append : MethodName := ⟨RX8, "append", "(LRegrowDesk$Row;III)V"⟩
abbrev cX8_pack : ByteArray := prog_10_method_6_code
def yX8_pack : MethodName := ⟨RX8, "pack", "(LRegrowDesk$Row;II)I"⟩
abbrev cX8_runFrom : ByteArray := prog_10_method_7_code
def yX8_runFrom : MethodName := ⟨RX8, "runFrom", "(LRegrowDesk$Row;III)I"⟩
abbrev cX8_sameBytes : ByteArray := prog_10_method_8_code
def yX8_sameBytes : MethodName := ⟨RX8, "sameBytes", "(II)Z"⟩
abbrev cX8_covering : ByteArray := prog_10_method_9_code
def yX8_covering : MethodName := ⟨RX8, "covering", "(I)I"⟩
abbrev cX8_copyFrom : ByteArray := prog_10_method_10_code
def yX8_copyFrom : MethodName := ⟨RX8, "copyFrom", "(LRegrowDesk$Tokens;)V"⟩
abbrev cX8_isBlank : ByteArray := prog_10_method_11_code
def yX8_isBlank : MethodName := ⟨RX8, "isBlank", "(I)Z"⟩
abbrev cX8_isLetter : ByteArray := prog_10_method_12_code
def yX8_isLetter : MethodName := ⟨RX8, "isLetter", "(I)Z"⟩
abbrev cX8_isDigit : ByteArray := prog_10_method_13_code
def yX8_isDigit : MethodName := ⟨RX8, "isDigit", "(I)Z"⟩
abbrev cX8_signOf : ByteArray := prog_10_method_14_code
def yX8_signOf : MethodName := ⟨RX8, "signOf", "(I)I"⟩
def RX9 : String := "RegrowDesk$TreeView"
def TX9 : u_T := fun k => match k with
  | 0 => ("RegrowDesk$TreeView", "nodes", "LRegrowDesk$Nodes;", true)
  | 1 => ("RegrowDesk$TreeView", "order", "LRegrowDesk$Row;", true)
  | 2 => ("RegrowDesk$TreeView", "place", "LRegrowDesk$Row;", true)
  | 3 => ("RegrowDesk$TreeView", "parentPlace", "LRegrowDesk$Row;", true)
  | 4 => ("RegrowDesk$TreeView", "firstToken", "LRegrowDesk$Row;", true)
  | 5 => ("RegrowDesk$TreeView", "depth", "LRegrowDesk$Row;", true)
  | 6 => ("RegrowDesk$TreeView", "reach", "LRegrowDesk$Row;", true)
  | 7 => ("RegrowDesk$TreeView", "waiting", "LRegrowDesk$Row;", true)
  | 8 => ("RegrowDesk$TreeView", "waitingParent", "LRegrowDesk$Row;", true)
  | 9 => ("RegrowDesk$TreeView", "ruleMany", "LRegrowDesk$Row;", true)
  | 10 => ("RegrowDesk$TreeView", "runNode", "LRegrowDesk$Row;", true)
  | 11 => ("RegrowDesk$TreeView", "runMany", "I", false)
  | 12 => ("RegrowDesk$TreeView", "size", "I", false)
  | 13 => ("RegrowDesk$TreeView", "tree", "I", false)
  | 14 => ("RegrowDesk$TreeView", "deepest", "I", false)
  | _ => ("RegrowDesk$TreeView", "firstMade", "I", false)
def tyX9 : Nat → FieldType := fun k => match k with
  | 0 => .object "RegrowDesk$Nodes"
  | 1 => .object "RegrowDesk$Row"
  | 2 => .object "RegrowDesk$Row"
  | 3 => .object "RegrowDesk$Row"
  | 4 => .object "RegrowDesk$Row"
  | 5 => .object "RegrowDesk$Row"
  | 6 => .object "RegrowDesk$Row"
  | 7 => .object "RegrowDesk$Row"
  | 8 => .object "RegrowDesk$Row"
  | 9 => .object "RegrowDesk$Row"
  | 10 => .object "RegrowDesk$Row"
  | 11 => .int
  | 12 => .int
  | 13 => .int
  | 14 => .int
  | _ => .int
theorem nmX9 : ∀ a, a < 16 → ∀ b, b < 16 → a ≠ b → (TX9 a).2.1 ≠ (TX9 b).2.1 := by decide +kernel
theorem tyX9_ok : ∀ k, k < 16 → parseFieldDescriptor (TX9 k).2.2.1 = some (tyX9 k) := by decide +kernel
abbrev cX9_init : ByteArray := prog_11_method_1_code
def yX9_init : MethodName := ⟨RX9, "<init>", "(LRegrowDesk$Nodes;)V"⟩
abbrev cX9_lookAt : ByteArray := prog_11_method_2_code
def yX9_lookAt : MethodName := ⟨RX9, "lookAt", "(LRegrowDesk$Moment;)V"⟩
abbrev cX9_layFlat : ByteArray := prog_11_method_3_code
def yX9_layFlat : MethodName := ⟨RX9, "layFlat", "()V"⟩
abbrev cX9_layNode : ByteArray := prog_11_method_4_code
def yX9_layNode : MethodName := ⟨RX9, "layNode", "(III)V"⟩
abbrev cX9_sumUp : ByteArray := prog_11_method_5_code
def yX9_sumUp : MethodName := ⟨RX9, "sumUp", "()V"⟩
abbrev cX9_findRuns : ByteArray := prog_11_method_6_code
def yX9_findRuns : MethodName := ⟨RX9, "findRuns", "()V"⟩
abbrev cX9_hasRun : ByteArray := prog_11_method_7_code
def yX9_hasRun : MethodName := ⟨RX9, "hasRun", "(I)Z"⟩
abbrev cX9_holds : ByteArray := prog_11_method_8_code
def yX9_holds : MethodName := ⟨RX9, "holds", "(I)Z"⟩
abbrev cX9_holdsExpression : ByteArray := prog_11_method_9_code
def yX9_holdsExpression : MethodName := ⟨RX9, "holdsExpression", "(I)Z"⟩
abbrev cX9_parentOf : ByteArray := prog_11_method_10_code
def yX9_parentOf : MethodName := ⟨RX9, "parentOf", "(I)I"⟩
abbrev cX9_firstOf : ByteArray := prog_11_method_11_code
def yX9_firstOf : MethodName := ⟨RX9, "firstOf", "(I)I"⟩
abbrev cX9_placeBehind : ByteArray := prog_11_method_12_code
def yX9_placeBehind : MethodName := ⟨RX9, "placeBehind", "(I)I"⟩
abbrev cX9_ruledSize : ByteArray := prog_11_method_13_code
def yX9_ruledSize : MethodName := ⟨RX9, "ruledSize", "()I"⟩
abbrev cX9_sibling : ByteArray := prog_11_method_14_code
def yX9_sibling : MethodName := ⟨RX9, "sibling", "(II)I"⟩
abbrev cX9_lowestOfRule : ByteArray := prog_11_method_15_code
def yX9_lowestOfRule : MethodName := ⟨RX9, "lowestOfRule", "(II)I"⟩
abbrev cX9_lowestOver : ByteArray := prog_11_method_16_code
def yX9_lowestOver : MethodName := ⟨RX9, "lowestOver", "(II)I"⟩
abbrev cX9_wayDown : ByteArray := prog_11_method_17_code
def yX9_wayDown : MethodName := ⟨RX9, "wayDown", "(II)I"⟩
abbrev cX9_readsName : ByteArray := prog_11_method_18_code
def yX9_readsName : MethodName := ⟨RX9, "readsName", "(I)Z"⟩
abbrev cX9_madeWithin : ByteArray := prog_11_method_19_code
def yX9_madeWithin : MethodName := ⟨RX9, "madeWithin", "(II)I"⟩
def RX10 : String := "RegrowDesk$Trial"
def TX10 : u_T := fun k => match k with
  | 0 => ("RegrowDesk$Trial", "states", "LRegrowDesk$Row;", true)
  | _ => ("RegrowDesk$Trial", "top", "I", false)
def tyX10 : Nat → FieldType := fun k => match k with
  | 0 => .object "RegrowDesk$Row"
  | _ => .int
theorem nmX10 : ∀ a, a < 2 → ∀ b, b < 2 → a ≠ b → (TX10 a).2.1 ≠ (TX10 b).2.1 := by decide +kernel
theorem tyX10_ok : ∀ k, k < 2 → parseFieldDescriptor (TX10 k).2.2.1 = some (tyX10 k) := by decide +kernel
abbrev cX10_init : ByteArray := prog_12_method_1_code
def yX10_init : MethodName := ⟨RX10, "<init>", "()V"⟩
abbrev cX10_begin : ByteArray := prog_12_method_2_code
def yX10_begin : MethodName := ⟨RX10, "begin", "()V"⟩
abbrev cX10_copyFrom : ByteArray := prog_12_method_3_code
def yX10_copyFrom : MethodName := ⟨RX10, "copyFrom", "(LRegrowDesk$Trial;)V"⟩
abbrev cX10_accepts : ByteArray := prog_12_method_4_code
def yX10_accepts : MethodName := ⟨RX10, "accepts", "(I)Z"⟩
abbrev cX10_acceptsFrom : ByteArray := prog_12_method_5_code
def yX10_acceptsFrom : MethodName := ⟨RX10, "acceptsFrom", "(LRegrowDesk$Tokens;I)Z"⟩
def RX11 : String := "RegrowDesk"
def TX11 : u_T := fun k => match k with
  | 0 => ("RegrowDesk", "tape", "LRegrowDesk$Row;", true)
  | 1 => ("RegrowDesk", "tapeSize", "I", false)
  | 2 => ("RegrowDesk", "moments", "[LRegrowDesk$Moment;", true)
  | 3 => ("RegrowDesk", "draft", "LRegrowDesk$Moment;", true)
  | 4 => ("RegrowDesk", "slot", "I", false)
  | 5 => ("RegrowDesk", "undoable", "I", false)
  | 6 => ("RegrowDesk", "redoable", "I", false)
  | 7 => ("RegrowDesk", "edits", "I", false)
  | 8 => ("RegrowDesk", "latest", "LRegrowDesk$Row;", true)
  | 9 => ("RegrowDesk", "nodes", "LRegrowDesk$Nodes;", true)
  | 10 => ("RegrowDesk", "view", "LRegrowDesk$TreeView;", true)
  | 11 => ("RegrowDesk", "grower", "LRegrowDesk$Grower;", true)
  | 12 => ("RegrowDesk", "runner", "LRegrowDesk$Runner;", true)
  | 13 => ("RegrowDesk", "pairs", "LRegrowDesk$Pairs;", true)
  | 14 => ("RegrowDesk", "printer", "LRegrowDesk$Printer;", true)
  | 15 => ("RegrowDesk", "adviser", "LRegrowDesk$Adviser;", true)
  | 16 => ("RegrowDesk", "printed", "LRegrowDesk$Row;", true)
  | 17 => ("RegrowDesk", "printedOther", "LRegrowDesk$Row;", true)
  | _ => ("RegrowDesk", "printedSize", "I", false)
def tyX11 : Nat → FieldType := fun k => match k with
  | 0 => .object "RegrowDesk$Row"
  | 1 => .int
  | 2 => .array (.object "RegrowDesk$Moment")
  | 3 => .object "RegrowDesk$Moment"
  | 4 => .int
  | 5 => .int
  | 6 => .int
  | 7 => .int
  | 8 => .object "RegrowDesk$Row"
  | 9 => .object "RegrowDesk$Nodes"
  | 10 => .object "RegrowDesk$TreeView"
  | 11 => .object "RegrowDesk$Grower"
  | 12 => .object "RegrowDesk$Runner"
  | 13 => .object "RegrowDesk$Pairs"
  | 14 => .object "RegrowDesk$Printer"
  | 15 => .object "RegrowDesk$Adviser"
  | 16 => .object "RegrowDesk$Row"
  | 17 => .object "RegrowDesk$Row"
  | _ => .int
theorem nmX11 : ∀ a, a < 19 → ∀ b, b < 19 → a ≠ b → (TX11 a).2.1 ≠ (TX11 b).2.1 := by decide +kernel
theorem tyX11_ok : ∀ k, k < 19 → parseFieldDescriptor (TX11 k).2.2.1 = some (tyX11 k) := by decide +kernel
abbrev cX11_init : ByteArray := prog_1_method_1_code
def yX11_init : MethodName := ⟨RX11, "<init>", "()V"⟩
abbrev cX11_feed : ByteArray := prog_1_method_2_code
def yX11_feed : MethodName := ⟨RX11, "feed", "(IIIII)I"⟩
abbrev cX11_back : ByteArray := prog_1_method_3_code
def yX11_back : MethodName := ⟨RX11, "back", "(I)I"⟩
abbrev cX11_edit : ByteArray := prog_1_method_4_code
def yX11_edit : MethodName := ⟨RX11, "edit", "(II)I"⟩
abbrev cX11_rename : ByteArray := prog_1_method_5_code
def yX11_rename : MethodName := ⟨RX11, "rename", "(I)I"⟩
abbrev cX11_cut : ByteArray := prog_1_method_6_code
def yX11_cut : MethodName := ⟨RX11, "cut", "(I)I"⟩
abbrev cX11_twin : ByteArray := prog_1_method_7_code
def yX11_twin : MethodName := ⟨RX11, "twin", "(I)I"⟩
abbrev cX11_swap : ByteArray := prog_1_method_8_code
def yX11_swap : MethodName := ⟨RX11, "swap", "(I)I"⟩
abbrev cX11_undo : ByteArray := prog_1_method_9_code
def yX11_undo : MethodName := ⟨RX11, "undo", "()Z"⟩
abbrev cX11_redo : ByteArray := prog_1_method_10_code
def yX11_redo : MethodName := ⟨RX11, "redo", "()Z"⟩
abbrev cX11_text : ByteArray := prog_1_method_11_code
def yX11_text : MethodName := ⟨RX11, "text", "(I)I"⟩
abbrev cX11_token : ByteArray := prog_1_method_12_code
def yX11_token : MethodName := ⟨RX11, "token", "(II)I"⟩
abbrev cX11_good : ByteArray := prog_1_method_13_code
def yX11_good : MethodName := ⟨RX11, "good", "(I)I"⟩
abbrev cX11_under : ByteArray := prog_1_method_14_code
def yX11_under : MethodName := ⟨RX11, "under", "(I)I"⟩
abbrev cX11_fresh : ByteArray := prog_1_method_15_code
def yX11_fresh : MethodName := ⟨RX11, "fresh", "()I"⟩
abbrev cX11_inTheWay : ByteArray := prog_1_method_16_code
def yX11_inTheWay : MethodName := ⟨RX11, "inTheWay", "(I)I"⟩
abbrev cX11_expected : ByteArray := prog_1_method_17_code
def yX11_expected : MethodName := ⟨RX11, "expected", "()I"⟩
abbrev cX11_mend : ByteArray := prog_1_method_18_code
def yX11_mend : MethodName := ⟨RX11, "mend", "(I)I"⟩
abbrev cX11_node : ByteArray := prog_1_method_19_code
def yX11_node : MethodName := ⟨RX11, "node", "(II)I"⟩
abbrev cX11_child : ByteArray := prog_1_method_20_code
def yX11_child : MethodName := ⟨RX11, "child", "(II)I"⟩
abbrev cX11_beside : ByteArray := prog_1_method_21_code
def yX11_beside : MethodName := ⟨RX11, "beside", "(I)I"⟩
abbrev cX11_before : ByteArray := prog_1_method_22_code
def yX11_before : MethodName := ⟨RX11, "before", "(I)I"⟩
abbrev cX11_span : ByteArray := prog_1_method_23_code
def yX11_span : MethodName := ⟨RX11, "span", "(II)I"⟩
abbrev cX11_ruled : ByteArray := prog_1_method_24_code
def yX11_ruled : MethodName := ⟨RX11, "ruled", "(I)I"⟩
abbrev cX11_above : ByteArray := prog_1_method_25_code
def yX11_above : MethodName := ⟨RX11, "above", "(II)I"⟩
abbrev cX11_common : ByteArray := prog_1_method_26_code
def yX11_common : MethodName := ⟨RX11, "common", "(II)I"⟩
abbrev cX11_path : ByteArray := prog_1_method_27_code
def yX11_path : MethodName := ⟨RX11, "path", "(II)I"⟩
abbrev cX11_print : ByteArray := prog_1_method_28_code
def yX11_print : MethodName := ⟨RX11, "print", "(I)I"⟩
abbrev cX11_alike : ByteArray := prog_1_method_29_code
def yX11_alike : MethodName := ⟨RX11, "alike", "(II)I"⟩
abbrev cX11_firm : ByteArray := prog_1_method_30_code
def yX11_firm : MethodName := ⟨RX11, "firm", "(I)I"⟩
abbrev cX11_runs : ByteArray := prog_1_method_31_code
def yX11_runs : MethodName := ⟨RX11, "runs", "()I"⟩
abbrev cX11_run : ByteArray := prog_1_method_32_code
def yX11_run : MethodName := ⟨RX11, "run", "(I)I"⟩
abbrev cX11_young : ByteArray := prog_1_method_33_code
def yX11_young : MethodName := ⟨RX11, "young", "(I)I"⟩
abbrev cX11_row : ByteArray := prog_1_method_34_code
def yX11_row : MethodName := ⟨RX11, "row", "(I)I"⟩
abbrev cX11_pair : ByteArray := prog_1_method_35_code
def yX11_pair : MethodName := ⟨RX11, "pair", "(II)I"⟩
abbrev cX11_value : ByteArray := prog_1_method_36_code
def yX11_value : MethodName := ⟨RX11, "value", "(I)I"⟩
abbrev cX11_worth : ByteArray := prog_1_method_37_code
def yX11_worth : MethodName := ⟨RX11, "worth", "(I)I"⟩
abbrev cX11_uses : ByteArray := prog_1_method_38_code
def yX11_uses : MethodName := ⟨RX11, "uses", "(I)I"⟩
abbrev cX11_sets : ByteArray := prog_1_method_39_code
def yX11_sets : MethodName := ⟨RX11, "sets", "(I)I"⟩
abbrev cX11_idle : ByteArray := prog_1_method_40_code
def yX11_idle : MethodName := ⟨RX11, "idle", "(I)I"⟩
abbrev cX11_last : ByteArray := prog_1_method_41_code
def yX11_last : MethodName := ⟨RX11, "last", "(I)I"⟩
abbrev cX11_count : ByteArray := prog_1_method_42_code
def yX11_count : MethodName := ⟨RX11, "count", "(I)I"⟩
abbrev cX11_countInTree : ByteArray := prog_1_method_43_code
def yX11_countInTree : MethodName := ⟨RX11, "countInTree", "(I)I"⟩
abbrev cX11_change : ByteArray := prog_1_method_44_code
def yX11_change : MethodName := ⟨RX11, "change", "(Z)I"⟩
abbrev cX11_tellGrowth : ByteArray := prog_1_method_45_code
def yX11_tellGrowth : MethodName := ⟨RX11, "tellGrowth", "(I)V"⟩
abbrev cX11_layRow : ByteArray := prog_1_method_46_code
def yX11_layRow : MethodName := ⟨RX11, "layRow", "()V"⟩
abbrev cX11_tellGood : ByteArray := prog_1_method_47_code
def yX11_tellGood : MethodName := ⟨RX11, "tellGood", "(I)V"⟩
abbrev cX11_turnToNext : ByteArray := prog_1_method_48_code
def yX11_turnToNext : MethodName := ⟨RX11, "turnToNext", "()V"⟩
abbrev cX11_nextSlot : ByteArray := prog_1_method_49_code
def yX11_nextSlot : MethodName := ⟨RX11, "nextSlot", "()I"⟩
abbrev cX11_lookAt : ByteArray := prog_1_method_50_code
def yX11_lookAt : MethodName := ⟨RX11, "lookAt", "(LRegrowDesk$Moment;I)V"⟩
abbrev cX11_now : ByteArray := prog_1_method_51_code
def yX11_now : MethodName := ⟨RX11, "now", "()LRegrowDesk$Moment;"⟩
abbrev cX11_feedFour : ByteArray := prog_1_method_52_code
def yX11_feedFour : MethodName := ⟨RX11, "feedFour", "(I)V"⟩
abbrev cX11_tapeIsName : ByteArray := prog_1_method_53_code
def yX11_tapeIsName : MethodName := ⟨RX11, "tapeIsName", "()Z"⟩
abbrev cX11_printsAlike : ByteArray := prog_1_method_54_code
def yX11_printsAlike : MethodName := ⟨RX11, "printsAlike", "(II)Z"⟩
abbrev cX11_isEnd : ByteArray := prog_1_method_55_code
def yX11_isEnd : MethodName := ⟨RX11, "isEnd", "(I)Z"⟩
abbrev cX11_isGoodName : ByteArray := prog_1_method_56_code
def yX11_isGoodName : MethodName := ⟨RX11, "isGoodName", "(I)Z"⟩
abbrev cX11_startOf : ByteArray := prog_1_method_57_code
def yX11_startOf : MethodName := ⟨RX11, "startOf", "(I)I"⟩
abbrev cX11_endOf : ByteArray := prog_1_method_58_code
def yX11_endOf : MethodName := ⟨RX11, "endOf", "(I)I"⟩
abbrev cX11_runStart : ByteArray := prog_1_method_59_code
def yX11_runStart : MethodName := ⟨RX11, "runStart", "(I)I"⟩
abbrev cX11_runEnd : ByteArray := prog_1_method_60_code
def yX11_runEnd : MethodName := ⟨RX11, "runEnd", "(I)I"⟩
abbrev cX11_leadsTo : ByteArray := prog_1_method_61_code
def yX11_leadsTo : MethodName := ⟨RX11, "leadsTo", "(II)I"⟩
abbrev cX11_ruleAt : ByteArray := prog_1_method_62_code
def yX11_ruleAt : MethodName := ⟨RX11, "ruleAt", "(I)I"⟩
abbrev cX11_symbolOf : ByteArray := prog_1_method_63_code
def yX11_symbolOf : MethodName := ⟨RX11, "symbolOf", "(I)I"⟩
abbrev cX11_lengthOf : ByteArray := prog_1_method_64_code
def yX11_lengthOf : MethodName := ⟨RX11, "lengthOf", "(I)I"⟩
abbrev cX11_fits : ByteArray := prog_1_method_65_code
def yX11_fits : MethodName := ⟨RX11, "fits", "(II)Z"⟩
def RX12 : String := "RegrowDeskModel"
def TX12 : u_T := fun k => match k with
  | 0 => ("RegrowDeskModel", "taped", "I", false)
  | 1 => ("RegrowDeskModel", "tape", "[I", true)
  | 2 => ("RegrowDeskModel", "newAt", "[I", true)
  | 3 => ("RegrowDeskModel", "newMany", "I", false)
  | 4 => ("RegrowDeskModel", "nowAt", "[I", true)
  | 5 => ("RegrowDeskModel", "nowMany", "I", false)
  | 6 => ("RegrowDeskModel", "goodAt", "[I", true)
  | 7 => ("RegrowDeskModel", "goodMany", "I", false)
  | 8 => ("RegrowDeskModel", "isGood", "Z", false)
  | 9 => ("RegrowDeskModel", "newTokens", "I", false)
  | 10 => ("RegrowDeskModel", "newKind", "[I", true)
  | 11 => ("RegrowDeskModel", "newPlace", "[I", true)
  | 12 => ("RegrowDeskModel", "newWide", "[I", true)
  | 13 => ("RegrowDeskModel", "newIs", "[J", true)
  | 14 => ("RegrowDeskModel", "newNodeAt", "[I", true)
  | 15 => ("RegrowDeskModel", "nowTokens", "I", false)
  | 16 => ("RegrowDeskModel", "nowKind", "[I", true)
  | 17 => ("RegrowDeskModel", "nowPlace", "[I", true)
  | 18 => ("RegrowDeskModel", "nowWide", "[I", true)
  | 19 => ("RegrowDeskModel", "goodTokens", "I", false)
  | 20 => ("RegrowDeskModel", "goodKind", "[I", true)
  | 21 => ("RegrowDeskModel", "goodPlace", "[I", true)
  | 22 => ("RegrowDeskModel", "goodWide", "[I", true)
  | 23 => ("RegrowDeskModel", "goodIs", "[J", true)
  | 24 => ("RegrowDeskModel", "goodNode", "[I", true)
  | 25 => ("RegrowDeskModel", "nodes", "I", false)
  | 26 => ("RegrowDeskModel", "nodeRule", "[I", true)
  | 27 => ("RegrowDeskModel", "nodeKind", "[I", true)
  | 28 => ("RegrowDeskModel", "nodeIs", "[J", true)
  | 29 => ("RegrowDeskModel", "childMany", "[I", true)
  | 30 => ("RegrowDeskModel", "childAt", "[I", true)
  | 31 => ("RegrowDeskModel", "nodeState", "[I", true)
  | 32 => ("RegrowDeskModel", "nodeTokens", "[I", true)
  | 33 => ("RegrowDeskModel", "nodeEdit", "[I", true)
  | 34 => ("RegrowDeskModel", "readMany", "[I", true)
  | 35 => ("RegrowDeskModel", "readAt", "[I", true)
  | 36 => ("RegrowDeskModel", "edits", "I", false)
  | 37 => ("RegrowDeskModel", "tree", "I", false)
  | 38 => ("RegrowDeskModel", "pileState", "[I", true)
  | 39 => ("RegrowDeskModel", "pileMany", "I", false)
  | 40 => ("RegrowDeskModel", "tryKind", "[I", true)
  | 41 => ("RegrowDeskModel", "tryMany", "I", false)
  | 42 => ("RegrowDeskModel", "trySteps", "I", false)
  | 43 => ("RegrowDeskModel", "orderMany", "I", false)
  | 44 => ("RegrowDeskModel", "orderAt", "[I", true)
  | 45 => ("RegrowDeskModel", "orderEnd", "[I", true)
  | 46 => ("RegrowDeskModel", "whereIn", "[I", true)
  | 47 => ("RegrowDeskModel", "aboveOf", "[I", true)
  | 48 => ("RegrowDeskModel", "whichChild", "[I", true)
  | 49 => ("RegrowDeskModel", "firstToken", "[I", true)
  | 50 => ("RegrowDeskModel", "treePile", "[I", true)
  | 51 => ("RegrowDeskModel", "runMany", "I", false)
  | 52 => ("RegrowDeskModel", "runAt", "[I", true)
  | 53 => ("RegrowDeskModel", "setMany", "I", false)
  | 54 => ("RegrowDeskModel", "setAt", "[I", true)
  | 55 => ("RegrowDeskModel", "namesMany", "I", false)
  | 56 => ("RegrowDeskModel", "nameIs", "[J", true)
  | 57 => ("RegrowDeskModel", "nameValue", "[I", true)
  | 58 => ("RegrowDeskModel", "comesTo", "[I", true)
  | 59 => ("RegrowDeskModel", "pairs", "I", false)
  | 60 => ("RegrowDeskModel", "pairFirst", "[I", true)
  | 61 => ("RegrowDeskModel", "pairSecond", "[I", true)
  | 62 => ("RegrowDeskModel", "partFrom", "[I", true)
  | 63 => ("RegrowDeskModel", "partTo", "[I", true)
  | 64 => ("RegrowDeskModel", "partFirst", "[I", true)
  | 65 => ("RegrowDeskModel", "rowDeep", "I", false)
  | 66 => ("RegrowDeskModel", "keptAhead", "I", false)
  | 67 => ("RegrowDeskModel", "keptBehind", "I", false)
  | 68 => ("RegrowDeskModel", "lastIs", "[I", true)
  | 69 => ("RegrowDeskModel", "stackState", "[I", true)
  | 70 => ("RegrowDeskModel", "stackNode", "[I", true)
  | 71 => ("RegrowDeskModel", "stackMany", "I", false)
  | 72 => ("RegrowDeskModel", "steps", "I", false)
  | 73 => ("RegrowDeskModel", "takenMany", "I", false)
  | 74 => ("RegrowDeskModel", "oldOrder", "[I", true)
  | 75 => ("RegrowDeskModel", "stateNow", "I", false)
  | 76 => ("RegrowDeskModel", "stateEnd", "I", false)
  | 77 => ("RegrowDeskModel", "states", "[I", true)
  | 78 => ("RegrowDeskModel", "printPile", "[I", true)
  | 79 => ("RegrowDeskModel", "printAt", "[I", true)
  | 80 => ("RegrowDeskModel", "printMany", "I", false)
  | _ => ("RegrowDeskModel", "otherPrint", "[I", true)
def tyX12 : Nat → FieldType := fun k => match k with
  | 0 => .int
  | 1 => .array .int
  | 2 => .array .int
  | 3 => .int
  | 4 => .array .int
  | 5 => .int
  | 6 => .array .int
  | 7 => .int
  | 8 => .boolean
  | 9 => .int
  | 10 => .array .int
  | 11 => .array .int
  | 12 => .array .int
  | 13 => .array .long
  | 14 => .array .int
  | 15 => .int
  | 16 => .array .int
  | 17 => .array .int
  | 18 => .array .int
  | 19 => .int
  | 20 => .array .int
  | 21 => .array .int
  | 22 => .array .int
  | 23 => .array .long
  | 24 => .array .int
  | 25 => .int
  | 26 => .array .int
  | 27 => .array .int
  | 28 => .array .long
  | 29 => .array .int
  | 30 => .array .int
  | 31 => .array .int
  | 32 => .array .int
  | 33 => .array .int
  | 34 => .array .int
  | 35 => .array .int
  | 36 => .int
  | 37 => .int
  | 38 => .array .int
  | 39 => .int
  | 40 => .array .int
  | 41 => .int
  | 42 => .int
  | 43 => .int
  | 44 => .array .int
  | 45 => .array .int
  | 46 => .array .int
  | 47 => .array .int
  | 48 => .array .int
  | 49 => .array .int
  | 50 => .array .int
  | 51 => .int
  | 52 => .array .int
  | 53 => .int
  | 54 => .array .int
  | 55 => .int
  | 56 => .array .long
  | 57 => .array .int
  | 58 => .array .int
  | 59 => .int
  | 60 => .array .int
  | 61 => .array .int
  | 62 => .array .int
  | 63 => .array .int
  | 64 => .array .int
  | 65 => .int
  | 66 => .int
  | 67 => .int
  | 68 => .array .int
  | 69 => .array .int
  | 70 => .array .int
  | 71 => .int
  | 72 => .int
  | 73 => .int
  | 74 => .array .int
  | 75 => .int
  | 76 => .int
  | 77 => .array .int
  | 78 => .array .int
  | 79 => .array .int
  | 80 => .int
  | _ => .array .int
theorem nmX12 : ∀ a, a < 82 → ∀ b, b < 82 → a ≠ b → (TX12 a).2.1 ≠ (TX12 b).2.1 := by decide +kernel
theorem tyX12_ok : ∀ k, k < 82 → parseFieldDescriptor (TX12 k).2.2.1 = some (tyX12 k) := by decide +kernel
abbrev cX12_init : ByteArray := prog_14_method_1_code
def yX12_init : MethodName := ⟨RX12, "<init>", "()V"⟩
abbrev cX12_feed : ByteArray := prog_14_method_2_code
def yX12_feed : MethodName := ⟨RX12, "feed", "(IIIII)I"⟩
abbrev cX12_lays : ByteArray := prog_14_method_3_code
def yX12_lays : MethodName := ⟨RX12, "lays", "(I)V"⟩
abbrev cX12_back : ByteArray := prog_14_method_4_code
def yX12_back : MethodName := ⟨RX12, "back", "(I)I"⟩
abbrev cX12_in : ByteArray := prog_14_method_5_code
def yX12_in : MethodName := ⟨RX12, "in", "(III)Z"⟩
abbrev cX12_isLetter : ByteArray := prog_14_method_6_code
def yX12_isLetter : MethodName := ⟨RX12, "isLetter", "(I)Z"⟩
abbrev cX12_isDigit : ByteArray := prog_14_method_7_code
def yX12_isDigit : MethodName := ⟨RX12, "isDigit", "(I)Z"⟩
abbrev cX12_byteAt : ByteArray := prog_14_method_8_code
def yX12_byteAt : MethodName := ⟨RX12, "byteAt", "(I)I"⟩
abbrev cX12_kindOf : ByteArray := prog_14_method_9_code
def yX12_kindOf : MethodName := ⟨RX12, "kindOf", "(I)I"⟩
abbrev cX12_tokenAt : ByteArray := prog_14_method_10_code
def yX12_tokenAt : MethodName := ⟨RX12, "tokenAt", "(I)I"⟩
abbrev cX12_cutsUp : ByteArray := prog_14_method_11_code
def yX12_cutsUp : MethodName := ⟨RX12, "cutsUp", "(I)V"⟩
abbrev cX12_keepsTokens : ByteArray := prog_14_method_12_code
def yX12_keepsTokens : MethodName := ⟨RX12, "keepsTokens", "()V"⟩
abbrev cX12_keepsGood : ByteArray := prog_14_method_13_code
def yX12_keepsGood : MethodName := ⟨RX12, "keepsGood", "()V"⟩
abbrev cX12_newNode : ByteArray := prog_14_method_14_code
def yX12_newNode : MethodName := ⟨RX12, "newNode", "(II)I"⟩
abbrev cX12_manyOf : ByteArray := prog_14_method_15_code
def yX12_manyOf : MethodName := ⟨RX12, "manyOf", "(I)I"⟩
abbrev cX12_symbolOf : ByteArray := prog_14_method_16_code
def yX12_symbolOf : MethodName := ⟨RX12, "symbolOf", "(I)I"⟩
abbrev cX12_shifts : ByteArray := prog_14_method_17_code
def yX12_shifts : MethodName := ⟨RX12, "shifts", "(II)I"⟩
abbrev cX12_leads : ByteArray := prog_14_method_18_code
def yX12_leads : MethodName := ⟨RX12, "leads", "(II)I"⟩
abbrev cX12_ruleOf : ByteArray := prog_14_method_19_code
def yX12_ruleOf : MethodName := ⟨RX12, "ruleOf", "(I)I"⟩
abbrev cX12_reduces : ByteArray := prog_14_method_20_code
def yX12_reduces : MethodName := ⟨RX12, "reduces", "(I)V"⟩
abbrev cX12_wrongOf : ByteArray := prog_14_method_21_code
def yX12_wrongOf : MethodName := ⟨RX12, "wrongOf", "()I"⟩
abbrev cX12_laysTry : ByteArray := prog_14_method_22_code
def yX12_laysTry : MethodName := ⟨RX12, "laysTry", "(IIII)V"⟩
abbrev cX12_fillsTree : ByteArray := prog_14_method_23_code
def yX12_fillsTree : MethodName := ⟨RX12, "fillsTree", "()V"⟩
abbrev cX12_isIn : ByteArray := prog_14_method_24_code
def yX12_isIn : MethodName := ⟨RX12, "isIn", "(I)Z"⟩
abbrev cX12_fillsRuns : ByteArray := prog_14_method_25_code
def yX12_fillsRuns : MethodName := ⟨RX12, "fillsRuns", "()V"⟩
abbrev cX12_nameOf : ByteArray := prog_14_method_26_code
def yX12_nameOf : MethodName := ⟨RX12, "nameOf", "(J)I"⟩
abbrev cX12_childOf : ByteArray := prog_14_method_27_code
def yX12_childOf : MethodName := ⟨RX12, "childOf", "(II)I"⟩
abbrev cX12_reckons : ByteArray := prog_14_method_28_code
def yX12_reckons : MethodName := ⟨RX12, "reckons", "(I)V"⟩
abbrev cX12_reads : ByteArray := prog_14_method_29_code
def yX12_reads : MethodName := ⟨RX12, "reads", "(I)I"⟩
abbrev cX12_runsAll : ByteArray := prog_14_method_30_code
def yX12_runsAll : MethodName := ⟨RX12, "runsAll", "(Z)I"⟩
abbrev cX12_pairOf : ByteArray := prog_14_method_31_code
def yX12_pairOf : MethodName := ⟨RX12, "pairOf", "(II)I"⟩
abbrev cX12_rowNow : ByteArray := prog_14_method_32_code
def yX12_rowNow : MethodName := ⟨RX12, "rowNow", "()I"⟩
abbrev cX12_areAlike : ByteArray := prog_14_method_33_code
def yX12_areAlike : MethodName := ⟨RX12, "areAlike", "(II)Z"⟩
abbrev cX12_fillsKept : ByteArray := prog_14_method_34_code
def yX12_fillsKept : MethodName := ⟨RX12, "fillsKept", "()V"⟩
abbrev cX12_wasOf : ByteArray := prog_14_method_35_code
def yX12_wasOf : MethodName := ⟨RX12, "wasOf", "(I)I"⟩
abbrev cX12_areTogether : ByteArray := prog_14_method_36_code
def yX12_areTogether : MethodName := ⟨RX12, "areTogether", "(II)Z"⟩
abbrev cX12_takenFor : ByteArray := prog_14_method_37_code
def yX12_takenFor : MethodName := ⟨RX12, "takenFor", "(II)I"⟩
abbrev cX12_laysOn : ByteArray := prog_14_method_38_code
def yX12_laysOn : MethodName := ⟨RX12, "laysOn", "(II)V"⟩
abbrev cX12_makesBy : ByteArray := prog_14_method_39_code
def yX12_makesBy : MethodName := ⟨RX12, "makesBy", "(I)V"⟩
abbrev cX12_grows : ByteArray := prog_14_method_40_code
def yX12_grows : MethodName := ⟨RX12, "grows", "()I"⟩
abbrev cX12_makesTokens : ByteArray := prog_14_method_41_code
def yX12_makesTokens : MethodName := ⟨RX12, "makesTokens", "()I"⟩
abbrev cX12_ruleNodes : ByteArray := prog_14_method_42_code
def yX12_ruleNodes : MethodName := ⟨RX12, "ruleNodes", "()I"⟩
abbrev cX12_isRefused : ByteArray := prog_14_method_43_code
def yX12_isRefused : MethodName := ⟨RX12, "isRefused", "(I)Z"⟩
abbrev cX12_edited : ByteArray := prog_14_method_44_code
def yX12_edited : MethodName := ⟨RX12, "edited", "()I"⟩
abbrev cX12_keeps : ByteArray := prog_14_method_45_code
def yX12_keeps : MethodName := ⟨RX12, "keeps", "(I)V"⟩
abbrev cX12_remembers : ByteArray := prog_14_method_46_code
def yX12_remembers : MethodName := ⟨RX12, "remembers", "()V"⟩
abbrev cX12_goesTo : ByteArray := prog_14_method_47_code
def yX12_goesTo : MethodName := ⟨RX12, "goesTo", "(I)V"⟩
abbrev cX12_undo : ByteArray := prog_14_method_48_code
def yX12_undo : MethodName := ⟨RX12, "undo", "()Z"⟩
abbrev cX12_redo : ByteArray := prog_14_method_49_code
def yX12_redo : MethodName := ⟨RX12, "redo", "()Z"⟩
abbrev cX12_edit : ByteArray := prog_14_method_50_code
def yX12_edit : MethodName := ⟨RX12, "edit", "(II)I"⟩
abbrev cX12_isName : ByteArray := prog_14_method_51_code
def yX12_isName : MethodName := ⟨RX12, "isName", "()Z"⟩
abbrev cX12_isGoodName : ByteArray := prog_14_method_52_code
def yX12_isGoodName : MethodName := ⟨RX12, "isGoodName", "(I)Z"⟩
abbrev cX12_rename : ByteArray := prog_14_method_53_code
def yX12_rename : MethodName := ⟨RX12, "rename", "(I)I"⟩
abbrev cX12_beginOf : ByteArray := prog_14_method_54_code
def yX12_beginOf : MethodName := ⟨RX12, "beginOf", "(I)I"⟩
abbrev cX12_endOf : ByteArray := prog_14_method_55_code
def yX12_endOf : MethodName := ⟨RX12, "endOf", "(I)I"⟩
abbrev cX12_copies : ByteArray := prog_14_method_56_code
def yX12_copies : MethodName := ⟨RX12, "copies", "(III)I"⟩
abbrev cX12_isRun : ByteArray := prog_14_method_57_code
def yX12_isRun : MethodName := ⟨RX12, "isRun", "(I)Z"⟩
abbrev cX12_cut : ByteArray := prog_14_method_58_code
def yX12_cut : MethodName := ⟨RX12, "cut", "(I)I"⟩
abbrev cX12_twin : ByteArray := prog_14_method_59_code
def yX12_twin : MethodName := ⟨RX12, "twin", "(I)I"⟩
abbrev cX12_swap : ByteArray := prog_14_method_60_code
def yX12_swap : MethodName := ⟨RX12, "swap", "(I)I"⟩
abbrev cX12_text : ByteArray := prog_14_method_61_code
def yX12_text : MethodName := ⟨RX12, "text", "(I)I"⟩
abbrev cX12_token : ByteArray := prog_14_method_62_code
def yX12_token : MethodName := ⟨RX12, "token", "(II)I"⟩
abbrev cX12_under : ByteArray := prog_14_method_63_code
def yX12_under : MethodName := ⟨RX12, "under", "(I)I"⟩
abbrev cX12_isToken : ByteArray := prog_14_method_64_code
def yX12_isToken : MethodName := ⟨RX12, "isToken", "(I)Z"⟩
abbrev cX12_isInner : ByteArray := prog_14_method_65_code
def yX12_isInner : MethodName := ⟨RX12, "isInner", "(I)Z"⟩
abbrev cX12_good : ByteArray := prog_14_method_66_code
def yX12_good : MethodName := ⟨RX12, "good", "(I)I"⟩
abbrev cX12_node : ByteArray := prog_14_method_67_code
def yX12_node : MethodName := ⟨RX12, "node", "(II)I"⟩
abbrev cX12_child : ByteArray := prog_14_method_68_code
def yX12_child : MethodName := ⟨RX12, "child", "(II)I"⟩
abbrev cX12_besideOf : ByteArray := prog_14_method_69_code
def yX12_besideOf : MethodName := ⟨RX12, "besideOf", "(II)I"⟩
abbrev cX12_beside : ByteArray := prog_14_method_70_code
def yX12_beside : MethodName := ⟨RX12, "beside", "(I)I"⟩
abbrev cX12_before : ByteArray := prog_14_method_71_code
def yX12_before : MethodName := ⟨RX12, "before", "(I)I"⟩
abbrev cX12_span : ByteArray := prog_14_method_72_code
def yX12_span : MethodName := ⟨RX12, "span", "(II)I"⟩
abbrev cX12_last : ByteArray := prog_14_method_73_code
def yX12_last : MethodName := ⟨RX12, "last", "(I)I"⟩
abbrev cX12_ruled : ByteArray := prog_14_method_74_code
def yX12_ruled : MethodName := ⟨RX12, "ruled", "(I)I"⟩
abbrev cX12_fresh : ByteArray := prog_14_method_75_code
def yX12_fresh : MethodName := ⟨RX12, "fresh", "()I"⟩
abbrev cX12_inTheWay : ByteArray := prog_14_method_76_code
def yX12_inTheWay : MethodName := ⟨RX12, "inTheWay", "(I)I"⟩
abbrev cX12_expected : ByteArray := prog_14_method_77_code
def yX12_expected : MethodName := ⟨RX12, "expected", "()I"⟩
abbrev cX12_mend : ByteArray := prog_14_method_78_code
def yX12_mend : MethodName := ⟨RX12, "mend", "(I)I"⟩
abbrev cX12_says : ByteArray := prog_14_method_79_code
def yX12_says : MethodName := ⟨RX12, "says", "(I)V"⟩
abbrev cX12_saysToken : ByteArray := prog_14_method_80_code
def yX12_saysToken : MethodName := ⟨RX12, "saysToken", "(I)V"⟩
abbrev cX12_pushes : ByteArray := prog_14_method_81_code
def yX12_pushes : MethodName := ⟨RX12, "pushes", "(II)I"⟩
abbrev cX12_prints : ByteArray := prog_14_method_82_code
def yX12_prints : MethodName := ⟨RX12, "prints", "(I)V"⟩
abbrev cX12_print : ByteArray := prog_14_method_83_code
def yX12_print : MethodName := ⟨RX12, "print", "(I)I"⟩
abbrev cX12_isTerm : ByteArray := prog_14_method_84_code
def yX12_isTerm : MethodName := ⟨RX12, "isTerm", "(I)Z"⟩
abbrev cX12_alike : ByteArray := prog_14_method_85_code
def yX12_alike : MethodName := ⟨RX12, "alike", "(II)I"⟩
abbrev cX12_row : ByteArray := prog_14_method_86_code
def yX12_row : MethodName := ⟨RX12, "row", "(I)I"⟩
abbrev cX12_pair : ByteArray := prog_14_method_87_code
def yX12_pair : MethodName := ⟨RX12, "pair", "(II)I"⟩
abbrev cX12_youngBelow : ByteArray := prog_14_method_88_code
def yX12_youngBelow : MethodName := ⟨RX12, "youngBelow", "(I)I"⟩
abbrev cX12_young : ByteArray := prog_14_method_89_code
def yX12_young : MethodName := ⟨RX12, "young", "(I)I"⟩
abbrev cX12_runs : ByteArray := prog_14_method_90_code
def yX12_runs : MethodName := ⟨RX12, "runs", "()I"⟩
abbrev cX12_run : ByteArray := prog_14_method_91_code
def yX12_run : MethodName := ⟨RX12, "run", "(I)I"⟩
abbrev cX12_value : ByteArray := prog_14_method_92_code
def yX12_value : MethodName := ⟨RX12, "value", "(I)I"⟩
abbrev cX12_worth : ByteArray := prog_14_method_93_code
def yX12_worth : MethodName := ⟨RX12, "worth", "(I)I"⟩
abbrev cX12_firm : ByteArray := prog_14_method_94_code
def yX12_firm : MethodName := ⟨RX12, "firm", "(I)I"⟩
abbrev cX12_sets : ByteArray := prog_14_method_95_code
def yX12_sets : MethodName := ⟨RX12, "sets", "(I)I"⟩
abbrev cX12_setName : ByteArray := prog_14_method_96_code
def yX12_setName : MethodName := ⟨RX12, "setName", "(I)J"⟩
abbrev cX12_doesRead : ByteArray := prog_14_method_97_code
def yX12_doesRead : MethodName := ⟨RX12, "doesRead", "(IJ)Z"⟩
abbrev cX12_uses : ByteArray := prog_14_method_98_code
def yX12_uses : MethodName := ⟨RX12, "uses", "(I)I"⟩
abbrev cX12_isIdle : ByteArray := prog_14_method_99_code
def yX12_isIdle : MethodName := ⟨RX12, "isIdle", "(I)Z"⟩
abbrev cX12_idle : ByteArray := prog_14_method_100_code
def yX12_idle : MethodName := ⟨RX12, "idle", "(I)I"⟩
abbrev cX12_above : ByteArray := prog_14_method_101_code
def yX12_above : MethodName := ⟨RX12, "above", "(II)I"⟩
abbrev cX12_deepOf : ByteArray := prog_14_method_102_code
def yX12_deepOf : MethodName := ⟨RX12, "deepOf", "(I)I"⟩
abbrev cX12_common : ByteArray := prog_14_method_103_code
def yX12_common : MethodName := ⟨RX12, "common", "(II)I"⟩
abbrev cX12_path : ByteArray := prog_14_method_104_code
def yX12_path : MethodName := ⟨RX12, "path", "(II)I"⟩
abbrev cX12_setNames : ByteArray := prog_14_method_105_code
def yX12_setNames : MethodName := ⟨RX12, "setNames", "()I"⟩
abbrev cX12_count : ByteArray := prog_14_method_106_code
def yX12_count : MethodName := ⟨RX12, "count", "(I)I"⟩
def RL : String := "RegrowDeskLaw"
abbrev cL_law : ByteArray := code
abbrev classes : List vw_C := [(RX0, TX0, 5), (RX1, TX1, 14), (RX2, TX2, 9), (RX3, TX3, 10), (RX4, TX4, 5), (RX5, TX5, 4), (RX6, TX6, 1), (RX7, TX7, 17), (RX8, TX8, 6), (RX9, TX9, 16), (RX10, TX10, 2), (RX11, TX11, 19), (RX12, TX12, 82)]
def zTb : List Cond := lw_tbl.filter goodWord
theorem zTb_good (w : Cond) (h : w ∈ zTb) : (w.onTables && w.keeps) = true ∨ ∃ ty, w = .arrayClass ty := good_of_word (List.mem_filter.mp h).2
def zT (cA : Nat → ClassId) : List (ClassId × FieldType) := [(cA 0, .int), (cA 1, .long), (cA 2, .object "RegrowDesk$Moment")]
theorem zp_mem {w : Cond} (hg : goodWord w = true) (h : w ∈ k2_sels lw_privs) : w ∈ zTb := List.mem_filter.mpr ⟨List.mem_append_left _ h, hg⟩
theorem zt1_mem {w : Cond} (hg : goodWord w = true) (h : w ∈ tables_1_1) : w ∈ zTb := List.mem_filter.mpr ⟨List.mem_append_right _ (show w ∈ tables_1 from (show w ∈ tables_1_1 ++ (tables_1_2 ++ (tables_1_3 ++ (tables_1_4 ++ (tables_1_5 ++ (tables_1_6 ++ (tables_1_7 ++ tables_1_8)))))) from List.mem_append_left _ h)), hg⟩
theorem zt2_mem {w : Cond} (hg : goodWord w = true) (h : w ∈ tables_1_2) : w ∈ zTb := List.mem_filter.mpr ⟨List.mem_append_right _ (show w ∈ tables_1 from (show w ∈ tables_1_1 ++ (tables_1_2 ++ (tables_1_3 ++ (tables_1_4 ++ (tables_1_5 ++ (tables_1_6 ++ (tables_1_7 ++ tables_1_8)))))) from List.mem_append_right _ (List.mem_append_left _ h))), hg⟩
theorem zt3_mem {w : Cond} (hg : goodWord w = true) (h : w ∈ tables_1_3) : w ∈ zTb := List.mem_filter.mpr ⟨List.mem_append_right _ (show w ∈ tables_1 from (show w ∈ tables_1_1 ++ (tables_1_2 ++ (tables_1_3 ++ (tables_1_4 ++ (tables_1_5 ++ (tables_1_6 ++ (tables_1_7 ++ tables_1_8)))))) from List.mem_append_right _ (List.mem_append_right _ (List.mem_append_left _ h)))), hg⟩
theorem zt4_mem {w : Cond} (hg : goodWord w = true) (h : w ∈ tables_1_4) : w ∈ zTb := List.mem_filter.mpr ⟨List.mem_append_right _ (show w ∈ tables_1 from (show w ∈ tables_1_1 ++ (tables_1_2 ++ (tables_1_3 ++ (tables_1_4 ++ (tables_1_5 ++ (tables_1_6 ++ (tables_1_7 ++ tables_1_8)))))) from List.mem_append_right _ (List.mem_append_right _ (List.mem_append_right _ (List.mem_append_left _ h))))), hg⟩
theorem zt5_mem {w : Cond} (hg : goodWord w = true) (h : w ∈ tables_1_5) : w ∈ zTb := List.mem_filter.mpr ⟨List.mem_append_right _ (show w ∈ tables_1 from (show w ∈ tables_1_1 ++ (tables_1_2 ++ (tables_1_3 ++ (tables_1_4 ++ (tables_1_5 ++ (tables_1_6 ++ (tables_1_7 ++ tables_1_8)))))) from List.mem_append_right _ (List.mem_append_right _ (List.mem_append_right _ (List.mem_append_right _ (List.mem_append_left _ h)))))), hg⟩
theorem zt6_mem {w : Cond} (hg : goodWord w = true) (h : w ∈ tables_1_6) : w ∈ zTb := List.mem_filter.mpr ⟨List.mem_append_right _ (show w ∈ tables_1 from (show w ∈ tables_1_1 ++ (tables_1_2 ++ (tables_1_3 ++ (tables_1_4 ++ (tables_1_5 ++ (tables_1_6 ++ (tables_1_7 ++ tables_1_8)))))) from List.mem_append_right _ (List.mem_append_right _ (List.mem_append_right _ (List.mem_append_right _ (List.mem_append_right _ (List.mem_append_left _ h))))))), hg⟩
theorem zt7_mem {w : Cond} (hg : goodWord w = true) (h : w ∈ tables_1_7) : w ∈ zTb := List.mem_filter.mpr ⟨List.mem_append_right _ (show w ∈ tables_1 from (show w ∈ tables_1_1 ++ (tables_1_2 ++ (tables_1_3 ++ (tables_1_4 ++ (tables_1_5 ++ (tables_1_6 ++ (tables_1_7 ++ tables_1_8)))))) from List.mem_append_right _ (List.mem_append_right _ (List.mem_append_right _ (List.mem_append_right _ (List.mem_append_right _ (List.mem_append_right _ (List.mem_append_left _ h)))))))), hg⟩
theorem zt8_mem {w : Cond} (hg : goodWord w = true) (h : w ∈ tables_1_8) : w ∈ zTb := List.mem_filter.mpr ⟨List.mem_append_right _ (show w ∈ tables_1 from (show w ∈ tables_1_1 ++ (tables_1_2 ++ (tables_1_3 ++ (tables_1_4 ++ (tables_1_5 ++ (tables_1_6 ++ (tables_1_7 ++ tables_1_8)))))) from List.mem_append_right _ (List.mem_append_right _ (List.mem_append_right _ (List.mem_append_right _ (List.mem_append_right _ (List.mem_append_right _ (List.mem_append_right _ (h))))))))), hg⟩
theorem zk_in_11 : Cond.initialized RX11 ∈ zTb := zt1_mem rfl (List.mem_of_getElem? (i := 1) rfl)
theorem zk_in_6 : Cond.initialized RX6 ∈ zTb := zt1_mem rfl (List.mem_of_getElem? (i := 2) rfl)
theorem zk_in_2 : Cond.initialized RX2 ∈ zTb := zt1_mem rfl (List.mem_of_getElem? (i := 3) rfl)
theorem zk_in_8 : Cond.initialized RX8 ∈ zTb := zt1_mem rfl (List.mem_of_getElem? (i := 4) rfl)
theorem zk_in_3 : Cond.initialized RX3 ∈ zTb := zt1_mem rfl (List.mem_of_getElem? (i := 5) rfl)
theorem zk_in_9 : Cond.initialized RX9 ∈ zTb := zt1_mem rfl (List.mem_of_getElem? (i := 6) rfl)
theorem zk_in_1 : Cond.initialized RX1 ∈ zTb := zt1_mem rfl (List.mem_of_getElem? (i := 7) rfl)
theorem zk_in_7 : Cond.initialized RX7 ∈ zTb := zt1_mem rfl (List.mem_of_getElem? (i := 8) rfl)
theorem zk_in_4 : Cond.initialized RX4 ∈ zTb := zt1_mem rfl (List.mem_of_getElem? (i := 9) rfl)
theorem zk_in_5 : Cond.initialized RX5 ∈ zTb := zt1_mem rfl (List.mem_of_getElem? (i := 10) rfl)
theorem zk_in_0 : Cond.initialized RX0 ∈ zTb := zt1_mem rfl (List.mem_of_getElem? (i := 11) rfl)
theorem zk_in_10 : Cond.initialized RX10 ∈ zTb := zt1_mem rfl (List.mem_of_getElem? (i := 12) rfl)
theorem zk_in_Math : Cond.initialized "java/lang/Math" ∈ zTb := zt1_mem rfl (List.mem_of_getElem? (i := 13) rfl)
theorem zk_in_System : Cond.initialized "java/lang/System" ∈ zTb := zt1_mem rfl (List.mem_of_getElem? (i := 14) rfl)
theorem zk_in_12 : Cond.initialized RX12 ∈ zTb := zt1_mem rfl (List.mem_of_getElem? (i := 15) rfl)
theorem zk_cl_L_7 : Cond.classLink RL 7 RX11 ∈ zTb := zt1_mem rfl (List.mem_of_getElem? (i := 16) rfl)
theorem zk_ia_11 : Cond.instantiable RX11 19 ∈ zTb := zt1_mem rfl (List.mem_of_getElem? (i := 17) rfl)
theorem zk_ml_L_9 : Cond.methodLink RL 9 yX11_init ∈ zTb := zt1_mem rfl (List.mem_of_getElem? (i := 18) rfl)
theorem zk_im_yX11_init : Cond.instanceMethod yX11_init ∈ zTb := zt1_mem rfl (List.mem_of_getElem? (i := 19) rfl)
theorem zk_cd_yX11_init : Cond.code yX11_init cX11_init 3 none ∈ zTb := zt1_mem rfl (List.mem_of_getElem? (i := 20) rfl)
theorem zk_ml_11_1 : Cond.methodLink RX11 1 objectInit ∈ zTb := zt1_mem rfl (List.mem_of_getElem? (i := 21) rfl)
theorem zk_im_obj : Cond.instanceMethod objectInit ∈ zTb := zt1_mem rfl (List.mem_of_getElem? (i := 22) rfl)
theorem zk_cd_obj : Cond.code objectInit ⟨#[0xb1]⟩ 1 none ∈ zTb := zt1_mem rfl (List.mem_of_getElem? (i := 23) rfl)
theorem zk_cl_11_7 : Cond.classLink RX11 7 RX6 ∈ zTb := zt1_mem rfl (List.mem_of_getElem? (i := 24) rfl)
theorem zk_ia_6 : Cond.instantiable RX6 1 ∈ zTb := zt1_mem rfl (List.mem_of_getElem? (i := 25) rfl)
theorem zk_ml_11_11 : Cond.methodLink RX11 11 yX6_init ∈ zTb := zt1_mem rfl (List.mem_of_getElem? (i := 26) rfl)
theorem zk_im_yX6_init : Cond.instanceMethod yX6_init ∈ zTb := zt1_mem rfl (List.mem_of_getElem? (i := 27) rfl)
theorem zk_cd_yX6_init : Cond.code yX6_init cX6_init 2 none ∈ zTb := zt1_mem rfl (List.mem_of_getElem? (i := 28) rfl)
theorem zk_ml_6_1 : Cond.methodLink RX6 1 objectInit ∈ zTb := zt1_mem rfl (List.mem_of_getElem? (i := 29) rfl)
theorem zk_fl_6_7 : Cond.fieldLink RX6 7 "RegrowDesk$Row" "cells" "[I" ∈ zTb := zt1_mem rfl (List.mem_of_getElem? (i := 30) rfl)
theorem zk_ac_int : Cond.arrayClass .int ∈ zTb := zt1_mem rfl (List.mem_of_getElem? (i := 34) rfl)
theorem zk_cl_11_18 : Cond.classLink RX11 18 RX2 ∈ zTb := zt1_mem rfl (List.mem_of_getElem? (i := 35) rfl)
theorem zk_ia_2 : Cond.instantiable RX2 9 ∈ zTb := zt1_mem rfl (List.mem_of_getElem? (i := 37) rfl)
theorem zk_im_yX2_init : Cond.instanceMethod yX2_init ∈ zTb := zt1_mem rfl (List.mem_of_getElem? (i := 39) rfl)
theorem zk_cd_yX2_init : Cond.code yX2_init cX2_init 1 none ∈ zTb := zt1_mem rfl (List.mem_of_getElem? (i := 40) rfl)
theorem zk_ml_2_3 : Cond.methodLink RX2 3 objectInit ∈ zTb := zt1_mem rfl (List.mem_of_getElem? (i := 41) rfl)
theorem zk_cl_2_9 : Cond.classLink RX2 9 RX6 ∈ zTb := zt1_mem rfl (List.mem_of_getElem? (i := 42) rfl)
theorem zk_ml_2_11 : Cond.methodLink RX2 11 yX6_init ∈ zTb := zt1_mem rfl (List.mem_of_getElem? (i := 43) rfl)
theorem zk_cl_2_20 : Cond.classLink RX2 20 RX8 ∈ zTb := zt1_mem rfl (List.mem_of_getElem? (i := 44) rfl)
theorem zk_ia_8 : Cond.instantiable RX8 6 ∈ zTb := zt1_mem rfl (List.mem_of_getElem? (i := 45) rfl)
theorem zk_im_yX8_init : Cond.instanceMethod yX8_init ∈ zTb := zt1_mem rfl (List.mem_of_getElem? (i := 47) rfl)
theorem zk_cd_yX8_init : Cond.code yX8_init cX8_init 1 none ∈ zTb := zt1_mem rfl (List.mem_of_getElem? (i := 48) rfl)
theorem zk_ml_8_3 : Cond.methodLink RX8 3 objectInit ∈ zTb := zt1_mem rfl (List.mem_of_getElem? (i := 49) rfl)
theorem zk_cl_8_9 : Cond.classLink RX8 9 RX6 ∈ zTb := zt1_mem rfl (List.mem_of_getElem? (i := 50) rfl)
theorem zk_ml_8_11 : Cond.methodLink RX8 11 yX6_init ∈ zTb := zt1_mem rfl (List.mem_of_getElem? (i := 51) rfl)
theorem zk_fl_8_14 : Cond.fieldLink RX8 14 "RegrowDesk$Tokens" "kind" "LRegrowDesk$Row;" ∈ zTb := zt1_mem rfl (List.mem_of_getElem? (i := 52) rfl)
theorem zk_fl_0_63 : Cond.fieldLink RX0 63 "RegrowDesk$Tokens" "kind" "LRegrowDesk$Row;" ∈ zTb := zt1_mem rfl (List.mem_of_getElem? (i := 53) rfl)
theorem zk_fl_10_54 : Cond.fieldLink RX10 54 "RegrowDesk$Tokens" "kind" "LRegrowDesk$Row;" ∈ zTb := zt1_mem rfl (List.mem_of_getElem? (i := 54) rfl)
theorem zk_fl_11_163 : Cond.fieldLink RX11 163 "RegrowDesk$Tokens" "kind" "LRegrowDesk$Row;" ∈ zTb := zt1_mem rfl (List.mem_of_getElem? (i := 55) rfl)
theorem zk_fl_1_102 : Cond.fieldLink RX1 102 "RegrowDesk$Tokens" "kind" "LRegrowDesk$Row;" ∈ zTb := zt1_mem rfl (List.mem_of_getElem? (i := 56) rfl)
theorem zk_fl_3_69 : Cond.fieldLink RX3 69 "RegrowDesk$Tokens" "kind" "LRegrowDesk$Row;" ∈ zTb := zt1_mem rfl (List.mem_of_getElem? (i := 57) rfl)
theorem zk_fl_8_20 : Cond.fieldLink RX8 20 "RegrowDesk$Tokens" "start" "LRegrowDesk$Row;" ∈ zTb := zt1_mem rfl (List.mem_of_getElem? (i := 58) rfl)
theorem zk_fl_2_58 : Cond.fieldLink RX2 58 "RegrowDesk$Tokens" "start" "LRegrowDesk$Row;" ∈ zTb := zt1_mem rfl (List.mem_of_getElem? (i := 59) rfl)
theorem zk_fl_11_181 : Cond.fieldLink RX11 181 "RegrowDesk$Tokens" "start" "LRegrowDesk$Row;" ∈ zTb := zt1_mem rfl (List.mem_of_getElem? (i := 60) rfl)
theorem zk_fl_8_23 : Cond.fieldLink RX8 23 "RegrowDesk$Tokens" "length" "LRegrowDesk$Row;" ∈ zTb := zt1_mem rfl (List.mem_of_getElem? (i := 61) rfl)
theorem zk_fl_1_105 : Cond.fieldLink RX1 105 "RegrowDesk$Tokens" "length" "LRegrowDesk$Row;" ∈ zTb := zt1_mem rfl (List.mem_of_getElem? (i := 62) rfl)
theorem zk_fl_11_184 : Cond.fieldLink RX11 184 "RegrowDesk$Tokens" "length" "LRegrowDesk$Row;" ∈ zTb := zt1_mem rfl (List.mem_of_getElem? (i := 63) rfl)
theorem zk_fl_3_74 : Cond.fieldLink RX3 74 "RegrowDesk$Tokens" "length" "LRegrowDesk$Row;" ∈ zTb := zt1_mem rfl (List.mem_of_getElem? (i := 64) rfl)
theorem zk_fl_8_26 : Cond.fieldLink RX8 26 "RegrowDesk$Tokens" "head" "LRegrowDesk$Row;" ∈ zTb := zt1_mem rfl (List.mem_of_getElem? (i := 65) rfl)
theorem zk_fl_1_108 : Cond.fieldLink RX1 108 "RegrowDesk$Tokens" "head" "LRegrowDesk$Row;" ∈ zTb := zt1_mem rfl (List.mem_of_getElem? (i := 66) rfl)
theorem zk_fl_3_75 : Cond.fieldLink RX3 75 "RegrowDesk$Tokens" "head" "LRegrowDesk$Row;" ∈ zTb := zt1_mem rfl (List.mem_of_getElem? (i := 67) rfl)
theorem zk_fl_8_29 : Cond.fieldLink RX8 29 "RegrowDesk$Tokens" "tail" "LRegrowDesk$Row;" ∈ zTb := zt1_mem rfl (List.mem_of_getElem? (i := 68) rfl)
theorem zk_fl_1_111 : Cond.fieldLink RX1 111 "RegrowDesk$Tokens" "tail" "LRegrowDesk$Row;" ∈ zTb := zt1_mem rfl (List.mem_of_getElem? (i := 69) rfl)
theorem zk_fl_3_76 : Cond.fieldLink RX3 76 "RegrowDesk$Tokens" "tail" "LRegrowDesk$Row;" ∈ zTb := zt1_mem rfl (List.mem_of_getElem? (i := 70) rfl)
theorem zk_fl_8_32 : Cond.fieldLink RX8 32 "RegrowDesk$Tokens" "many" "I" ∈ zTb := zt1_mem rfl (List.mem_of_getElem? (i := 71) rfl)
theorem zk_fl_0_38 : Cond.fieldLink RX0 38 "RegrowDesk$Tokens" "many" "I" ∈ zTb := zt1_mem rfl (List.mem_of_getElem? (i := 72) rfl)
theorem zk_fl_1_51 : Cond.fieldLink RX1 51 "RegrowDesk$Tokens" "many" "I" ∈ zTb := zt1_mem rfl (List.mem_of_getElem? (i := 73) rfl)
theorem zk_fl_2_55 : Cond.fieldLink RX2 55 "RegrowDesk$Tokens" "many" "I" ∈ zTb := zt1_mem rfl (List.mem_of_getElem? (i := 74) rfl)
theorem zk_fl_10_49 : Cond.fieldLink RX10 49 "RegrowDesk$Tokens" "many" "I" ∈ zTb := zt1_mem rfl (List.mem_of_getElem? (i := 75) rfl)
theorem zk_fl_11_174 : Cond.fieldLink RX11 174 "RegrowDesk$Tokens" "many" "I" ∈ zTb := zt1_mem rfl (List.mem_of_getElem? (i := 76) rfl)
theorem zk_fl_2_14 : Cond.fieldLink RX2 14 "RegrowDesk$Moment" "text" "LRegrowDesk$Row;" ∈ zTb := zt1_mem rfl (List.mem_of_getElem? (i := 90) rfl)
theorem zk_fl_11_103 : Cond.fieldLink RX11 103 "RegrowDesk$Moment" "text" "LRegrowDesk$Row;" ∈ zTb := zt1_mem rfl (List.mem_of_getElem? (i := 91) rfl)
theorem zk_fl_2_37 : Cond.fieldLink RX2 37 "RegrowDesk$Moment" "size" "I" ∈ zTb := zt1_mem rfl (List.mem_of_getElem? (i := 92) rfl)
theorem zk_fl_11_144 : Cond.fieldLink RX11 144 "RegrowDesk$Moment" "size" "I" ∈ zTb := zt1_mem rfl (List.mem_of_getElem? (i := 93) rfl)
theorem zk_fl_2_23 : Cond.fieldLink RX2 23 "RegrowDesk$Moment" "tokens" "LRegrowDesk$Tokens;" ∈ zTb := zt1_mem rfl (List.mem_of_getElem? (i := 94) rfl)
theorem zk_fl_11_99 : Cond.fieldLink RX11 99 "RegrowDesk$Moment" "tokens" "LRegrowDesk$Tokens;" ∈ zTb := zt1_mem rfl (List.mem_of_getElem? (i := 95) rfl)
theorem zk_fl_1_47 : Cond.fieldLink RX1 47 "RegrowDesk$Moment" "tokens" "LRegrowDesk$Tokens;" ∈ zTb := zt1_mem rfl (List.mem_of_getElem? (i := 96) rfl)
theorem zk_fl_2_48 : Cond.fieldLink RX2 48 "RegrowDesk$Moment" "good" "Z" ∈ zTb := zt1_mem rfl (List.mem_of_getElem? (i := 97) rfl)
theorem zk_fl_11_155 : Cond.fieldLink RX11 155 "RegrowDesk$Moment" "good" "Z" ∈ zTb := zt1_mem rfl (List.mem_of_getElem? (i := 98) rfl)
theorem zk_fl_2_27 : Cond.fieldLink RX2 27 "RegrowDesk$Moment" "goodNode" "LRegrowDesk$Row;" ∈ zTb := zt1_mem rfl (List.mem_of_getElem? (i := 99) rfl)
theorem zk_fl_11_115 : Cond.fieldLink RX11 115 "RegrowDesk$Moment" "goodNode" "LRegrowDesk$Row;" ∈ zTb := zt1_mem rfl (List.mem_of_getElem? (i := 100) rfl)
theorem zk_fl_1_80 : Cond.fieldLink RX1 80 "RegrowDesk$Moment" "goodNode" "LRegrowDesk$Row;" ∈ zTb := zt1_mem rfl (List.mem_of_getElem? (i := 101) rfl)
theorem zk_fl_7_104 : Cond.fieldLink RX7 104 "RegrowDesk$Moment" "goodNode" "LRegrowDesk$Row;" ∈ zTb := zt1_mem rfl (List.mem_of_getElem? (i := 102) rfl)
theorem zk_fl_2_30 : Cond.fieldLink RX2 30 "RegrowDesk$Moment" "goodStart" "LRegrowDesk$Row;" ∈ zTb := zt1_mem rfl (List.mem_of_getElem? (i := 103) rfl)
theorem zk_fl_11_442 : Cond.fieldLink RX11 442 "RegrowDesk$Moment" "goodStart" "LRegrowDesk$Row;" ∈ zTb := zt1_mem rfl (List.mem_of_getElem? (i := 104) rfl)
theorem zk_fl_2_33 : Cond.fieldLink RX2 33 "RegrowDesk$Moment" "goodMany" "I" ∈ zTb := zt1_mem rfl (List.mem_of_getElem? (i := 105) rfl)
theorem zk_fl_1_39 : Cond.fieldLink RX1 39 "RegrowDesk$Moment" "goodMany" "I" ∈ zTb := zt1_mem rfl (List.mem_of_getElem? (i := 106) rfl)
theorem zk_fl_7_99 : Cond.fieldLink RX7 99 "RegrowDesk$Moment" "goodMany" "I" ∈ zTb := zt1_mem rfl (List.mem_of_getElem? (i := 107) rfl)
theorem zk_fl_11_260 : Cond.fieldLink RX11 260 "RegrowDesk$Moment" "goodMany" "I" ∈ zTb := zt1_mem rfl (List.mem_of_getElem? (i := 108) rfl)
theorem zk_fl_9_51 : Cond.fieldLink RX9 51 "RegrowDesk$Moment" "tree" "I" ∈ zTb := zt1_mem rfl (List.mem_of_getElem? (i := 109) rfl)
theorem zk_fl_2_52 : Cond.fieldLink RX2 52 "RegrowDesk$Moment" "tree" "I" ∈ zTb := zt1_mem rfl (List.mem_of_getElem? (i := 110) rfl)
theorem zk_fl_11_352 : Cond.fieldLink RX11 352 "RegrowDesk$Moment" "tree" "I" ∈ zTb := zt1_mem rfl (List.mem_of_getElem? (i := 111) rfl)
theorem zk_fl_11_122 : Cond.fieldLink RX11 122 "RegrowDesk$Moment" "row" "I" ∈ zTb := zt1_mem rfl (List.mem_of_getElem? (i := 112) rfl)
theorem zk_fl_2_65 : Cond.fieldLink RX2 65 "RegrowDesk$Moment" "row" "I" ∈ zTb := zt1_mem rfl (List.mem_of_getElem? (i := 113) rfl)
theorem zk_cl_11_32 : Cond.classLink RX11 32 RX3 ∈ zTb := zt1_mem rfl (List.mem_of_getElem? (i := 133) rfl)
theorem zk_ia_3 : Cond.instantiable RX3 10 ∈ zTb := zt1_mem rfl (List.mem_of_getElem? (i := 134) rfl)
theorem zk_im_yX3_init : Cond.instanceMethod yX3_init ∈ zTb := zt1_mem rfl (List.mem_of_getElem? (i := 136) rfl)
theorem zk_cd_yX3_init : Cond.code yX3_init cX3_init 1 none ∈ zTb := zt1_mem rfl (List.mem_of_getElem? (i := 137) rfl)
theorem zk_ml_3_3 : Cond.methodLink RX3 3 objectInit ∈ zTb := zt1_mem rfl (List.mem_of_getElem? (i := 138) rfl)
theorem zk_cl_3_9 : Cond.classLink RX3 9 RX6 ∈ zTb := zt1_mem rfl (List.mem_of_getElem? (i := 139) rfl)
theorem zk_ml_3_11 : Cond.methodLink RX3 11 yX6_init ∈ zTb := zt1_mem rfl (List.mem_of_getElem? (i := 140) rfl)
theorem zk_fl_3_14 : Cond.fieldLink RX3 14 "RegrowDesk$Nodes" "rule" "LRegrowDesk$Row;" ∈ zTb := zt1_mem rfl (List.mem_of_getElem? (i := 141) rfl)
theorem zk_fl_5_54 : Cond.fieldLink RX5 54 "RegrowDesk$Nodes" "rule" "LRegrowDesk$Row;" ∈ zTb := zt1_mem rfl (List.mem_of_getElem? (i := 142) rfl)
theorem zk_fl_7_69 : Cond.fieldLink RX7 69 "RegrowDesk$Nodes" "rule" "LRegrowDesk$Row;" ∈ zTb := zt1_mem rfl (List.mem_of_getElem? (i := 143) rfl)
theorem zk_fl_9_110 : Cond.fieldLink RX9 110 "RegrowDesk$Nodes" "rule" "LRegrowDesk$Row;" ∈ zTb := zt1_mem rfl (List.mem_of_getElem? (i := 144) rfl)
theorem zk_fl_11_234 : Cond.fieldLink RX11 234 "RegrowDesk$Nodes" "rule" "LRegrowDesk$Row;" ∈ zTb := zt1_mem rfl (List.mem_of_getElem? (i := 145) rfl)
theorem zk_fl_3_20 : Cond.fieldLink RX3 20 "RegrowDesk$Nodes" "symbol" "LRegrowDesk$Row;" ∈ zTb := zt1_mem rfl (List.mem_of_getElem? (i := 146) rfl)
theorem zk_fl_9_124 : Cond.fieldLink RX9 124 "RegrowDesk$Nodes" "symbol" "LRegrowDesk$Row;" ∈ zTb := zt1_mem rfl (List.mem_of_getElem? (i := 147) rfl)
theorem zk_fl_1_157 : Cond.fieldLink RX1 157 "RegrowDesk$Nodes" "symbol" "LRegrowDesk$Row;" ∈ zTb := zt1_mem rfl (List.mem_of_getElem? (i := 148) rfl)
theorem zk_fl_11_237 : Cond.fieldLink RX11 237 "RegrowDesk$Nodes" "symbol" "LRegrowDesk$Row;" ∈ zTb := zt1_mem rfl (List.mem_of_getElem? (i := 149) rfl)
theorem zk_fl_3_23 : Cond.fieldLink RX3 23 "RegrowDesk$Nodes" "state" "LRegrowDesk$Row;" ∈ zTb := zt1_mem rfl (List.mem_of_getElem? (i := 150) rfl)
theorem zk_fl_1_148 : Cond.fieldLink RX1 148 "RegrowDesk$Nodes" "state" "LRegrowDesk$Row;" ∈ zTb := zt1_mem rfl (List.mem_of_getElem? (i := 151) rfl)
theorem zk_fl_11_243 : Cond.fieldLink RX11 243 "RegrowDesk$Nodes" "state" "LRegrowDesk$Row;" ∈ zTb := zt1_mem rfl (List.mem_of_getElem? (i := 152) rfl)
theorem zk_fl_3_26 : Cond.fieldLink RX3 26 "RegrowDesk$Nodes" "tokens" "LRegrowDesk$Row;" ∈ zTb := zt1_mem rfl (List.mem_of_getElem? (i := 153) rfl)
theorem zk_fl_9_95 : Cond.fieldLink RX9 95 "RegrowDesk$Nodes" "tokens" "LRegrowDesk$Row;" ∈ zTb := zt1_mem rfl (List.mem_of_getElem? (i := 154) rfl)
theorem zk_fl_1_151 : Cond.fieldLink RX1 151 "RegrowDesk$Nodes" "tokens" "LRegrowDesk$Row;" ∈ zTb := zt1_mem rfl (List.mem_of_getElem? (i := 155) rfl)
theorem zk_fl_11_246 : Cond.fieldLink RX11 246 "RegrowDesk$Nodes" "tokens" "LRegrowDesk$Row;" ∈ zTb := zt1_mem rfl (List.mem_of_getElem? (i := 156) rfl)
theorem zk_fl_3_29 : Cond.fieldLink RX3 29 "RegrowDesk$Nodes" "madeBy" "LRegrowDesk$Row;" ∈ zTb := zt1_mem rfl (List.mem_of_getElem? (i := 157) rfl)
theorem zk_fl_7_121 : Cond.fieldLink RX7 121 "RegrowDesk$Nodes" "madeBy" "LRegrowDesk$Row;" ∈ zTb := zt1_mem rfl (List.mem_of_getElem? (i := 158) rfl)
theorem zk_fl_9_142 : Cond.fieldLink RX9 142 "RegrowDesk$Nodes" "madeBy" "LRegrowDesk$Row;" ∈ zTb := zt1_mem rfl (List.mem_of_getElem? (i := 159) rfl)
theorem zk_fl_11_248 : Cond.fieldLink RX11 248 "RegrowDesk$Nodes" "madeBy" "LRegrowDesk$Row;" ∈ zTb := zt1_mem rfl (List.mem_of_getElem? (i := 160) rfl)
theorem zk_fl_3_32 : Cond.fieldLink RX3 32 "RegrowDesk$Nodes" "length" "LRegrowDesk$Row;" ∈ zTb := zt1_mem rfl (List.mem_of_getElem? (i := 161) rfl)
theorem zk_fl_5_68 : Cond.fieldLink RX5 68 "RegrowDesk$Nodes" "length" "LRegrowDesk$Row;" ∈ zTb := zt1_mem rfl (List.mem_of_getElem? (i := 162) rfl)
theorem zk_fl_11_445 : Cond.fieldLink RX11 445 "RegrowDesk$Nodes" "length" "LRegrowDesk$Row;" ∈ zTb := zt1_mem rfl (List.mem_of_getElem? (i := 163) rfl)
theorem zk_fl_3_35 : Cond.fieldLink RX3 35 "RegrowDesk$Nodes" "head" "LRegrowDesk$Row;" ∈ zTb := zt1_mem rfl (List.mem_of_getElem? (i := 164) rfl)
theorem zk_fl_7_152 : Cond.fieldLink RX7 152 "RegrowDesk$Nodes" "head" "LRegrowDesk$Row;" ∈ zTb := zt1_mem rfl (List.mem_of_getElem? (i := 165) rfl)
theorem zk_fl_3_38 : Cond.fieldLink RX3 38 "RegrowDesk$Nodes" "tail" "LRegrowDesk$Row;" ∈ zTb := zt1_mem rfl (List.mem_of_getElem? (i := 166) rfl)
theorem zk_fl_3_41 : Cond.fieldLink RX3 41 "RegrowDesk$Nodes" "children" "LRegrowDesk$Row;" ∈ zTb := zt1_mem rfl (List.mem_of_getElem? (i := 167) rfl)
theorem zk_fl_3_44 : Cond.fieldLink RX3 44 "RegrowDesk$Nodes" "many" "I" ∈ zTb := zt1_mem rfl (List.mem_of_getElem? (i := 168) rfl)
theorem zk_fl_11_355 : Cond.fieldLink RX11 355 "RegrowDesk$Nodes" "many" "I" ∈ zTb := zt1_mem rfl (List.mem_of_getElem? (i := 169) rfl)
theorem zk_cl_11_39 : Cond.classLink RX11 39 RX9 ∈ zTb := zt1_mem rfl (List.mem_of_getElem? (i := 191) rfl)
theorem zk_ia_9 : Cond.instantiable RX9 16 ∈ zTb := zt1_mem rfl (List.mem_of_getElem? (i := 192) rfl)
theorem zk_ml_11_41 : Cond.methodLink RX11 41 yX9_init ∈ zTb := zt1_mem rfl (List.mem_of_getElem? (i := 193) rfl)
theorem zk_im_yX9_init : Cond.instanceMethod yX9_init ∈ zTb := zt1_mem rfl (List.mem_of_getElem? (i := 194) rfl)
theorem zk_cd_yX9_init : Cond.code yX9_init cX9_init 2 none ∈ zTb := zt1_mem rfl (List.mem_of_getElem? (i := 195) rfl)
theorem zk_ml_9_3 : Cond.methodLink RX9 3 objectInit ∈ zTb := zt1_mem rfl (List.mem_of_getElem? (i := 196) rfl)
theorem zk_cl_9_9 : Cond.classLink RX9 9 RX6 ∈ zTb := zt1_mem rfl (List.mem_of_getElem? (i := 197) rfl)
theorem zk_ml_9_11 : Cond.methodLink RX9 11 yX6_init ∈ zTb := zt1_mem rfl (List.mem_of_getElem? (i := 198) rfl)
theorem zk_fl_9_47 : Cond.fieldLink RX9 47 "RegrowDesk$TreeView" "nodes" "LRegrowDesk$Nodes;" ∈ zTb := zt1_mem rfl (List.mem_of_getElem? (i := 199) rfl)
theorem zk_fl_9_14 : Cond.fieldLink RX9 14 "RegrowDesk$TreeView" "order" "LRegrowDesk$Row;" ∈ zTb := zt1_mem rfl (List.mem_of_getElem? (i := 200) rfl)
theorem zk_fl_7_74 : Cond.fieldLink RX7 74 "RegrowDesk$TreeView" "order" "LRegrowDesk$Row;" ∈ zTb := zt1_mem rfl (List.mem_of_getElem? (i := 201) rfl)
theorem zk_fl_11_346 : Cond.fieldLink RX11 346 "RegrowDesk$TreeView" "order" "LRegrowDesk$Row;" ∈ zTb := zt1_mem rfl (List.mem_of_getElem? (i := 202) rfl)
theorem zk_fl_9_20 : Cond.fieldLink RX9 20 "RegrowDesk$TreeView" "place" "LRegrowDesk$Row;" ∈ zTb := zt1_mem rfl (List.mem_of_getElem? (i := 203) rfl)
theorem zk_fl_11_334 : Cond.fieldLink RX11 334 "RegrowDesk$TreeView" "place" "LRegrowDesk$Row;" ∈ zTb := zt1_mem rfl (List.mem_of_getElem? (i := 204) rfl)
theorem zk_fl_9_23 : Cond.fieldLink RX9 23 "RegrowDesk$TreeView" "parentPlace" "LRegrowDesk$Row;" ∈ zTb := zt1_mem rfl (List.mem_of_getElem? (i := 205) rfl)
theorem zk_fl_9_26 : Cond.fieldLink RX9 26 "RegrowDesk$TreeView" "firstToken" "LRegrowDesk$Row;" ∈ zTb := zt1_mem rfl (List.mem_of_getElem? (i := 206) rfl)
theorem zk_fl_7_127 : Cond.fieldLink RX7 127 "RegrowDesk$TreeView" "firstToken" "LRegrowDesk$Row;" ∈ zTb := zt1_mem rfl (List.mem_of_getElem? (i := 207) rfl)
theorem zk_fl_9_29 : Cond.fieldLink RX9 29 "RegrowDesk$TreeView" "depth" "LRegrowDesk$Row;" ∈ zTb := zt1_mem rfl (List.mem_of_getElem? (i := 208) rfl)
theorem zk_fl_9_32 : Cond.fieldLink RX9 32 "RegrowDesk$TreeView" "reach" "LRegrowDesk$Row;" ∈ zTb := zt1_mem rfl (List.mem_of_getElem? (i := 209) rfl)
theorem zk_fl_7_114 : Cond.fieldLink RX7 114 "RegrowDesk$TreeView" "reach" "LRegrowDesk$Row;" ∈ zTb := zt1_mem rfl (List.mem_of_getElem? (i := 210) rfl)
theorem zk_fl_9_35 : Cond.fieldLink RX9 35 "RegrowDesk$TreeView" "waiting" "LRegrowDesk$Row;" ∈ zTb := zt1_mem rfl (List.mem_of_getElem? (i := 211) rfl)
theorem zk_fl_9_38 : Cond.fieldLink RX9 38 "RegrowDesk$TreeView" "waitingParent" "LRegrowDesk$Row;" ∈ zTb := zt1_mem rfl (List.mem_of_getElem? (i := 212) rfl)
theorem zk_fl_9_41 : Cond.fieldLink RX9 41 "RegrowDesk$TreeView" "ruleMany" "LRegrowDesk$Row;" ∈ zTb := zt1_mem rfl (List.mem_of_getElem? (i := 213) rfl)
theorem zk_fl_11_279 : Cond.fieldLink RX11 279 "RegrowDesk$TreeView" "ruleMany" "LRegrowDesk$Row;" ∈ zTb := zt1_mem rfl (List.mem_of_getElem? (i := 214) rfl)
theorem zk_fl_9_44 : Cond.fieldLink RX9 44 "RegrowDesk$TreeView" "runNode" "LRegrowDesk$Row;" ∈ zTb := zt1_mem rfl (List.mem_of_getElem? (i := 215) rfl)
theorem zk_fl_11_306 : Cond.fieldLink RX11 306 "RegrowDesk$TreeView" "runNode" "LRegrowDesk$Row;" ∈ zTb := zt1_mem rfl (List.mem_of_getElem? (i := 216) rfl)
theorem zk_fl_9_121 : Cond.fieldLink RX9 121 "RegrowDesk$TreeView" "runMany" "I" ∈ zTb := zt1_mem rfl (List.mem_of_getElem? (i := 217) rfl)
theorem zk_fl_11_303 : Cond.fieldLink RX11 303 "RegrowDesk$TreeView" "runMany" "I" ∈ zTb := zt1_mem rfl (List.mem_of_getElem? (i := 218) rfl)
theorem zk_fl_9_67 : Cond.fieldLink RX9 67 "RegrowDesk$TreeView" "size" "I" ∈ zTb := zt1_mem rfl (List.mem_of_getElem? (i := 219) rfl)
theorem zk_fl_7_63 : Cond.fieldLink RX7 63 "RegrowDesk$TreeView" "size" "I" ∈ zTb := zt1_mem rfl (List.mem_of_getElem? (i := 220) rfl)
theorem zk_fl_11_215 : Cond.fieldLink RX11 215 "RegrowDesk$TreeView" "size" "I" ∈ zTb := zt1_mem rfl (List.mem_of_getElem? (i := 221) rfl)
theorem zk_fl_9_57 : Cond.fieldLink RX9 57 "RegrowDesk$TreeView" "tree" "I" ∈ zTb := zt1_mem rfl (List.mem_of_getElem? (i := 222) rfl)
theorem zk_fl_11_368 : Cond.fieldLink RX11 368 "RegrowDesk$TreeView" "tree" "I" ∈ zTb := zt1_mem rfl (List.mem_of_getElem? (i := 223) rfl)
theorem zk_fl_9_101 : Cond.fieldLink RX9 101 "RegrowDesk$TreeView" "deepest" "I" ∈ zTb := zt1_mem rfl (List.mem_of_getElem? (i := 224) rfl)
theorem zk_fl_11_359 : Cond.fieldLink RX11 359 "RegrowDesk$TreeView" "deepest" "I" ∈ zTb := zt1_mem rfl (List.mem_of_getElem? (i := 225) rfl)
theorem zk_fl_9_104 : Cond.fieldLink RX9 104 "RegrowDesk$TreeView" "firstMade" "I" ∈ zTb := zt1_mem rfl (List.mem_of_getElem? (i := 226) rfl)
theorem zk_fl_11_369 : Cond.fieldLink RX11 369 "RegrowDesk$TreeView" "firstMade" "I" ∈ zTb := zt1_mem rfl (List.mem_of_getElem? (i := 227) rfl)
theorem zk_cl_11_48 : Cond.classLink RX11 48 RX1 ∈ zTb := zt2_mem rfl (List.mem_of_getElem? (i := 21) rfl)
theorem zk_ia_1 : Cond.instantiable RX1 14 ∈ zTb := zt2_mem rfl (List.mem_of_getElem? (i := 22) rfl)
theorem zk_ml_11_50 : Cond.methodLink RX11 50 yX1_init ∈ zTb := zt2_mem rfl (List.mem_of_getElem? (i := 23) rfl)
theorem zk_im_yX1_init : Cond.instanceMethod yX1_init ∈ zTb := zt2_mem rfl (List.mem_of_getElem? (i := 24) rfl)
theorem zk_cd_yX1_init : Cond.code yX1_init cX1_init 3 none ∈ zTb := zt2_mem rfl (List.mem_of_getElem? (i := 25) rfl)
theorem zk_ml_1_3 : Cond.methodLink RX1 3 objectInit ∈ zTb := zt2_mem rfl (List.mem_of_getElem? (i := 26) rfl)
theorem zk_cl_1_9 : Cond.classLink RX1 9 RX6 ∈ zTb := zt2_mem rfl (List.mem_of_getElem? (i := 27) rfl)
theorem zk_ml_1_11 : Cond.methodLink RX1 11 yX6_init ∈ zTb := zt2_mem rfl (List.mem_of_getElem? (i := 28) rfl)
theorem zk_fl_1_23 : Cond.fieldLink RX1 23 "RegrowDesk$Grower" "nodes" "LRegrowDesk$Nodes;" ∈ zTb := zt2_mem rfl (List.mem_of_getElem? (i := 29) rfl)
theorem zk_fl_1_27 : Cond.fieldLink RX1 27 "RegrowDesk$Grower" "view" "LRegrowDesk$TreeView;" ∈ zTb := zt2_mem rfl (List.mem_of_getElem? (i := 30) rfl)
theorem zk_fl_1_14 : Cond.fieldLink RX1 14 "RegrowDesk$Grower" "states" "LRegrowDesk$Row;" ∈ zTb := zt2_mem rfl (List.mem_of_getElem? (i := 31) rfl)
theorem zk_fl_1_20 : Cond.fieldLink RX1 20 "RegrowDesk$Grower" "stack" "LRegrowDesk$Row;" ∈ zTb := zt2_mem rfl (List.mem_of_getElem? (i := 32) rfl)
theorem zk_fl_1_31 : Cond.fieldLink RX1 31 "RegrowDesk$Grower" "top" "I" ∈ zTb := zt2_mem rfl (List.mem_of_getElem? (i := 33) rfl)
theorem zk_fl_1_44 : Cond.fieldLink RX1 44 "RegrowDesk$Grower" "oldMany" "I" ∈ zTb := zt2_mem rfl (List.mem_of_getElem? (i := 34) rfl)
theorem zk_fl_1_56 : Cond.fieldLink RX1 56 "RegrowDesk$Grower" "newMany" "I" ∈ zTb := zt2_mem rfl (List.mem_of_getElem? (i := 35) rfl)
theorem zk_fl_1_77 : Cond.fieldLink RX1 77 "RegrowDesk$Grower" "ahead" "I" ∈ zTb := zt2_mem rfl (List.mem_of_getElem? (i := 36) rfl)
theorem zk_fl_11_397 : Cond.fieldLink RX11 397 "RegrowDesk$Grower" "ahead" "I" ∈ zTb := zt2_mem rfl (List.mem_of_getElem? (i := 37) rfl)
theorem zk_fl_1_89 : Cond.fieldLink RX1 89 "RegrowDesk$Grower" "behind" "I" ∈ zTb := zt2_mem rfl (List.mem_of_getElem? (i := 38) rfl)
theorem zk_fl_11_400 : Cond.fieldLink RX11 400 "RegrowDesk$Grower" "behind" "I" ∈ zTb := zt2_mem rfl (List.mem_of_getElem? (i := 39) rfl)
theorem zk_fl_1_92 : Cond.fieldLink RX1 92 "RegrowDesk$Grower" "tokensMade" "I" ∈ zTb := zt2_mem rfl (List.mem_of_getElem? (i := 40) rfl)
theorem zk_fl_11_412 : Cond.fieldLink RX11 412 "RegrowDesk$Grower" "tokensMade" "I" ∈ zTb := zt2_mem rfl (List.mem_of_getElem? (i := 41) rfl)
theorem zk_fl_1_118 : Cond.fieldLink RX1 118 "RegrowDesk$Grower" "ruledMade" "I" ∈ zTb := zt2_mem rfl (List.mem_of_getElem? (i := 42) rfl)
theorem zk_fl_11_419 : Cond.fieldLink RX11 419 "RegrowDesk$Grower" "ruledMade" "I" ∈ zTb := zt2_mem rfl (List.mem_of_getElem? (i := 43) rfl)
theorem zk_fl_1_121 : Cond.fieldLink RX1 121 "RegrowDesk$Grower" "taken" "I" ∈ zTb := zt2_mem rfl (List.mem_of_getElem? (i := 44) rfl)
theorem zk_fl_11_403 : Cond.fieldLink RX11 403 "RegrowDesk$Grower" "taken" "I" ∈ zTb := zt2_mem rfl (List.mem_of_getElem? (i := 45) rfl)
theorem zk_fl_1_124 : Cond.fieldLink RX1 124 "RegrowDesk$Grower" "steps" "I" ∈ zTb := zt2_mem rfl (List.mem_of_getElem? (i := 46) rfl)
theorem zk_fl_11_406 : Cond.fieldLink RX11 406 "RegrowDesk$Grower" "steps" "I" ∈ zTb := zt2_mem rfl (List.mem_of_getElem? (i := 47) rfl)
theorem zk_fl_1_127 : Cond.fieldLink RX1 127 "RegrowDesk$Grower" "wrong" "I" ∈ zTb := zt2_mem rfl (List.mem_of_getElem? (i := 48) rfl)
theorem zk_fl_11_409 : Cond.fieldLink RX11 409 "RegrowDesk$Grower" "wrong" "I" ∈ zTb := zt2_mem rfl (List.mem_of_getElem? (i := 49) rfl)
theorem zk_cl_11_57 : Cond.classLink RX11 57 RX7 ∈ zTb := zt2_mem rfl (List.mem_of_getElem? (i := 79) rfl)
theorem zk_ia_7 : Cond.instantiable RX7 17 ∈ zTb := zt2_mem rfl (List.mem_of_getElem? (i := 80) rfl)
theorem zk_ml_11_59 : Cond.methodLink RX11 59 yX7_init ∈ zTb := zt2_mem rfl (List.mem_of_getElem? (i := 81) rfl)
theorem zk_im_yX7_init : Cond.instanceMethod yX7_init ∈ zTb := zt2_mem rfl (List.mem_of_getElem? (i := 82) rfl)
theorem zk_cd_yX7_init : Cond.code yX7_init cX7_init 3 none ∈ zTb := zt2_mem rfl (List.mem_of_getElem? (i := 83) rfl)
theorem zk_ml_7_3 : Cond.methodLink RX7 3 objectInit ∈ zTb := zt2_mem rfl (List.mem_of_getElem? (i := 84) rfl)
theorem zk_cl_7_9 : Cond.classLink RX7 9 RX6 ∈ zTb := zt2_mem rfl (List.mem_of_getElem? (i := 85) rfl)
theorem zk_ml_7_11 : Cond.methodLink RX7 11 yX6_init ∈ zTb := zt2_mem rfl (List.mem_of_getElem? (i := 86) rfl)
theorem zk_fl_7_44 : Cond.fieldLink RX7 44 "RegrowDesk$Runner" "nodes" "LRegrowDesk$Nodes;" ∈ zTb := zt2_mem rfl (List.mem_of_getElem? (i := 87) rfl)
theorem zk_fl_7_48 : Cond.fieldLink RX7 48 "RegrowDesk$Runner" "view" "LRegrowDesk$TreeView;" ∈ zTb := zt2_mem rfl (List.mem_of_getElem? (i := 88) rfl)
theorem zk_fl_7_14 : Cond.fieldLink RX7 14 "RegrowDesk$Runner" "nameOf" "LRegrowDesk$Row;" ∈ zTb := zt2_mem rfl (List.mem_of_getElem? (i := 89) rfl)
theorem zk_fl_7_20 : Cond.fieldLink RX7 20 "RegrowDesk$Runner" "values" "LRegrowDesk$Row;" ∈ zTb := zt2_mem rfl (List.mem_of_getElem? (i := 90) rfl)
theorem zk_fl_7_23 : Cond.fieldLink RX7 23 "RegrowDesk$Runner" "setTimes" "LRegrowDesk$Row;" ∈ zTb := zt2_mem rfl (List.mem_of_getElem? (i := 91) rfl)
theorem zk_fl_7_26 : Cond.fieldLink RX7 26 "RegrowDesk$Runner" "lastSet" "LRegrowDesk$Row;" ∈ zTb := zt2_mem rfl (List.mem_of_getElem? (i := 92) rfl)
theorem zk_fl_7_29 : Cond.fieldLink RX7 29 "RegrowDesk$Runner" "unread" "LRegrowDesk$Row;" ∈ zTb := zt2_mem rfl (List.mem_of_getElem? (i := 93) rfl)
theorem zk_fl_7_32 : Cond.fieldLink RX7 32 "RegrowDesk$Runner" "setAhead" "LRegrowDesk$Row;" ∈ zTb := zt2_mem rfl (List.mem_of_getElem? (i := 94) rfl)
theorem zk_fl_11_337 : Cond.fieldLink RX11 337 "RegrowDesk$Runner" "setAhead" "LRegrowDesk$Row;" ∈ zTb := zt2_mem rfl (List.mem_of_getElem? (i := 95) rfl)
theorem zk_fl_7_35 : Cond.fieldLink RX7 35 "RegrowDesk$Runner" "worths" "LRegrowDesk$Row;" ∈ zTb := zt2_mem rfl (List.mem_of_getElem? (i := 96) rfl)
theorem zk_fl_11_331 : Cond.fieldLink RX11 331 "RegrowDesk$Runner" "worths" "LRegrowDesk$Row;" ∈ zTb := zt2_mem rfl (List.mem_of_getElem? (i := 97) rfl)
theorem zk_fl_7_38 : Cond.fieldLink RX7 38 "RegrowDesk$Runner" "recordOf" "LRegrowDesk$Row;" ∈ zTb := zt2_mem rfl (List.mem_of_getElem? (i := 98) rfl)
theorem zk_fl_7_41 : Cond.fieldLink RX7 41 "RegrowDesk$Runner" "records" "LRegrowDesk$Row;" ∈ zTb := zt2_mem rfl (List.mem_of_getElem? (i := 99) rfl)
theorem zk_fl_7_134 : Cond.fieldLink RX7 134 "RegrowDesk$Runner" "recorded" "I" ∈ zTb := zt2_mem rfl (List.mem_of_getElem? (i := 100) rfl)
theorem zk_fl_7_90 : Cond.fieldLink RX7 90 "RegrowDesk$Runner" "idleMany" "I" ∈ zTb := zt2_mem rfl (List.mem_of_getElem? (i := 101) rfl)
theorem zk_fl_11_343 : Cond.fieldLink RX11 343 "RegrowDesk$Runner" "idleMany" "I" ∈ zTb := zt2_mem rfl (List.mem_of_getElem? (i := 102) rfl)
theorem zk_fl_7_93 : Cond.fieldLink RX7 93 "RegrowDesk$Runner" "idleFirst" "I" ∈ zTb := zt2_mem rfl (List.mem_of_getElem? (i := 103) rfl)
theorem zk_fl_11_349 : Cond.fieldLink RX11 349 "RegrowDesk$Runner" "idleFirst" "I" ∈ zTb := zt2_mem rfl (List.mem_of_getElem? (i := 104) rfl)
theorem zk_fl_7_96 : Cond.fieldLink RX7 96 "RegrowDesk$Runner" "doneAgain" "I" ∈ zTb := zt2_mem rfl (List.mem_of_getElem? (i := 105) rfl)
theorem zk_fl_11_422 : Cond.fieldLink RX11 422 "RegrowDesk$Runner" "doneAgain" "I" ∈ zTb := zt2_mem rfl (List.mem_of_getElem? (i := 106) rfl)
theorem zk_fl_7_158 : Cond.fieldLink RX7 158 "RegrowDesk$Runner" "intSum" "I" ∈ zTb := zt2_mem rfl (List.mem_of_getElem? (i := 107) rfl)
theorem zk_fl_11_362 : Cond.fieldLink RX11 362 "RegrowDesk$Runner" "intSum" "I" ∈ zTb := zt2_mem rfl (List.mem_of_getElem? (i := 108) rfl)
theorem zk_fl_7_161 : Cond.fieldLink RX7 161 "RegrowDesk$Runner" "namesSet" "I" ∈ zTb := zt2_mem rfl (List.mem_of_getElem? (i := 109) rfl)
theorem zk_fl_11_365 : Cond.fieldLink RX11 365 "RegrowDesk$Runner" "namesSet" "I" ∈ zTb := zt2_mem rfl (List.mem_of_getElem? (i := 110) rfl)
theorem zk_cl_11_64 : Cond.classLink RX11 64 RX4 ∈ zTb := zt2_mem rfl (List.mem_of_getElem? (i := 146) rfl)
theorem zk_ia_4 : Cond.instantiable RX4 5 ∈ zTb := zt2_mem rfl (List.mem_of_getElem? (i := 147) rfl)
theorem zk_im_yX4_init : Cond.instanceMethod yX4_init ∈ zTb := zt2_mem rfl (List.mem_of_getElem? (i := 149) rfl)
theorem zk_cd_yX4_init : Cond.code yX4_init cX4_init 1 none ∈ zTb := zt2_mem rfl (List.mem_of_getElem? (i := 150) rfl)
theorem zk_ml_4_3 : Cond.methodLink RX4 3 objectInit ∈ zTb := zt2_mem rfl (List.mem_of_getElem? (i := 151) rfl)
theorem zk_cl_4_9 : Cond.classLink RX4 9 RX6 ∈ zTb := zt2_mem rfl (List.mem_of_getElem? (i := 152) rfl)
theorem zk_ml_4_11 : Cond.methodLink RX4 11 yX6_init ∈ zTb := zt2_mem rfl (List.mem_of_getElem? (i := 153) rfl)
theorem zk_fl_4_14 : Cond.fieldLink RX4 14 "RegrowDesk$Pairs" "first" "LRegrowDesk$Row;" ∈ zTb := zt2_mem rfl (List.mem_of_getElem? (i := 154) rfl)
theorem zk_fl_11_319 : Cond.fieldLink RX11 319 "RegrowDesk$Pairs" "first" "LRegrowDesk$Row;" ∈ zTb := zt2_mem rfl (List.mem_of_getElem? (i := 155) rfl)
theorem zk_fl_4_20 : Cond.fieldLink RX4 20 "RegrowDesk$Pairs" "other" "LRegrowDesk$Row;" ∈ zTb := zt2_mem rfl (List.mem_of_getElem? (i := 156) rfl)
theorem zk_fl_11_322 : Cond.fieldLink RX11 322 "RegrowDesk$Pairs" "other" "LRegrowDesk$Row;" ∈ zTb := zt2_mem rfl (List.mem_of_getElem? (i := 157) rfl)
theorem zk_fl_4_23 : Cond.fieldLink RX4 23 "RegrowDesk$Pairs" "chain" "LRegrowDesk$Row;" ∈ zTb := zt2_mem rfl (List.mem_of_getElem? (i := 158) rfl)
theorem zk_fl_4_26 : Cond.fieldLink RX4 26 "RegrowDesk$Pairs" "chainOf" "LRegrowDesk$Row;" ∈ zTb := zt2_mem rfl (List.mem_of_getElem? (i := 159) rfl)
theorem zk_fl_4_41 : Cond.fieldLink RX4 41 "RegrowDesk$Pairs" "many" "I" ∈ zTb := zt2_mem rfl (List.mem_of_getElem? (i := 160) rfl)
theorem zk_fl_11_318 : Cond.fieldLink RX11 318 "RegrowDesk$Pairs" "many" "I" ∈ zTb := zt2_mem rfl (List.mem_of_getElem? (i := 161) rfl)
theorem zk_cl_11_71 : Cond.classLink RX11 71 RX5 ∈ zTb := zt2_mem rfl (List.mem_of_getElem? (i := 173) rfl)
theorem zk_ia_5 : Cond.instantiable RX5 4 ∈ zTb := zt2_mem rfl (List.mem_of_getElem? (i := 174) rfl)
theorem zk_ml_11_73 : Cond.methodLink RX11 73 yX5_init ∈ zTb := zt2_mem rfl (List.mem_of_getElem? (i := 175) rfl)
theorem zk_im_yX5_init : Cond.instanceMethod yX5_init ∈ zTb := zt2_mem rfl (List.mem_of_getElem? (i := 176) rfl)
theorem zk_cd_yX5_init : Cond.code yX5_init cX5_init 2 none ∈ zTb := zt2_mem rfl (List.mem_of_getElem? (i := 177) rfl)
theorem zk_ml_5_3 : Cond.methodLink RX5 3 objectInit ∈ zTb := zt2_mem rfl (List.mem_of_getElem? (i := 178) rfl)
theorem zk_cl_5_9 : Cond.classLink RX5 9 RX6 ∈ zTb := zt2_mem rfl (List.mem_of_getElem? (i := 179) rfl)
theorem zk_ml_5_11 : Cond.methodLink RX5 11 yX6_init ∈ zTb := zt2_mem rfl (List.mem_of_getElem? (i := 180) rfl)
theorem zk_fl_5_20 : Cond.fieldLink RX5 20 "RegrowDesk$Printer" "nodes" "LRegrowDesk$Nodes;" ∈ zTb := zt2_mem rfl (List.mem_of_getElem? (i := 181) rfl)
theorem zk_fl_5_14 : Cond.fieldLink RX5 14 "RegrowDesk$Printer" "waiting" "LRegrowDesk$Row;" ∈ zTb := zt2_mem rfl (List.mem_of_getElem? (i := 182) rfl)
theorem zk_fl_5_28 : Cond.fieldLink RX5 28 "RegrowDesk$Printer" "waitingMany" "I" ∈ zTb := zt2_mem rfl (List.mem_of_getElem? (i := 183) rfl)
theorem zk_fl_5_24 : Cond.fieldLink RX5 24 "RegrowDesk$Printer" "size" "I" ∈ zTb := zt2_mem rfl (List.mem_of_getElem? (i := 184) rfl)
theorem zk_cl_11_78 : Cond.classLink RX11 78 RX0 ∈ zTb := zt2_mem rfl (List.mem_of_getElem? (i := 194) rfl)
theorem zk_ia_0 : Cond.instantiable RX0 5 ∈ zTb := zt2_mem rfl (List.mem_of_getElem? (i := 195) rfl)
theorem zk_im_yX0_init : Cond.instanceMethod yX0_init ∈ zTb := zt2_mem rfl (List.mem_of_getElem? (i := 197) rfl)
theorem zk_cd_yX0_init : Cond.code yX0_init cX0_init 1 none ∈ zTb := zt2_mem rfl (List.mem_of_getElem? (i := 198) rfl)
theorem zk_ml_0_3 : Cond.methodLink RX0 3 objectInit ∈ zTb := zt2_mem rfl (List.mem_of_getElem? (i := 199) rfl)
theorem zk_cl_0_9 : Cond.classLink RX0 9 RX10 ∈ zTb := zt2_mem rfl (List.mem_of_getElem? (i := 200) rfl)
theorem zk_ia_10 : Cond.instantiable RX10 2 ∈ zTb := zt2_mem rfl (List.mem_of_getElem? (i := 201) rfl)
theorem zk_im_yX10_init : Cond.instanceMethod yX10_init ∈ zTb := zt2_mem rfl (List.mem_of_getElem? (i := 203) rfl)
theorem zk_cd_yX10_init : Cond.code yX10_init cX10_init 1 none ∈ zTb := zt2_mem rfl (List.mem_of_getElem? (i := 204) rfl)
theorem zk_ml_10_3 : Cond.methodLink RX10 3 objectInit ∈ zTb := zt2_mem rfl (List.mem_of_getElem? (i := 205) rfl)
theorem zk_cl_10_9 : Cond.classLink RX10 9 RX6 ∈ zTb := zt2_mem rfl (List.mem_of_getElem? (i := 206) rfl)
theorem zk_ml_10_11 : Cond.methodLink RX10 11 yX6_init ∈ zTb := zt2_mem rfl (List.mem_of_getElem? (i := 207) rfl)
theorem zk_fl_10_14 : Cond.fieldLink RX10 14 "RegrowDesk$Trial" "states" "LRegrowDesk$Row;" ∈ zTb := zt2_mem rfl (List.mem_of_getElem? (i := 208) rfl)
theorem zk_fl_10_20 : Cond.fieldLink RX10 20 "RegrowDesk$Trial" "top" "I" ∈ zTb := zt2_mem rfl (List.mem_of_getElem? (i := 209) rfl)
theorem zk_cl_0_21 : Cond.classLink RX0 21 RX6 ∈ zTb := zt2_mem rfl (List.mem_of_getElem? (i := 215) rfl)
theorem zk_ml_0_23 : Cond.methodLink RX0 23 yX6_init ∈ zTb := zt2_mem rfl (List.mem_of_getElem? (i := 216) rfl)
theorem zk_fl_0_12 : Cond.fieldLink RX0 12 "RegrowDesk$Adviser" "ahead" "LRegrowDesk$Trial;" ∈ zTb := zt2_mem rfl (List.mem_of_getElem? (i := 217) rfl)
theorem zk_fl_0_18 : Cond.fieldLink RX0 18 "RegrowDesk$Adviser" "trial" "LRegrowDesk$Trial;" ∈ zTb := zt2_mem rfl (List.mem_of_getElem? (i := 218) rfl)
theorem zk_fl_0_26 : Cond.fieldLink RX0 26 "RegrowDesk$Adviser" "balance" "LRegrowDesk$Row;" ∈ zTb := zt2_mem rfl (List.mem_of_getElem? (i := 219) rfl)
theorem zk_fl_0_84 : Cond.fieldLink RX0 84 "RegrowDesk$Adviser" "foundAt" "I" ∈ zTb := zt2_mem rfl (List.mem_of_getElem? (i := 220) rfl)
theorem zk_fl_11_220 : Cond.fieldLink RX11 220 "RegrowDesk$Adviser" "foundAt" "I" ∈ zTb := zt2_mem rfl (List.mem_of_getElem? (i := 221) rfl)
theorem zk_fl_0_87 : Cond.fieldLink RX0 87 "RegrowDesk$Adviser" "foundWhat" "I" ∈ zTb := zt2_mem rfl (List.mem_of_getElem? (i := 222) rfl)
theorem zk_fl_11_223 : Cond.fieldLink RX11 223 "RegrowDesk$Adviser" "foundWhat" "I" ∈ zTb := zt2_mem rfl (List.mem_of_getElem? (i := 223) rfl)
theorem zk_ml_11_91 : Cond.methodLink RX11 91 yX3_makeToken ∈ zTb := zt2_mem rfl (List.mem_of_getElem? (i := 235) rfl)
theorem zk_im_yX3_makeToken : Cond.instanceMethod yX3_makeToken ∈ zTb := zt2_mem rfl (List.mem_of_getElem? (i := 236) rfl)
theorem zk_se_yX3_makeToken : Cond.selects RX3 yX3_makeToken yX3_makeToken ∈ zTb := zt2_mem rfl (List.mem_of_getElem? (i := 237) rfl)
theorem zk_cd_yX3_makeToken : Cond.code yX3_makeToken cX3_makeToken 7 (some .int) ∈ zTb := zt2_mem rfl (List.mem_of_getElem? (i := 238) rfl)
theorem zk_ml_3_48 : Cond.methodLink RX3 48 yX3_make ∈ zTb := zt2_mem rfl (List.mem_of_getElem? (i := 239) rfl)
theorem zk_im_yX3_make : Cond.instanceMethod yX3_make ∈ zTb := zt3_mem rfl (List.mem_of_getElem? (i := 1) rfl)
theorem zk_cd_yX3_make : Cond.code yX3_make cX3_make 6 (some .int) ∈ zTb := zt3_mem rfl (List.mem_of_getElem? (i := 2) rfl)
theorem zk_ml_3_52 : Cond.methodLink RX3 52 yX6_set ∈ zTb := zt3_mem rfl (List.mem_of_getElem? (i := 3) rfl)
theorem zk_im_yX6_set : Cond.instanceMethod yX6_set ∈ zTb := zt3_mem rfl (List.mem_of_getElem? (i := 4) rfl)
theorem zk_se_yX6_set : Cond.selects RX6 yX6_set yX6_set ∈ zTb := zt3_mem rfl (List.mem_of_getElem? (i := 5) rfl)
theorem zk_cd_yX6_set : Cond.code yX6_set cX6_set 3 none ∈ zTb := zt3_mem rfl (List.mem_of_getElem? (i := 6) rfl)
theorem zk_ml_11_95 : Cond.methodLink RX11 95 yX3_makeRuled ∈ zTb := zt3_mem rfl (List.mem_of_getElem? (i := 7) rfl)
theorem zk_im_yX3_makeRuled : Cond.instanceMethod yX3_makeRuled ∈ zTb := zt3_mem rfl (List.mem_of_getElem? (i := 8) rfl)
theorem zk_se_yX3_makeRuled : Cond.selects RX3 yX3_makeRuled yX3_makeRuled ∈ zTb := zt3_mem rfl (List.mem_of_getElem? (i := 9) rfl)
theorem zk_cd_yX3_makeRuled : Cond.code yX3_makeRuled cX3_makeRuled 5 (some .int) ∈ zTb := zt3_mem rfl (List.mem_of_getElem? (i := 10) rfl)
theorem zk_st_yX11_symbolOf : Cond.static yX11_symbolOf ∈ zTb := zt3_mem rfl (List.mem_of_getElem? (i := 12) rfl)
theorem zk_cd_yX11_symbolOf : Cond.code yX11_symbolOf cX11_symbolOf 1 (some .int) ∈ zTb := zt3_mem rfl (List.mem_of_getElem? (i := 13) rfl)
theorem zk_fl_11_453 : Cond.fieldLink RX11 453 "RegrowDesk" "RULE_SYMBOL" "[I" ∈ zTb := zt3_mem rfl (List.mem_of_getElem? (i := 14) rfl)
theorem zk_ml_11_106 : Cond.methodLink RX11 106 yX8_readAll ∈ zTb := zt3_mem rfl (List.mem_of_getElem? (i := 16) rfl)
theorem zk_im_yX8_readAll : Cond.instanceMethod yX8_readAll ∈ zTb := zt3_mem rfl (List.mem_of_getElem? (i := 17) rfl)
theorem zk_se_yX8_readAll : Cond.selects RX8 yX8_readAll yX8_readAll ∈ zTb := zt3_mem rfl (List.mem_of_getElem? (i := 18) rfl)
theorem zk_cd_yX8_readAll : Cond.code yX8_readAll cX8_readAll 5 (some .boolean) ∈ zTb := zt3_mem rfl (List.mem_of_getElem? (i := 19) rfl)
theorem zk_ml_8_36 : Cond.methodLink RX8 36 yX6_get ∈ zTb := zt3_mem rfl (List.mem_of_getElem? (i := 20) rfl)
theorem zk_im_yX6_get : Cond.instanceMethod yX6_get ∈ zTb := zt3_mem rfl (List.mem_of_getElem? (i := 21) rfl)
theorem zk_se_yX6_get : Cond.selects RX6 yX6_get yX6_get ∈ zTb := zt3_mem rfl (List.mem_of_getElem? (i := 22) rfl)
theorem zk_cd_yX6_get : Cond.code yX6_get cX6_get 2 (some .int) ∈ zTb := zt3_mem rfl (List.mem_of_getElem? (i := 23) rfl)
theorem zk_ml_8_40 : Cond.methodLink RX8 40 yX8_isBlank ∈ zTb := zt3_mem rfl (List.mem_of_getElem? (i := 24) rfl)
theorem zk_st_yX8_isBlank : Cond.static yX8_isBlank ∈ zTb := zt3_mem rfl (List.mem_of_getElem? (i := 25) rfl)
theorem zk_cd_yX8_isBlank : Cond.code yX8_isBlank cX8_isBlank 1 (some .boolean) ∈ zTb := zt3_mem rfl (List.mem_of_getElem? (i := 26) rfl)
theorem zk_ml_8_44 : Cond.methodLink RX8 44 yX8_readOne ∈ zTb := zt3_mem rfl (List.mem_of_getElem? (i := 27) rfl)
theorem zk_im_yX8_readOne : Cond.instanceMethod yX8_readOne ∈ zTb := zt3_mem rfl (List.mem_of_getElem? (i := 29) rfl)
theorem zk_cd_yX8_readOne : Cond.code yX8_readOne cX8_readOne 9 (some .int) ∈ zTb := zt3_mem rfl (List.mem_of_getElem? (i := 30) rfl)
theorem zk_ml_8_58 : Cond.methodLink RX8 58 yX8_signOf ∈ zTb := zt3_mem rfl (List.mem_of_getElem? (i := 31) rfl)
theorem zk_st_yX8_signOf : Cond.static yX8_signOf ∈ zTb := zt3_mem rfl (List.mem_of_getElem? (i := 32) rfl)
theorem zk_cd_yX8_signOf : Cond.code yX8_signOf cX8_signOf 1 (some .int) ∈ zTb := zt3_mem rfl (List.mem_of_getElem? (i := 33) rfl)
theorem zk_ml_8_61 : Cond.methodLink RX8 61 yX8_isLetter ∈ zTb := zt3_mem rfl (List.mem_of_getElem? (i := 34) rfl)
theorem zk_st_yX8_isLetter : Cond.static yX8_isLetter ∈ zTb := zt3_mem rfl (List.mem_of_getElem? (i := 35) rfl)
theorem zk_cd_yX8_isLetter : Cond.code yX8_isLetter cX8_isLetter 1 (some .boolean) ∈ zTb := zt3_mem rfl (List.mem_of_getElem? (i := 36) rfl)
theorem zk_ml_8_64 : Cond.methodLink RX8 64 yX8_isDigit ∈ zTb := zt3_mem rfl (List.mem_of_getElem? (i := 37) rfl)
theorem zk_st_yX8_isDigit : Cond.static yX8_isDigit ∈ zTb := zt3_mem rfl (List.mem_of_getElem? (i := 38) rfl)
theorem zk_cd_yX8_isDigit : Cond.code yX8_isDigit cX8_isDigit 1 (some .boolean) ∈ zTb := zt3_mem rfl (List.mem_of_getElem? (i := 39) rfl)
theorem zk_ml_8_67 : Cond.methodLink RX8 67 yX8_runFrom ∈ zTb := zt3_mem rfl (List.mem_of_getElem? (i := 40) rfl)
theorem zk_st_yX8_runFrom : Cond.static yX8_runFrom ∈ zTb := zt3_mem rfl (List.mem_of_getElem? (i := 41) rfl)
theorem zk_cd_yX8_runFrom : Cond.code yX8_runFrom cX8_runFrom 6 (some .int) ∈ zTb := zt3_mem rfl (List.mem_of_getElem? (i := 42) rfl)
theorem zk_ml_8_54 : Cond.methodLink RX8 54 yX8_append ∈ zTb := zt3_mem rfl (List.mem_of_getElem? (i := 43) rfl)
theorem zk_im_yX8_append : Cond.instanceMethod yX8_append ∈ zTb := zt3_mem rfl (List.mem_of_getElem? (i := 45) rfl)
theorem zk_cd_yX8_append : Cond.code yX8_append cX8_append 5 none ∈ zTb := zt3_mem rfl (List.mem_of_getElem? (i := 46) rfl)
theorem zk_ml_8_71 : Cond.methodLink RX8 71 yX6_set ∈ zTb := zt3_mem rfl (List.mem_of_getElem? (i := 47) rfl)
theorem zk_ml_8_75 : Cond.methodLink RX8 75 Lib.Math.min.name ∈ zTb := zt3_mem rfl (List.mem_of_getElem? (i := 48) rfl)
theorem zk_st_J_min : Cond.static Lib.Math.min.name ∈ zTb := zt3_mem rfl (List.mem_of_getElem? (i := 49) rfl)
theorem zk_cd_J_min : Cond.code Lib.Math.min.name Lib.Math.min.code 2 (some .int) ∈ zTb := zt3_mem rfl (List.mem_of_getElem? (i := 50) rfl)
theorem zk_ml_8_78 : Cond.methodLink RX8 78 yX8_pack ∈ zTb := zt3_mem rfl (List.mem_of_getElem? (i := 51) rfl)
theorem zk_st_yX8_pack : Cond.static yX8_pack ∈ zTb := zt3_mem rfl (List.mem_of_getElem? (i := 52) rfl)
theorem zk_cd_yX8_pack : Cond.code yX8_pack cX8_pack 5 (some .int) ∈ zTb := zt3_mem rfl (List.mem_of_getElem? (i := 53) rfl)
theorem zk_ml_8_48 : Cond.methodLink RX8 48 Lib.Math.max.name ∈ zTb := zt3_mem rfl (List.mem_of_getElem? (i := 54) rfl)
theorem zk_st_J_max : Cond.static Lib.Math.max.name ∈ zTb := zt3_mem rfl (List.mem_of_getElem? (i := 55) rfl)
theorem zk_cd_J_max : Cond.code Lib.Math.max.name Lib.Math.max.code 2 (some .int) ∈ zTb := zt3_mem rfl (List.mem_of_getElem? (i := 56) rfl)
theorem zk_ml_11_112 : Cond.methodLink RX11 112 yX2_beGood ∈ zTb := zt3_mem rfl (List.mem_of_getElem? (i := 57) rfl)
theorem zk_im_yX2_beGood : Cond.instanceMethod yX2_beGood ∈ zTb := zt3_mem rfl (List.mem_of_getElem? (i := 58) rfl)
theorem zk_se_yX2_beGood : Cond.selects RX2 yX2_beGood yX2_beGood ∈ zTb := zt3_mem rfl (List.mem_of_getElem? (i := 59) rfl)
theorem zk_cd_yX2_beGood : Cond.code yX2_beGood cX2_beGood 2 none ∈ zTb := zt3_mem rfl (List.mem_of_getElem? (i := 60) rfl)
theorem zk_ml_2_61 : Cond.methodLink RX2 61 yX6_copyFrom ∈ zTb := zt3_mem rfl (List.mem_of_getElem? (i := 61) rfl)
theorem zk_im_yX6_copyFrom : Cond.instanceMethod yX6_copyFrom ∈ zTb := zt3_mem rfl (List.mem_of_getElem? (i := 62) rfl)
theorem zk_se_yX6_copyFrom : Cond.selects RX6 yX6_copyFrom yX6_copyFrom ∈ zTb := zt3_mem rfl (List.mem_of_getElem? (i := 63) rfl)
theorem zk_cd_yX6_copyFrom : Cond.code yX6_copyFrom cX6_copyFrom 4 none ∈ zTb := zt3_mem rfl (List.mem_of_getElem? (i := 64) rfl)
theorem zk_ml_6_21 : Cond.methodLink RX6 21 Lib.Math.min.name ∈ zTb := zt3_mem rfl (List.mem_of_getElem? (i := 65) rfl)
theorem zk_ml_6_27 : Cond.methodLink RX6 27 arraycopyName ∈ zTb := zt3_mem rfl (List.mem_of_getElem? (i := 66) rfl)
theorem zk_st_J_arraycopy : Cond.static arraycopyName ∈ zTb := zt3_mem rfl (List.mem_of_getElem? (i := 67) rfl)
theorem zk_nat : Cond.native arraycopyName ∈ zTb := zt3_mem rfl (List.mem_of_getElem? (i := 68) rfl)
theorem zk_ml_11_118 : Cond.methodLink RX11 118 yX6_set ∈ zTb := zt3_mem rfl (List.mem_of_getElem? (i := 69) rfl)
theorem zk_ml_11_126 : Cond.methodLink RX11 126 yX11_now ∈ zTb := zt3_mem rfl (List.mem_of_getElem? (i := 70) rfl)
theorem zk_im_yX11_now : Cond.instanceMethod yX11_now ∈ zTb := zt3_mem rfl (List.mem_of_getElem? (i := 72) rfl)
theorem zk_cd_yX11_now : Cond.code yX11_now cX11_now 2 (some (.object "RegrowDesk$Moment")) ∈ zTb := zt3_mem rfl (List.mem_of_getElem? (i := 73) rfl)
theorem zk_ml_11_130 : Cond.methodLink RX11 130 yX2_copyFrom ∈ zTb := zt3_mem rfl (List.mem_of_getElem? (i := 74) rfl)
theorem zk_im_yX2_copyFrom : Cond.instanceMethod yX2_copyFrom ∈ zTb := zt3_mem rfl (List.mem_of_getElem? (i := 75) rfl)
theorem zk_se_yX2_copyFrom : Cond.selects RX2 yX2_copyFrom yX2_copyFrom ∈ zTb := zt3_mem rfl (List.mem_of_getElem? (i := 76) rfl)
theorem zk_cd_yX2_copyFrom : Cond.code yX2_copyFrom cX2_copyFrom 2 none ∈ zTb := zt3_mem rfl (List.mem_of_getElem? (i := 77) rfl)
theorem zk_ml_2_68 : Cond.methodLink RX2 68 yX8_copyFrom ∈ zTb := zt3_mem rfl (List.mem_of_getElem? (i := 78) rfl)
theorem zk_im_yX8_copyFrom : Cond.instanceMethod yX8_copyFrom ∈ zTb := zt3_mem rfl (List.mem_of_getElem? (i := 79) rfl)
theorem zk_se_yX8_copyFrom : Cond.selects RX8 yX8_copyFrom yX8_copyFrom ∈ zTb := zt3_mem rfl (List.mem_of_getElem? (i := 80) rfl)
theorem zk_cd_yX8_copyFrom : Cond.code yX8_copyFrom cX8_copyFrom 2 none ∈ zTb := zt3_mem rfl (List.mem_of_getElem? (i := 81) rfl)
theorem zk_ml_8_81 : Cond.methodLink RX8 81 yX6_copyFrom ∈ zTb := zt3_mem rfl (List.mem_of_getElem? (i := 82) rfl)
theorem zk_ml_2_71 : Cond.methodLink RX2 71 yX2_keepGood ∈ zTb := zt3_mem rfl (List.mem_of_getElem? (i := 83) rfl)
theorem zk_im_yX2_keepGood : Cond.instanceMethod yX2_keepGood ∈ zTb := zt3_mem rfl (List.mem_of_getElem? (i := 84) rfl)
theorem zk_se_yX2_keepGood : Cond.selects RX2 yX2_keepGood yX2_keepGood ∈ zTb := zt3_mem rfl (List.mem_of_getElem? (i := 85) rfl)
theorem zk_cd_yX2_keepGood : Cond.code yX2_keepGood cX2_keepGood 2 none ∈ zTb := zt3_mem rfl (List.mem_of_getElem? (i := 86) rfl)
theorem zk_ml_11_134 : Cond.methodLink RX11 134 yX11_lookAt ∈ zTb := zt3_mem rfl (List.mem_of_getElem? (i := 87) rfl)
theorem zk_im_yX11_lookAt : Cond.instanceMethod yX11_lookAt ∈ zTb := zt3_mem rfl (List.mem_of_getElem? (i := 89) rfl)
theorem zk_cd_yX11_lookAt : Cond.code yX11_lookAt cX11_lookAt 3 none ∈ zTb := zt3_mem rfl (List.mem_of_getElem? (i := 90) rfl)
theorem zk_ml_11_430 : Cond.methodLink RX11 430 yX9_lookAt ∈ zTb := zt3_mem rfl (List.mem_of_getElem? (i := 91) rfl)
theorem zk_im_yX9_lookAt : Cond.instanceMethod yX9_lookAt ∈ zTb := zt3_mem rfl (List.mem_of_getElem? (i := 92) rfl)
theorem zk_se_yX9_lookAt : Cond.selects RX9 yX9_lookAt yX9_lookAt ∈ zTb := zt3_mem rfl (List.mem_of_getElem? (i := 93) rfl)
theorem zk_cd_yX9_lookAt : Cond.code yX9_lookAt cX9_lookAt 2 none ∈ zTb := zt3_mem rfl (List.mem_of_getElem? (i := 94) rfl)
theorem zk_ml_9_58 : Cond.methodLink RX9 58 yX9_layFlat ∈ zTb := zt3_mem rfl (List.mem_of_getElem? (i := 95) rfl)
theorem zk_im_yX9_layFlat : Cond.instanceMethod yX9_layFlat ∈ zTb := zt3_mem rfl (List.mem_of_getElem? (i := 97) rfl)
theorem zk_cd_yX9_layFlat : Cond.code yX9_layFlat cX9_layFlat 6 none ∈ zTb := zt3_mem rfl (List.mem_of_getElem? (i := 98) rfl)
theorem zk_ml_9_70 : Cond.methodLink RX9 70 yX6_set ∈ zTb := zt3_mem rfl (List.mem_of_getElem? (i := 99) rfl)
theorem zk_ml_9_74 : Cond.methodLink RX9 74 yX6_get ∈ zTb := zt3_mem rfl (List.mem_of_getElem? (i := 100) rfl)
theorem zk_ml_9_78 : Cond.methodLink RX9 78 yX9_layNode ∈ zTb := zt3_mem rfl (List.mem_of_getElem? (i := 101) rfl)
theorem zk_im_yX9_layNode : Cond.instanceMethod yX9_layNode ∈ zTb := zt3_mem rfl (List.mem_of_getElem? (i := 103) rfl)
theorem zk_cd_yX9_layNode : Cond.code yX9_layNode cX9_layNode 4 none ∈ zTb := zt3_mem rfl (List.mem_of_getElem? (i := 104) rfl)
theorem zk_ml_9_82 : Cond.methodLink RX9 82 yX3_isToken ∈ zTb := zt3_mem rfl (List.mem_of_getElem? (i := 105) rfl)
theorem zk_im_yX3_isToken : Cond.instanceMethod yX3_isToken ∈ zTb := zt3_mem rfl (List.mem_of_getElem? (i := 106) rfl)
theorem zk_se_yX3_isToken : Cond.selects RX3 yX3_isToken yX3_isToken ∈ zTb := zt3_mem rfl (List.mem_of_getElem? (i := 107) rfl)
theorem zk_cd_yX3_isToken : Cond.code yX3_isToken cX3_isToken 2 (some .boolean) ∈ zTb := zt3_mem rfl (List.mem_of_getElem? (i := 108) rfl)
theorem zk_ml_3_60 : Cond.methodLink RX3 60 yX6_get ∈ zTb := zt3_mem rfl (List.mem_of_getElem? (i := 109) rfl)
theorem zk_ml_9_88 : Cond.methodLink RX9 88 yX3_childrenOf ∈ zTb := zt3_mem rfl (List.mem_of_getElem? (i := 110) rfl)
theorem zk_im_yX3_childrenOf : Cond.instanceMethod yX3_childrenOf ∈ zTb := zt3_mem rfl (List.mem_of_getElem? (i := 111) rfl)
theorem zk_se_yX3_childrenOf : Cond.selects RX3 yX3_childrenOf yX3_childrenOf ∈ zTb := zt3_mem rfl (List.mem_of_getElem? (i := 112) rfl)
theorem zk_cd_yX3_childrenOf : Cond.code yX3_childrenOf cX3_childrenOf 2 (some .int) ∈ zTb := zt3_mem rfl (List.mem_of_getElem? (i := 113) rfl)
theorem zk_st_yX11_lengthOf : Cond.static yX11_lengthOf ∈ zTb := zt3_mem rfl (List.mem_of_getElem? (i := 115) rfl)
theorem zk_cd_yX11_lengthOf : Cond.code yX11_lengthOf cX11_lengthOf 1 (some .int) ∈ zTb := zt3_mem rfl (List.mem_of_getElem? (i := 116) rfl)
theorem zk_fl_11_456 : Cond.fieldLink RX11 456 "RegrowDesk" "RULE_LENGTH" "[I" ∈ zTb := zt3_mem rfl (List.mem_of_getElem? (i := 117) rfl)
theorem zk_ml_9_91 : Cond.methodLink RX9 91 yX3_childOf ∈ zTb := zt3_mem rfl (List.mem_of_getElem? (i := 119) rfl)
theorem zk_im_yX3_childOf : Cond.instanceMethod yX3_childOf ∈ zTb := zt3_mem rfl (List.mem_of_getElem? (i := 120) rfl)
theorem zk_se_yX3_childOf : Cond.selects RX3 yX3_childOf yX3_childOf ∈ zTb := zt3_mem rfl (List.mem_of_getElem? (i := 121) rfl)
theorem zk_cd_yX3_childOf : Cond.code yX3_childOf cX3_childOf 3 (some .int) ∈ zTb := zt3_mem rfl (List.mem_of_getElem? (i := 122) rfl)
theorem zk_ml_9_61 : Cond.methodLink RX9 61 yX9_sumUp ∈ zTb := zt3_mem rfl (List.mem_of_getElem? (i := 123) rfl)
theorem zk_im_yX9_sumUp : Cond.instanceMethod yX9_sumUp ∈ zTb := zt3_mem rfl (List.mem_of_getElem? (i := 125) rfl)
theorem zk_cd_yX9_sumUp : Cond.code yX9_sumUp cX9_sumUp 3 none ∈ zTb := zt3_mem rfl (List.mem_of_getElem? (i := 126) rfl)
theorem zk_ml_9_98 : Cond.methodLink RX9 98 yX6_fill ∈ zTb := zt3_mem rfl (List.mem_of_getElem? (i := 127) rfl)
theorem zk_im_yX6_fill : Cond.instanceMethod yX6_fill ∈ zTb := zt3_mem rfl (List.mem_of_getElem? (i := 128) rfl)
theorem zk_se_yX6_fill : Cond.selects RX6 yX6_fill yX6_fill ∈ zTb := zt3_mem rfl (List.mem_of_getElem? (i := 129) rfl)
theorem zk_cd_yX6_fill : Cond.code yX6_fill cX6_fill 3 none ∈ zTb := zt3_mem rfl (List.mem_of_getElem? (i := 130) rfl)
theorem zk_ml_9_107 : Cond.methodLink RX9 107 yX6_add ∈ zTb := zt3_mem rfl (List.mem_of_getElem? (i := 131) rfl)
theorem zk_im_yX6_add : Cond.instanceMethod yX6_add ∈ zTb := zt3_mem rfl (List.mem_of_getElem? (i := 132) rfl)
theorem zk_se_yX6_add : Cond.selects RX6 yX6_add yX6_add ∈ zTb := zt3_mem rfl (List.mem_of_getElem? (i := 133) rfl)
theorem zk_cd_yX6_add : Cond.code yX6_add cX6_add 3 none ∈ zTb := zt3_mem rfl (List.mem_of_getElem? (i := 134) rfl)
theorem zk_ml_6_13 : Cond.methodLink RX6 13 yX6_get ∈ zTb := zt3_mem rfl (List.mem_of_getElem? (i := 135) rfl)
theorem zk_ml_6_17 : Cond.methodLink RX6 17 yX6_set ∈ zTb := zt3_mem rfl (List.mem_of_getElem? (i := 136) rfl)
theorem zk_ml_9_113 : Cond.methodLink RX9 113 Lib.Math.max.name ∈ zTb := zt3_mem rfl (List.mem_of_getElem? (i := 137) rfl)
theorem zk_ml_9_118 : Cond.methodLink RX9 118 Lib.Math.min.name ∈ zTb := zt3_mem rfl (List.mem_of_getElem? (i := 138) rfl)
theorem zk_ml_9_64 : Cond.methodLink RX9 64 yX9_findRuns ∈ zTb := zt3_mem rfl (List.mem_of_getElem? (i := 139) rfl)
theorem zk_im_yX9_findRuns : Cond.instanceMethod yX9_findRuns ∈ zTb := zt3_mem rfl (List.mem_of_getElem? (i := 141) rfl)
theorem zk_cd_yX9_findRuns : Cond.code yX9_findRuns cX9_findRuns 4 none ∈ zTb := zt3_mem rfl (List.mem_of_getElem? (i := 142) rfl)
theorem zk_ml_11_432 : Cond.methodLink RX11 432 yX7_runAll ∈ zTb := zt3_mem rfl (List.mem_of_getElem? (i := 143) rfl)
theorem zk_im_yX7_runAll : Cond.instanceMethod yX7_runAll ∈ zTb := zt3_mem rfl (List.mem_of_getElem? (i := 144) rfl)
theorem zk_se_yX7_runAll : Cond.selects RX7 yX7_runAll yX7_runAll ∈ zTb := zt3_mem rfl (List.mem_of_getElem? (i := 145) rfl)
theorem zk_cd_yX7_runAll : Cond.code yX7_runAll cX7_runAll 4 none ∈ zTb := zt3_mem rfl (List.mem_of_getElem? (i := 146) rfl)
theorem zk_ml_7_56 : Cond.methodLink RX7 56 yX7_clear ∈ zTb := zt3_mem rfl (List.mem_of_getElem? (i := 147) rfl)
theorem zk_im_yX7_clear : Cond.instanceMethod yX7_clear ∈ zTb := zt3_mem rfl (List.mem_of_getElem? (i := 149) rfl)
theorem zk_cd_yX7_clear : Cond.code yX7_clear cX7_clear 1 none ∈ zTb := zt3_mem rfl (List.mem_of_getElem? (i := 150) rfl)
theorem zk_ml_7_87 : Cond.methodLink RX7 87 yX6_fill ∈ zTb := zt3_mem rfl (List.mem_of_getElem? (i := 151) rfl)
theorem zk_ml_7_59 : Cond.methodLink RX7 59 yX7_findNames ∈ zTb := zt3_mem rfl (List.mem_of_getElem? (i := 152) rfl)
theorem zk_im_yX7_findNames : Cond.instanceMethod yX7_findNames ∈ zTb := zt3_mem rfl (List.mem_of_getElem? (i := 154) rfl)
theorem zk_cd_yX7_findNames : Cond.code yX7_findNames cX7_findNames 5 none ∈ zTb := zt3_mem rfl (List.mem_of_getElem? (i := 155) rfl)
theorem zk_ml_7_52 : Cond.methodLink RX7 52 yX6_get ∈ zTb := zt3_mem rfl (List.mem_of_getElem? (i := 156) rfl)
theorem zk_ml_7_107 : Cond.methodLink RX7 107 yX3_sameBytes ∈ zTb := zt3_mem rfl (List.mem_of_getElem? (i := 157) rfl)
theorem zk_im_yX3_sameBytes : Cond.instanceMethod yX3_sameBytes ∈ zTb := zt3_mem rfl (List.mem_of_getElem? (i := 158) rfl)
theorem zk_se_yX3_sameBytes : Cond.selects RX3 yX3_sameBytes yX3_sameBytes ∈ zTb := zt3_mem rfl (List.mem_of_getElem? (i := 159) rfl)
theorem zk_cd_yX3_sameBytes : Cond.code yX3_sameBytes cX3_sameBytes 3 (some .boolean) ∈ zTb := zt3_mem rfl (List.mem_of_getElem? (i := 160) rfl)
theorem zk_ml_7_111 : Cond.methodLink RX7 111 yX6_set ∈ zTb := zt3_mem rfl (List.mem_of_getElem? (i := 161) rfl)
theorem zk_ml_7_77 : Cond.methodLink RX7 77 yX7_runStatement ∈ zTb := zt3_mem rfl (List.mem_of_getElem? (i := 162) rfl)
theorem zk_im_yX7_runStatement : Cond.instanceMethod yX7_runStatement ∈ zTb := zt3_mem rfl (List.mem_of_getElem? (i := 164) rfl)
theorem zk_cd_yX7_runStatement : Cond.code yX7_runStatement cX7_runStatement 7 none ∈ zTb := zt3_mem rfl (List.mem_of_getElem? (i := 165) rfl)
theorem zk_ml_7_117 : Cond.methodLink RX7 117 yX7_recordReads ∈ zTb := zt3_mem rfl (List.mem_of_getElem? (i := 166) rfl)
theorem zk_im_yX7_recordReads : Cond.instanceMethod yX7_recordReads ∈ zTb := zt3_mem rfl (List.mem_of_getElem? (i := 168) rfl)
theorem zk_cd_yX7_recordReads : Cond.code yX7_recordReads cX7_recordReads 9 (some .boolean) ∈ zTb := zt3_mem rfl (List.mem_of_getElem? (i := 169) rfl)
theorem zk_ml_7_137 : Cond.methodLink RX7 137 yX7_valueOf ∈ zTb := zt3_mem rfl (List.mem_of_getElem? (i := 170) rfl)
theorem zk_im_yX7_valueOf : Cond.instanceMethod yX7_valueOf ∈ zTb := zt3_mem rfl (List.mem_of_getElem? (i := 171) rfl)
theorem zk_se_yX7_valueOf : Cond.selects RX7 yX7_valueOf yX7_valueOf ∈ zTb := zt3_mem rfl (List.mem_of_getElem? (i := 172) rfl)
theorem zk_cd_yX7_valueOf : Cond.code yX7_valueOf cX7_valueOf 2 (some .int) ∈ zTb := zt3_mem rfl (List.mem_of_getElem? (i := 173) rfl)
theorem zk_ml_7_124 : Cond.methodLink RX7 124 yX7_noteReads ∈ zTb := zt3_mem rfl (List.mem_of_getElem? (i := 174) rfl)
theorem zk_im_yX7_noteReads : Cond.instanceMethod yX7_noteReads ∈ zTb := zt3_mem rfl (List.mem_of_getElem? (i := 176) rfl)
theorem zk_cd_yX7_noteReads : Cond.code yX7_noteReads cX7_noteReads 6 none ∈ zTb := zt3_mem rfl (List.mem_of_getElem? (i := 177) rfl)
theorem zk_ml_7_81 : Cond.methodLink RX7 81 yX7_evaluate ∈ zTb := zt3_mem rfl (List.mem_of_getElem? (i := 178) rfl)
theorem zk_im_yX7_evaluate : Cond.instanceMethod yX7_evaluate ∈ zTb := zt3_mem rfl (List.mem_of_getElem? (i := 180) rfl)
theorem zk_cd_yX7_evaluate : Cond.code yX7_evaluate cX7_evaluate 4 none ∈ zTb := zt3_mem rfl (List.mem_of_getElem? (i := 181) rfl)
theorem zk_ml_7_149 : Cond.methodLink RX7 149 yX7_worthAt ∈ zTb := zt3_mem rfl (List.mem_of_getElem? (i := 182) rfl)
theorem zk_im_yX7_worthAt : Cond.instanceMethod yX7_worthAt ∈ zTb := zt3_mem rfl (List.mem_of_getElem? (i := 184) rfl)
theorem zk_cd_yX7_worthAt : Cond.code yX7_worthAt cX7_worthAt 4 (some .int) ∈ zTb := zt3_mem rfl (List.mem_of_getElem? (i := 185) rfl)
theorem zk_ml_7_155 : Cond.methodLink RX7 155 yX7_numberOf ∈ zTb := zt3_mem rfl (List.mem_of_getElem? (i := 186) rfl)
theorem zk_st_yX7_numberOf : Cond.static yX7_numberOf ∈ zTb := zt3_mem rfl (List.mem_of_getElem? (i := 187) rfl)
theorem zk_cd_yX7_numberOf : Cond.code yX7_numberOf cX7_numberOf 4 (some .int) ∈ zTb := zt3_mem rfl (List.mem_of_getElem? (i := 188) rfl)
theorem zk_ml_7_130 : Cond.methodLink RX7 130 yX7_setName ∈ zTb := zt3_mem rfl (List.mem_of_getElem? (i := 189) rfl)
theorem zk_im_yX7_setName : Cond.instanceMethod yX7_setName ∈ zTb := zt3_mem rfl (List.mem_of_getElem? (i := 191) rfl)
theorem zk_cd_yX7_setName : Cond.code yX7_setName cX7_setName 5 none ∈ zTb := zt3_mem rfl (List.mem_of_getElem? (i := 192) rfl)
theorem zk_ml_7_140 : Cond.methodLink RX7 140 Lib.Math.min.name ∈ zTb := zt3_mem rfl (List.mem_of_getElem? (i := 193) rfl)
theorem zk_ml_7_146 : Cond.methodLink RX7 146 yX6_add ∈ zTb := zt3_mem rfl (List.mem_of_getElem? (i := 194) rfl)
theorem zk_ml_7_84 : Cond.methodLink RX7 84 yX7_sumUp ∈ zTb := zt3_mem rfl (List.mem_of_getElem? (i := 195) rfl)
theorem zk_im_yX7_sumUp : Cond.instanceMethod yX7_sumUp ∈ zTb := zt3_mem rfl (List.mem_of_getElem? (i := 197) rfl)
theorem zk_cd_yX7_sumUp : Cond.code yX7_sumUp cX7_sumUp 3 none ∈ zTb := zt3_mem rfl (List.mem_of_getElem? (i := 198) rfl)
theorem zk_ml_11_435 : Cond.methodLink RX11 435 yX5_write ∈ zTb := zt3_mem rfl (List.mem_of_getElem? (i := 199) rfl)
theorem zk_im_yX5_write : Cond.instanceMethod yX5_write ∈ zTb := zt3_mem rfl (List.mem_of_getElem? (i := 200) rfl)
theorem zk_se_yX5_write : Cond.selects RX5 yX5_write yX5_write ∈ zTb := zt3_mem rfl (List.mem_of_getElem? (i := 201) rfl)
theorem zk_cd_yX5_write : Cond.code yX5_write cX5_write 5 (some .int) ∈ zTb := zt3_mem rfl (List.mem_of_getElem? (i := 202) rfl)
theorem zk_ml_5_31 : Cond.methodLink RX5 31 yX5_putOff ∈ zTb := zt3_mem rfl (List.mem_of_getElem? (i := 203) rfl)
theorem zk_im_yX5_putOff : Cond.instanceMethod yX5_putOff ∈ zTb := zt3_mem rfl (List.mem_of_getElem? (i := 205) rfl)
theorem zk_cd_yX5_putOff : Cond.code yX5_putOff cX5_putOff 2 none ∈ zTb := zt3_mem rfl (List.mem_of_getElem? (i := 206) rfl)
theorem zk_ml_5_64 : Cond.methodLink RX5 64 yX6_set ∈ zTb := zt3_mem rfl (List.mem_of_getElem? (i := 207) rfl)
theorem zk_ml_5_34 : Cond.methodLink RX5 34 yX6_get ∈ zTb := zt3_mem rfl (List.mem_of_getElem? (i := 208) rfl)
theorem zk_ml_5_38 : Cond.methodLink RX5 38 yX5_writeByte ∈ zTb := zt3_mem rfl (List.mem_of_getElem? (i := 209) rfl)
theorem zk_im_yX5_writeByte : Cond.instanceMethod yX5_writeByte ∈ zTb := zt3_mem rfl (List.mem_of_getElem? (i := 211) rfl)
theorem zk_cd_yX5_writeByte : Cond.code yX5_writeByte cX5_writeByte 3 none ∈ zTb := zt3_mem rfl (List.mem_of_getElem? (i := 212) rfl)
theorem zk_ml_5_42 : Cond.methodLink RX5 42 yX3_isToken ∈ zTb := zt3_mem rfl (List.mem_of_getElem? (i := 213) rfl)
theorem zk_ml_5_48 : Cond.methodLink RX5 48 yX5_writeToken ∈ zTb := zt3_mem rfl (List.mem_of_getElem? (i := 214) rfl)
theorem zk_im_yX5_writeToken : Cond.instanceMethod yX5_writeToken ∈ zTb := zt3_mem rfl (List.mem_of_getElem? (i := 216) rfl)
theorem zk_cd_yX5_writeToken : Cond.code yX5_writeToken cX5_writeToken 4 none ∈ zTb := zt3_mem rfl (List.mem_of_getElem? (i := 217) rfl)
theorem zk_ml_5_71 : Cond.methodLink RX5 71 yX3_byteOf ∈ zTb := zt3_mem rfl (List.mem_of_getElem? (i := 218) rfl)
theorem zk_im_yX3_byteOf : Cond.instanceMethod yX3_byteOf ∈ zTb := zt3_mem rfl (List.mem_of_getElem? (i := 219) rfl)
theorem zk_se_yX3_byteOf : Cond.selects RX3 yX3_byteOf yX3_byteOf ∈ zTb := zt3_mem rfl (List.mem_of_getElem? (i := 220) rfl)
theorem zk_cd_yX3_byteOf : Cond.code yX3_byteOf cX3_byteOf 4 (some .int) ∈ zTb := zt3_mem rfl (List.mem_of_getElem? (i := 221) rfl)
theorem zk_ml_5_51 : Cond.methodLink RX5 51 yX5_openUp ∈ zTb := zt3_mem rfl (List.mem_of_getElem? (i := 222) rfl)
theorem zk_im_yX5_openUp : Cond.instanceMethod yX5_openUp ∈ zTb := zt3_mem rfl (List.mem_of_getElem? (i := 224) rfl)
theorem zk_cd_yX5_openUp : Cond.code yX5_openUp cX5_openUp 5 none ∈ zTb := zt3_mem rfl (List.mem_of_getElem? (i := 225) rfl)
theorem zk_ml_5_57 : Cond.methodLink RX5 57 yX3_childOf ∈ zTb := zt3_mem rfl (List.mem_of_getElem? (i := 226) rfl)
theorem zk_ml_5_61 : Cond.methodLink RX5 61 yX3_childrenOf ∈ zTb := zt3_mem rfl (List.mem_of_getElem? (i := 227) rfl)
theorem zk_fl_11_14 : Cond.fieldLink RX11 14 "RegrowDesk" "tape" "LRegrowDesk$Row;" ∈ zTb := zt3_mem rfl (List.mem_of_getElem? (i := 228) rfl)
theorem zk_fl_11_138 : Cond.fieldLink RX11 138 "RegrowDesk" "tapeSize" "I" ∈ zTb := zt3_mem rfl (List.mem_of_getElem? (i := 229) rfl)
theorem zk_fl_11_20 : Cond.fieldLink RX11 20 "RegrowDesk" "moments" "[LRegrowDesk$Moment;" ∈ zTb := zt3_mem rfl (List.mem_of_getElem? (i := 230) rfl)
theorem zk_fl_11_25 : Cond.fieldLink RX11 25 "RegrowDesk" "draft" "LRegrowDesk$Moment;" ∈ zTb := zt3_mem rfl (List.mem_of_getElem? (i := 231) rfl)
theorem zk_fl_11_202 : Cond.fieldLink RX11 202 "RegrowDesk" "slot" "I" ∈ zTb := zt3_mem rfl (List.mem_of_getElem? (i := 232) rfl)
theorem zk_fl_11_196 : Cond.fieldLink RX11 196 "RegrowDesk" "undoable" "I" ∈ zTb := zt3_mem rfl (List.mem_of_getElem? (i := 233) rfl)
theorem zk_fl_11_199 : Cond.fieldLink RX11 199 "RegrowDesk" "redoable" "I" ∈ zTb := zt3_mem rfl (List.mem_of_getElem? (i := 234) rfl)
theorem zk_fl_11_309 : Cond.fieldLink RX11 309 "RegrowDesk" "edits" "I" ∈ zTb := zt3_mem rfl (List.mem_of_getElem? (i := 235) rfl)
theorem zk_fl_11_29 : Cond.fieldLink RX11 29 "RegrowDesk" "latest" "LRegrowDesk$Row;" ∈ zTb := zt3_mem rfl (List.mem_of_getElem? (i := 236) rfl)
theorem zk_fl_11_35 : Cond.fieldLink RX11 35 "RegrowDesk" "nodes" "LRegrowDesk$Nodes;" ∈ zTb := zt3_mem rfl (List.mem_of_getElem? (i := 237) rfl)
theorem zk_fl_11_44 : Cond.fieldLink RX11 44 "RegrowDesk" "view" "LRegrowDesk$TreeView;" ∈ zTb := zt3_mem rfl (List.mem_of_getElem? (i := 238) rfl)
theorem zk_fl_11_53 : Cond.fieldLink RX11 53 "RegrowDesk" "grower" "LRegrowDesk$Grower;" ∈ zTb := zt3_mem rfl (List.mem_of_getElem? (i := 239) rfl)
theorem zk_fl_11_60 : Cond.fieldLink RX11 60 "RegrowDesk" "runner" "LRegrowDesk$Runner;" ∈ zTb := zt4_mem rfl (List.mem_of_getElem? (i := 0) rfl)
theorem zk_fl_11_67 : Cond.fieldLink RX11 67 "RegrowDesk" "pairs" "LRegrowDesk$Pairs;" ∈ zTb := zt4_mem rfl (List.mem_of_getElem? (i := 1) rfl)
theorem zk_fl_11_74 : Cond.fieldLink RX11 74 "RegrowDesk" "printer" "LRegrowDesk$Printer;" ∈ zTb := zt4_mem rfl (List.mem_of_getElem? (i := 2) rfl)
theorem zk_fl_11_81 : Cond.fieldLink RX11 81 "RegrowDesk" "adviser" "LRegrowDesk$Adviser;" ∈ zTb := zt4_mem rfl (List.mem_of_getElem? (i := 3) rfl)
theorem zk_fl_11_85 : Cond.fieldLink RX11 85 "RegrowDesk" "printed" "LRegrowDesk$Row;" ∈ zTb := zt4_mem rfl (List.mem_of_getElem? (i := 4) rfl)
theorem zk_fl_11_88 : Cond.fieldLink RX11 88 "RegrowDesk" "printedOther" "LRegrowDesk$Row;" ∈ zTb := zt4_mem rfl (List.mem_of_getElem? (i := 5) rfl)
theorem zk_fl_11_291 : Cond.fieldLink RX11 291 "RegrowDesk" "printedSize" "I" ∈ zTb := zt4_mem rfl (List.mem_of_getElem? (i := 6) rfl)
theorem zk_ml_L_13 : Cond.methodLink RL 13 yX11_feed ∈ zTb := zt4_mem rfl (List.mem_of_getElem? (i := 46) rfl)
theorem zk_im_yX11_feed : Cond.instanceMethod yX11_feed ∈ zTb := zt4_mem rfl (List.mem_of_getElem? (i := 47) rfl)
theorem zk_se_yX11_feed : Cond.selects RX11 yX11_feed yX11_feed ∈ zTb := zt4_mem rfl (List.mem_of_getElem? (i := 48) rfl)
theorem zk_cd_yX11_feed : Cond.code yX11_feed cX11_feed 6 (some .int) ∈ zTb := zt4_mem rfl (List.mem_of_getElem? (i := 49) rfl)
theorem zk_ml_11_141 : Cond.methodLink RX11 141 yX11_feedFour ∈ zTb := zt4_mem rfl (List.mem_of_getElem? (i := 50) rfl)
theorem zk_im_yX11_feedFour : Cond.instanceMethod yX11_feedFour ∈ zTb := zt4_mem rfl (List.mem_of_getElem? (i := 52) rfl)
theorem zk_cd_yX11_feedFour : Cond.code yX11_feedFour cX11_feedFour 3 none ∈ zTb := zt4_mem rfl (List.mem_of_getElem? (i := 53) rfl)
theorem zk_ml_L_18 : Cond.methodLink RL 18 yX11_back ∈ zTb := zt4_mem rfl (List.mem_of_getElem? (i := 54) rfl)
theorem zk_im_yX11_back : Cond.instanceMethod yX11_back ∈ zTb := zt4_mem rfl (List.mem_of_getElem? (i := 55) rfl)
theorem zk_se_yX11_back : Cond.selects RX11 yX11_back yX11_back ∈ zTb := zt4_mem rfl (List.mem_of_getElem? (i := 56) rfl)
theorem zk_cd_yX11_back : Cond.code yX11_back cX11_back 2 (some .int) ∈ zTb := zt4_mem rfl (List.mem_of_getElem? (i := 57) rfl)
theorem zk_ml_L_23 : Cond.methodLink RL 23 yX11_edit ∈ zTb := zt4_mem rfl (List.mem_of_getElem? (i := 58) rfl)
theorem zk_im_yX11_edit : Cond.instanceMethod yX11_edit ∈ zTb := zt4_mem rfl (List.mem_of_getElem? (i := 59) rfl)
theorem zk_se_yX11_edit : Cond.selects RX11 yX11_edit yX11_edit ∈ zTb := zt4_mem rfl (List.mem_of_getElem? (i := 60) rfl)
theorem zk_cd_yX11_edit : Cond.code yX11_edit cX11_edit 4 (some .int) ∈ zTb := zt4_mem rfl (List.mem_of_getElem? (i := 61) rfl)
theorem zk_ml_11_147 : Cond.methodLink RX11 147 yX2_append ∈ zTb := zt4_mem rfl (List.mem_of_getElem? (i := 62) rfl)
theorem zk_im_yX2_append : Cond.instanceMethod yX2_append ∈ zTb := zt4_mem rfl (List.mem_of_getElem? (i := 63) rfl)
theorem zk_se_yX2_append : Cond.selects RX2 yX2_append yX2_append ∈ zTb := zt4_mem rfl (List.mem_of_getElem? (i := 64) rfl)
theorem zk_cd_yX2_append : Cond.code yX2_append cX2_append 5 none ∈ zTb := zt4_mem rfl (List.mem_of_getElem? (i := 65) rfl)
theorem zk_ml_2_40 : Cond.methodLink RX2 40 yX6_get ∈ zTb := zt4_mem rfl (List.mem_of_getElem? (i := 66) rfl)
theorem zk_ml_2_44 : Cond.methodLink RX2 44 yX6_set ∈ zTb := zt4_mem rfl (List.mem_of_getElem? (i := 67) rfl)
theorem zk_ml_11_151 : Cond.methodLink RX11 151 yX11_change ∈ zTb := zt4_mem rfl (List.mem_of_getElem? (i := 68) rfl)
theorem zk_im_yX11_change : Cond.instanceMethod yX11_change ∈ zTb := zt4_mem rfl (List.mem_of_getElem? (i := 70) rfl)
theorem zk_cd_yX11_change : Cond.code yX11_change cX11_change 5 (some .int) ∈ zTb := zt4_mem rfl (List.mem_of_getElem? (i := 71) rfl)
theorem zk_ml_11_372 : Cond.methodLink RX11 372 yX9_ruledSize ∈ zTb := zt4_mem rfl (List.mem_of_getElem? (i := 72) rfl)
theorem zk_im_yX9_ruledSize : Cond.instanceMethod yX9_ruledSize ∈ zTb := zt4_mem rfl (List.mem_of_getElem? (i := 73) rfl)
theorem zk_se_yX9_ruledSize : Cond.selects RX9 yX9_ruledSize yX9_ruledSize ∈ zTb := zt4_mem rfl (List.mem_of_getElem? (i := 74) rfl)
theorem zk_cd_yX9_ruledSize : Cond.code yX9_ruledSize cX9_ruledSize 3 (some .int) ∈ zTb := zt4_mem rfl (List.mem_of_getElem? (i := 75) rfl)
theorem zk_ml_11_375 : Cond.methodLink RX11 375 yX1_regrow ∈ zTb := zt4_mem rfl (List.mem_of_getElem? (i := 76) rfl)
theorem zk_im_yX1_regrow : Cond.instanceMethod yX1_regrow ∈ zTb := zt4_mem rfl (List.mem_of_getElem? (i := 77) rfl)
theorem zk_se_yX1_regrow : Cond.selects RX1 yX1_regrow yX1_regrow ∈ zTb := zt4_mem rfl (List.mem_of_getElem? (i := 78) rfl)
theorem zk_cd_yX1_regrow : Cond.code yX1_regrow cX1_regrow 4 (some .boolean) ∈ zTb := zt4_mem rfl (List.mem_of_getElem? (i := 79) rfl)
theorem zk_ml_1_59 : Cond.methodLink RX1 59 yX1_keepAlike ∈ zTb := zt4_mem rfl (List.mem_of_getElem? (i := 80) rfl)
theorem zk_im_yX1_keepAlike : Cond.instanceMethod yX1_keepAlike ∈ zTb := zt4_mem rfl (List.mem_of_getElem? (i := 82) rfl)
theorem zk_cd_yX1_keepAlike : Cond.code yX1_keepAlike cX1_keepAlike 4 none ∈ zTb := zt4_mem rfl (List.mem_of_getElem? (i := 83) rfl)
theorem zk_ml_1_71 : Cond.methodLink RX1 71 Lib.Math.min.name ∈ zTb := zt4_mem rfl (List.mem_of_getElem? (i := 84) rfl)
theorem zk_ml_1_35 : Cond.methodLink RX1 35 yX6_get ∈ zTb := zt4_mem rfl (List.mem_of_getElem? (i := 85) rfl)
theorem zk_ml_1_83 : Cond.methodLink RX1 83 yX3_isLike ∈ zTb := zt4_mem rfl (List.mem_of_getElem? (i := 86) rfl)
theorem zk_im_yX3_isLike : Cond.instanceMethod yX3_isLike ∈ zTb := zt4_mem rfl (List.mem_of_getElem? (i := 87) rfl)
theorem zk_se_yX3_isLike : Cond.selects RX3 yX3_isLike yX3_isLike ∈ zTb := zt4_mem rfl (List.mem_of_getElem? (i := 88) rfl)
theorem zk_cd_yX3_isLike : Cond.code yX3_isLike cX3_isLike 4 (some .boolean) ∈ zTb := zt4_mem rfl (List.mem_of_getElem? (i := 89) rfl)
theorem zk_ml_1_63 : Cond.methodLink RX1 63 yX1_nameTokens ∈ zTb := zt4_mem rfl (List.mem_of_getElem? (i := 90) rfl)
theorem zk_im_yX1_nameTokens : Cond.instanceMethod yX1_nameTokens ∈ zTb := zt4_mem rfl (List.mem_of_getElem? (i := 92) rfl)
theorem zk_cd_yX1_nameTokens : Cond.code yX1_nameTokens cX1_nameTokens 7 none ∈ zTb := zt4_mem rfl (List.mem_of_getElem? (i := 93) rfl)
theorem zk_ml_1_95 : Cond.methodLink RX1 95 yX1_oldPlace ∈ zTb := zt4_mem rfl (List.mem_of_getElem? (i := 94) rfl)
theorem zk_im_yX1_oldPlace : Cond.instanceMethod yX1_oldPlace ∈ zTb := zt4_mem rfl (List.mem_of_getElem? (i := 96) rfl)
theorem zk_cd_yX1_oldPlace : Cond.code yX1_oldPlace cX1_oldPlace 2 (some .int) ∈ zTb := zt4_mem rfl (List.mem_of_getElem? (i := 97) rfl)
theorem zk_ml_1_98 : Cond.methodLink RX1 98 yX6_set ∈ zTb := zt4_mem rfl (List.mem_of_getElem? (i := 98) rfl)
theorem zk_ml_1_114 : Cond.methodLink RX1 114 yX3_makeToken ∈ zTb := zt4_mem rfl (List.mem_of_getElem? (i := 99) rfl)
theorem zk_ml_1_67 : Cond.methodLink RX1 67 yX1_growAll ∈ zTb := zt4_mem rfl (List.mem_of_getElem? (i := 100) rfl)
theorem zk_im_yX1_growAll : Cond.instanceMethod yX1_growAll ∈ zTb := zt4_mem rfl (List.mem_of_getElem? (i := 102) rfl)
theorem zk_cd_yX1_growAll : Cond.code yX1_growAll cX1_growAll 8 (some .boolean) ∈ zTb := zt4_mem rfl (List.mem_of_getElem? (i := 103) rfl)
theorem zk_ml_1_130 : Cond.methodLink RX1 130 yX1_putSound ∈ zTb := zt4_mem rfl (List.mem_of_getElem? (i := 104) rfl)
theorem zk_im_yX1_putSound : Cond.instanceMethod yX1_putSound ∈ zTb := zt4_mem rfl (List.mem_of_getElem? (i := 106) rfl)
theorem zk_cd_yX1_putSound : Cond.code yX1_putSound cX1_putSound 7 (some .int) ∈ zTb := zt4_mem rfl (List.mem_of_getElem? (i := 107) rfl)
theorem zk_ml_1_140 : Cond.methodLink RX1 140 yX9_parentOf ∈ zTb := zt4_mem rfl (List.mem_of_getElem? (i := 108) rfl)
theorem zk_im_yX9_parentOf : Cond.instanceMethod yX9_parentOf ∈ zTb := zt4_mem rfl (List.mem_of_getElem? (i := 109) rfl)
theorem zk_se_yX9_parentOf : Cond.selects RX9 yX9_parentOf yX9_parentOf ∈ zTb := zt4_mem rfl (List.mem_of_getElem? (i := 110) rfl)
theorem zk_cd_yX9_parentOf : Cond.code yX9_parentOf cX9_parentOf 2 (some .int) ∈ zTb := zt4_mem rfl (List.mem_of_getElem? (i := 111) rfl)
theorem zk_ml_9_130 : Cond.methodLink RX9 130 yX9_holds ∈ zTb := zt4_mem rfl (List.mem_of_getElem? (i := 112) rfl)
theorem zk_im_yX9_holds : Cond.instanceMethod yX9_holds ∈ zTb := zt4_mem rfl (List.mem_of_getElem? (i := 113) rfl)
theorem zk_se_yX9_holds : Cond.selects RX9 yX9_holds yX9_holds ∈ zTb := zt4_mem rfl (List.mem_of_getElem? (i := 114) rfl)
theorem zk_cd_yX9_holds : Cond.code yX9_holds cX9_holds 3 (some .boolean) ∈ zTb := zt4_mem rfl (List.mem_of_getElem? (i := 115) rfl)
theorem zk_ml_9_127 : Cond.methodLink RX9 127 yX3_has ∈ zTb := zt4_mem rfl (List.mem_of_getElem? (i := 116) rfl)
theorem zk_im_yX3_has : Cond.instanceMethod yX3_has ∈ zTb := zt4_mem rfl (List.mem_of_getElem? (i := 117) rfl)
theorem zk_se_yX3_has : Cond.selects RX3 yX3_has yX3_has ∈ zTb := zt4_mem rfl (List.mem_of_getElem? (i := 118) rfl)
theorem zk_cd_yX3_has : Cond.code yX3_has cX3_has 2 (some .boolean) ∈ zTb := zt4_mem rfl (List.mem_of_getElem? (i := 119) rfl)
theorem zk_ml_1_145 : Cond.methodLink RX1 145 yX9_firstOf ∈ zTb := zt4_mem rfl (List.mem_of_getElem? (i := 120) rfl)
theorem zk_im_yX9_firstOf : Cond.instanceMethod yX9_firstOf ∈ zTb := zt4_mem rfl (List.mem_of_getElem? (i := 121) rfl)
theorem zk_se_yX9_firstOf : Cond.selects RX9 yX9_firstOf yX9_firstOf ∈ zTb := zt4_mem rfl (List.mem_of_getElem? (i := 122) rfl)
theorem zk_cd_yX9_firstOf : Cond.code yX9_firstOf cX9_firstOf 2 (some .int) ∈ zTb := zt4_mem rfl (List.mem_of_getElem? (i := 123) rfl)
theorem zk_ml_1_153 : Cond.methodLink RX1 153 yX1_isSound ∈ zTb := zt4_mem rfl (List.mem_of_getElem? (i := 124) rfl)
theorem zk_im_yX1_isSound : Cond.instanceMethod yX1_isSound ∈ zTb := zt4_mem rfl (List.mem_of_getElem? (i := 126) rfl)
theorem zk_cd_yX1_isSound : Cond.code yX1_isSound cX1_isSound 4 (some .boolean) ∈ zTb := zt4_mem rfl (List.mem_of_getElem? (i := 127) rfl)
theorem zk_st_yX11_leadsTo : Cond.static yX11_leadsTo ∈ zTb := zt4_mem rfl (List.mem_of_getElem? (i := 129) rfl)
theorem zk_cd_yX11_leadsTo : Cond.code yX11_leadsTo cX11_leadsTo 3 (some .int) ∈ zTb := zt4_mem rfl (List.mem_of_getElem? (i := 130) rfl)
theorem zk_fl_11_446 : Cond.fieldLink RX11 446 "RegrowDesk" "LEADS" "[I" ∈ zTb := zt4_mem rfl (List.mem_of_getElem? (i := 131) rfl)
theorem zk_ml_1_163 : Cond.methodLink RX1 163 yX1_put ∈ zTb := zt4_mem rfl (List.mem_of_getElem? (i := 133) rfl)
theorem zk_im_yX1_put : Cond.instanceMethod yX1_put ∈ zTb := zt4_mem rfl (List.mem_of_getElem? (i := 135) rfl)
theorem zk_cd_yX1_put : Cond.code yX1_put cX1_put 3 none ∈ zTb := zt4_mem rfl (List.mem_of_getElem? (i := 136) rfl)
theorem zk_ml_1_133 : Cond.methodLink RX1 133 yX1_putToken ∈ zTb := zt4_mem rfl (List.mem_of_getElem? (i := 137) rfl)
theorem zk_im_yX1_putToken : Cond.instanceMethod yX1_putToken ∈ zTb := zt4_mem rfl (List.mem_of_getElem? (i := 139) rfl)
theorem zk_cd_yX1_putToken : Cond.code yX1_putToken cX1_putToken 4 (some .int) ∈ zTb := zt4_mem rfl (List.mem_of_getElem? (i := 140) rfl)
theorem zk_ml_1_136 : Cond.methodLink RX1 136 yX1_makeByRule ∈ zTb := zt4_mem rfl (List.mem_of_getElem? (i := 141) rfl)
theorem zk_im_yX1_makeByRule : Cond.instanceMethod yX1_makeByRule ∈ zTb := zt4_mem rfl (List.mem_of_getElem? (i := 143) rfl)
theorem zk_cd_yX1_makeByRule : Cond.code yX1_makeByRule cX1_makeByRule 7 (some .boolean) ∈ zTb := zt4_mem rfl (List.mem_of_getElem? (i := 144) rfl)
theorem zk_st_yX11_ruleAt : Cond.static yX11_ruleAt ∈ zTb := zt4_mem rfl (List.mem_of_getElem? (i := 146) rfl)
theorem zk_cd_yX11_ruleAt : Cond.code yX11_ruleAt cX11_ruleAt 1 (some .int) ∈ zTb := zt4_mem rfl (List.mem_of_getElem? (i := 147) rfl)
theorem zk_fl_11_450 : Cond.fieldLink RX11 450 "RegrowDesk" "STATE_RULE" "[I" ∈ zTb := zt4_mem rfl (List.mem_of_getElem? (i := 148) rfl)
theorem zk_ml_1_172 : Cond.methodLink RX1 172 yX3_makeRuled ∈ zTb := zt4_mem rfl (List.mem_of_getElem? (i := 151) rfl)
theorem zk_ml_1_176 : Cond.methodLink RX1 176 yX3_giveChild ∈ zTb := zt4_mem rfl (List.mem_of_getElem? (i := 152) rfl)
theorem zk_im_yX3_giveChild : Cond.instanceMethod yX3_giveChild ∈ zTb := zt4_mem rfl (List.mem_of_getElem? (i := 153) rfl)
theorem zk_se_yX3_giveChild : Cond.selects RX3 yX3_giveChild yX3_giveChild ∈ zTb := zt4_mem rfl (List.mem_of_getElem? (i := 154) rfl)
theorem zk_cd_yX3_giveChild : Cond.code yX3_giveChild cX3_giveChild 4 none ∈ zTb := zt4_mem rfl (List.mem_of_getElem? (i := 155) rfl)
theorem zk_ml_3_63 : Cond.methodLink RX3 63 yX6_add ∈ zTb := zt4_mem rfl (List.mem_of_getElem? (i := 156) rfl)
theorem zk_ml_11_379 : Cond.methodLink RX11 379 yX1_onTop ∈ zTb := zt4_mem rfl (List.mem_of_getElem? (i := 158) rfl)
theorem zk_im_yX1_onTop : Cond.instanceMethod yX1_onTop ∈ zTb := zt4_mem rfl (List.mem_of_getElem? (i := 159) rfl)
theorem zk_se_yX1_onTop : Cond.selects RX1 yX1_onTop yX1_onTop ∈ zTb := zt4_mem rfl (List.mem_of_getElem? (i := 160) rfl)
theorem zk_cd_yX1_onTop : Cond.code yX1_onTop cX1_onTop 1 (some .int) ∈ zTb := zt4_mem rfl (List.mem_of_getElem? (i := 161) rfl)
theorem zk_ml_11_382 : Cond.methodLink RX11 382 yX2_keepGood ∈ zTb := zt4_mem rfl (List.mem_of_getElem? (i := 162) rfl)
theorem zk_ml_11_385 : Cond.methodLink RX11 385 yX11_tellGrowth ∈ zTb := zt4_mem rfl (List.mem_of_getElem? (i := 163) rfl)
theorem zk_im_yX11_tellGrowth : Cond.instanceMethod yX11_tellGrowth ∈ zTb := zt4_mem rfl (List.mem_of_getElem? (i := 165) rfl)
theorem zk_cd_yX11_tellGrowth : Cond.code yX11_tellGrowth cX11_tellGrowth 2 none ∈ zTb := zt4_mem rfl (List.mem_of_getElem? (i := 166) rfl)
theorem zk_ml_11_388 : Cond.methodLink RX11 388 yX11_layRow ∈ zTb := zt4_mem rfl (List.mem_of_getElem? (i := 167) rfl)
theorem zk_im_yX11_layRow : Cond.instanceMethod yX11_layRow ∈ zTb := zt4_mem rfl (List.mem_of_getElem? (i := 169) rfl)
theorem zk_cd_yX11_layRow : Cond.code yX11_layRow cX11_layRow 2 none ∈ zTb := zt4_mem rfl (List.mem_of_getElem? (i := 170) rfl)
theorem zk_ml_11_415 : Cond.methodLink RX11 415 yX4_layAll ∈ zTb := zt4_mem rfl (List.mem_of_getElem? (i := 171) rfl)
theorem zk_im_yX4_layAll : Cond.instanceMethod yX4_layAll ∈ zTb := zt4_mem rfl (List.mem_of_getElem? (i := 172) rfl)
theorem zk_se_yX4_layAll : Cond.selects RX4 yX4_layAll yX4_layAll ∈ zTb := zt4_mem rfl (List.mem_of_getElem? (i := 173) rfl)
theorem zk_cd_yX4_layAll : Cond.code yX4_layAll cX4_layAll 3 (some .int) ∈ zTb := zt4_mem rfl (List.mem_of_getElem? (i := 174) rfl)
theorem zk_ml_4_29 : Cond.methodLink RX4 29 yX4_layPart ∈ zTb := zt4_mem rfl (List.mem_of_getElem? (i := 175) rfl)
theorem zk_st_yX4_layPart : Cond.static yX4_layPart ∈ zTb := zt4_mem rfl (List.mem_of_getElem? (i := 176) rfl)
theorem zk_cd_yX4_layPart : Cond.code yX4_layPart cX4_layPart 8 (some .int) ∈ zTb := zt4_mem rfl (List.mem_of_getElem? (i := 177) rfl)
theorem zk_ml_4_33 : Cond.methodLink RX4 33 yX6_get ∈ zTb := zt4_mem rfl (List.mem_of_getElem? (i := 178) rfl)
theorem zk_ml_4_37 : Cond.methodLink RX4 37 yX4_findOrMake ∈ zTb := zt4_mem rfl (List.mem_of_getElem? (i := 179) rfl)
theorem zk_im_yX4_findOrMake : Cond.instanceMethod yX4_findOrMake ∈ zTb := zt4_mem rfl (List.mem_of_getElem? (i := 181) rfl)
theorem zk_cd_yX4_findOrMake : Cond.code yX4_findOrMake cX4_findOrMake 6 (some .int) ∈ zTb := zt4_mem rfl (List.mem_of_getElem? (i := 182) rfl)
theorem zk_ml_4_45 : Cond.methodLink RX4 45 yX6_set ∈ zTb := zt4_mem rfl (List.mem_of_getElem? (i := 183) rfl)
theorem zk_ml_11_391 : Cond.methodLink RX11 391 yX11_tellGood ∈ zTb := zt4_mem rfl (List.mem_of_getElem? (i := 184) rfl)
theorem zk_im_yX11_tellGood : Cond.instanceMethod yX11_tellGood ∈ zTb := zt4_mem rfl (List.mem_of_getElem? (i := 186) rfl)
theorem zk_cd_yX11_tellGood : Cond.code yX11_tellGood cX11_tellGood 2 none ∈ zTb := zt4_mem rfl (List.mem_of_getElem? (i := 187) rfl)
theorem zk_ml_11_394 : Cond.methodLink RX11 394 yX11_turnToNext ∈ zTb := zt4_mem rfl (List.mem_of_getElem? (i := 188) rfl)
theorem zk_im_yX11_turnToNext : Cond.instanceMethod yX11_turnToNext ∈ zTb := zt4_mem rfl (List.mem_of_getElem? (i := 190) rfl)
theorem zk_cd_yX11_turnToNext : Cond.code yX11_turnToNext cX11_turnToNext 1 none ∈ zTb := zt4_mem rfl (List.mem_of_getElem? (i := 191) rfl)
theorem zk_ml_11_205 : Cond.methodLink RX11 205 yX11_nextSlot ∈ zTb := zt4_mem rfl (List.mem_of_getElem? (i := 192) rfl)
theorem zk_im_yX11_nextSlot : Cond.instanceMethod yX11_nextSlot ∈ zTb := zt4_mem rfl (List.mem_of_getElem? (i := 194) rfl)
theorem zk_cd_yX11_nextSlot : Cond.code yX11_nextSlot cX11_nextSlot 1 (some .int) ∈ zTb := zt4_mem rfl (List.mem_of_getElem? (i := 195) rfl)
theorem zk_ml_11_425 : Cond.methodLink RX11 425 Lib.Math.min.name ∈ zTb := zt4_mem rfl (List.mem_of_getElem? (i := 196) rfl)
theorem zk_ml_L_28 : Cond.methodLink RL 28 yX11_rename ∈ zTb := zt4_mem rfl (List.mem_of_getElem? (i := 197) rfl)
theorem zk_im_yX11_rename : Cond.instanceMethod yX11_rename ∈ zTb := zt4_mem rfl (List.mem_of_getElem? (i := 198) rfl)
theorem zk_se_yX11_rename : Cond.selects RX11 yX11_rename yX11_rename ∈ zTb := zt4_mem rfl (List.mem_of_getElem? (i := 199) rfl)
theorem zk_cd_yX11_rename : Cond.code yX11_rename cX11_rename 5 (some .int) ∈ zTb := zt4_mem rfl (List.mem_of_getElem? (i := 200) rfl)
theorem zk_ml_11_159 : Cond.methodLink RX11 159 yX8_has ∈ zTb := zt4_mem rfl (List.mem_of_getElem? (i := 201) rfl)
theorem zk_im_yX8_has : Cond.instanceMethod yX8_has ∈ zTb := zt4_mem rfl (List.mem_of_getElem? (i := 202) rfl)
theorem zk_se_yX8_has : Cond.selects RX8 yX8_has yX8_has ∈ zTb := zt4_mem rfl (List.mem_of_getElem? (i := 203) rfl)
theorem zk_cd_yX8_has : Cond.code yX8_has cX8_has 2 (some .boolean) ∈ zTb := zt4_mem rfl (List.mem_of_getElem? (i := 204) rfl)
theorem zk_ml_11_166 : Cond.methodLink RX11 166 yX6_get ∈ zTb := zt4_mem rfl (List.mem_of_getElem? (i := 205) rfl)
theorem zk_ml_11_170 : Cond.methodLink RX11 170 yX11_tapeIsName ∈ zTb := zt4_mem rfl (List.mem_of_getElem? (i := 206) rfl)
theorem zk_im_yX11_tapeIsName : Cond.instanceMethod yX11_tapeIsName ∈ zTb := zt4_mem rfl (List.mem_of_getElem? (i := 208) rfl)
theorem zk_cd_yX11_tapeIsName : Cond.code yX11_tapeIsName cX11_tapeIsName 2 (some .boolean) ∈ zTb := zt4_mem rfl (List.mem_of_getElem? (i := 209) rfl)
theorem zk_ml_11_439 : Cond.methodLink RX11 439 yX8_isLetter ∈ zTb := zt4_mem rfl (List.mem_of_getElem? (i := 210) rfl)
theorem zk_ml_11_177 : Cond.methodLink RX11 177 yX8_sameBytes ∈ zTb := zt4_mem rfl (List.mem_of_getElem? (i := 211) rfl)
theorem zk_im_yX8_sameBytes : Cond.instanceMethod yX8_sameBytes ∈ zTb := zt4_mem rfl (List.mem_of_getElem? (i := 212) rfl)
theorem zk_se_yX8_sameBytes : Cond.selects RX8 yX8_sameBytes yX8_sameBytes ∈ zTb := zt4_mem rfl (List.mem_of_getElem? (i := 213) rfl)
theorem zk_cd_yX8_sameBytes : Cond.code yX8_sameBytes cX8_sameBytes 3 (some .boolean) ∈ zTb := zt4_mem rfl (List.mem_of_getElem? (i := 214) rfl)
theorem zk_ml_L_32 : Cond.methodLink RL 32 yX11_cut ∈ zTb := zt4_mem rfl (List.mem_of_getElem? (i := 215) rfl)
theorem zk_im_yX11_cut : Cond.instanceMethod yX11_cut ∈ zTb := zt4_mem rfl (List.mem_of_getElem? (i := 216) rfl)
theorem zk_se_yX11_cut : Cond.selects RX11 yX11_cut yX11_cut ∈ zTb := zt4_mem rfl (List.mem_of_getElem? (i := 217) rfl)
theorem zk_cd_yX11_cut : Cond.code yX11_cut cX11_cut 3 (some .int) ∈ zTb := zt4_mem rfl (List.mem_of_getElem? (i := 218) rfl)
theorem zk_ml_11_187 : Cond.methodLink RX11 187 yX9_hasRun ∈ zTb := zt4_mem rfl (List.mem_of_getElem? (i := 219) rfl)
theorem zk_im_yX9_hasRun : Cond.instanceMethod yX9_hasRun ∈ zTb := zt4_mem rfl (List.mem_of_getElem? (i := 220) rfl)
theorem zk_se_yX9_hasRun : Cond.selects RX9 yX9_hasRun yX9_hasRun ∈ zTb := zt4_mem rfl (List.mem_of_getElem? (i := 221) rfl)
theorem zk_cd_yX9_hasRun : Cond.code yX9_hasRun cX9_hasRun 2 (some .boolean) ∈ zTb := zt4_mem rfl (List.mem_of_getElem? (i := 222) rfl)
theorem zk_ml_11_190 : Cond.methodLink RX11 190 yX11_runStart ∈ zTb := zt4_mem rfl (List.mem_of_getElem? (i := 223) rfl)
theorem zk_im_yX11_runStart : Cond.instanceMethod yX11_runStart ∈ zTb := zt4_mem rfl (List.mem_of_getElem? (i := 225) rfl)
theorem zk_cd_yX11_runStart : Cond.code yX11_runStart cX11_runStart 2 (some .int) ∈ zTb := zt4_mem rfl (List.mem_of_getElem? (i := 226) rfl)
theorem zk_ml_11_273 : Cond.methodLink RX11 273 yX11_startOf ∈ zTb := zt4_mem rfl (List.mem_of_getElem? (i := 227) rfl)
theorem zk_im_yX11_startOf : Cond.instanceMethod yX11_startOf ∈ zTb := zt4_mem rfl (List.mem_of_getElem? (i := 229) rfl)
theorem zk_cd_yX11_startOf : Cond.code yX11_startOf cX11_startOf 2 (some .int) ∈ zTb := zt4_mem rfl (List.mem_of_getElem? (i := 230) rfl)
theorem zk_ml_11_263 : Cond.methodLink RX11 263 yX9_firstOf ∈ zTb := zt4_mem rfl (List.mem_of_getElem? (i := 231) rfl)
theorem zk_ml_11_193 : Cond.methodLink RX11 193 yX11_runEnd ∈ zTb := zt4_mem rfl (List.mem_of_getElem? (i := 232) rfl)
theorem zk_im_yX11_runEnd : Cond.instanceMethod yX11_runEnd ∈ zTb := zt4_mem rfl (List.mem_of_getElem? (i := 234) rfl)
theorem zk_cd_yX11_runEnd : Cond.code yX11_runEnd cX11_runEnd 2 (some .int) ∈ zTb := zt4_mem rfl (List.mem_of_getElem? (i := 235) rfl)
theorem zk_ml_11_276 : Cond.methodLink RX11 276 yX11_endOf ∈ zTb := zt4_mem rfl (List.mem_of_getElem? (i := 236) rfl)
theorem zk_im_yX11_endOf : Cond.instanceMethod yX11_endOf ∈ zTb := zt4_mem rfl (List.mem_of_getElem? (i := 238) rfl)
theorem zk_cd_yX11_endOf : Cond.code yX11_endOf cX11_endOf 4 (some .int) ∈ zTb := zt4_mem rfl (List.mem_of_getElem? (i := 239) rfl)
theorem zk_ml_L_36 : Cond.methodLink RL 36 yX11_twin ∈ zTb := zt5_mem rfl (List.mem_of_getElem? (i := 0) rfl)
theorem zk_im_yX11_twin : Cond.instanceMethod yX11_twin ∈ zTb := zt5_mem rfl (List.mem_of_getElem? (i := 1) rfl)
theorem zk_se_yX11_twin : Cond.selects RX11 yX11_twin yX11_twin ∈ zTb := zt5_mem rfl (List.mem_of_getElem? (i := 2) rfl)
theorem zk_cd_yX11_twin : Cond.code yX11_twin cX11_twin 3 (some .int) ∈ zTb := zt5_mem rfl (List.mem_of_getElem? (i := 3) rfl)
theorem zk_ml_L_40 : Cond.methodLink RL 40 yX11_swap ∈ zTb := zt5_mem rfl (List.mem_of_getElem? (i := 4) rfl)
theorem zk_im_yX11_swap : Cond.instanceMethod yX11_swap ∈ zTb := zt5_mem rfl (List.mem_of_getElem? (i := 5) rfl)
theorem zk_se_yX11_swap : Cond.selects RX11 yX11_swap yX11_swap ∈ zTb := zt5_mem rfl (List.mem_of_getElem? (i := 6) rfl)
theorem zk_cd_yX11_swap : Cond.code yX11_swap cX11_swap 3 (some .int) ∈ zTb := zt5_mem rfl (List.mem_of_getElem? (i := 7) rfl)
theorem zk_ml_L_44 : Cond.methodLink RL 44 yX11_undo ∈ zTb := zt5_mem rfl (List.mem_of_getElem? (i := 8) rfl)
theorem zk_im_yX11_undo : Cond.instanceMethod yX11_undo ∈ zTb := zt5_mem rfl (List.mem_of_getElem? (i := 9) rfl)
theorem zk_se_yX11_undo : Cond.selects RX11 yX11_undo yX11_undo ∈ zTb := zt5_mem rfl (List.mem_of_getElem? (i := 10) rfl)
theorem zk_cd_yX11_undo : Cond.code yX11_undo cX11_undo 1 (some .boolean) ∈ zTb := zt5_mem rfl (List.mem_of_getElem? (i := 11) rfl)
theorem zk_ml_L_49 : Cond.methodLink RL 49 yX11_redo ∈ zTb := zt5_mem rfl (List.mem_of_getElem? (i := 12) rfl)
theorem zk_im_yX11_redo : Cond.instanceMethod yX11_redo ∈ zTb := zt5_mem rfl (List.mem_of_getElem? (i := 13) rfl)
theorem zk_se_yX11_redo : Cond.selects RX11 yX11_redo yX11_redo ∈ zTb := zt5_mem rfl (List.mem_of_getElem? (i := 14) rfl)
theorem zk_cd_yX11_redo : Cond.code yX11_redo cX11_redo 1 (some .boolean) ∈ zTb := zt5_mem rfl (List.mem_of_getElem? (i := 15) rfl)
theorem zk_ml_L_53 : Cond.methodLink RL 53 yX11_text ∈ zTb := zt5_mem rfl (List.mem_of_getElem? (i := 16) rfl)
theorem zk_im_yX11_text : Cond.instanceMethod yX11_text ∈ zTb := zt5_mem rfl (List.mem_of_getElem? (i := 17) rfl)
theorem zk_se_yX11_text : Cond.selects RX11 yX11_text yX11_text ∈ zTb := zt5_mem rfl (List.mem_of_getElem? (i := 18) rfl)
theorem zk_cd_yX11_text : Cond.code yX11_text cX11_text 3 (some .int) ∈ zTb := zt5_mem rfl (List.mem_of_getElem? (i := 19) rfl)
theorem zk_ml_L_57 : Cond.methodLink RL 57 yX11_token ∈ zTb := zt5_mem rfl (List.mem_of_getElem? (i := 20) rfl)
theorem zk_im_yX11_token : Cond.instanceMethod yX11_token ∈ zTb := zt5_mem rfl (List.mem_of_getElem? (i := 21) rfl)
theorem zk_se_yX11_token : Cond.selects RX11 yX11_token yX11_token ∈ zTb := zt5_mem rfl (List.mem_of_getElem? (i := 22) rfl)
theorem zk_cd_yX11_token : Cond.code yX11_token cX11_token 4 (some .int) ∈ zTb := zt5_mem rfl (List.mem_of_getElem? (i := 23) rfl)
theorem zk_ml_L_61 : Cond.methodLink RL 61 yX11_good ∈ zTb := zt5_mem rfl (List.mem_of_getElem? (i := 24) rfl)
theorem zk_im_yX11_good : Cond.instanceMethod yX11_good ∈ zTb := zt5_mem rfl (List.mem_of_getElem? (i := 25) rfl)
theorem zk_se_yX11_good : Cond.selects RX11 yX11_good yX11_good ∈ zTb := zt5_mem rfl (List.mem_of_getElem? (i := 26) rfl)
theorem zk_cd_yX11_good : Cond.code yX11_good cX11_good 3 (some .int) ∈ zTb := zt5_mem rfl (List.mem_of_getElem? (i := 27) rfl)
theorem zk_ml_11_209 : Cond.methodLink RX11 209 yX2_hasGood ∈ zTb := zt5_mem rfl (List.mem_of_getElem? (i := 28) rfl)
theorem zk_im_yX2_hasGood : Cond.instanceMethod yX2_hasGood ∈ zTb := zt5_mem rfl (List.mem_of_getElem? (i := 29) rfl)
theorem zk_se_yX2_hasGood : Cond.selects RX2 yX2_hasGood yX2_hasGood ∈ zTb := zt5_mem rfl (List.mem_of_getElem? (i := 30) rfl)
theorem zk_cd_yX2_hasGood : Cond.code yX2_hasGood cX2_hasGood 2 (some .boolean) ∈ zTb := zt5_mem rfl (List.mem_of_getElem? (i := 31) rfl)
theorem zk_ml_L_122 : Cond.methodLink RL 122 yX11_under ∈ zTb := zt5_mem rfl (List.mem_of_getElem? (i := 32) rfl)
theorem zk_im_yX11_under : Cond.instanceMethod yX11_under ∈ zTb := zt5_mem rfl (List.mem_of_getElem? (i := 33) rfl)
theorem zk_se_yX11_under : Cond.selects RX11 yX11_under yX11_under ∈ zTb := zt5_mem rfl (List.mem_of_getElem? (i := 34) rfl)
theorem zk_cd_yX11_under : Cond.code yX11_under cX11_under 3 (some .int) ∈ zTb := zt5_mem rfl (List.mem_of_getElem? (i := 35) rfl)
theorem zk_ml_11_212 : Cond.methodLink RX11 212 yX8_covering ∈ zTb := zt5_mem rfl (List.mem_of_getElem? (i := 36) rfl)
theorem zk_im_yX8_covering : Cond.instanceMethod yX8_covering ∈ zTb := zt5_mem rfl (List.mem_of_getElem? (i := 37) rfl)
theorem zk_se_yX8_covering : Cond.selects RX8 yX8_covering yX8_covering ∈ zTb := zt5_mem rfl (List.mem_of_getElem? (i := 38) rfl)
theorem zk_cd_yX8_covering : Cond.code yX8_covering cX8_covering 3 (some .int) ∈ zTb := zt5_mem rfl (List.mem_of_getElem? (i := 39) rfl)
theorem zk_ml_L_77 : Cond.methodLink RL 77 yX11_fresh ∈ zTb := zt5_mem rfl (List.mem_of_getElem? (i := 40) rfl)
theorem zk_im_yX11_fresh : Cond.instanceMethod yX11_fresh ∈ zTb := zt5_mem rfl (List.mem_of_getElem? (i := 41) rfl)
theorem zk_se_yX11_fresh : Cond.selects RX11 yX11_fresh yX11_fresh ∈ zTb := zt5_mem rfl (List.mem_of_getElem? (i := 42) rfl)
theorem zk_cd_yX11_fresh : Cond.code yX11_fresh cX11_fresh 1 (some .int) ∈ zTb := zt5_mem rfl (List.mem_of_getElem? (i := 43) rfl)
theorem zk_ml_L_82 : Cond.methodLink RL 82 yX11_inTheWay ∈ zTb := zt5_mem rfl (List.mem_of_getElem? (i := 44) rfl)
theorem zk_im_yX11_inTheWay : Cond.instanceMethod yX11_inTheWay ∈ zTb := zt5_mem rfl (List.mem_of_getElem? (i := 45) rfl)
theorem zk_se_yX11_inTheWay : Cond.selects RX11 yX11_inTheWay yX11_inTheWay ∈ zTb := zt5_mem rfl (List.mem_of_getElem? (i := 46) rfl)
theorem zk_cd_yX11_inTheWay : Cond.code yX11_inTheWay cX11_inTheWay 3 (some .int) ∈ zTb := zt5_mem rfl (List.mem_of_getElem? (i := 47) rfl)
theorem zk_ml_11_216 : Cond.methodLink RX11 216 yX0_findWay ∈ zTb := zt5_mem rfl (List.mem_of_getElem? (i := 48) rfl)
theorem zk_im_yX0_findWay : Cond.instanceMethod yX0_findWay ∈ zTb := zt5_mem rfl (List.mem_of_getElem? (i := 49) rfl)
theorem zk_se_yX0_findWay : Cond.selects RX0 yX0_findWay yX0_findWay ∈ zTb := zt5_mem rfl (List.mem_of_getElem? (i := 50) rfl)
theorem zk_cd_yX0_findWay : Cond.code yX0_findWay cX0_findWay 6 none ∈ zTb := zt5_mem rfl (List.mem_of_getElem? (i := 51) rfl)
theorem zk_ml_0_30 : Cond.methodLink RX0 30 yX0_weigh ∈ zTb := zt5_mem rfl (List.mem_of_getElem? (i := 52) rfl)
theorem zk_im_yX0_weigh : Cond.instanceMethod yX0_weigh ∈ zTb := zt5_mem rfl (List.mem_of_getElem? (i := 54) rfl)
theorem zk_cd_yX0_weigh : Cond.code yX0_weigh cX0_weigh 4 none ∈ zTb := zt5_mem rfl (List.mem_of_getElem? (i := 55) rfl)
theorem zk_ml_0_78 : Cond.methodLink RX0 78 yX6_set ∈ zTb := zt5_mem rfl (List.mem_of_getElem? (i := 56) rfl)
theorem zk_ml_0_66 : Cond.methodLink RX0 66 yX6_get ∈ zTb := zt5_mem rfl (List.mem_of_getElem? (i := 57) rfl)
theorem zk_ml_0_34 : Cond.methodLink RX0 34 yX0_lastMisfit ∈ zTb := zt5_mem rfl (List.mem_of_getElem? (i := 58) rfl)
theorem zk_st_yX0_lastMisfit : Cond.static yX0_lastMisfit ∈ zTb := zt5_mem rfl (List.mem_of_getElem? (i := 59) rfl)
theorem zk_cd_yX0_lastMisfit : Cond.code yX0_lastMisfit cX0_lastMisfit 2 (some .int) ∈ zTb := zt5_mem rfl (List.mem_of_getElem? (i := 60) rfl)
theorem zk_st_yX11_fits : Cond.static yX11_fits ∈ zTb := zt5_mem rfl (List.mem_of_getElem? (i := 62) rfl)
theorem zk_cd_yX11_fits : Cond.code yX11_fits cX11_fits 2 (some .boolean) ∈ zTb := zt5_mem rfl (List.mem_of_getElem? (i := 63) rfl)
theorem zk_fl_11_459 : Cond.fieldLink RX11 459 "RegrowDesk" "FOLLOWERS" "[I" ∈ zTb := zt5_mem rfl (List.mem_of_getElem? (i := 64) rfl)
theorem zk_ml_0_44 : Cond.methodLink RX0 44 yX10_begin ∈ zTb := zt5_mem rfl (List.mem_of_getElem? (i := 66) rfl)
theorem zk_im_yX10_begin : Cond.instanceMethod yX10_begin ∈ zTb := zt5_mem rfl (List.mem_of_getElem? (i := 67) rfl)
theorem zk_se_yX10_begin : Cond.selects RX10 yX10_begin yX10_begin ∈ zTb := zt5_mem rfl (List.mem_of_getElem? (i := 68) rfl)
theorem zk_cd_yX10_begin : Cond.code yX10_begin cX10_begin 1 none ∈ zTb := zt5_mem rfl (List.mem_of_getElem? (i := 69) rfl)
theorem zk_ml_10_24 : Cond.methodLink RX10 24 yX6_set ∈ zTb := zt5_mem rfl (List.mem_of_getElem? (i := 70) rfl)
theorem zk_ml_0_47 : Cond.methodLink RX0 47 yX0_couldGo ∈ zTb := zt5_mem rfl (List.mem_of_getElem? (i := 71) rfl)
theorem zk_im_yX0_couldGo : Cond.instanceMethod yX0_couldGo ∈ zTb := zt5_mem rfl (List.mem_of_getElem? (i := 73) rfl)
theorem zk_cd_yX0_couldGo : Cond.code yX0_couldGo cX0_couldGo 6 (some .boolean) ∈ zTb := zt5_mem rfl (List.mem_of_getElem? (i := 74) rfl)
theorem zk_ml_0_51 : Cond.methodLink RX0 51 yX10_copyFrom ∈ zTb := zt5_mem rfl (List.mem_of_getElem? (i := 75) rfl)
theorem zk_im_yX10_copyFrom : Cond.instanceMethod yX10_copyFrom ∈ zTb := zt5_mem rfl (List.mem_of_getElem? (i := 76) rfl)
theorem zk_se_yX10_copyFrom : Cond.selects RX10 yX10_copyFrom yX10_copyFrom ∈ zTb := zt5_mem rfl (List.mem_of_getElem? (i := 77) rfl)
theorem zk_cd_yX10_copyFrom : Cond.code yX10_copyFrom cX10_copyFrom 2 none ∈ zTb := zt5_mem rfl (List.mem_of_getElem? (i := 78) rfl)
theorem zk_ml_10_28 : Cond.methodLink RX10 28 yX6_copyFrom ∈ zTb := zt5_mem rfl (List.mem_of_getElem? (i := 79) rfl)
theorem zk_ml_0_55 : Cond.methodLink RX0 55 yX10_acceptsFrom ∈ zTb := zt5_mem rfl (List.mem_of_getElem? (i := 80) rfl)
theorem zk_im_yX10_acceptsFrom : Cond.instanceMethod yX10_acceptsFrom ∈ zTb := zt5_mem rfl (List.mem_of_getElem? (i := 81) rfl)
theorem zk_se_yX10_acceptsFrom : Cond.selects RX10 yX10_acceptsFrom yX10_acceptsFrom ∈ zTb := zt5_mem rfl (List.mem_of_getElem? (i := 82) rfl)
theorem zk_cd_yX10_acceptsFrom : Cond.code yX10_acceptsFrom cX10_acceptsFrom 4 (some .boolean) ∈ zTb := zt5_mem rfl (List.mem_of_getElem? (i := 83) rfl)
theorem zk_ml_10_32 : Cond.methodLink RX10 32 yX6_get ∈ zTb := zt5_mem rfl (List.mem_of_getElem? (i := 84) rfl)
theorem zk_ml_10_57 : Cond.methodLink RX10 57 yX10_accepts ∈ zTb := zt5_mem rfl (List.mem_of_getElem? (i := 85) rfl)
theorem zk_im_yX10_accepts : Cond.instanceMethod yX10_accepts ∈ zTb := zt5_mem rfl (List.mem_of_getElem? (i := 86) rfl)
theorem zk_se_yX10_accepts : Cond.selects RX10 yX10_accepts yX10_accepts ∈ zTb := zt5_mem rfl (List.mem_of_getElem? (i := 87) rfl)
theorem zk_cd_yX10_accepts : Cond.code yX10_accepts cX10_accepts 6 (some .boolean) ∈ zTb := zt5_mem rfl (List.mem_of_getElem? (i := 88) rfl)
theorem zk_ml_0_59 : Cond.methodLink RX0 59 yX0_found ∈ zTb := zt5_mem rfl (List.mem_of_getElem? (i := 93) rfl)
theorem zk_im_yX0_found : Cond.instanceMethod yX0_found ∈ zTb := zt5_mem rfl (List.mem_of_getElem? (i := 95) rfl)
theorem zk_cd_yX0_found : Cond.code yX0_found cX0_found 3 none ∈ zTb := zt5_mem rfl (List.mem_of_getElem? (i := 96) rfl)
theorem zk_ml_0_70 : Cond.methodLink RX0 70 yX10_accepts ∈ zTb := zt5_mem rfl (List.mem_of_getElem? (i := 97) rfl)
theorem zk_ml_L_86 : Cond.methodLink RL 86 yX11_expected ∈ zTb := zt5_mem rfl (List.mem_of_getElem? (i := 98) rfl)
theorem zk_im_yX11_expected : Cond.instanceMethod yX11_expected ∈ zTb := zt5_mem rfl (List.mem_of_getElem? (i := 99) rfl)
theorem zk_se_yX11_expected : Cond.selects RX11 yX11_expected yX11_expected ∈ zTb := zt5_mem rfl (List.mem_of_getElem? (i := 100) rfl)
theorem zk_cd_yX11_expected : Cond.code yX11_expected cX11_expected 2 (some .int) ∈ zTb := zt5_mem rfl (List.mem_of_getElem? (i := 101) rfl)
theorem zk_ml_11_226 : Cond.methodLink RX11 226 yX0_kindsInPlace ∈ zTb := zt5_mem rfl (List.mem_of_getElem? (i := 102) rfl)
theorem zk_im_yX0_kindsInPlace : Cond.instanceMethod yX0_kindsInPlace ∈ zTb := zt5_mem rfl (List.mem_of_getElem? (i := 103) rfl)
theorem zk_se_yX0_kindsInPlace : Cond.selects RX0 yX0_kindsInPlace yX0_kindsInPlace ∈ zTb := zt5_mem rfl (List.mem_of_getElem? (i := 104) rfl)
theorem zk_cd_yX0_kindsInPlace : Cond.code yX0_kindsInPlace cX0_kindsInPlace 4 (some .int) ∈ zTb := zt5_mem rfl (List.mem_of_getElem? (i := 105) rfl)
theorem zk_ml_0_81 : Cond.methodLink RX0 81 yX0_goToWrong ∈ zTb := zt5_mem rfl (List.mem_of_getElem? (i := 106) rfl)
theorem zk_im_yX0_goToWrong : Cond.instanceMethod yX0_goToWrong ∈ zTb := zt5_mem rfl (List.mem_of_getElem? (i := 108) rfl)
theorem zk_cd_yX0_goToWrong : Cond.code yX0_goToWrong cX0_goToWrong 3 none ∈ zTb := zt5_mem rfl (List.mem_of_getElem? (i := 109) rfl)
theorem zk_ml_L_90 : Cond.methodLink RL 90 yX11_mend ∈ zTb := zt5_mem rfl (List.mem_of_getElem? (i := 110) rfl)
theorem zk_im_yX11_mend : Cond.instanceMethod yX11_mend ∈ zTb := zt5_mem rfl (List.mem_of_getElem? (i := 111) rfl)
theorem zk_se_yX11_mend : Cond.selects RX11 yX11_mend yX11_mend ∈ zTb := zt5_mem rfl (List.mem_of_getElem? (i := 112) rfl)
theorem zk_cd_yX11_mend : Cond.code yX11_mend cX11_mend 3 (some .int) ∈ zTb := zt5_mem rfl (List.mem_of_getElem? (i := 113) rfl)
theorem zk_ml_11_230 : Cond.methodLink RX11 230 yX0_findMend ∈ zTb := zt5_mem rfl (List.mem_of_getElem? (i := 114) rfl)
theorem zk_im_yX0_findMend : Cond.instanceMethod yX0_findMend ∈ zTb := zt5_mem rfl (List.mem_of_getElem? (i := 115) rfl)
theorem zk_se_yX0_findMend : Cond.selects RX0 yX0_findMend yX0_findMend ∈ zTb := zt5_mem rfl (List.mem_of_getElem? (i := 116) rfl)
theorem zk_cd_yX0_findMend : Cond.code yX0_findMend cX0_findMend 5 none ∈ zTb := zt5_mem rfl (List.mem_of_getElem? (i := 117) rfl)
theorem zk_ml_L_65 : Cond.methodLink RL 65 yX11_node ∈ zTb := zt5_mem rfl (List.mem_of_getElem? (i := 118) rfl)
theorem zk_im_yX11_node : Cond.instanceMethod yX11_node ∈ zTb := zt5_mem rfl (List.mem_of_getElem? (i := 119) rfl)
theorem zk_se_yX11_node : Cond.selects RX11 yX11_node yX11_node ∈ zTb := zt5_mem rfl (List.mem_of_getElem? (i := 120) rfl)
theorem zk_cd_yX11_node : Cond.code yX11_node cX11_node 3 (some .int) ∈ zTb := zt5_mem rfl (List.mem_of_getElem? (i := 121) rfl)
theorem zk_ml_11_233 : Cond.methodLink RX11 233 yX3_has ∈ zTb := zt5_mem rfl (List.mem_of_getElem? (i := 122) rfl)
theorem zk_ml_11_240 : Cond.methodLink RX11 240 yX3_childrenOf ∈ zTb := zt5_mem rfl (List.mem_of_getElem? (i := 123) rfl)
theorem zk_ml_11_251 : Cond.methodLink RX11 251 yX11_isEnd ∈ zTb := zt5_mem rfl (List.mem_of_getElem? (i := 124) rfl)
theorem zk_im_yX11_isEnd : Cond.instanceMethod yX11_isEnd ∈ zTb := zt5_mem rfl (List.mem_of_getElem? (i := 126) rfl)
theorem zk_cd_yX11_isEnd : Cond.code yX11_isEnd cX11_isEnd 2 (some .boolean) ∈ zTb := zt5_mem rfl (List.mem_of_getElem? (i := 127) rfl)
theorem zk_ml_11_254 : Cond.methodLink RX11 254 yX9_holds ∈ zTb := zt5_mem rfl (List.mem_of_getElem? (i := 128) rfl)
theorem zk_ml_11_257 : Cond.methodLink RX11 257 yX9_parentOf ∈ zTb := zt5_mem rfl (List.mem_of_getElem? (i := 129) rfl)
theorem zk_ml_L_69 : Cond.methodLink RL 69 yX11_child ∈ zTb := zt5_mem rfl (List.mem_of_getElem? (i := 130) rfl)
theorem zk_im_yX11_child : Cond.instanceMethod yX11_child ∈ zTb := zt5_mem rfl (List.mem_of_getElem? (i := 131) rfl)
theorem zk_se_yX11_child : Cond.selects RX11 yX11_child yX11_child ∈ zTb := zt5_mem rfl (List.mem_of_getElem? (i := 132) rfl)
theorem zk_cd_yX11_child : Cond.code yX11_child cX11_child 3 (some .int) ∈ zTb := zt5_mem rfl (List.mem_of_getElem? (i := 133) rfl)
theorem zk_ml_11_266 : Cond.methodLink RX11 266 yX3_childOf ∈ zTb := zt5_mem rfl (List.mem_of_getElem? (i := 134) rfl)
theorem zk_ml_L_114 : Cond.methodLink RL 114 yX11_beside ∈ zTb := zt5_mem rfl (List.mem_of_getElem? (i := 135) rfl)
theorem zk_im_yX11_beside : Cond.instanceMethod yX11_beside ∈ zTb := zt5_mem rfl (List.mem_of_getElem? (i := 136) rfl)
theorem zk_se_yX11_beside : Cond.selects RX11 yX11_beside yX11_beside ∈ zTb := zt5_mem rfl (List.mem_of_getElem? (i := 137) rfl)
theorem zk_cd_yX11_beside : Cond.code yX11_beside cX11_beside 2 (some .int) ∈ zTb := zt5_mem rfl (List.mem_of_getElem? (i := 138) rfl)
theorem zk_ml_11_270 : Cond.methodLink RX11 270 yX9_sibling ∈ zTb := zt5_mem rfl (List.mem_of_getElem? (i := 139) rfl)
theorem zk_im_yX9_sibling : Cond.instanceMethod yX9_sibling ∈ zTb := zt5_mem rfl (List.mem_of_getElem? (i := 140) rfl)
theorem zk_se_yX9_sibling : Cond.selects RX9 yX9_sibling yX9_sibling ∈ zTb := zt5_mem rfl (List.mem_of_getElem? (i := 141) rfl)
theorem zk_cd_yX9_sibling : Cond.code yX9_sibling cX9_sibling 7 (some .int) ∈ zTb := zt5_mem rfl (List.mem_of_getElem? (i := 142) rfl)
theorem zk_ml_9_133 : Cond.methodLink RX9 133 yX9_parentOf ∈ zTb := zt5_mem rfl (List.mem_of_getElem? (i := 143) rfl)
theorem zk_ml_L_126 : Cond.methodLink RL 126 yX11_before ∈ zTb := zt5_mem rfl (List.mem_of_getElem? (i := 144) rfl)
theorem zk_im_yX11_before : Cond.instanceMethod yX11_before ∈ zTb := zt5_mem rfl (List.mem_of_getElem? (i := 145) rfl)
theorem zk_se_yX11_before : Cond.selects RX11 yX11_before yX11_before ∈ zTb := zt5_mem rfl (List.mem_of_getElem? (i := 146) rfl)
theorem zk_cd_yX11_before : Cond.code yX11_before cX11_before 2 (some .int) ∈ zTb := zt5_mem rfl (List.mem_of_getElem? (i := 147) rfl)
theorem zk_ml_L_118 : Cond.methodLink RL 118 yX11_span ∈ zTb := zt5_mem rfl (List.mem_of_getElem? (i := 148) rfl)
theorem zk_im_yX11_span : Cond.instanceMethod yX11_span ∈ zTb := zt5_mem rfl (List.mem_of_getElem? (i := 149) rfl)
theorem zk_se_yX11_span : Cond.selects RX11 yX11_span yX11_span ∈ zTb := zt5_mem rfl (List.mem_of_getElem? (i := 150) rfl)
theorem zk_cd_yX11_span : Cond.code yX11_span cX11_span 3 (some .int) ∈ zTb := zt5_mem rfl (List.mem_of_getElem? (i := 151) rfl)
theorem zk_ml_L_98 : Cond.methodLink RL 98 yX11_ruled ∈ zTb := zt5_mem rfl (List.mem_of_getElem? (i := 152) rfl)
theorem zk_im_yX11_ruled : Cond.instanceMethod yX11_ruled ∈ zTb := zt5_mem rfl (List.mem_of_getElem? (i := 153) rfl)
theorem zk_se_yX11_ruled : Cond.selects RX11 yX11_ruled yX11_ruled ∈ zTb := zt5_mem rfl (List.mem_of_getElem? (i := 154) rfl)
theorem zk_cd_yX11_ruled : Cond.code yX11_ruled cX11_ruled 2 (some .int) ∈ zTb := zt5_mem rfl (List.mem_of_getElem? (i := 155) rfl)
theorem zk_ml_L_146 : Cond.methodLink RL 146 yX11_above ∈ zTb := zt5_mem rfl (List.mem_of_getElem? (i := 156) rfl)
theorem zk_im_yX11_above : Cond.instanceMethod yX11_above ∈ zTb := zt5_mem rfl (List.mem_of_getElem? (i := 157) rfl)
theorem zk_se_yX11_above : Cond.selects RX11 yX11_above yX11_above ∈ zTb := zt5_mem rfl (List.mem_of_getElem? (i := 158) rfl)
theorem zk_cd_yX11_above : Cond.code yX11_above cX11_above 4 (some .int) ∈ zTb := zt5_mem rfl (List.mem_of_getElem? (i := 159) rfl)
theorem zk_ml_11_282 : Cond.methodLink RX11 282 yX9_lowestOfRule ∈ zTb := zt5_mem rfl (List.mem_of_getElem? (i := 160) rfl)
theorem zk_im_yX9_lowestOfRule : Cond.instanceMethod yX9_lowestOfRule ∈ zTb := zt5_mem rfl (List.mem_of_getElem? (i := 161) rfl)
theorem zk_se_yX9_lowestOfRule : Cond.selects RX9 yX9_lowestOfRule yX9_lowestOfRule ∈ zTb := zt5_mem rfl (List.mem_of_getElem? (i := 162) rfl)
theorem zk_cd_yX9_lowestOfRule : Cond.code yX9_lowestOfRule cX9_lowestOfRule 5 (some .int) ∈ zTb := zt5_mem rfl (List.mem_of_getElem? (i := 163) rfl)
theorem zk_ml_L_150 : Cond.methodLink RL 150 yX11_common ∈ zTb := zt5_mem rfl (List.mem_of_getElem? (i := 164) rfl)
theorem zk_im_yX11_common : Cond.instanceMethod yX11_common ∈ zTb := zt5_mem rfl (List.mem_of_getElem? (i := 165) rfl)
theorem zk_se_yX11_common : Cond.selects RX11 yX11_common yX11_common ∈ zTb := zt5_mem rfl (List.mem_of_getElem? (i := 166) rfl)
theorem zk_cd_yX11_common : Cond.code yX11_common cX11_common 5 (some .int) ∈ zTb := zt5_mem rfl (List.mem_of_getElem? (i := 167) rfl)
theorem zk_ml_11_285 : Cond.methodLink RX11 285 yX9_lowestOver ∈ zTb := zt5_mem rfl (List.mem_of_getElem? (i := 168) rfl)
theorem zk_im_yX9_lowestOver : Cond.instanceMethod yX9_lowestOver ∈ zTb := zt5_mem rfl (List.mem_of_getElem? (i := 169) rfl)
theorem zk_se_yX9_lowestOver : Cond.selects RX9 yX9_lowestOver yX9_lowestOver ∈ zTb := zt5_mem rfl (List.mem_of_getElem? (i := 170) rfl)
theorem zk_cd_yX9_lowestOver : Cond.code yX9_lowestOver cX9_lowestOver 6 (some .int) ∈ zTb := zt5_mem rfl (List.mem_of_getElem? (i := 171) rfl)
theorem zk_ml_9_136 : Cond.methodLink RX9 136 yX9_firstOf ∈ zTb := zt5_mem rfl (List.mem_of_getElem? (i := 172) rfl)
theorem zk_ml_L_170 : Cond.methodLink RL 170 yX11_path ∈ zTb := zt5_mem rfl (List.mem_of_getElem? (i := 173) rfl)
theorem zk_im_yX11_path : Cond.instanceMethod yX11_path ∈ zTb := zt5_mem rfl (List.mem_of_getElem? (i := 174) rfl)
theorem zk_se_yX11_path : Cond.selects RX11 yX11_path yX11_path ∈ zTb := zt5_mem rfl (List.mem_of_getElem? (i := 175) rfl)
theorem zk_cd_yX11_path : Cond.code yX11_path cX11_path 4 (some .int) ∈ zTb := zt5_mem rfl (List.mem_of_getElem? (i := 176) rfl)
theorem zk_ml_11_288 : Cond.methodLink RX11 288 yX9_wayDown ∈ zTb := zt5_mem rfl (List.mem_of_getElem? (i := 177) rfl)
theorem zk_im_yX9_wayDown : Cond.instanceMethod yX9_wayDown ∈ zTb := zt5_mem rfl (List.mem_of_getElem? (i := 178) rfl)
theorem zk_se_yX9_wayDown : Cond.selects RX9 yX9_wayDown yX9_wayDown ∈ zTb := zt5_mem rfl (List.mem_of_getElem? (i := 179) rfl)
theorem zk_cd_yX9_wayDown : Cond.code yX9_wayDown cX9_wayDown 6 (some .int) ∈ zTb := zt5_mem rfl (List.mem_of_getElem? (i := 180) rfl)
theorem zk_ml_L_94 : Cond.methodLink RL 94 yX11_print ∈ zTb := zt5_mem rfl (List.mem_of_getElem? (i := 181) rfl)
theorem zk_im_yX11_print : Cond.instanceMethod yX11_print ∈ zTb := zt5_mem rfl (List.mem_of_getElem? (i := 182) rfl)
theorem zk_se_yX11_print : Cond.selects RX11 yX11_print yX11_print ∈ zTb := zt5_mem rfl (List.mem_of_getElem? (i := 183) rfl)
theorem zk_cd_yX11_print : Cond.code yX11_print cX11_print 2 (some .int) ∈ zTb := zt5_mem rfl (List.mem_of_getElem? (i := 184) rfl)
theorem zk_ml_L_166 : Cond.methodLink RL 166 yX11_alike ∈ zTb := zt5_mem rfl (List.mem_of_getElem? (i := 185) rfl)
theorem zk_im_yX11_alike : Cond.instanceMethod yX11_alike ∈ zTb := zt5_mem rfl (List.mem_of_getElem? (i := 186) rfl)
theorem zk_se_yX11_alike : Cond.selects RX11 yX11_alike yX11_alike ∈ zTb := zt5_mem rfl (List.mem_of_getElem? (i := 187) rfl)
theorem zk_cd_yX11_alike : Cond.code yX11_alike cX11_alike 3 (some .int) ∈ zTb := zt5_mem rfl (List.mem_of_getElem? (i := 188) rfl)
theorem zk_ml_11_294 : Cond.methodLink RX11 294 yX9_holdsExpression ∈ zTb := zt5_mem rfl (List.mem_of_getElem? (i := 189) rfl)
theorem zk_im_yX9_holdsExpression : Cond.instanceMethod yX9_holdsExpression ∈ zTb := zt5_mem rfl (List.mem_of_getElem? (i := 190) rfl)
theorem zk_se_yX9_holdsExpression : Cond.selects RX9 yX9_holdsExpression yX9_holdsExpression ∈ zTb := zt5_mem rfl (List.mem_of_getElem? (i := 191) rfl)
theorem zk_cd_yX9_holdsExpression : Cond.code yX9_holdsExpression cX9_holdsExpression 2 (some .boolean) ∈ zTb := zt5_mem rfl (List.mem_of_getElem? (i := 192) rfl)
theorem zk_ml_11_297 : Cond.methodLink RX11 297 yX11_printsAlike ∈ zTb := zt5_mem rfl (List.mem_of_getElem? (i := 193) rfl)
theorem zk_im_yX11_printsAlike : Cond.instanceMethod yX11_printsAlike ∈ zTb := zt5_mem rfl (List.mem_of_getElem? (i := 195) rfl)
theorem zk_cd_yX11_printsAlike : Cond.code yX11_printsAlike cX11_printsAlike 7 (some .boolean) ∈ zTb := zt5_mem rfl (List.mem_of_getElem? (i := 196) rfl)
theorem zk_ml_L_162 : Cond.methodLink RL 162 yX11_firm ∈ zTb := zt5_mem rfl (List.mem_of_getElem? (i := 197) rfl)
theorem zk_im_yX11_firm : Cond.instanceMethod yX11_firm ∈ zTb := zt5_mem rfl (List.mem_of_getElem? (i := 198) rfl)
theorem zk_se_yX11_firm : Cond.selects RX11 yX11_firm yX11_firm ∈ zTb := zt5_mem rfl (List.mem_of_getElem? (i := 199) rfl)
theorem zk_cd_yX11_firm : Cond.code yX11_firm cX11_firm 2 (some .int) ∈ zTb := zt5_mem rfl (List.mem_of_getElem? (i := 200) rfl)
theorem zk_ml_11_300 : Cond.methodLink RX11 300 yX9_readsName ∈ zTb := zt5_mem rfl (List.mem_of_getElem? (i := 201) rfl)
theorem zk_im_yX9_readsName : Cond.instanceMethod yX9_readsName ∈ zTb := zt5_mem rfl (List.mem_of_getElem? (i := 202) rfl)
theorem zk_se_yX9_readsName : Cond.selects RX9 yX9_readsName yX9_readsName ∈ zTb := zt5_mem rfl (List.mem_of_getElem? (i := 203) rfl)
theorem zk_cd_yX9_readsName : Cond.code yX9_readsName cX9_readsName 4 (some .boolean) ∈ zTb := zt5_mem rfl (List.mem_of_getElem? (i := 204) rfl)
theorem zk_ml_9_139 : Cond.methodLink RX9 139 yX9_placeBehind ∈ zTb := zt5_mem rfl (List.mem_of_getElem? (i := 205) rfl)
theorem zk_im_yX9_placeBehind : Cond.instanceMethod yX9_placeBehind ∈ zTb := zt5_mem rfl (List.mem_of_getElem? (i := 206) rfl)
theorem zk_se_yX9_placeBehind : Cond.selects RX9 yX9_placeBehind yX9_placeBehind ∈ zTb := zt5_mem rfl (List.mem_of_getElem? (i := 207) rfl)
theorem zk_cd_yX9_placeBehind : Cond.code yX9_placeBehind cX9_placeBehind 3 (some .int) ∈ zTb := zt5_mem rfl (List.mem_of_getElem? (i := 208) rfl)
theorem zk_ml_L_130 : Cond.methodLink RL 130 yX11_runs ∈ zTb := zt5_mem rfl (List.mem_of_getElem? (i := 209) rfl)
theorem zk_im_yX11_runs : Cond.instanceMethod yX11_runs ∈ zTb := zt5_mem rfl (List.mem_of_getElem? (i := 210) rfl)
theorem zk_se_yX11_runs : Cond.selects RX11 yX11_runs yX11_runs ∈ zTb := zt5_mem rfl (List.mem_of_getElem? (i := 211) rfl)
theorem zk_cd_yX11_runs : Cond.code yX11_runs cX11_runs 1 (some .int) ∈ zTb := zt5_mem rfl (List.mem_of_getElem? (i := 212) rfl)
theorem zk_ml_L_134 : Cond.methodLink RL 134 yX11_run ∈ zTb := zt5_mem rfl (List.mem_of_getElem? (i := 213) rfl)
theorem zk_im_yX11_run : Cond.instanceMethod yX11_run ∈ zTb := zt5_mem rfl (List.mem_of_getElem? (i := 214) rfl)
theorem zk_se_yX11_run : Cond.selects RX11 yX11_run yX11_run ∈ zTb := zt5_mem rfl (List.mem_of_getElem? (i := 215) rfl)
theorem zk_cd_yX11_run : Cond.code yX11_run cX11_run 2 (some .int) ∈ zTb := zt5_mem rfl (List.mem_of_getElem? (i := 216) rfl)
theorem zk_ml_L_110 : Cond.methodLink RL 110 yX11_young ∈ zTb := zt5_mem rfl (List.mem_of_getElem? (i := 217) rfl)
theorem zk_im_yX11_young : Cond.instanceMethod yX11_young ∈ zTb := zt5_mem rfl (List.mem_of_getElem? (i := 218) rfl)
theorem zk_se_yX11_young : Cond.selects RX11 yX11_young yX11_young ∈ zTb := zt5_mem rfl (List.mem_of_getElem? (i := 219) rfl)
theorem zk_cd_yX11_young : Cond.code yX11_young cX11_young 2 (some .int) ∈ zTb := zt5_mem rfl (List.mem_of_getElem? (i := 220) rfl)
theorem zk_ml_11_312 : Cond.methodLink RX11 312 yX9_madeWithin ∈ zTb := zt5_mem rfl (List.mem_of_getElem? (i := 221) rfl)
theorem zk_im_yX9_madeWithin : Cond.instanceMethod yX9_madeWithin ∈ zTb := zt5_mem rfl (List.mem_of_getElem? (i := 222) rfl)
theorem zk_se_yX9_madeWithin : Cond.selects RX9 yX9_madeWithin yX9_madeWithin ∈ zTb := zt5_mem rfl (List.mem_of_getElem? (i := 223) rfl)
theorem zk_cd_yX9_madeWithin : Cond.code yX9_madeWithin cX9_madeWithin 6 (some .int) ∈ zTb := zt5_mem rfl (List.mem_of_getElem? (i := 224) rfl)
theorem zk_ml_L_102 : Cond.methodLink RL 102 yX11_row ∈ zTb := zt5_mem rfl (List.mem_of_getElem? (i := 225) rfl)
theorem zk_im_yX11_row : Cond.instanceMethod yX11_row ∈ zTb := zt5_mem rfl (List.mem_of_getElem? (i := 226) rfl)
theorem zk_se_yX11_row : Cond.selects RX11 yX11_row yX11_row ∈ zTb := zt5_mem rfl (List.mem_of_getElem? (i := 227) rfl)
theorem zk_cd_yX11_row : Cond.code yX11_row cX11_row 2 (some .int) ∈ zTb := zt5_mem rfl (List.mem_of_getElem? (i := 228) rfl)
theorem zk_ml_11_315 : Cond.methodLink RX11 315 yX4_depthOf ∈ zTb := zt5_mem rfl (List.mem_of_getElem? (i := 229) rfl)
theorem zk_st_yX4_depthOf : Cond.static yX4_depthOf ∈ zTb := zt5_mem rfl (List.mem_of_getElem? (i := 230) rfl)
theorem zk_cd_yX4_depthOf : Cond.code yX4_depthOf cX4_depthOf 2 (some .int) ∈ zTb := zt5_mem rfl (List.mem_of_getElem? (i := 231) rfl)
theorem zk_ml_L_106 : Cond.methodLink RL 106 yX11_pair ∈ zTb := zt5_mem rfl (List.mem_of_getElem? (i := 232) rfl)
theorem zk_im_yX11_pair : Cond.instanceMethod yX11_pair ∈ zTb := zt5_mem rfl (List.mem_of_getElem? (i := 233) rfl)
theorem zk_se_yX11_pair : Cond.selects RX11 yX11_pair yX11_pair ∈ zTb := zt5_mem rfl (List.mem_of_getElem? (i := 234) rfl)
theorem zk_cd_yX11_pair : Cond.code yX11_pair cX11_pair 3 (some .int) ∈ zTb := zt5_mem rfl (List.mem_of_getElem? (i := 235) rfl)
theorem zk_ml_L_138 : Cond.methodLink RL 138 yX11_value ∈ zTb := zt5_mem rfl (List.mem_of_getElem? (i := 236) rfl)
theorem zk_im_yX11_value : Cond.instanceMethod yX11_value ∈ zTb := zt5_mem rfl (List.mem_of_getElem? (i := 237) rfl)
theorem zk_se_yX11_value : Cond.selects RX11 yX11_value yX11_value ∈ zTb := zt5_mem rfl (List.mem_of_getElem? (i := 238) rfl)
theorem zk_cd_yX11_value : Cond.code yX11_value cX11_value 2 (some .int) ∈ zTb := zt5_mem rfl (List.mem_of_getElem? (i := 239) rfl)
theorem zk_ml_11_325 : Cond.methodLink RX11 325 yX11_isGoodName ∈ zTb := zt6_mem rfl (List.mem_of_getElem? (i := 0) rfl)
theorem zk_im_yX11_isGoodName : Cond.instanceMethod yX11_isGoodName ∈ zTb := zt6_mem rfl (List.mem_of_getElem? (i := 2) rfl)
theorem zk_cd_yX11_isGoodName : Cond.code yX11_isGoodName cX11_isGoodName 3 (some .boolean) ∈ zTb := zt6_mem rfl (List.mem_of_getElem? (i := 3) rfl)
theorem zk_ml_11_328 : Cond.methodLink RX11 328 yX7_valueOf ∈ zTb := zt6_mem rfl (List.mem_of_getElem? (i := 4) rfl)
theorem zk_ml_L_142 : Cond.methodLink RL 142 yX11_worth ∈ zTb := zt6_mem rfl (List.mem_of_getElem? (i := 5) rfl)
theorem zk_im_yX11_worth : Cond.instanceMethod yX11_worth ∈ zTb := zt6_mem rfl (List.mem_of_getElem? (i := 6) rfl)
theorem zk_se_yX11_worth : Cond.selects RX11 yX11_worth yX11_worth ∈ zTb := zt6_mem rfl (List.mem_of_getElem? (i := 7) rfl)
theorem zk_cd_yX11_worth : Cond.code yX11_worth cX11_worth 2 (some .int) ∈ zTb := zt6_mem rfl (List.mem_of_getElem? (i := 8) rfl)
theorem zk_ml_L_154 : Cond.methodLink RL 154 yX11_uses ∈ zTb := zt6_mem rfl (List.mem_of_getElem? (i := 9) rfl)
theorem zk_im_yX11_uses : Cond.instanceMethod yX11_uses ∈ zTb := zt6_mem rfl (List.mem_of_getElem? (i := 10) rfl)
theorem zk_se_yX11_uses : Cond.selects RX11 yX11_uses yX11_uses ∈ zTb := zt6_mem rfl (List.mem_of_getElem? (i := 11) rfl)
theorem zk_cd_yX11_uses : Cond.code yX11_uses cX11_uses 2 (some .int) ∈ zTb := zt6_mem rfl (List.mem_of_getElem? (i := 12) rfl)
theorem zk_ml_L_174 : Cond.methodLink RL 174 yX11_sets ∈ zTb := zt6_mem rfl (List.mem_of_getElem? (i := 13) rfl)
theorem zk_im_yX11_sets : Cond.instanceMethod yX11_sets ∈ zTb := zt6_mem rfl (List.mem_of_getElem? (i := 14) rfl)
theorem zk_se_yX11_sets : Cond.selects RX11 yX11_sets yX11_sets ∈ zTb := zt6_mem rfl (List.mem_of_getElem? (i := 15) rfl)
theorem zk_cd_yX11_sets : Cond.code yX11_sets cX11_sets 2 (some .int) ∈ zTb := zt6_mem rfl (List.mem_of_getElem? (i := 16) rfl)
theorem zk_ml_11_340 : Cond.methodLink RX11 340 yX7_timesSet ∈ zTb := zt6_mem rfl (List.mem_of_getElem? (i := 17) rfl)
theorem zk_im_yX7_timesSet : Cond.instanceMethod yX7_timesSet ∈ zTb := zt6_mem rfl (List.mem_of_getElem? (i := 18) rfl)
theorem zk_se_yX7_timesSet : Cond.selects RX7 yX7_timesSet yX7_timesSet ∈ zTb := zt6_mem rfl (List.mem_of_getElem? (i := 19) rfl)
theorem zk_cd_yX7_timesSet : Cond.code yX7_timesSet cX7_timesSet 2 (some .int) ∈ zTb := zt6_mem rfl (List.mem_of_getElem? (i := 20) rfl)
theorem zk_ml_L_158 : Cond.methodLink RL 158 yX11_idle ∈ zTb := zt6_mem rfl (List.mem_of_getElem? (i := 21) rfl)
theorem zk_im_yX11_idle : Cond.instanceMethod yX11_idle ∈ zTb := zt6_mem rfl (List.mem_of_getElem? (i := 22) rfl)
theorem zk_se_yX11_idle : Cond.selects RX11 yX11_idle yX11_idle ∈ zTb := zt6_mem rfl (List.mem_of_getElem? (i := 23) rfl)
theorem zk_cd_yX11_idle : Cond.code yX11_idle cX11_idle 2 (some .int) ∈ zTb := zt6_mem rfl (List.mem_of_getElem? (i := 24) rfl)
theorem zk_ml_L_73 : Cond.methodLink RL 73 yX11_last ∈ zTb := zt6_mem rfl (List.mem_of_getElem? (i := 25) rfl)
theorem zk_im_yX11_last : Cond.instanceMethod yX11_last ∈ zTb := zt6_mem rfl (List.mem_of_getElem? (i := 26) rfl)
theorem zk_se_yX11_last : Cond.selects RX11 yX11_last yX11_last ∈ zTb := zt6_mem rfl (List.mem_of_getElem? (i := 27) rfl)
theorem zk_cd_yX11_last : Cond.code yX11_last cX11_last 2 (some .int) ∈ zTb := zt6_mem rfl (List.mem_of_getElem? (i := 28) rfl)
theorem zk_ml_L_178 : Cond.methodLink RL 178 yX11_count ∈ zTb := zt6_mem rfl (List.mem_of_getElem? (i := 29) rfl)
theorem zk_im_yX11_count : Cond.instanceMethod yX11_count ∈ zTb := zt6_mem rfl (List.mem_of_getElem? (i := 30) rfl)
theorem zk_se_yX11_count : Cond.selects RX11 yX11_count yX11_count ∈ zTb := zt6_mem rfl (List.mem_of_getElem? (i := 31) rfl)
theorem zk_cd_yX11_count : Cond.code yX11_count cX11_count 3 (some .int) ∈ zTb := zt6_mem rfl (List.mem_of_getElem? (i := 32) rfl)
theorem zk_ml_11_356 : Cond.methodLink RX11 356 yX11_countInTree ∈ zTb := zt6_mem rfl (List.mem_of_getElem? (i := 33) rfl)
theorem zk_im_yX11_countInTree : Cond.instanceMethod yX11_countInTree ∈ zTb := zt6_mem rfl (List.mem_of_getElem? (i := 35) rfl)
theorem zk_cd_yX11_countInTree : Cond.code yX11_countInTree cX11_countInTree 2 (some .int) ∈ zTb := zt6_mem rfl (List.mem_of_getElem? (i := 36) rfl)
theorem zk_cl_L_10 : Cond.classLink RL 10 RX12 ∈ zTb := zt6_mem rfl (List.mem_of_getElem? (i := 37) rfl)
theorem zk_ia_12 : Cond.instantiable RX12 82 ∈ zTb := zt6_mem rfl (List.mem_of_getElem? (i := 38) rfl)
theorem zk_ml_L_12 : Cond.methodLink RL 12 yX12_init ∈ zTb := zt6_mem rfl (List.mem_of_getElem? (i := 39) rfl)
theorem zk_im_yX12_init : Cond.instanceMethod yX12_init ∈ zTb := zt6_mem rfl (List.mem_of_getElem? (i := 40) rfl)
theorem zk_cd_yX12_init : Cond.code yX12_init cX12_init 1 none ∈ zTb := zt6_mem rfl (List.mem_of_getElem? (i := 41) rfl)
theorem zk_ml_12_1 : Cond.methodLink RX12 1 objectInit ∈ zTb := zt6_mem rfl (List.mem_of_getElem? (i := 42) rfl)
theorem zk_co_12_89 : Cond.constant RX12 89 185000 ∈ zTb := zt6_mem rfl (List.mem_of_getElem? (i := 43) rfl)
theorem zk_ml_12_174 : Cond.methodLink RX12 174 yX12_newNode ∈ zTb := zt6_mem rfl (List.mem_of_getElem? (i := 44) rfl)
theorem zk_im_yX12_newNode : Cond.instanceMethod yX12_newNode ∈ zTb := zt6_mem rfl (List.mem_of_getElem? (i := 46) rfl)
theorem zk_cd_yX12_newNode : Cond.code yX12_newNode cX12_newNode 4 (some .int) ∈ zTb := zt6_mem rfl (List.mem_of_getElem? (i := 47) rfl)
theorem zk_ml_12_186 : Cond.methodLink RX12 186 yX12_cutsUp ∈ zTb := zt6_mem rfl (List.mem_of_getElem? (i := 48) rfl)
theorem zk_im_yX12_cutsUp : Cond.instanceMethod yX12_cutsUp ∈ zTb := zt6_mem rfl (List.mem_of_getElem? (i := 50) rfl)
theorem zk_cd_yX12_cutsUp : Cond.code yX12_cutsUp cX12_cutsUp 4 none ∈ zTb := zt6_mem rfl (List.mem_of_getElem? (i := 51) rfl)
theorem zk_ml_12_229 : Cond.methodLink RX12 229 yX12_tokenAt ∈ zTb := zt6_mem rfl (List.mem_of_getElem? (i := 52) rfl)
theorem zk_im_yX12_tokenAt : Cond.instanceMethod yX12_tokenAt ∈ zTb := zt6_mem rfl (List.mem_of_getElem? (i := 54) rfl)
theorem zk_cd_yX12_tokenAt : Cond.code yX12_tokenAt cX12_tokenAt 8 (some .int) ∈ zTb := zt6_mem rfl (List.mem_of_getElem? (i := 55) rfl)
theorem zk_ml_12_208 : Cond.methodLink RX12 208 yX12_byteAt ∈ zTb := zt6_mem rfl (List.mem_of_getElem? (i := 56) rfl)
theorem zk_im_yX12_byteAt : Cond.instanceMethod yX12_byteAt ∈ zTb := zt6_mem rfl (List.mem_of_getElem? (i := 58) rfl)
theorem zk_cd_yX12_byteAt : Cond.code yX12_byteAt cX12_byteAt 2 (some .int) ∈ zTb := zt6_mem rfl (List.mem_of_getElem? (i := 59) rfl)
theorem zk_ml_12_215 : Cond.methodLink RX12 215 yX12_isLetter ∈ zTb := zt6_mem rfl (List.mem_of_getElem? (i := 60) rfl)
theorem zk_st_yX12_isLetter : Cond.static yX12_isLetter ∈ zTb := zt6_mem rfl (List.mem_of_getElem? (i := 61) rfl)
theorem zk_cd_yX12_isLetter : Cond.code yX12_isLetter cX12_isLetter 1 (some .boolean) ∈ zTb := zt6_mem rfl (List.mem_of_getElem? (i := 62) rfl)
theorem zk_co_12_219 : Cond.constantLong RX12 219 27 ∈ zTb := zt6_mem rfl (List.mem_of_getElem? (i := 63) rfl)
theorem zk_ml_12_221 : Cond.methodLink RX12 221 yX12_isDigit ∈ zTb := zt6_mem rfl (List.mem_of_getElem? (i := 64) rfl)
theorem zk_st_yX12_isDigit : Cond.static yX12_isDigit ∈ zTb := zt6_mem rfl (List.mem_of_getElem? (i := 65) rfl)
theorem zk_cd_yX12_isDigit : Cond.code yX12_isDigit cX12_isDigit 1 (some .boolean) ∈ zTb := zt6_mem rfl (List.mem_of_getElem? (i := 66) rfl)
theorem zk_co_12_224 : Cond.constantLong RX12 224 10 ∈ zTb := zt6_mem rfl (List.mem_of_getElem? (i := 67) rfl)
theorem zk_ml_12_226 : Cond.methodLink RX12 226 yX12_kindOf ∈ zTb := zt6_mem rfl (List.mem_of_getElem? (i := 68) rfl)
theorem zk_st_yX12_kindOf : Cond.static yX12_kindOf ∈ zTb := zt6_mem rfl (List.mem_of_getElem? (i := 69) rfl)
theorem zk_cd_yX12_kindOf : Cond.code yX12_kindOf cX12_kindOf 1 (some .int) ∈ zTb := zt6_mem rfl (List.mem_of_getElem? (i := 70) rfl)
theorem zk_ml_12_190 : Cond.methodLink RX12 190 yX12_keepsTokens ∈ zTb := zt6_mem rfl (List.mem_of_getElem? (i := 71) rfl)
theorem zk_im_yX12_keepsTokens : Cond.instanceMethod yX12_keepsTokens ∈ zTb := zt6_mem rfl (List.mem_of_getElem? (i := 73) rfl)
theorem zk_cd_yX12_keepsTokens : Cond.code yX12_keepsTokens cX12_keepsTokens 2 none ∈ zTb := zt6_mem rfl (List.mem_of_getElem? (i := 74) rfl)
theorem zk_ml_12_238 : Cond.methodLink RX12 238 yX12_keepsGood ∈ zTb := zt6_mem rfl (List.mem_of_getElem? (i := 75) rfl)
theorem zk_im_yX12_keepsGood : Cond.instanceMethod yX12_keepsGood ∈ zTb := zt6_mem rfl (List.mem_of_getElem? (i := 77) rfl)
theorem zk_cd_yX12_keepsGood : Cond.code yX12_keepsGood cX12_keepsGood 2 none ∈ zTb := zt6_mem rfl (List.mem_of_getElem? (i := 78) rfl)
theorem zk_ml_12_193 : Cond.methodLink RX12 193 yX12_fillsTree ∈ zTb := zt6_mem rfl (List.mem_of_getElem? (i := 79) rfl)
theorem zk_im_yX12_fillsTree : Cond.instanceMethod yX12_fillsTree ∈ zTb := zt6_mem rfl (List.mem_of_getElem? (i := 81) rfl)
theorem zk_cd_yX12_fillsTree : Cond.code yX12_fillsTree cX12_fillsTree 6 none ∈ zTb := zt6_mem rfl (List.mem_of_getElem? (i := 82) rfl)
theorem zk_ml_12_283 : Cond.methodLink RX12 283 yX12_fillsRuns ∈ zTb := zt6_mem rfl (List.mem_of_getElem? (i := 83) rfl)
theorem zk_im_yX12_fillsRuns : Cond.instanceMethod yX12_fillsRuns ∈ zTb := zt6_mem rfl (List.mem_of_getElem? (i := 85) rfl)
theorem zk_cd_yX12_fillsRuns : Cond.code yX12_fillsRuns cX12_fillsRuns 4 none ∈ zTb := zt6_mem rfl (List.mem_of_getElem? (i := 86) rfl)
theorem zk_ml_12_196 : Cond.methodLink RX12 196 yX12_keeps ∈ zTb := zt6_mem rfl (List.mem_of_getElem? (i := 87) rfl)
theorem zk_im_yX12_keeps : Cond.instanceMethod yX12_keeps ∈ zTb := zt6_mem rfl (List.mem_of_getElem? (i := 89) rfl)
theorem zk_cd_yX12_keeps : Cond.code yX12_keeps cX12_keeps 4 none ∈ zTb := zt6_mem rfl (List.mem_of_getElem? (i := 90) rfl)
theorem zk_fl_12_199 : Cond.fieldLink RX12 199 "RegrowDeskModel" "taped" "I" ∈ zTb := zt6_mem rfl (List.mem_of_getElem? (i := 91) rfl)
theorem zk_fl_12_7 : Cond.fieldLink RX12 7 "RegrowDeskModel" "tape" "[I" ∈ zTb := zt6_mem rfl (List.mem_of_getElem? (i := 92) rfl)
theorem zk_fl_12_13 : Cond.fieldLink RX12 13 "RegrowDeskModel" "newAt" "[I" ∈ zTb := zt6_mem rfl (List.mem_of_getElem? (i := 93) rfl)
theorem zk_fl_12_205 : Cond.fieldLink RX12 205 "RegrowDeskModel" "newMany" "I" ∈ zTb := zt6_mem rfl (List.mem_of_getElem? (i := 94) rfl)
theorem zk_fl_12_16 : Cond.fieldLink RX12 16 "RegrowDeskModel" "nowAt" "[I" ∈ zTb := zt6_mem rfl (List.mem_of_getElem? (i := 95) rfl)
theorem zk_fl_12_232 : Cond.fieldLink RX12 232 "RegrowDeskModel" "nowMany" "I" ∈ zTb := zt6_mem rfl (List.mem_of_getElem? (i := 96) rfl)
theorem zk_fl_12_19 : Cond.fieldLink RX12 19 "RegrowDeskModel" "goodAt" "[I" ∈ zTb := zt6_mem rfl (List.mem_of_getElem? (i := 97) rfl)
theorem zk_fl_12_241 : Cond.fieldLink RX12 241 "RegrowDeskModel" "goodMany" "I" ∈ zTb := zt6_mem rfl (List.mem_of_getElem? (i := 98) rfl)
theorem zk_fl_12_182 : Cond.fieldLink RX12 182 "RegrowDeskModel" "isGood" "Z" ∈ zTb := zt6_mem rfl (List.mem_of_getElem? (i := 99) rfl)
theorem zk_fl_12_212 : Cond.fieldLink RX12 212 "RegrowDeskModel" "newTokens" "I" ∈ zTb := zt6_mem rfl (List.mem_of_getElem? (i := 100) rfl)
theorem zk_fl_12_22 : Cond.fieldLink RX12 22 "RegrowDeskModel" "newKind" "[I" ∈ zTb := zt6_mem rfl (List.mem_of_getElem? (i := 101) rfl)
theorem zk_fl_12_25 : Cond.fieldLink RX12 25 "RegrowDeskModel" "newPlace" "[I" ∈ zTb := zt6_mem rfl (List.mem_of_getElem? (i := 102) rfl)
theorem zk_fl_12_28 : Cond.fieldLink RX12 28 "RegrowDeskModel" "newWide" "[I" ∈ zTb := zt6_mem rfl (List.mem_of_getElem? (i := 103) rfl)
theorem zk_fl_12_31 : Cond.fieldLink RX12 31 "RegrowDeskModel" "newIs" "[J" ∈ zTb := zt6_mem rfl (List.mem_of_getElem? (i := 104) rfl)
theorem zk_fl_12_35 : Cond.fieldLink RX12 35 "RegrowDeskModel" "newNodeAt" "[I" ∈ zTb := zt6_mem rfl (List.mem_of_getElem? (i := 105) rfl)
theorem zk_fl_12_235 : Cond.fieldLink RX12 235 "RegrowDeskModel" "nowTokens" "I" ∈ zTb := zt6_mem rfl (List.mem_of_getElem? (i := 106) rfl)
theorem zk_fl_12_38 : Cond.fieldLink RX12 38 "RegrowDeskModel" "nowKind" "[I" ∈ zTb := zt6_mem rfl (List.mem_of_getElem? (i := 107) rfl)
theorem zk_fl_12_41 : Cond.fieldLink RX12 41 "RegrowDeskModel" "nowPlace" "[I" ∈ zTb := zt6_mem rfl (List.mem_of_getElem? (i := 108) rfl)
theorem zk_fl_12_44 : Cond.fieldLink RX12 44 "RegrowDeskModel" "nowWide" "[I" ∈ zTb := zt6_mem rfl (List.mem_of_getElem? (i := 109) rfl)
theorem zk_fl_12_244 : Cond.fieldLink RX12 244 "RegrowDeskModel" "goodTokens" "I" ∈ zTb := zt6_mem rfl (List.mem_of_getElem? (i := 110) rfl)
theorem zk_fl_12_47 : Cond.fieldLink RX12 47 "RegrowDeskModel" "goodKind" "[I" ∈ zTb := zt6_mem rfl (List.mem_of_getElem? (i := 111) rfl)
theorem zk_fl_12_50 : Cond.fieldLink RX12 50 "RegrowDeskModel" "goodPlace" "[I" ∈ zTb := zt6_mem rfl (List.mem_of_getElem? (i := 112) rfl)
theorem zk_fl_12_53 : Cond.fieldLink RX12 53 "RegrowDeskModel" "goodWide" "[I" ∈ zTb := zt6_mem rfl (List.mem_of_getElem? (i := 113) rfl)
theorem zk_fl_12_56 : Cond.fieldLink RX12 56 "RegrowDeskModel" "goodIs" "[J" ∈ zTb := zt6_mem rfl (List.mem_of_getElem? (i := 114) rfl)
theorem zk_fl_12_59 : Cond.fieldLink RX12 59 "RegrowDeskModel" "goodNode" "[I" ∈ zTb := zt6_mem rfl (List.mem_of_getElem? (i := 115) rfl)
theorem zk_fl_12_247 : Cond.fieldLink RX12 247 "RegrowDeskModel" "nodes" "I" ∈ zTb := zt6_mem rfl (List.mem_of_getElem? (i := 116) rfl)
theorem zk_fl_12_62 : Cond.fieldLink RX12 62 "RegrowDeskModel" "nodeRule" "[I" ∈ zTb := zt6_mem rfl (List.mem_of_getElem? (i := 117) rfl)
theorem zk_fl_12_65 : Cond.fieldLink RX12 65 "RegrowDeskModel" "nodeKind" "[I" ∈ zTb := zt6_mem rfl (List.mem_of_getElem? (i := 118) rfl)
theorem zk_fl_12_68 : Cond.fieldLink RX12 68 "RegrowDeskModel" "nodeIs" "[J" ∈ zTb := zt6_mem rfl (List.mem_of_getElem? (i := 119) rfl)
theorem zk_fl_12_71 : Cond.fieldLink RX12 71 "RegrowDeskModel" "childMany" "[I" ∈ zTb := zt6_mem rfl (List.mem_of_getElem? (i := 120) rfl)
theorem zk_fl_12_74 : Cond.fieldLink RX12 74 "RegrowDeskModel" "childAt" "[I" ∈ zTb := zt6_mem rfl (List.mem_of_getElem? (i := 121) rfl)
theorem zk_fl_12_77 : Cond.fieldLink RX12 77 "RegrowDeskModel" "nodeState" "[I" ∈ zTb := zt6_mem rfl (List.mem_of_getElem? (i := 122) rfl)
theorem zk_fl_12_80 : Cond.fieldLink RX12 80 "RegrowDeskModel" "nodeTokens" "[I" ∈ zTb := zt6_mem rfl (List.mem_of_getElem? (i := 123) rfl)
theorem zk_fl_12_83 : Cond.fieldLink RX12 83 "RegrowDeskModel" "nodeEdit" "[I" ∈ zTb := zt6_mem rfl (List.mem_of_getElem? (i := 124) rfl)
theorem zk_fl_12_86 : Cond.fieldLink RX12 86 "RegrowDeskModel" "readMany" "[I" ∈ zTb := zt6_mem rfl (List.mem_of_getElem? (i := 125) rfl)
theorem zk_fl_12_90 : Cond.fieldLink RX12 90 "RegrowDeskModel" "readAt" "[I" ∈ zTb := zt6_mem rfl (List.mem_of_getElem? (i := 126) rfl)
theorem zk_fl_12_250 : Cond.fieldLink RX12 250 "RegrowDeskModel" "edits" "I" ∈ zTb := zt6_mem rfl (List.mem_of_getElem? (i := 127) rfl)
theorem zk_fl_12_178 : Cond.fieldLink RX12 178 "RegrowDeskModel" "tree" "I" ∈ zTb := zt6_mem rfl (List.mem_of_getElem? (i := 128) rfl)
theorem zk_fl_12_93 : Cond.fieldLink RX12 93 "RegrowDeskModel" "pileState" "[I" ∈ zTb := zt6_mem rfl (List.mem_of_getElem? (i := 129) rfl)
theorem zk_fl_12_253 : Cond.fieldLink RX12 253 "RegrowDeskModel" "pileMany" "I" ∈ zTb := zt6_mem rfl (List.mem_of_getElem? (i := 130) rfl)
theorem zk_fl_12_96 : Cond.fieldLink RX12 96 "RegrowDeskModel" "tryKind" "[I" ∈ zTb := zt6_mem rfl (List.mem_of_getElem? (i := 131) rfl)
theorem zk_fl_12_277 : Cond.fieldLink RX12 277 "RegrowDeskModel" "tryMany" "I" ∈ zTb := zt6_mem rfl (List.mem_of_getElem? (i := 132) rfl)
theorem zk_fl_12_265 : Cond.fieldLink RX12 265 "RegrowDeskModel" "trySteps" "I" ∈ zTb := zt6_mem rfl (List.mem_of_getElem? (i := 133) rfl)
theorem zk_fl_12_280 : Cond.fieldLink RX12 280 "RegrowDeskModel" "orderMany" "I" ∈ zTb := zt6_mem rfl (List.mem_of_getElem? (i := 134) rfl)
theorem zk_fl_12_99 : Cond.fieldLink RX12 99 "RegrowDeskModel" "orderAt" "[I" ∈ zTb := zt6_mem rfl (List.mem_of_getElem? (i := 135) rfl)
theorem zk_fl_12_102 : Cond.fieldLink RX12 102 "RegrowDeskModel" "orderEnd" "[I" ∈ zTb := zt6_mem rfl (List.mem_of_getElem? (i := 136) rfl)
theorem zk_fl_12_105 : Cond.fieldLink RX12 105 "RegrowDeskModel" "whereIn" "[I" ∈ zTb := zt6_mem rfl (List.mem_of_getElem? (i := 137) rfl)
theorem zk_fl_12_108 : Cond.fieldLink RX12 108 "RegrowDeskModel" "aboveOf" "[I" ∈ zTb := zt6_mem rfl (List.mem_of_getElem? (i := 138) rfl)
theorem zk_fl_12_111 : Cond.fieldLink RX12 111 "RegrowDeskModel" "whichChild" "[I" ∈ zTb := zt6_mem rfl (List.mem_of_getElem? (i := 139) rfl)
theorem zk_fl_12_114 : Cond.fieldLink RX12 114 "RegrowDeskModel" "firstToken" "[I" ∈ zTb := zt6_mem rfl (List.mem_of_getElem? (i := 140) rfl)
theorem zk_fl_12_117 : Cond.fieldLink RX12 117 "RegrowDeskModel" "treePile" "[I" ∈ zTb := zt6_mem rfl (List.mem_of_getElem? (i := 141) rfl)
theorem zk_fl_12_290 : Cond.fieldLink RX12 290 "RegrowDeskModel" "runMany" "I" ∈ zTb := zt6_mem rfl (List.mem_of_getElem? (i := 142) rfl)
theorem zk_fl_12_120 : Cond.fieldLink RX12 120 "RegrowDeskModel" "runAt" "[I" ∈ zTb := zt6_mem rfl (List.mem_of_getElem? (i := 143) rfl)
theorem zk_fl_12_293 : Cond.fieldLink RX12 293 "RegrowDeskModel" "setMany" "I" ∈ zTb := zt6_mem rfl (List.mem_of_getElem? (i := 144) rfl)
theorem zk_fl_12_123 : Cond.fieldLink RX12 123 "RegrowDeskModel" "setAt" "[I" ∈ zTb := zt6_mem rfl (List.mem_of_getElem? (i := 145) rfl)
theorem zk_fl_12_296 : Cond.fieldLink RX12 296 "RegrowDeskModel" "namesMany" "I" ∈ zTb := zt6_mem rfl (List.mem_of_getElem? (i := 146) rfl)
theorem zk_fl_12_126 : Cond.fieldLink RX12 126 "RegrowDeskModel" "nameIs" "[J" ∈ zTb := zt6_mem rfl (List.mem_of_getElem? (i := 147) rfl)
theorem zk_fl_12_129 : Cond.fieldLink RX12 129 "RegrowDeskModel" "nameValue" "[I" ∈ zTb := zt6_mem rfl (List.mem_of_getElem? (i := 148) rfl)
theorem zk_fl_12_132 : Cond.fieldLink RX12 132 "RegrowDeskModel" "comesTo" "[I" ∈ zTb := zt6_mem rfl (List.mem_of_getElem? (i := 149) rfl)
theorem zk_fl_12_312 : Cond.fieldLink RX12 312 "RegrowDeskModel" "pairs" "I" ∈ zTb := zt6_mem rfl (List.mem_of_getElem? (i := 150) rfl)
theorem zk_fl_12_135 : Cond.fieldLink RX12 135 "RegrowDeskModel" "pairFirst" "[I" ∈ zTb := zt6_mem rfl (List.mem_of_getElem? (i := 151) rfl)
theorem zk_fl_12_138 : Cond.fieldLink RX12 138 "RegrowDeskModel" "pairSecond" "[I" ∈ zTb := zt6_mem rfl (List.mem_of_getElem? (i := 152) rfl)
theorem zk_fl_12_141 : Cond.fieldLink RX12 141 "RegrowDeskModel" "partFrom" "[I" ∈ zTb := zt6_mem rfl (List.mem_of_getElem? (i := 153) rfl)
theorem zk_fl_12_144 : Cond.fieldLink RX12 144 "RegrowDeskModel" "partTo" "[I" ∈ zTb := zt6_mem rfl (List.mem_of_getElem? (i := 154) rfl)
theorem zk_fl_12_147 : Cond.fieldLink RX12 147 "RegrowDeskModel" "partFirst" "[I" ∈ zTb := zt6_mem rfl (List.mem_of_getElem? (i := 155) rfl)
theorem zk_fl_12_315 : Cond.fieldLink RX12 315 "RegrowDeskModel" "rowDeep" "I" ∈ zTb := zt6_mem rfl (List.mem_of_getElem? (i := 156) rfl)
theorem zk_fl_12_325 : Cond.fieldLink RX12 325 "RegrowDeskModel" "keptAhead" "I" ∈ zTb := zt6_mem rfl (List.mem_of_getElem? (i := 157) rfl)
theorem zk_fl_12_328 : Cond.fieldLink RX12 328 "RegrowDeskModel" "keptBehind" "I" ∈ zTb := zt6_mem rfl (List.mem_of_getElem? (i := 158) rfl)
theorem zk_fl_12_150 : Cond.fieldLink RX12 150 "RegrowDeskModel" "lastIs" "[I" ∈ zTb := zt6_mem rfl (List.mem_of_getElem? (i := 159) rfl)
theorem zk_fl_12_153 : Cond.fieldLink RX12 153 "RegrowDeskModel" "stackState" "[I" ∈ zTb := zt6_mem rfl (List.mem_of_getElem? (i := 160) rfl)
theorem zk_fl_12_156 : Cond.fieldLink RX12 156 "RegrowDeskModel" "stackNode" "[I" ∈ zTb := zt6_mem rfl (List.mem_of_getElem? (i := 161) rfl)
theorem zk_fl_12_334 : Cond.fieldLink RX12 334 "RegrowDeskModel" "stackMany" "I" ∈ zTb := zt6_mem rfl (List.mem_of_getElem? (i := 162) rfl)
theorem zk_fl_12_337 : Cond.fieldLink RX12 337 "RegrowDeskModel" "steps" "I" ∈ zTb := zt6_mem rfl (List.mem_of_getElem? (i := 163) rfl)
theorem zk_fl_12_344 : Cond.fieldLink RX12 344 "RegrowDeskModel" "takenMany" "I" ∈ zTb := zt6_mem rfl (List.mem_of_getElem? (i := 164) rfl)
theorem zk_fl_12_159 : Cond.fieldLink RX12 159 "RegrowDeskModel" "oldOrder" "[I" ∈ zTb := zt6_mem rfl (List.mem_of_getElem? (i := 165) rfl)
theorem zk_fl_12_379 : Cond.fieldLink RX12 379 "RegrowDeskModel" "stateNow" "I" ∈ zTb := zt6_mem rfl (List.mem_of_getElem? (i := 166) rfl)
theorem zk_fl_12_382 : Cond.fieldLink RX12 382 "RegrowDeskModel" "stateEnd" "I" ∈ zTb := zt6_mem rfl (List.mem_of_getElem? (i := 167) rfl)
theorem zk_fl_12_162 : Cond.fieldLink RX12 162 "RegrowDeskModel" "states" "[I" ∈ zTb := zt6_mem rfl (List.mem_of_getElem? (i := 168) rfl)
theorem zk_fl_12_165 : Cond.fieldLink RX12 165 "RegrowDeskModel" "printPile" "[I" ∈ zTb := zt6_mem rfl (List.mem_of_getElem? (i := 169) rfl)
theorem zk_fl_12_168 : Cond.fieldLink RX12 168 "RegrowDeskModel" "printAt" "[I" ∈ zTb := zt6_mem rfl (List.mem_of_getElem? (i := 170) rfl)
theorem zk_fl_12_430 : Cond.fieldLink RX12 430 "RegrowDeskModel" "printMany" "I" ∈ zTb := zt6_mem rfl (List.mem_of_getElem? (i := 171) rfl)
theorem zk_fl_12_171 : Cond.fieldLink RX12 171 "RegrowDeskModel" "otherPrint" "[I" ∈ zTb := zt6_mem rfl (List.mem_of_getElem? (i := 172) rfl)
theorem zk_ac_long : Cond.arrayClass .long ∈ zTb := zt7_mem rfl (List.mem_of_getElem? (i := 98) rfl)
theorem zk_ml_L_17 : Cond.methodLink RL 17 yX12_feed ∈ zTb := zt7_mem rfl (List.mem_of_getElem? (i := 99) rfl)
theorem zk_im_yX12_feed : Cond.instanceMethod yX12_feed ∈ zTb := zt7_mem rfl (List.mem_of_getElem? (i := 100) rfl)
theorem zk_se_yX12_feed : Cond.selects RX12 yX12_feed yX12_feed ∈ zTb := zt7_mem rfl (List.mem_of_getElem? (i := 101) rfl)
theorem zk_cd_yX12_feed : Cond.code yX12_feed cX12_feed 6 (some .int) ∈ zTb := zt7_mem rfl (List.mem_of_getElem? (i := 102) rfl)
theorem zk_ml_12_202 : Cond.methodLink RX12 202 yX12_lays ∈ zTb := zt7_mem rfl (List.mem_of_getElem? (i := 103) rfl)
theorem zk_im_yX12_lays : Cond.instanceMethod yX12_lays ∈ zTb := zt7_mem rfl (List.mem_of_getElem? (i := 105) rfl)
theorem zk_cd_yX12_lays : Cond.code yX12_lays cX12_lays 3 none ∈ zTb := zt7_mem rfl (List.mem_of_getElem? (i := 106) rfl)
theorem zk_ml_L_22 : Cond.methodLink RL 22 yX12_back ∈ zTb := zt7_mem rfl (List.mem_of_getElem? (i := 107) rfl)
theorem zk_im_yX12_back : Cond.instanceMethod yX12_back ∈ zTb := zt7_mem rfl (List.mem_of_getElem? (i := 108) rfl)
theorem zk_se_yX12_back : Cond.selects RX12 yX12_back yX12_back ∈ zTb := zt7_mem rfl (List.mem_of_getElem? (i := 109) rfl)
theorem zk_cd_yX12_back : Cond.code yX12_back cX12_back 2 (some .int) ∈ zTb := zt7_mem rfl (List.mem_of_getElem? (i := 110) rfl)
theorem zk_ml_L_48 : Cond.methodLink RL 48 yX12_undo ∈ zTb := zt7_mem rfl (List.mem_of_getElem? (i := 111) rfl)
theorem zk_im_yX12_undo : Cond.instanceMethod yX12_undo ∈ zTb := zt7_mem rfl (List.mem_of_getElem? (i := 112) rfl)
theorem zk_se_yX12_undo : Cond.selects RX12 yX12_undo yX12_undo ∈ zTb := zt7_mem rfl (List.mem_of_getElem? (i := 113) rfl)
theorem zk_cd_yX12_undo : Cond.code yX12_undo cX12_undo 1 (some .boolean) ∈ zTb := zt7_mem rfl (List.mem_of_getElem? (i := 114) rfl)
theorem zk_ml_12_385 : Cond.methodLink RX12 385 yX12_goesTo ∈ zTb := zt7_mem rfl (List.mem_of_getElem? (i := 115) rfl)
theorem zk_im_yX12_goesTo : Cond.instanceMethod yX12_goesTo ∈ zTb := zt7_mem rfl (List.mem_of_getElem? (i := 117) rfl)
theorem zk_cd_yX12_goesTo : Cond.code yX12_goesTo cX12_goesTo 4 none ∈ zTb := zt7_mem rfl (List.mem_of_getElem? (i := 118) rfl)
theorem zk_ml_L_52 : Cond.methodLink RL 52 yX12_redo ∈ zTb := zt7_mem rfl (List.mem_of_getElem? (i := 119) rfl)
theorem zk_im_yX12_redo : Cond.instanceMethod yX12_redo ∈ zTb := zt7_mem rfl (List.mem_of_getElem? (i := 120) rfl)
theorem zk_se_yX12_redo : Cond.selects RX12 yX12_redo yX12_redo ∈ zTb := zt7_mem rfl (List.mem_of_getElem? (i := 121) rfl)
theorem zk_cd_yX12_redo : Cond.code yX12_redo cX12_redo 1 (some .boolean) ∈ zTb := zt7_mem rfl (List.mem_of_getElem? (i := 122) rfl)
theorem zk_ml_L_27 : Cond.methodLink RL 27 yX12_edit ∈ zTb := zt7_mem rfl (List.mem_of_getElem? (i := 123) rfl)
theorem zk_im_yX12_edit : Cond.instanceMethod yX12_edit ∈ zTb := zt7_mem rfl (List.mem_of_getElem? (i := 124) rfl)
theorem zk_se_yX12_edit : Cond.selects RX12 yX12_edit yX12_edit ∈ zTb := zt7_mem rfl (List.mem_of_getElem? (i := 125) rfl)
theorem zk_cd_yX12_edit : Cond.code yX12_edit cX12_edit 5 (some .int) ∈ zTb := zt7_mem rfl (List.mem_of_getElem? (i := 126) rfl)
theorem zk_ml_12_286 : Cond.methodLink RX12 286 yX12_in ∈ zTb := zt7_mem rfl (List.mem_of_getElem? (i := 127) rfl)
theorem zk_st_yX12_in : Cond.static yX12_in ∈ zTb := zt7_mem rfl (List.mem_of_getElem? (i := 128) rfl)
theorem zk_cd_yX12_in : Cond.code yX12_in cX12_in 3 (some .boolean) ∈ zTb := zt7_mem rfl (List.mem_of_getElem? (i := 129) rfl)
theorem zk_ml_12_388 : Cond.methodLink RX12 388 yX12_isRefused ∈ zTb := zt7_mem rfl (List.mem_of_getElem? (i := 130) rfl)
theorem zk_im_yX12_isRefused : Cond.instanceMethod yX12_isRefused ∈ zTb := zt7_mem rfl (List.mem_of_getElem? (i := 132) rfl)
theorem zk_cd_yX12_isRefused : Cond.code yX12_isRefused cX12_isRefused 2 (some .boolean) ∈ zTb := zt7_mem rfl (List.mem_of_getElem? (i := 133) rfl)
theorem zk_ml_12_391 : Cond.methodLink RX12 391 yX12_edited ∈ zTb := zt7_mem rfl (List.mem_of_getElem? (i := 134) rfl)
theorem zk_im_yX12_edited : Cond.instanceMethod yX12_edited ∈ zTb := zt7_mem rfl (List.mem_of_getElem? (i := 136) rfl)
theorem zk_cd_yX12_edited : Cond.code yX12_edited cX12_edited 9 (some .int) ∈ zTb := zt7_mem rfl (List.mem_of_getElem? (i := 137) rfl)
theorem zk_ml_12_356 : Cond.methodLink RX12 356 yX12_ruleNodes ∈ zTb := zt7_mem rfl (List.mem_of_getElem? (i := 138) rfl)
theorem zk_im_yX12_ruleNodes : Cond.instanceMethod yX12_ruleNodes ∈ zTb := zt7_mem rfl (List.mem_of_getElem? (i := 140) rfl)
theorem zk_cd_yX12_ruleNodes : Cond.code yX12_ruleNodes cX12_ruleNodes 3 (some .int) ∈ zTb := zt7_mem rfl (List.mem_of_getElem? (i := 141) rfl)
theorem zk_ml_12_360 : Cond.methodLink RX12 360 yX12_fillsKept ∈ zTb := zt7_mem rfl (List.mem_of_getElem? (i := 142) rfl)
theorem zk_im_yX12_fillsKept : Cond.instanceMethod yX12_fillsKept ∈ zTb := zt7_mem rfl (List.mem_of_getElem? (i := 144) rfl)
theorem zk_cd_yX12_fillsKept : Cond.code yX12_fillsKept cX12_fillsKept 4 none ∈ zTb := zt7_mem rfl (List.mem_of_getElem? (i := 145) rfl)
theorem zk_ml_12_321 : Cond.methodLink RX12 321 yX12_areAlike ∈ zTb := zt7_mem rfl (List.mem_of_getElem? (i := 146) rfl)
theorem zk_im_yX12_areAlike : Cond.instanceMethod yX12_areAlike ∈ zTb := zt7_mem rfl (List.mem_of_getElem? (i := 148) rfl)
theorem zk_cd_yX12_areAlike : Cond.code yX12_areAlike cX12_areAlike 3 (some .boolean) ∈ zTb := zt7_mem rfl (List.mem_of_getElem? (i := 149) rfl)
theorem zk_ml_12_363 : Cond.methodLink RX12 363 yX12_makesTokens ∈ zTb := zt7_mem rfl (List.mem_of_getElem? (i := 150) rfl)
theorem zk_im_yX12_makesTokens : Cond.instanceMethod yX12_makesTokens ∈ zTb := zt7_mem rfl (List.mem_of_getElem? (i := 152) rfl)
theorem zk_cd_yX12_makesTokens : Cond.code yX12_makesTokens cX12_makesTokens 5 (some .int) ∈ zTb := zt7_mem rfl (List.mem_of_getElem? (i := 153) rfl)
theorem zk_ml_12_347 : Cond.methodLink RX12 347 yX12_wasOf ∈ zTb := zt7_mem rfl (List.mem_of_getElem? (i := 154) rfl)
theorem zk_im_yX12_wasOf : Cond.instanceMethod yX12_wasOf ∈ zTb := zt7_mem rfl (List.mem_of_getElem? (i := 156) rfl)
theorem zk_cd_yX12_wasOf : Cond.code yX12_wasOf cX12_wasOf 2 (some .int) ∈ zTb := zt7_mem rfl (List.mem_of_getElem? (i := 157) rfl)
theorem zk_ml_12_366 : Cond.methodLink RX12 366 yX12_grows ∈ zTb := zt7_mem rfl (List.mem_of_getElem? (i := 158) rfl)
theorem zk_im_yX12_grows : Cond.instanceMethod yX12_grows ∈ zTb := zt7_mem rfl (List.mem_of_getElem? (i := 160) rfl)
theorem zk_cd_yX12_grows : Cond.code yX12_grows cX12_grows 8 (some .int) ∈ zTb := zt7_mem rfl (List.mem_of_getElem? (i := 161) rfl)
theorem zk_ml_12_340 : Cond.methodLink RX12 340 yX12_laysOn ∈ zTb := zt7_mem rfl (List.mem_of_getElem? (i := 162) rfl)
theorem zk_im_yX12_laysOn : Cond.instanceMethod yX12_laysOn ∈ zTb := zt7_mem rfl (List.mem_of_getElem? (i := 164) rfl)
theorem zk_cd_yX12_laysOn : Cond.code yX12_laysOn cX12_laysOn 3 none ∈ zTb := zt7_mem rfl (List.mem_of_getElem? (i := 165) rfl)
theorem zk_ml_12_350 : Cond.methodLink RX12 350 yX12_takenFor ∈ zTb := zt7_mem rfl (List.mem_of_getElem? (i := 166) rfl)
theorem zk_im_yX12_takenFor : Cond.instanceMethod yX12_takenFor ∈ zTb := zt7_mem rfl (List.mem_of_getElem? (i := 168) rfl)
theorem zk_cd_yX12_takenFor : Cond.code yX12_takenFor cX12_takenFor 5 (some .int) ∈ zTb := zt7_mem rfl (List.mem_of_getElem? (i := 169) rfl)
theorem zk_ml_12_331 : Cond.methodLink RX12 331 yX12_areTogether ∈ zTb := zt7_mem rfl (List.mem_of_getElem? (i := 170) rfl)
theorem zk_im_yX12_areTogether : Cond.instanceMethod yX12_areTogether ∈ zTb := zt7_mem rfl (List.mem_of_getElem? (i := 172) rfl)
theorem zk_cd_yX12_areTogether : Cond.code yX12_areTogether cX12_areTogether 3 (some .boolean) ∈ zTb := zt7_mem rfl (List.mem_of_getElem? (i := 173) rfl)
theorem zk_ml_12_268 : Cond.methodLink RX12 268 yX12_shifts ∈ zTb := zt7_mem rfl (List.mem_of_getElem? (i := 174) rfl)
theorem zk_st_yX12_shifts : Cond.static yX12_shifts ∈ zTb := zt7_mem rfl (List.mem_of_getElem? (i := 175) rfl)
theorem zk_cd_yX12_shifts : Cond.code yX12_shifts cX12_shifts 2 (some .int) ∈ zTb := zt7_mem rfl (List.mem_of_getElem? (i := 176) rfl)
theorem zk_ml_12_271 : Cond.methodLink RX12 271 yX12_ruleOf ∈ zTb := zt7_mem rfl (List.mem_of_getElem? (i := 177) rfl)
theorem zk_st_yX12_ruleOf : Cond.static yX12_ruleOf ∈ zTb := zt7_mem rfl (List.mem_of_getElem? (i := 178) rfl)
theorem zk_cd_yX12_ruleOf : Cond.code yX12_ruleOf cX12_ruleOf 1 (some .int) ∈ zTb := zt7_mem rfl (List.mem_of_getElem? (i := 179) rfl)
theorem zk_ml_12_259 : Cond.methodLink RX12 259 yX12_symbolOf ∈ zTb := zt7_mem rfl (List.mem_of_getElem? (i := 180) rfl)
theorem zk_st_yX12_symbolOf : Cond.static yX12_symbolOf ∈ zTb := zt7_mem rfl (List.mem_of_getElem? (i := 181) rfl)
theorem zk_cd_yX12_symbolOf : Cond.code yX12_symbolOf cX12_symbolOf 1 (some .int) ∈ zTb := zt7_mem rfl (List.mem_of_getElem? (i := 182) rfl)
theorem zk_ml_12_262 : Cond.methodLink RX12 262 yX12_leads ∈ zTb := zt7_mem rfl (List.mem_of_getElem? (i := 183) rfl)
theorem zk_st_yX12_leads : Cond.static yX12_leads ∈ zTb := zt7_mem rfl (List.mem_of_getElem? (i := 184) rfl)
theorem zk_cd_yX12_leads : Cond.code yX12_leads cX12_leads 2 (some .int) ∈ zTb := zt7_mem rfl (List.mem_of_getElem? (i := 185) rfl)
theorem zk_ml_12_353 : Cond.methodLink RX12 353 yX12_makesBy ∈ zTb := zt7_mem rfl (List.mem_of_getElem? (i := 186) rfl)
theorem zk_im_yX12_makesBy : Cond.instanceMethod yX12_makesBy ∈ zTb := zt7_mem rfl (List.mem_of_getElem? (i := 188) rfl)
theorem zk_cd_yX12_makesBy : Cond.code yX12_makesBy cX12_makesBy 6 none ∈ zTb := zt7_mem rfl (List.mem_of_getElem? (i := 189) rfl)
theorem zk_ml_12_256 : Cond.methodLink RX12 256 yX12_manyOf ∈ zTb := zt7_mem rfl (List.mem_of_getElem? (i := 190) rfl)
theorem zk_st_yX12_manyOf : Cond.static yX12_manyOf ∈ zTb := zt7_mem rfl (List.mem_of_getElem? (i := 191) rfl)
theorem zk_cd_yX12_manyOf : Cond.code yX12_manyOf cX12_manyOf 1 (some .int) ∈ zTb := zt7_mem rfl (List.mem_of_getElem? (i := 192) rfl)
theorem zk_ml_12_369 : Cond.methodLink RX12 369 yX12_rowNow ∈ zTb := zt7_mem rfl (List.mem_of_getElem? (i := 193) rfl)
theorem zk_im_yX12_rowNow : Cond.instanceMethod yX12_rowNow ∈ zTb := zt7_mem rfl (List.mem_of_getElem? (i := 195) rfl)
theorem zk_cd_yX12_rowNow : Cond.code yX12_rowNow cX12_rowNow 7 (some .int) ∈ zTb := zt7_mem rfl (List.mem_of_getElem? (i := 196) rfl)
theorem zk_ml_12_318 : Cond.methodLink RX12 318 yX12_pairOf ∈ zTb := zt7_mem rfl (List.mem_of_getElem? (i := 197) rfl)
theorem zk_im_yX12_pairOf : Cond.instanceMethod yX12_pairOf ∈ zTb := zt7_mem rfl (List.mem_of_getElem? (i := 199) rfl)
theorem zk_cd_yX12_pairOf : Cond.code yX12_pairOf cX12_pairOf 4 (some .int) ∈ zTb := zt7_mem rfl (List.mem_of_getElem? (i := 200) rfl)
theorem zk_ml_12_372 : Cond.methodLink RX12 372 yX12_runsAll ∈ zTb := zt7_mem rfl (List.mem_of_getElem? (i := 201) rfl)
theorem zk_im_yX12_runsAll : Cond.instanceMethod yX12_runsAll ∈ zTb := zt7_mem rfl (List.mem_of_getElem? (i := 203) rfl)
theorem zk_cd_yX12_runsAll : Cond.code yX12_runsAll cX12_runsAll 7 (some .int) ∈ zTb := zt7_mem rfl (List.mem_of_getElem? (i := 204) rfl)
theorem zk_ml_12_306 : Cond.methodLink RX12 306 yX12_reads ∈ zTb := zt7_mem rfl (List.mem_of_getElem? (i := 205) rfl)
theorem zk_im_yX12_reads : Cond.instanceMethod yX12_reads ∈ zTb := zt7_mem rfl (List.mem_of_getElem? (i := 207) rfl)
theorem zk_cd_yX12_reads : Cond.code yX12_reads cX12_reads 8 (some .int) ∈ zTb := zt7_mem rfl (List.mem_of_getElem? (i := 208) rfl)
theorem zk_ml_12_299 : Cond.methodLink RX12 299 yX12_childOf ∈ zTb := zt7_mem rfl (List.mem_of_getElem? (i := 209) rfl)
theorem zk_im_yX12_childOf : Cond.instanceMethod yX12_childOf ∈ zTb := zt7_mem rfl (List.mem_of_getElem? (i := 211) rfl)
theorem zk_cd_yX12_childOf : Cond.code yX12_childOf cX12_childOf 3 (some .int) ∈ zTb := zt7_mem rfl (List.mem_of_getElem? (i := 212) rfl)
theorem zk_ml_12_302 : Cond.methodLink RX12 302 yX12_nameOf ∈ zTb := zt7_mem rfl (List.mem_of_getElem? (i := 213) rfl)
theorem zk_im_yX12_nameOf : Cond.instanceMethod yX12_nameOf ∈ zTb := zt7_mem rfl (List.mem_of_getElem? (i := 215) rfl)
theorem zk_cd_yX12_nameOf : Cond.code yX12_nameOf cX12_nameOf 4 (some .int) ∈ zTb := zt7_mem rfl (List.mem_of_getElem? (i := 216) rfl)
theorem zk_ml_12_309 : Cond.methodLink RX12 309 yX12_reckons ∈ zTb := zt7_mem rfl (List.mem_of_getElem? (i := 217) rfl)
theorem zk_im_yX12_reckons : Cond.instanceMethod yX12_reckons ∈ zTb := zt7_mem rfl (List.mem_of_getElem? (i := 219) rfl)
theorem zk_cd_yX12_reckons : Cond.code yX12_reckons cX12_reckons 4 none ∈ zTb := zt7_mem rfl (List.mem_of_getElem? (i := 220) rfl)
theorem zk_ml_12_376 : Cond.methodLink RX12 376 yX12_remembers ∈ zTb := zt7_mem rfl (List.mem_of_getElem? (i := 221) rfl)
theorem zk_im_yX12_remembers : Cond.instanceMethod yX12_remembers ∈ zTb := zt7_mem rfl (List.mem_of_getElem? (i := 223) rfl)
theorem zk_cd_yX12_remembers : Cond.code yX12_remembers cX12_remembers 2 none ∈ zTb := zt7_mem rfl (List.mem_of_getElem? (i := 224) rfl)
theorem zk_ml_L_31 : Cond.methodLink RL 31 yX12_rename ∈ zTb := zt7_mem rfl (List.mem_of_getElem? (i := 225) rfl)
theorem zk_im_yX12_rename : Cond.instanceMethod yX12_rename ∈ zTb := zt7_mem rfl (List.mem_of_getElem? (i := 226) rfl)
theorem zk_se_yX12_rename : Cond.selects RX12 yX12_rename yX12_rename ∈ zTb := zt7_mem rfl (List.mem_of_getElem? (i := 227) rfl)
theorem zk_cd_yX12_rename : Cond.code yX12_rename cX12_rename 8 (some .int) ∈ zTb := zt7_mem rfl (List.mem_of_getElem? (i := 228) rfl)
theorem zk_ml_12_394 : Cond.methodLink RX12 394 yX12_isGoodName ∈ zTb := zt7_mem rfl (List.mem_of_getElem? (i := 229) rfl)
theorem zk_im_yX12_isGoodName : Cond.instanceMethod yX12_isGoodName ∈ zTb := zt7_mem rfl (List.mem_of_getElem? (i := 231) rfl)
theorem zk_cd_yX12_isGoodName : Cond.code yX12_isGoodName cX12_isGoodName 2 (some .boolean) ∈ zTb := zt7_mem rfl (List.mem_of_getElem? (i := 232) rfl)
theorem zk_ml_12_397 : Cond.methodLink RX12 397 yX12_isName ∈ zTb := zt7_mem rfl (List.mem_of_getElem? (i := 233) rfl)
theorem zk_im_yX12_isName : Cond.instanceMethod yX12_isName ∈ zTb := zt7_mem rfl (List.mem_of_getElem? (i := 235) rfl)
theorem zk_cd_yX12_isName : Cond.code yX12_isName cX12_isName 2 (some .boolean) ∈ zTb := zt7_mem rfl (List.mem_of_getElem? (i := 236) rfl)
theorem zk_ml_L_35 : Cond.methodLink RL 35 yX12_cut ∈ zTb := zt7_mem rfl (List.mem_of_getElem? (i := 237) rfl)
theorem zk_im_yX12_cut : Cond.instanceMethod yX12_cut ∈ zTb := zt7_mem rfl (List.mem_of_getElem? (i := 238) rfl)
theorem zk_se_yX12_cut : Cond.selects RX12 yX12_cut yX12_cut ∈ zTb := zt7_mem rfl (List.mem_of_getElem? (i := 239) rfl)
theorem zk_cd_yX12_cut : Cond.code yX12_cut cX12_cut 3 (some .int) ∈ zTb := zt8_mem rfl (List.mem_of_getElem? (i := 0) rfl)
theorem zk_ml_12_401 : Cond.methodLink RX12 401 yX12_isRun ∈ zTb := zt8_mem rfl (List.mem_of_getElem? (i := 1) rfl)
theorem zk_im_yX12_isRun : Cond.instanceMethod yX12_isRun ∈ zTb := zt8_mem rfl (List.mem_of_getElem? (i := 3) rfl)
theorem zk_cd_yX12_isRun : Cond.code yX12_isRun cX12_isRun 2 (some .boolean) ∈ zTb := zt8_mem rfl (List.mem_of_getElem? (i := 4) rfl)
theorem zk_ml_12_404 : Cond.methodLink RX12 404 yX12_beginOf ∈ zTb := zt8_mem rfl (List.mem_of_getElem? (i := 5) rfl)
theorem zk_im_yX12_beginOf : Cond.instanceMethod yX12_beginOf ∈ zTb := zt8_mem rfl (List.mem_of_getElem? (i := 7) rfl)
theorem zk_cd_yX12_beginOf : Cond.code yX12_beginOf cX12_beginOf 2 (some .int) ∈ zTb := zt8_mem rfl (List.mem_of_getElem? (i := 8) rfl)
theorem zk_ml_12_407 : Cond.methodLink RX12 407 yX12_copies ∈ zTb := zt8_mem rfl (List.mem_of_getElem? (i := 9) rfl)
theorem zk_im_yX12_copies : Cond.instanceMethod yX12_copies ∈ zTb := zt8_mem rfl (List.mem_of_getElem? (i := 11) rfl)
theorem zk_cd_yX12_copies : Cond.code yX12_copies cX12_copies 5 (some .int) ∈ zTb := zt8_mem rfl (List.mem_of_getElem? (i := 12) rfl)
theorem zk_ml_12_411 : Cond.methodLink RX12 411 yX12_endOf ∈ zTb := zt8_mem rfl (List.mem_of_getElem? (i := 13) rfl)
theorem zk_im_yX12_endOf : Cond.instanceMethod yX12_endOf ∈ zTb := zt8_mem rfl (List.mem_of_getElem? (i := 15) rfl)
theorem zk_cd_yX12_endOf : Cond.code yX12_endOf cX12_endOf 3 (some .int) ∈ zTb := zt8_mem rfl (List.mem_of_getElem? (i := 16) rfl)
theorem zk_ml_L_39 : Cond.methodLink RL 39 yX12_twin ∈ zTb := zt8_mem rfl (List.mem_of_getElem? (i := 17) rfl)
theorem zk_im_yX12_twin : Cond.instanceMethod yX12_twin ∈ zTb := zt8_mem rfl (List.mem_of_getElem? (i := 18) rfl)
theorem zk_se_yX12_twin : Cond.selects RX12 yX12_twin yX12_twin ∈ zTb := zt8_mem rfl (List.mem_of_getElem? (i := 19) rfl)
theorem zk_cd_yX12_twin : Cond.code yX12_twin cX12_twin 3 (some .int) ∈ zTb := zt8_mem rfl (List.mem_of_getElem? (i := 20) rfl)
theorem zk_ml_L_43 : Cond.methodLink RL 43 yX12_swap ∈ zTb := zt8_mem rfl (List.mem_of_getElem? (i := 21) rfl)
theorem zk_im_yX12_swap : Cond.instanceMethod yX12_swap ∈ zTb := zt8_mem rfl (List.mem_of_getElem? (i := 22) rfl)
theorem zk_se_yX12_swap : Cond.selects RX12 yX12_swap yX12_swap ∈ zTb := zt8_mem rfl (List.mem_of_getElem? (i := 23) rfl)
theorem zk_cd_yX12_swap : Cond.code yX12_swap cX12_swap 5 (some .int) ∈ zTb := zt8_mem rfl (List.mem_of_getElem? (i := 24) rfl)
theorem zk_ml_L_56 : Cond.methodLink RL 56 yX12_text ∈ zTb := zt8_mem rfl (List.mem_of_getElem? (i := 25) rfl)
theorem zk_im_yX12_text : Cond.instanceMethod yX12_text ∈ zTb := zt8_mem rfl (List.mem_of_getElem? (i := 26) rfl)
theorem zk_se_yX12_text : Cond.selects RX12 yX12_text yX12_text ∈ zTb := zt8_mem rfl (List.mem_of_getElem? (i := 27) rfl)
theorem zk_cd_yX12_text : Cond.code yX12_text cX12_text 2 (some .int) ∈ zTb := zt8_mem rfl (List.mem_of_getElem? (i := 28) rfl)
theorem zk_ml_L_60 : Cond.methodLink RL 60 yX12_token ∈ zTb := zt8_mem rfl (List.mem_of_getElem? (i := 29) rfl)
theorem zk_im_yX12_token : Cond.instanceMethod yX12_token ∈ zTb := zt8_mem rfl (List.mem_of_getElem? (i := 30) rfl)
theorem zk_se_yX12_token : Cond.selects RX12 yX12_token yX12_token ∈ zTb := zt8_mem rfl (List.mem_of_getElem? (i := 31) rfl)
theorem zk_cd_yX12_token : Cond.code yX12_token cX12_token 3 (some .int) ∈ zTb := zt8_mem rfl (List.mem_of_getElem? (i := 32) rfl)
theorem zk_ml_L_125 : Cond.methodLink RL 125 yX12_under ∈ zTb := zt8_mem rfl (List.mem_of_getElem? (i := 33) rfl)
theorem zk_im_yX12_under : Cond.instanceMethod yX12_under ∈ zTb := zt8_mem rfl (List.mem_of_getElem? (i := 34) rfl)
theorem zk_se_yX12_under : Cond.selects RX12 yX12_under yX12_under ∈ zTb := zt8_mem rfl (List.mem_of_getElem? (i := 35) rfl)
theorem zk_cd_yX12_under : Cond.code yX12_under cX12_under 3 (some .int) ∈ zTb := zt8_mem rfl (List.mem_of_getElem? (i := 36) rfl)
theorem zk_ml_L_64 : Cond.methodLink RL 64 yX12_good ∈ zTb := zt8_mem rfl (List.mem_of_getElem? (i := 37) rfl)
theorem zk_im_yX12_good : Cond.instanceMethod yX12_good ∈ zTb := zt8_mem rfl (List.mem_of_getElem? (i := 38) rfl)
theorem zk_se_yX12_good : Cond.selects RX12 yX12_good yX12_good ∈ zTb := zt8_mem rfl (List.mem_of_getElem? (i := 39) rfl)
theorem zk_cd_yX12_good : Cond.code yX12_good cX12_good 2 (some .int) ∈ zTb := zt8_mem rfl (List.mem_of_getElem? (i := 40) rfl)
theorem zk_ml_12_414 : Cond.methodLink RX12 414 yX12_isToken ∈ zTb := zt8_mem rfl (List.mem_of_getElem? (i := 41) rfl)
theorem zk_im_yX12_isToken : Cond.instanceMethod yX12_isToken ∈ zTb := zt8_mem rfl (List.mem_of_getElem? (i := 43) rfl)
theorem zk_cd_yX12_isToken : Cond.code yX12_isToken cX12_isToken 2 (some .boolean) ∈ zTb := zt8_mem rfl (List.mem_of_getElem? (i := 44) rfl)
theorem zk_ml_L_68 : Cond.methodLink RL 68 yX12_node ∈ zTb := zt8_mem rfl (List.mem_of_getElem? (i := 45) rfl)
theorem zk_im_yX12_node : Cond.instanceMethod yX12_node ∈ zTb := zt8_mem rfl (List.mem_of_getElem? (i := 46) rfl)
theorem zk_se_yX12_node : Cond.selects RX12 yX12_node yX12_node ∈ zTb := zt8_mem rfl (List.mem_of_getElem? (i := 47) rfl)
theorem zk_cd_yX12_node : Cond.code yX12_node cX12_node 4 (some .int) ∈ zTb := zt8_mem rfl (List.mem_of_getElem? (i := 48) rfl)
theorem zk_ml_L_72 : Cond.methodLink RL 72 yX12_child ∈ zTb := zt8_mem rfl (List.mem_of_getElem? (i := 49) rfl)
theorem zk_im_yX12_child : Cond.instanceMethod yX12_child ∈ zTb := zt8_mem rfl (List.mem_of_getElem? (i := 50) rfl)
theorem zk_se_yX12_child : Cond.selects RX12 yX12_child yX12_child ∈ zTb := zt8_mem rfl (List.mem_of_getElem? (i := 51) rfl)
theorem zk_cd_yX12_child : Cond.code yX12_child cX12_child 3 (some .int) ∈ zTb := zt8_mem rfl (List.mem_of_getElem? (i := 52) rfl)
theorem zk_ml_L_117 : Cond.methodLink RL 117 yX12_beside ∈ zTb := zt8_mem rfl (List.mem_of_getElem? (i := 53) rfl)
theorem zk_im_yX12_beside : Cond.instanceMethod yX12_beside ∈ zTb := zt8_mem rfl (List.mem_of_getElem? (i := 54) rfl)
theorem zk_se_yX12_beside : Cond.selects RX12 yX12_beside yX12_beside ∈ zTb := zt8_mem rfl (List.mem_of_getElem? (i := 55) rfl)
theorem zk_cd_yX12_beside : Cond.code yX12_beside cX12_beside 2 (some .int) ∈ zTb := zt8_mem rfl (List.mem_of_getElem? (i := 56) rfl)
theorem zk_ml_12_420 : Cond.methodLink RX12 420 yX12_besideOf ∈ zTb := zt8_mem rfl (List.mem_of_getElem? (i := 57) rfl)
theorem zk_im_yX12_besideOf : Cond.instanceMethod yX12_besideOf ∈ zTb := zt8_mem rfl (List.mem_of_getElem? (i := 59) rfl)
theorem zk_cd_yX12_besideOf : Cond.code yX12_besideOf cX12_besideOf 4 (some .int) ∈ zTb := zt8_mem rfl (List.mem_of_getElem? (i := 60) rfl)
theorem zk_ml_12_417 : Cond.methodLink RX12 417 yX12_isIn ∈ zTb := zt8_mem rfl (List.mem_of_getElem? (i := 61) rfl)
theorem zk_im_yX12_isIn : Cond.instanceMethod yX12_isIn ∈ zTb := zt8_mem rfl (List.mem_of_getElem? (i := 63) rfl)
theorem zk_cd_yX12_isIn : Cond.code yX12_isIn cX12_isIn 2 (some .boolean) ∈ zTb := zt8_mem rfl (List.mem_of_getElem? (i := 64) rfl)
theorem zk_ml_L_129 : Cond.methodLink RL 129 yX12_before ∈ zTb := zt8_mem rfl (List.mem_of_getElem? (i := 65) rfl)
theorem zk_im_yX12_before : Cond.instanceMethod yX12_before ∈ zTb := zt8_mem rfl (List.mem_of_getElem? (i := 66) rfl)
theorem zk_se_yX12_before : Cond.selects RX12 yX12_before yX12_before ∈ zTb := zt8_mem rfl (List.mem_of_getElem? (i := 67) rfl)
theorem zk_cd_yX12_before : Cond.code yX12_before cX12_before 2 (some .int) ∈ zTb := zt8_mem rfl (List.mem_of_getElem? (i := 68) rfl)
theorem zk_ml_L_121 : Cond.methodLink RL 121 yX12_span ∈ zTb := zt8_mem rfl (List.mem_of_getElem? (i := 69) rfl)
theorem zk_im_yX12_span : Cond.instanceMethod yX12_span ∈ zTb := zt8_mem rfl (List.mem_of_getElem? (i := 70) rfl)
theorem zk_se_yX12_span : Cond.selects RX12 yX12_span yX12_span ∈ zTb := zt8_mem rfl (List.mem_of_getElem? (i := 71) rfl)
theorem zk_cd_yX12_span : Cond.code yX12_span cX12_span 3 (some .int) ∈ zTb := zt8_mem rfl (List.mem_of_getElem? (i := 72) rfl)
theorem zk_ml_L_76 : Cond.methodLink RL 76 yX12_last ∈ zTb := zt8_mem rfl (List.mem_of_getElem? (i := 73) rfl)
theorem zk_im_yX12_last : Cond.instanceMethod yX12_last ∈ zTb := zt8_mem rfl (List.mem_of_getElem? (i := 74) rfl)
theorem zk_se_yX12_last : Cond.selects RX12 yX12_last yX12_last ∈ zTb := zt8_mem rfl (List.mem_of_getElem? (i := 75) rfl)
theorem zk_cd_yX12_last : Cond.code yX12_last cX12_last 2 (some .int) ∈ zTb := zt8_mem rfl (List.mem_of_getElem? (i := 76) rfl)
theorem zk_ml_L_101 : Cond.methodLink RL 101 yX12_ruled ∈ zTb := zt8_mem rfl (List.mem_of_getElem? (i := 77) rfl)
theorem zk_im_yX12_ruled : Cond.instanceMethod yX12_ruled ∈ zTb := zt8_mem rfl (List.mem_of_getElem? (i := 78) rfl)
theorem zk_se_yX12_ruled : Cond.selects RX12 yX12_ruled yX12_ruled ∈ zTb := zt8_mem rfl (List.mem_of_getElem? (i := 79) rfl)
theorem zk_cd_yX12_ruled : Cond.code yX12_ruled cX12_ruled 4 (some .int) ∈ zTb := zt8_mem rfl (List.mem_of_getElem? (i := 80) rfl)
theorem zk_ml_L_81 : Cond.methodLink RL 81 yX12_fresh ∈ zTb := zt8_mem rfl (List.mem_of_getElem? (i := 81) rfl)
theorem zk_im_yX12_fresh : Cond.instanceMethod yX12_fresh ∈ zTb := zt8_mem rfl (List.mem_of_getElem? (i := 82) rfl)
theorem zk_se_yX12_fresh : Cond.selects RX12 yX12_fresh yX12_fresh ∈ zTb := zt8_mem rfl (List.mem_of_getElem? (i := 83) rfl)
theorem zk_cd_yX12_fresh : Cond.code yX12_fresh cX12_fresh 2 (some .int) ∈ zTb := zt8_mem rfl (List.mem_of_getElem? (i := 84) rfl)
theorem zk_ml_12_423 : Cond.methodLink RX12 423 yX12_wrongOf ∈ zTb := zt8_mem rfl (List.mem_of_getElem? (i := 85) rfl)
theorem zk_im_yX12_wrongOf : Cond.instanceMethod yX12_wrongOf ∈ zTb := zt8_mem rfl (List.mem_of_getElem? (i := 87) rfl)
theorem zk_cd_yX12_wrongOf : Cond.code yX12_wrongOf cX12_wrongOf 5 (some .int) ∈ zTb := zt8_mem rfl (List.mem_of_getElem? (i := 88) rfl)
theorem zk_ml_12_274 : Cond.methodLink RX12 274 yX12_reduces ∈ zTb := zt8_mem rfl (List.mem_of_getElem? (i := 89) rfl)
theorem zk_im_yX12_reduces : Cond.instanceMethod yX12_reduces ∈ zTb := zt8_mem rfl (List.mem_of_getElem? (i := 91) rfl)
theorem zk_cd_yX12_reduces : Cond.code yX12_reduces cX12_reduces 2 none ∈ zTb := zt8_mem rfl (List.mem_of_getElem? (i := 92) rfl)
theorem zk_ml_L_85 : Cond.methodLink RL 85 yX12_inTheWay ∈ zTb := zt8_mem rfl (List.mem_of_getElem? (i := 93) rfl)
theorem zk_im_yX12_inTheWay : Cond.instanceMethod yX12_inTheWay ∈ zTb := zt8_mem rfl (List.mem_of_getElem? (i := 94) rfl)
theorem zk_se_yX12_inTheWay : Cond.selects RX12 yX12_inTheWay yX12_inTheWay ∈ zTb := zt8_mem rfl (List.mem_of_getElem? (i := 95) rfl)
theorem zk_cd_yX12_inTheWay : Cond.code yX12_inTheWay cX12_inTheWay 4 (some .int) ∈ zTb := zt8_mem rfl (List.mem_of_getElem? (i := 96) rfl)
theorem zk_ml_12_426 : Cond.methodLink RX12 426 yX12_laysTry ∈ zTb := zt8_mem rfl (List.mem_of_getElem? (i := 97) rfl)
theorem zk_im_yX12_laysTry : Cond.instanceMethod yX12_laysTry ∈ zTb := zt8_mem rfl (List.mem_of_getElem? (i := 99) rfl)
theorem zk_cd_yX12_laysTry : Cond.code yX12_laysTry cX12_laysTry 6 none ∈ zTb := zt8_mem rfl (List.mem_of_getElem? (i := 100) rfl)
theorem zk_ml_L_89 : Cond.methodLink RL 89 yX12_expected ∈ zTb := zt8_mem rfl (List.mem_of_getElem? (i := 101) rfl)
theorem zk_im_yX12_expected : Cond.instanceMethod yX12_expected ∈ zTb := zt8_mem rfl (List.mem_of_getElem? (i := 102) rfl)
theorem zk_se_yX12_expected : Cond.selects RX12 yX12_expected yX12_expected ∈ zTb := zt8_mem rfl (List.mem_of_getElem? (i := 103) rfl)
theorem zk_cd_yX12_expected : Cond.code yX12_expected cX12_expected 5 (some .int) ∈ zTb := zt8_mem rfl (List.mem_of_getElem? (i := 104) rfl)
theorem zk_ml_L_93 : Cond.methodLink RL 93 yX12_mend ∈ zTb := zt8_mem rfl (List.mem_of_getElem? (i := 105) rfl)
theorem zk_im_yX12_mend : Cond.instanceMethod yX12_mend ∈ zTb := zt8_mem rfl (List.mem_of_getElem? (i := 106) rfl)
theorem zk_se_yX12_mend : Cond.selects RX12 yX12_mend yX12_mend ∈ zTb := zt8_mem rfl (List.mem_of_getElem? (i := 107) rfl)
theorem zk_cd_yX12_mend : Cond.code yX12_mend cX12_mend 4 (some .int) ∈ zTb := zt8_mem rfl (List.mem_of_getElem? (i := 108) rfl)
theorem zk_ml_L_97 : Cond.methodLink RL 97 yX12_print ∈ zTb := zt8_mem rfl (List.mem_of_getElem? (i := 109) rfl)
theorem zk_im_yX12_print : Cond.instanceMethod yX12_print ∈ zTb := zt8_mem rfl (List.mem_of_getElem? (i := 110) rfl)
theorem zk_se_yX12_print : Cond.selects RX12 yX12_print yX12_print ∈ zTb := zt8_mem rfl (List.mem_of_getElem? (i := 111) rfl)
theorem zk_cd_yX12_print : Cond.code yX12_print cX12_print 2 (some .int) ∈ zTb := zt8_mem rfl (List.mem_of_getElem? (i := 112) rfl)
theorem zk_ml_12_442 : Cond.methodLink RX12 442 yX12_prints ∈ zTb := zt8_mem rfl (List.mem_of_getElem? (i := 113) rfl)
theorem zk_im_yX12_prints : Cond.instanceMethod yX12_prints ∈ zTb := zt8_mem rfl (List.mem_of_getElem? (i := 115) rfl)
theorem zk_cd_yX12_prints : Cond.code yX12_prints cX12_prints 7 none ∈ zTb := zt8_mem rfl (List.mem_of_getElem? (i := 116) rfl)
theorem zk_ml_12_436 : Cond.methodLink RX12 436 yX12_pushes ∈ zTb := zt8_mem rfl (List.mem_of_getElem? (i := 117) rfl)
theorem zk_im_yX12_pushes : Cond.instanceMethod yX12_pushes ∈ zTb := zt8_mem rfl (List.mem_of_getElem? (i := 119) rfl)
theorem zk_cd_yX12_pushes : Cond.code yX12_pushes cX12_pushes 3 (some .int) ∈ zTb := zt8_mem rfl (List.mem_of_getElem? (i := 120) rfl)
theorem zk_ml_12_433 : Cond.methodLink RX12 433 yX12_says ∈ zTb := zt8_mem rfl (List.mem_of_getElem? (i := 121) rfl)
theorem zk_im_yX12_says : Cond.instanceMethod yX12_says ∈ zTb := zt8_mem rfl (List.mem_of_getElem? (i := 123) rfl)
theorem zk_cd_yX12_says : Cond.code yX12_says cX12_says 2 none ∈ zTb := zt8_mem rfl (List.mem_of_getElem? (i := 124) rfl)
theorem zk_ml_12_439 : Cond.methodLink RX12 439 yX12_saysToken ∈ zTb := zt8_mem rfl (List.mem_of_getElem? (i := 125) rfl)
theorem zk_im_yX12_saysToken : Cond.instanceMethod yX12_saysToken ∈ zTb := zt8_mem rfl (List.mem_of_getElem? (i := 127) rfl)
theorem zk_cd_yX12_saysToken : Cond.code yX12_saysToken cX12_saysToken 4 none ∈ zTb := zt8_mem rfl (List.mem_of_getElem? (i := 128) rfl)
theorem zk_ml_L_169 : Cond.methodLink RL 169 yX12_alike ∈ zTb := zt8_mem rfl (List.mem_of_getElem? (i := 129) rfl)
theorem zk_im_yX12_alike : Cond.instanceMethod yX12_alike ∈ zTb := zt8_mem rfl (List.mem_of_getElem? (i := 130) rfl)
theorem zk_se_yX12_alike : Cond.selects RX12 yX12_alike yX12_alike ∈ zTb := zt8_mem rfl (List.mem_of_getElem? (i := 131) rfl)
theorem zk_cd_yX12_alike : Cond.code yX12_alike cX12_alike 5 (some .int) ∈ zTb := zt8_mem rfl (List.mem_of_getElem? (i := 132) rfl)
theorem zk_ml_12_445 : Cond.methodLink RX12 445 yX12_isTerm ∈ zTb := zt8_mem rfl (List.mem_of_getElem? (i := 133) rfl)
theorem zk_im_yX12_isTerm : Cond.instanceMethod yX12_isTerm ∈ zTb := zt8_mem rfl (List.mem_of_getElem? (i := 135) rfl)
theorem zk_cd_yX12_isTerm : Cond.code yX12_isTerm cX12_isTerm 2 (some .boolean) ∈ zTb := zt8_mem rfl (List.mem_of_getElem? (i := 136) rfl)
theorem zk_ml_L_105 : Cond.methodLink RL 105 yX12_row ∈ zTb := zt8_mem rfl (List.mem_of_getElem? (i := 137) rfl)
theorem zk_im_yX12_row : Cond.instanceMethod yX12_row ∈ zTb := zt8_mem rfl (List.mem_of_getElem? (i := 138) rfl)
theorem zk_se_yX12_row : Cond.selects RX12 yX12_row yX12_row ∈ zTb := zt8_mem rfl (List.mem_of_getElem? (i := 139) rfl)
theorem zk_cd_yX12_row : Cond.code yX12_row cX12_row 3 (some .int) ∈ zTb := zt8_mem rfl (List.mem_of_getElem? (i := 140) rfl)
theorem zk_ml_L_109 : Cond.methodLink RL 109 yX12_pair ∈ zTb := zt8_mem rfl (List.mem_of_getElem? (i := 141) rfl)
theorem zk_im_yX12_pair : Cond.instanceMethod yX12_pair ∈ zTb := zt8_mem rfl (List.mem_of_getElem? (i := 142) rfl)
theorem zk_se_yX12_pair : Cond.selects RX12 yX12_pair yX12_pair ∈ zTb := zt8_mem rfl (List.mem_of_getElem? (i := 143) rfl)
theorem zk_cd_yX12_pair : Cond.code yX12_pair cX12_pair 3 (some .int) ∈ zTb := zt8_mem rfl (List.mem_of_getElem? (i := 144) rfl)
theorem zk_ml_L_113 : Cond.methodLink RL 113 yX12_young ∈ zTb := zt8_mem rfl (List.mem_of_getElem? (i := 145) rfl)
theorem zk_im_yX12_young : Cond.instanceMethod yX12_young ∈ zTb := zt8_mem rfl (List.mem_of_getElem? (i := 146) rfl)
theorem zk_se_yX12_young : Cond.selects RX12 yX12_young yX12_young ∈ zTb := zt8_mem rfl (List.mem_of_getElem? (i := 147) rfl)
theorem zk_cd_yX12_young : Cond.code yX12_young cX12_young 2 (some .int) ∈ zTb := zt8_mem rfl (List.mem_of_getElem? (i := 148) rfl)
theorem zk_ml_12_448 : Cond.methodLink RX12 448 yX12_youngBelow ∈ zTb := zt8_mem rfl (List.mem_of_getElem? (i := 149) rfl)
theorem zk_im_yX12_youngBelow : Cond.instanceMethod yX12_youngBelow ∈ zTb := zt8_mem rfl (List.mem_of_getElem? (i := 151) rfl)
theorem zk_cd_yX12_youngBelow : Cond.code yX12_youngBelow cX12_youngBelow 4 (some .int) ∈ zTb := zt8_mem rfl (List.mem_of_getElem? (i := 152) rfl)
theorem zk_ml_L_133 : Cond.methodLink RL 133 yX12_runs ∈ zTb := zt8_mem rfl (List.mem_of_getElem? (i := 153) rfl)
theorem zk_im_yX12_runs : Cond.instanceMethod yX12_runs ∈ zTb := zt8_mem rfl (List.mem_of_getElem? (i := 154) rfl)
theorem zk_se_yX12_runs : Cond.selects RX12 yX12_runs yX12_runs ∈ zTb := zt8_mem rfl (List.mem_of_getElem? (i := 155) rfl)
theorem zk_cd_yX12_runs : Cond.code yX12_runs cX12_runs 1 (some .int) ∈ zTb := zt8_mem rfl (List.mem_of_getElem? (i := 156) rfl)
theorem zk_ml_L_137 : Cond.methodLink RL 137 yX12_run ∈ zTb := zt8_mem rfl (List.mem_of_getElem? (i := 157) rfl)
theorem zk_im_yX12_run : Cond.instanceMethod yX12_run ∈ zTb := zt8_mem rfl (List.mem_of_getElem? (i := 158) rfl)
theorem zk_se_yX12_run : Cond.selects RX12 yX12_run yX12_run ∈ zTb := zt8_mem rfl (List.mem_of_getElem? (i := 159) rfl)
theorem zk_cd_yX12_run : Cond.code yX12_run cX12_run 2 (some .int) ∈ zTb := zt8_mem rfl (List.mem_of_getElem? (i := 160) rfl)
theorem zk_ml_L_141 : Cond.methodLink RL 141 yX12_value ∈ zTb := zt8_mem rfl (List.mem_of_getElem? (i := 161) rfl)
theorem zk_im_yX12_value : Cond.instanceMethod yX12_value ∈ zTb := zt8_mem rfl (List.mem_of_getElem? (i := 162) rfl)
theorem zk_se_yX12_value : Cond.selects RX12 yX12_value yX12_value ∈ zTb := zt8_mem rfl (List.mem_of_getElem? (i := 163) rfl)
theorem zk_cd_yX12_value : Cond.code yX12_value cX12_value 2 (some .int) ∈ zTb := zt8_mem rfl (List.mem_of_getElem? (i := 164) rfl)
theorem zk_ml_L_145 : Cond.methodLink RL 145 yX12_worth ∈ zTb := zt8_mem rfl (List.mem_of_getElem? (i := 165) rfl)
theorem zk_im_yX12_worth : Cond.instanceMethod yX12_worth ∈ zTb := zt8_mem rfl (List.mem_of_getElem? (i := 166) rfl)
theorem zk_se_yX12_worth : Cond.selects RX12 yX12_worth yX12_worth ∈ zTb := zt8_mem rfl (List.mem_of_getElem? (i := 167) rfl)
theorem zk_cd_yX12_worth : Cond.code yX12_worth cX12_worth 2 (some .int) ∈ zTb := zt8_mem rfl (List.mem_of_getElem? (i := 168) rfl)
theorem zk_ml_L_165 : Cond.methodLink RL 165 yX12_firm ∈ zTb := zt8_mem rfl (List.mem_of_getElem? (i := 169) rfl)
theorem zk_im_yX12_firm : Cond.instanceMethod yX12_firm ∈ zTb := zt8_mem rfl (List.mem_of_getElem? (i := 170) rfl)
theorem zk_se_yX12_firm : Cond.selects RX12 yX12_firm yX12_firm ∈ zTb := zt8_mem rfl (List.mem_of_getElem? (i := 171) rfl)
theorem zk_cd_yX12_firm : Cond.code yX12_firm cX12_firm 4 (some .int) ∈ zTb := zt8_mem rfl (List.mem_of_getElem? (i := 172) rfl)
theorem zk_ml_L_177 : Cond.methodLink RL 177 yX12_sets ∈ zTb := zt8_mem rfl (List.mem_of_getElem? (i := 173) rfl)
theorem zk_im_yX12_sets : Cond.instanceMethod yX12_sets ∈ zTb := zt8_mem rfl (List.mem_of_getElem? (i := 174) rfl)
theorem zk_se_yX12_sets : Cond.selects RX12 yX12_sets yX12_sets ∈ zTb := zt8_mem rfl (List.mem_of_getElem? (i := 175) rfl)
theorem zk_cd_yX12_sets : Cond.code yX12_sets cX12_sets 4 (some .int) ∈ zTb := zt8_mem rfl (List.mem_of_getElem? (i := 176) rfl)
theorem zk_ml_12_451 : Cond.methodLink RX12 451 yX12_setName ∈ zTb := zt8_mem rfl (List.mem_of_getElem? (i := 177) rfl)
theorem zk_im_yX12_setName : Cond.instanceMethod yX12_setName ∈ zTb := zt8_mem rfl (List.mem_of_getElem? (i := 179) rfl)
theorem zk_cd_yX12_setName : Cond.code yX12_setName cX12_setName 2 (some .long) ∈ zTb := zt8_mem rfl (List.mem_of_getElem? (i := 180) rfl)
theorem zk_ml_L_157 : Cond.methodLink RL 157 yX12_uses ∈ zTb := zt8_mem rfl (List.mem_of_getElem? (i := 181) rfl)
theorem zk_im_yX12_uses : Cond.instanceMethod yX12_uses ∈ zTb := zt8_mem rfl (List.mem_of_getElem? (i := 182) rfl)
theorem zk_se_yX12_uses : Cond.selects RX12 yX12_uses yX12_uses ∈ zTb := zt8_mem rfl (List.mem_of_getElem? (i := 183) rfl)
theorem zk_cd_yX12_uses : Cond.code yX12_uses cX12_uses 5 (some .int) ∈ zTb := zt8_mem rfl (List.mem_of_getElem? (i := 184) rfl)
theorem zk_ml_L_161 : Cond.methodLink RL 161 yX12_idle ∈ zTb := zt8_mem rfl (List.mem_of_getElem? (i := 185) rfl)
theorem zk_im_yX12_idle : Cond.instanceMethod yX12_idle ∈ zTb := zt8_mem rfl (List.mem_of_getElem? (i := 186) rfl)
theorem zk_se_yX12_idle : Cond.selects RX12 yX12_idle yX12_idle ∈ zTb := zt8_mem rfl (List.mem_of_getElem? (i := 187) rfl)
theorem zk_cd_yX12_idle : Cond.code yX12_idle cX12_idle 5 (some .int) ∈ zTb := zt8_mem rfl (List.mem_of_getElem? (i := 188) rfl)
theorem zk_ml_12_459 : Cond.methodLink RX12 459 yX12_isIdle ∈ zTb := zt8_mem rfl (List.mem_of_getElem? (i := 189) rfl)
theorem zk_im_yX12_isIdle : Cond.instanceMethod yX12_isIdle ∈ zTb := zt8_mem rfl (List.mem_of_getElem? (i := 191) rfl)
theorem zk_cd_yX12_isIdle : Cond.code yX12_isIdle cX12_isIdle 3 (some .boolean) ∈ zTb := zt8_mem rfl (List.mem_of_getElem? (i := 192) rfl)
theorem zk_ml_12_455 : Cond.methodLink RX12 455 yX12_doesRead ∈ zTb := zt8_mem rfl (List.mem_of_getElem? (i := 193) rfl)
theorem zk_im_yX12_doesRead : Cond.instanceMethod yX12_doesRead ∈ zTb := zt8_mem rfl (List.mem_of_getElem? (i := 195) rfl)
theorem zk_cd_yX12_doesRead : Cond.code yX12_doesRead cX12_doesRead 6 (some .boolean) ∈ zTb := zt8_mem rfl (List.mem_of_getElem? (i := 196) rfl)
theorem zk_ml_L_149 : Cond.methodLink RL 149 yX12_above ∈ zTb := zt8_mem rfl (List.mem_of_getElem? (i := 197) rfl)
theorem zk_im_yX12_above : Cond.instanceMethod yX12_above ∈ zTb := zt8_mem rfl (List.mem_of_getElem? (i := 198) rfl)
theorem zk_se_yX12_above : Cond.selects RX12 yX12_above yX12_above ∈ zTb := zt8_mem rfl (List.mem_of_getElem? (i := 199) rfl)
theorem zk_cd_yX12_above : Cond.code yX12_above cX12_above 4 (some .int) ∈ zTb := zt8_mem rfl (List.mem_of_getElem? (i := 200) rfl)
theorem zk_ml_12_462 : Cond.methodLink RX12 462 yX12_isInner ∈ zTb := zt8_mem rfl (List.mem_of_getElem? (i := 201) rfl)
theorem zk_im_yX12_isInner : Cond.instanceMethod yX12_isInner ∈ zTb := zt8_mem rfl (List.mem_of_getElem? (i := 203) rfl)
theorem zk_cd_yX12_isInner : Cond.code yX12_isInner cX12_isInner 2 (some .boolean) ∈ zTb := zt8_mem rfl (List.mem_of_getElem? (i := 204) rfl)
theorem zk_ml_L_153 : Cond.methodLink RL 153 yX12_common ∈ zTb := zt8_mem rfl (List.mem_of_getElem? (i := 205) rfl)
theorem zk_im_yX12_common : Cond.instanceMethod yX12_common ∈ zTb := zt8_mem rfl (List.mem_of_getElem? (i := 206) rfl)
theorem zk_se_yX12_common : Cond.selects RX12 yX12_common yX12_common ∈ zTb := zt8_mem rfl (List.mem_of_getElem? (i := 207) rfl)
theorem zk_cd_yX12_common : Cond.code yX12_common cX12_common 5 (some .int) ∈ zTb := zt8_mem rfl (List.mem_of_getElem? (i := 208) rfl)
theorem zk_ml_12_465 : Cond.methodLink RX12 465 yX12_deepOf ∈ zTb := zt8_mem rfl (List.mem_of_getElem? (i := 209) rfl)
theorem zk_im_yX12_deepOf : Cond.instanceMethod yX12_deepOf ∈ zTb := zt8_mem rfl (List.mem_of_getElem? (i := 211) rfl)
theorem zk_cd_yX12_deepOf : Cond.code yX12_deepOf cX12_deepOf 4 (some .int) ∈ zTb := zt8_mem rfl (List.mem_of_getElem? (i := 212) rfl)
theorem zk_ml_L_173 : Cond.methodLink RL 173 yX12_path ∈ zTb := zt8_mem rfl (List.mem_of_getElem? (i := 213) rfl)
theorem zk_im_yX12_path : Cond.instanceMethod yX12_path ∈ zTb := zt8_mem rfl (List.mem_of_getElem? (i := 214) rfl)
theorem zk_se_yX12_path : Cond.selects RX12 yX12_path yX12_path ∈ zTb := zt8_mem rfl (List.mem_of_getElem? (i := 215) rfl)
theorem zk_cd_yX12_path : Cond.code yX12_path cX12_path 6 (some .int) ∈ zTb := zt8_mem rfl (List.mem_of_getElem? (i := 216) rfl)
theorem zk_ml_L_181 : Cond.methodLink RL 181 yX12_count ∈ zTb := zt8_mem rfl (List.mem_of_getElem? (i := 217) rfl)
theorem zk_im_yX12_count : Cond.instanceMethod yX12_count ∈ zTb := zt8_mem rfl (List.mem_of_getElem? (i := 218) rfl)
theorem zk_se_yX12_count : Cond.selects RX12 yX12_count yX12_count ∈ zTb := zt8_mem rfl (List.mem_of_getElem? (i := 219) rfl)
theorem zk_cd_yX12_count : Cond.code yX12_count cX12_count 4 (some .int) ∈ zTb := zt8_mem rfl (List.mem_of_getElem? (i := 220) rfl)
theorem zk_ml_12_468 : Cond.methodLink RX12 468 yX12_setNames ∈ zTb := zt8_mem rfl (List.mem_of_getElem? (i := 221) rfl)
theorem zk_im_yX12_setNames : Cond.instanceMethod yX12_setNames ∈ zTb := zt8_mem rfl (List.mem_of_getElem? (i := 223) rfl)
theorem zk_cd_yX12_setNames : Cond.code yX12_setNames cX12_setNames 5 (some .int) ∈ zTb := zt8_mem rfl (List.mem_of_getElem? (i := 224) rfl)
theorem zk_ml_12_471 : Cond.methodLink RX12 471 yX12_ruled ∈ zTb := zt8_mem rfl (List.mem_of_getElem? (i := 225) rfl)
set_option maxRecDepth 20000 in
theorem zk_se_yX3_make : Cond.selects RX3 yX3_make yX3_make ∈ zTb := zp_mem rfl (List.mem_of_getElem? (i := 0) rfl)
set_option maxRecDepth 20000 in
theorem zk_se_yX8_readOne : Cond.selects RX8 yX8_readOne yX8_readOne ∈ zTb := zp_mem rfl (List.mem_of_getElem? (i := 1) rfl)
set_option maxRecDepth 20000 in
theorem zk_se_yX8_append : Cond.selects RX8 yX8_append yX8_append ∈ zTb := zp_mem rfl (List.mem_of_getElem? (i := 2) rfl)
set_option maxRecDepth 20000 in
theorem zk_se_yX11_now : Cond.selects RX11 yX11_now yX11_now ∈ zTb := zp_mem rfl (List.mem_of_getElem? (i := 3) rfl)
set_option maxRecDepth 20000 in
theorem zk_se_yX11_lookAt : Cond.selects RX11 yX11_lookAt yX11_lookAt ∈ zTb := zp_mem rfl (List.mem_of_getElem? (i := 4) rfl)
set_option maxRecDepth 20000 in
theorem zk_se_yX9_layFlat : Cond.selects RX9 yX9_layFlat yX9_layFlat ∈ zTb := zp_mem rfl (List.mem_of_getElem? (i := 5) rfl)
set_option maxRecDepth 20000 in
theorem zk_se_yX9_layNode : Cond.selects RX9 yX9_layNode yX9_layNode ∈ zTb := zp_mem rfl (List.mem_of_getElem? (i := 6) rfl)
set_option maxRecDepth 20000 in
theorem zk_se_yX9_sumUp : Cond.selects RX9 yX9_sumUp yX9_sumUp ∈ zTb := zp_mem rfl (List.mem_of_getElem? (i := 7) rfl)
set_option maxRecDepth 20000 in
theorem zk_se_yX9_findRuns : Cond.selects RX9 yX9_findRuns yX9_findRuns ∈ zTb := zp_mem rfl (List.mem_of_getElem? (i := 8) rfl)
set_option maxRecDepth 20000 in
theorem zk_se_yX7_clear : Cond.selects RX7 yX7_clear yX7_clear ∈ zTb := zp_mem rfl (List.mem_of_getElem? (i := 9) rfl)
set_option maxRecDepth 20000 in
theorem zk_se_yX7_findNames : Cond.selects RX7 yX7_findNames yX7_findNames ∈ zTb := zp_mem rfl (List.mem_of_getElem? (i := 10) rfl)
set_option maxRecDepth 20000 in
theorem zk_se_yX7_runStatement : Cond.selects RX7 yX7_runStatement yX7_runStatement ∈ zTb := zp_mem rfl (List.mem_of_getElem? (i := 11) rfl)
set_option maxRecDepth 20000 in
theorem zk_se_yX7_recordReads : Cond.selects RX7 yX7_recordReads yX7_recordReads ∈ zTb := zp_mem rfl (List.mem_of_getElem? (i := 12) rfl)
set_option maxRecDepth 20000 in
theorem zk_se_yX7_noteReads : Cond.selects RX7 yX7_noteReads yX7_noteReads ∈ zTb := zp_mem rfl (List.mem_of_getElem? (i := 13) rfl)
set_option maxRecDepth 20000 in
theorem zk_se_yX7_evaluate : Cond.selects RX7 yX7_evaluate yX7_evaluate ∈ zTb := zp_mem rfl (List.mem_of_getElem? (i := 14) rfl)
set_option maxRecDepth 20000 in
theorem zk_se_yX7_worthAt : Cond.selects RX7 yX7_worthAt yX7_worthAt ∈ zTb := zp_mem rfl (List.mem_of_getElem? (i := 15) rfl)
set_option maxRecDepth 20000 in
theorem zk_se_yX7_setName : Cond.selects RX7 yX7_setName yX7_setName ∈ zTb := zp_mem rfl (List.mem_of_getElem? (i := 16) rfl)
set_option maxRecDepth 20000 in
theorem zk_se_yX7_sumUp : Cond.selects RX7 yX7_sumUp yX7_sumUp ∈ zTb := zp_mem rfl (List.mem_of_getElem? (i := 17) rfl)
set_option maxRecDepth 20000 in
theorem zk_se_yX5_putOff : Cond.selects RX5 yX5_putOff yX5_putOff ∈ zTb := zp_mem rfl (List.mem_of_getElem? (i := 18) rfl)
set_option maxRecDepth 20000 in
theorem zk_se_yX5_writeByte : Cond.selects RX5 yX5_writeByte yX5_writeByte ∈ zTb := zp_mem rfl (List.mem_of_getElem? (i := 19) rfl)
set_option maxRecDepth 20000 in
theorem zk_se_yX5_writeToken : Cond.selects RX5 yX5_writeToken yX5_writeToken ∈ zTb := zp_mem rfl (List.mem_of_getElem? (i := 20) rfl)
set_option maxRecDepth 20000 in
theorem zk_se_yX5_openUp : Cond.selects RX5 yX5_openUp yX5_openUp ∈ zTb := zp_mem rfl (List.mem_of_getElem? (i := 21) rfl)
set_option maxRecDepth 20000 in
theorem zk_se_yX11_feedFour : Cond.selects RX11 yX11_feedFour yX11_feedFour ∈ zTb := zp_mem rfl (List.mem_of_getElem? (i := 22) rfl)
set_option maxRecDepth 20000 in
theorem zk_se_yX11_change : Cond.selects RX11 yX11_change yX11_change ∈ zTb := zp_mem rfl (List.mem_of_getElem? (i := 23) rfl)
set_option maxRecDepth 20000 in
theorem zk_se_yX1_keepAlike : Cond.selects RX1 yX1_keepAlike yX1_keepAlike ∈ zTb := zp_mem rfl (List.mem_of_getElem? (i := 24) rfl)
set_option maxRecDepth 20000 in
theorem zk_se_yX1_nameTokens : Cond.selects RX1 yX1_nameTokens yX1_nameTokens ∈ zTb := zp_mem rfl (List.mem_of_getElem? (i := 25) rfl)
set_option maxRecDepth 20000 in
theorem zk_se_yX1_oldPlace : Cond.selects RX1 yX1_oldPlace yX1_oldPlace ∈ zTb := zp_mem rfl (List.mem_of_getElem? (i := 26) rfl)
set_option maxRecDepth 20000 in
theorem zk_se_yX1_growAll : Cond.selects RX1 yX1_growAll yX1_growAll ∈ zTb := zp_mem rfl (List.mem_of_getElem? (i := 27) rfl)
set_option maxRecDepth 20000 in
theorem zk_se_yX1_putSound : Cond.selects RX1 yX1_putSound yX1_putSound ∈ zTb := zp_mem rfl (List.mem_of_getElem? (i := 28) rfl)
set_option maxRecDepth 20000 in
theorem zk_se_yX1_isSound : Cond.selects RX1 yX1_isSound yX1_isSound ∈ zTb := zp_mem rfl (List.mem_of_getElem? (i := 29) rfl)
set_option maxRecDepth 20000 in
theorem zk_se_yX1_put : Cond.selects RX1 yX1_put yX1_put ∈ zTb := zp_mem rfl (List.mem_of_getElem? (i := 30) rfl)
set_option maxRecDepth 20000 in
theorem zk_se_yX1_putToken : Cond.selects RX1 yX1_putToken yX1_putToken ∈ zTb := zp_mem rfl (List.mem_of_getElem? (i := 31) rfl)
set_option maxRecDepth 20000 in
theorem zk_se_yX1_makeByRule : Cond.selects RX1 yX1_makeByRule yX1_makeByRule ∈ zTb := zp_mem rfl (List.mem_of_getElem? (i := 32) rfl)
set_option maxRecDepth 20000 in
theorem zk_se_yX11_tellGrowth : Cond.selects RX11 yX11_tellGrowth yX11_tellGrowth ∈ zTb := zp_mem rfl (List.mem_of_getElem? (i := 33) rfl)
set_option maxRecDepth 20000 in
theorem zk_se_yX11_layRow : Cond.selects RX11 yX11_layRow yX11_layRow ∈ zTb := zp_mem rfl (List.mem_of_getElem? (i := 34) rfl)
set_option maxRecDepth 20000 in
theorem zk_se_yX4_findOrMake : Cond.selects RX4 yX4_findOrMake yX4_findOrMake ∈ zTb := zp_mem rfl (List.mem_of_getElem? (i := 35) rfl)
set_option maxRecDepth 20000 in
theorem zk_se_yX11_tellGood : Cond.selects RX11 yX11_tellGood yX11_tellGood ∈ zTb := zp_mem rfl (List.mem_of_getElem? (i := 36) rfl)
set_option maxRecDepth 20000 in
theorem zk_se_yX11_turnToNext : Cond.selects RX11 yX11_turnToNext yX11_turnToNext ∈ zTb := zp_mem rfl (List.mem_of_getElem? (i := 37) rfl)
set_option maxRecDepth 20000 in
theorem zk_se_yX11_nextSlot : Cond.selects RX11 yX11_nextSlot yX11_nextSlot ∈ zTb := zp_mem rfl (List.mem_of_getElem? (i := 38) rfl)
set_option maxRecDepth 20000 in
theorem zk_se_yX11_tapeIsName : Cond.selects RX11 yX11_tapeIsName yX11_tapeIsName ∈ zTb := zp_mem rfl (List.mem_of_getElem? (i := 39) rfl)
set_option maxRecDepth 20000 in
theorem zk_se_yX11_runStart : Cond.selects RX11 yX11_runStart yX11_runStart ∈ zTb := zp_mem rfl (List.mem_of_getElem? (i := 40) rfl)
set_option maxRecDepth 20000 in
theorem zk_se_yX11_startOf : Cond.selects RX11 yX11_startOf yX11_startOf ∈ zTb := zp_mem rfl (List.mem_of_getElem? (i := 41) rfl)
set_option maxRecDepth 20000 in
theorem zk_se_yX11_runEnd : Cond.selects RX11 yX11_runEnd yX11_runEnd ∈ zTb := zp_mem rfl (List.mem_of_getElem? (i := 42) rfl)
set_option maxRecDepth 20000 in
theorem zk_se_yX11_endOf : Cond.selects RX11 yX11_endOf yX11_endOf ∈ zTb := zp_mem rfl (List.mem_of_getElem? (i := 43) rfl)
set_option maxRecDepth 20000 in
theorem zk_se_yX0_weigh : Cond.selects RX0 yX0_weigh yX0_weigh ∈ zTb := zp_mem rfl (List.mem_of_getElem? (i := 44) rfl)
set_option maxRecDepth 20000 in
theorem zk_se_yX0_couldGo : Cond.selects RX0 yX0_couldGo yX0_couldGo ∈ zTb := zp_mem rfl (List.mem_of_getElem? (i := 45) rfl)
set_option maxRecDepth 20000 in
theorem zk_se_yX0_found : Cond.selects RX0 yX0_found yX0_found ∈ zTb := zp_mem rfl (List.mem_of_getElem? (i := 46) rfl)
set_option maxRecDepth 20000 in
theorem zk_se_yX0_goToWrong : Cond.selects RX0 yX0_goToWrong yX0_goToWrong ∈ zTb := zp_mem rfl (List.mem_of_getElem? (i := 47) rfl)
set_option maxRecDepth 20000 in
theorem zk_se_yX11_isEnd : Cond.selects RX11 yX11_isEnd yX11_isEnd ∈ zTb := zp_mem rfl (List.mem_of_getElem? (i := 48) rfl)
set_option maxRecDepth 20000 in
theorem zk_se_yX11_printsAlike : Cond.selects RX11 yX11_printsAlike yX11_printsAlike ∈ zTb := zp_mem rfl (List.mem_of_getElem? (i := 49) rfl)
set_option maxRecDepth 20000 in
theorem zk_se_yX11_isGoodName : Cond.selects RX11 yX11_isGoodName yX11_isGoodName ∈ zTb := zp_mem rfl (List.mem_of_getElem? (i := 50) rfl)
set_option maxRecDepth 20000 in
theorem zk_se_yX11_countInTree : Cond.selects RX11 yX11_countInTree yX11_countInTree ∈ zTb := zp_mem rfl (List.mem_of_getElem? (i := 51) rfl)
set_option maxRecDepth 20000 in
theorem zk_se_yX12_newNode : Cond.selects RX12 yX12_newNode yX12_newNode ∈ zTb := zp_mem rfl (List.mem_of_getElem? (i := 52) rfl)
set_option maxRecDepth 20000 in
theorem zk_se_yX12_cutsUp : Cond.selects RX12 yX12_cutsUp yX12_cutsUp ∈ zTb := zp_mem rfl (List.mem_of_getElem? (i := 53) rfl)
set_option maxRecDepth 20000 in
theorem zk_se_yX12_tokenAt : Cond.selects RX12 yX12_tokenAt yX12_tokenAt ∈ zTb := zp_mem rfl (List.mem_of_getElem? (i := 54) rfl)
set_option maxRecDepth 20000 in
theorem zk_se_yX12_byteAt : Cond.selects RX12 yX12_byteAt yX12_byteAt ∈ zTb := zp_mem rfl (List.mem_of_getElem? (i := 55) rfl)
set_option maxRecDepth 20000 in
theorem zk_se_yX12_keepsTokens : Cond.selects RX12 yX12_keepsTokens yX12_keepsTokens ∈ zTb := zp_mem rfl (List.mem_of_getElem? (i := 56) rfl)
set_option maxRecDepth 20000 in
theorem zk_se_yX12_keepsGood : Cond.selects RX12 yX12_keepsGood yX12_keepsGood ∈ zTb := zp_mem rfl (List.mem_of_getElem? (i := 57) rfl)
set_option maxRecDepth 20000 in
theorem zk_se_yX12_fillsTree : Cond.selects RX12 yX12_fillsTree yX12_fillsTree ∈ zTb := zp_mem rfl (List.mem_of_getElem? (i := 58) rfl)
set_option maxRecDepth 20000 in
theorem zk_se_yX12_fillsRuns : Cond.selects RX12 yX12_fillsRuns yX12_fillsRuns ∈ zTb := zp_mem rfl (List.mem_of_getElem? (i := 59) rfl)
set_option maxRecDepth 20000 in
theorem zk_se_yX12_keeps : Cond.selects RX12 yX12_keeps yX12_keeps ∈ zTb := zp_mem rfl (List.mem_of_getElem? (i := 60) rfl)
set_option maxRecDepth 20000 in
theorem zk_se_yX12_lays : Cond.selects RX12 yX12_lays yX12_lays ∈ zTb := zp_mem rfl (List.mem_of_getElem? (i := 61) rfl)
set_option maxRecDepth 20000 in
theorem zk_se_yX12_goesTo : Cond.selects RX12 yX12_goesTo yX12_goesTo ∈ zTb := zp_mem rfl (List.mem_of_getElem? (i := 62) rfl)
set_option maxRecDepth 20000 in
theorem zk_se_yX12_isRefused : Cond.selects RX12 yX12_isRefused yX12_isRefused ∈ zTb := zp_mem rfl (List.mem_of_getElem? (i := 63) rfl)
set_option maxRecDepth 20000 in
theorem zk_se_yX12_edited : Cond.selects RX12 yX12_edited yX12_edited ∈ zTb := zp_mem rfl (List.mem_of_getElem? (i := 64) rfl)
set_option maxRecDepth 20000 in
theorem zk_se_yX12_ruleNodes : Cond.selects RX12 yX12_ruleNodes yX12_ruleNodes ∈ zTb := zp_mem rfl (List.mem_of_getElem? (i := 65) rfl)
set_option maxRecDepth 20000 in
theorem zk_se_yX12_fillsKept : Cond.selects RX12 yX12_fillsKept yX12_fillsKept ∈ zTb := zp_mem rfl (List.mem_of_getElem? (i := 66) rfl)
set_option maxRecDepth 20000 in
theorem zk_se_yX12_areAlike : Cond.selects RX12 yX12_areAlike yX12_areAlike ∈ zTb := zp_mem rfl (List.mem_of_getElem? (i := 67) rfl)
set_option maxRecDepth 20000 in
theorem zk_se_yX12_makesTokens : Cond.selects RX12 yX12_makesTokens yX12_makesTokens ∈ zTb := zp_mem rfl (List.mem_of_getElem? (i := 68) rfl)
set_option maxRecDepth 20000 in
theorem zk_se_yX12_wasOf : Cond.selects RX12 yX12_wasOf yX12_wasOf ∈ zTb := zp_mem rfl (List.mem_of_getElem? (i := 69) rfl)
set_option maxRecDepth 20000 in
theorem zk_se_yX12_grows : Cond.selects RX12 yX12_grows yX12_grows ∈ zTb := zp_mem rfl (List.mem_of_getElem? (i := 70) rfl)
set_option maxRecDepth 20000 in
theorem zk_se_yX12_laysOn : Cond.selects RX12 yX12_laysOn yX12_laysOn ∈ zTb := zp_mem rfl (List.mem_of_getElem? (i := 71) rfl)
set_option maxRecDepth 20000 in
theorem zk_se_yX12_takenFor : Cond.selects RX12 yX12_takenFor yX12_takenFor ∈ zTb := zp_mem rfl (List.mem_of_getElem? (i := 72) rfl)
set_option maxRecDepth 20000 in
theorem zk_se_yX12_areTogether : Cond.selects RX12 yX12_areTogether yX12_areTogether ∈ zTb := zp_mem rfl (List.mem_of_getElem? (i := 73) rfl)
set_option maxRecDepth 20000 in
theorem zk_se_yX12_makesBy : Cond.selects RX12 yX12_makesBy yX12_makesBy ∈ zTb := zp_mem rfl (List.mem_of_getElem? (i := 74) rfl)
set_option maxRecDepth 20000 in
theorem zk_se_yX12_rowNow : Cond.selects RX12 yX12_rowNow yX12_rowNow ∈ zTb := zp_mem rfl (List.mem_of_getElem? (i := 75) rfl)
set_option maxRecDepth 20000 in
theorem zk_se_yX12_pairOf : Cond.selects RX12 yX12_pairOf yX12_pairOf ∈ zTb := zp_mem rfl (List.mem_of_getElem? (i := 76) rfl)
set_option maxRecDepth 20000 in
theorem zk_se_yX12_runsAll : Cond.selects RX12 yX12_runsAll yX12_runsAll ∈ zTb := zp_mem rfl (List.mem_of_getElem? (i := 77) rfl)
set_option maxRecDepth 20000 in
theorem zk_se_yX12_reads : Cond.selects RX12 yX12_reads yX12_reads ∈ zTb := zp_mem rfl (List.mem_of_getElem? (i := 78) rfl)
set_option maxRecDepth 20000 in
theorem zk_se_yX12_childOf : Cond.selects RX12 yX12_childOf yX12_childOf ∈ zTb := zp_mem rfl (List.mem_of_getElem? (i := 79) rfl)
set_option maxRecDepth 20000 in
theorem zk_se_yX12_nameOf : Cond.selects RX12 yX12_nameOf yX12_nameOf ∈ zTb := zp_mem rfl (List.mem_of_getElem? (i := 80) rfl)
set_option maxRecDepth 20000 in
theorem zk_se_yX12_reckons : Cond.selects RX12 yX12_reckons yX12_reckons ∈ zTb := zp_mem rfl (List.mem_of_getElem? (i := 81) rfl)
set_option maxRecDepth 20000 in
theorem zk_se_yX12_remembers : Cond.selects RX12 yX12_remembers yX12_remembers ∈ zTb := zp_mem rfl (List.mem_of_getElem? (i := 82) rfl)
set_option maxRecDepth 20000 in
theorem zk_se_yX12_isGoodName : Cond.selects RX12 yX12_isGoodName yX12_isGoodName ∈ zTb := zp_mem rfl (List.mem_of_getElem? (i := 83) rfl)
set_option maxRecDepth 20000 in
theorem zk_se_yX12_isName : Cond.selects RX12 yX12_isName yX12_isName ∈ zTb := zp_mem rfl (List.mem_of_getElem? (i := 84) rfl)
set_option maxRecDepth 20000 in
theorem zk_se_yX12_isRun : Cond.selects RX12 yX12_isRun yX12_isRun ∈ zTb := zp_mem rfl (List.mem_of_getElem? (i := 85) rfl)
set_option maxRecDepth 20000 in
theorem zk_se_yX12_beginOf : Cond.selects RX12 yX12_beginOf yX12_beginOf ∈ zTb := zp_mem rfl (List.mem_of_getElem? (i := 86) rfl)
set_option maxRecDepth 20000 in
theorem zk_se_yX12_copies : Cond.selects RX12 yX12_copies yX12_copies ∈ zTb := zp_mem rfl (List.mem_of_getElem? (i := 87) rfl)
set_option maxRecDepth 20000 in
theorem zk_se_yX12_endOf : Cond.selects RX12 yX12_endOf yX12_endOf ∈ zTb := zp_mem rfl (List.mem_of_getElem? (i := 88) rfl)
set_option maxRecDepth 20000 in
theorem zk_se_yX12_isToken : Cond.selects RX12 yX12_isToken yX12_isToken ∈ zTb := zp_mem rfl (List.mem_of_getElem? (i := 89) rfl)
set_option maxRecDepth 20000 in
theorem zk_se_yX12_besideOf : Cond.selects RX12 yX12_besideOf yX12_besideOf ∈ zTb := zp_mem rfl (List.mem_of_getElem? (i := 90) rfl)
set_option maxRecDepth 20000 in
theorem zk_se_yX12_isIn : Cond.selects RX12 yX12_isIn yX12_isIn ∈ zTb := zp_mem rfl (List.mem_of_getElem? (i := 91) rfl)
set_option maxRecDepth 20000 in
theorem zk_se_yX12_wrongOf : Cond.selects RX12 yX12_wrongOf yX12_wrongOf ∈ zTb := zp_mem rfl (List.mem_of_getElem? (i := 92) rfl)
set_option maxRecDepth 20000 in
theorem zk_se_yX12_reduces : Cond.selects RX12 yX12_reduces yX12_reduces ∈ zTb := zp_mem rfl (List.mem_of_getElem? (i := 93) rfl)
set_option maxRecDepth 20000 in
theorem zk_se_yX12_laysTry : Cond.selects RX12 yX12_laysTry yX12_laysTry ∈ zTb := zp_mem rfl (List.mem_of_getElem? (i := 94) rfl)
set_option maxRecDepth 20000 in
theorem zk_se_yX12_prints : Cond.selects RX12 yX12_prints yX12_prints ∈ zTb := zp_mem rfl (List.mem_of_getElem? (i := 95) rfl)
set_option maxRecDepth 20000 in
theorem zk_se_yX12_pushes : Cond.selects RX12 yX12_pushes yX12_pushes ∈ zTb := zp_mem rfl (List.mem_of_getElem? (i := 96) rfl)
set_option maxRecDepth 20000 in
theorem zk_se_yX12_says : Cond.selects RX12 yX12_says yX12_says ∈ zTb := zp_mem rfl (List.mem_of_getElem? (i := 97) rfl)
set_option maxRecDepth 20000 in
theorem zk_se_yX12_saysToken : Cond.selects RX12 yX12_saysToken yX12_saysToken ∈ zTb := zp_mem rfl (List.mem_of_getElem? (i := 98) rfl)
set_option maxRecDepth 20000 in
theorem zk_se_yX12_isTerm : Cond.selects RX12 yX12_isTerm yX12_isTerm ∈ zTb := zp_mem rfl (List.mem_of_getElem? (i := 99) rfl)
set_option maxRecDepth 20000 in
theorem zk_se_yX12_youngBelow : Cond.selects RX12 yX12_youngBelow yX12_youngBelow ∈ zTb := zp_mem rfl (List.mem_of_getElem? (i := 100) rfl)
set_option maxRecDepth 20000 in
theorem zk_se_yX12_setName : Cond.selects RX12 yX12_setName yX12_setName ∈ zTb := zp_mem rfl (List.mem_of_getElem? (i := 101) rfl)
set_option maxRecDepth 20000 in
theorem zk_se_yX12_isIdle : Cond.selects RX12 yX12_isIdle yX12_isIdle ∈ zTb := zp_mem rfl (List.mem_of_getElem? (i := 102) rfl)
set_option maxRecDepth 20000 in
theorem zk_se_yX12_doesRead : Cond.selects RX12 yX12_doesRead yX12_doesRead ∈ zTb := zp_mem rfl (List.mem_of_getElem? (i := 103) rfl)
set_option maxRecDepth 20000 in
theorem zk_se_yX12_isInner : Cond.selects RX12 yX12_isInner yX12_isInner ∈ zTb := zp_mem rfl (List.mem_of_getElem? (i := 104) rfl)
set_option maxRecDepth 20000 in
theorem zk_se_yX12_deepOf : Cond.selects RX12 yX12_deepOf yX12_deepOf ∈ zTb := zp_mem rfl (List.mem_of_getElem? (i := 105) rfl)
set_option maxRecDepth 20000 in
theorem zk_se_yX12_setNames : Cond.selects RX12 yX12_setNames yX12_setNames ∈ zTb := zp_mem rfl (List.mem_of_getElem? (i := 106) rfl)
theorem zin_of {ws : List Cond} (ps : List Nat) (h : ws = ps.filterMap (fun i => lw_tbl[i]?)) (hg : ws.all goodWord = true) : ∀ w ∈ ws, w ∈ zTb := by
  intro w hw
  have hw2 := hw
  rw [h] at hw
  obtain ⟨i, -, hi⟩ := List.mem_filterMap.mp hw
  exact List.mem_filter.mpr ⟨List.mem_of_getElem? hi, List.all_eq_true.mp hg w hw2⟩
set_option maxRecDepth 20000 in
theorem zin_0 : ∀ w ∈ u_ws RX0 TX0 5, w ∈ zTb := zin_of [571, 573, 575, 577, 579] (by decide +kernel) (by decide +kernel)
set_option maxRecDepth 20000 in
theorem zin_1 : ∀ w ∈ u_ws RX1 TX1 14, w ∈ zTb := zin_of [397, 399, 401, 403, 405, 407, 409, 411, 413, 415, 417, 419, 421, 423] (by decide +kernel) (by decide +kernel)
set_option maxRecDepth 20000 in
theorem zin_2 : ∀ w ∈ u_ws RX2 TX2 9, w ∈ zTb := zin_of [221, 223, 225, 227, 229, 231, 233, 235, 237] (by decide +kernel) (by decide +kernel)
set_option maxRecDepth 20000 in
theorem zin_3 : ∀ w ∈ u_ws RX3 TX3 10, w ∈ zTb := zin_of [277, 279, 281, 283, 285, 287, 289, 291, 293, 295] (by decide +kernel) (by decide +kernel)
set_option maxRecDepth 20000 in
theorem zin_4 : ∀ w ∈ u_ws RX4 TX4 5, w ∈ zTb := zin_of [509, 511, 513, 515, 517] (by decide +kernel) (by decide +kernel)
set_option maxRecDepth 20000 in
theorem zin_5 : ∀ w ∈ u_ws RX5 TX5 4, w ∈ zTb := zin_of [532, 534, 536, 538] (by decide +kernel) (by decide +kernel)
set_option maxRecDepth 20000 in
theorem zin_6 : ∀ w ∈ u_ws RX6 TX6 1, w ∈ zTb := zin_of [138] (by decide +kernel) (by decide +kernel)
set_option maxRecDepth 20000 in
theorem zin_7 : ∀ w ∈ u_ws RX7 TX7 17, w ∈ zTb := zin_of [458, 460, 462, 464, 466, 468, 470, 472, 474, 476, 478, 480, 482, 484, 486, 488, 490] (by decide +kernel) (by decide +kernel)
set_option maxRecDepth 20000 in
theorem zin_8 : ∀ w ∈ u_ws RX8 TX8 6, w ∈ zTb := zin_of [184, 186, 188, 190, 192, 194] (by decide +kernel) (by decide +kernel)
set_option maxRecDepth 20000 in
theorem zin_9 : ∀ w ∈ u_ws RX9 TX9 16, w ∈ zTb := zin_of [335, 337, 339, 341, 343, 345, 347, 349, 351, 353, 355, 357, 359, 361, 363, 365] (by decide +kernel) (by decide +kernel)
set_option maxRecDepth 20000 in
theorem zin_10 : ∀ w ∈ u_ws RX10 TX10 2, w ∈ zTb := zin_of [557, 559] (by decide +kernel) (by decide +kernel)
set_option maxRecDepth 20000 in
theorem zin_11 : ∀ w ∈ u_ws RX11 TX11 19, w ∈ zTb := zin_of [834, 836, 838, 840, 842, 844, 846, 848, 850, 852, 854, 856, 858, 860, 862, 864, 866, 868, 870] (by decide +kernel) (by decide +kernel)
set_option maxRecDepth 20000 in
theorem zin_12 : ∀ w ∈ u_ws RX12 TX12 82, w ∈ zTb := zin_of [1480, 1482, 1484, 1486, 1488, 1490, 1492, 1494, 1496, 1498, 1500, 1502, 1504, 1506, 1508, 1510, 1512, 1514, 1516, 1518, 1520, 1522, 1524, 1526, 1528, 1530, 1532, 1534, 1536, 1538, 1540, 1542, 1544, 1546, 1548, 1550, 1552, 1554, 1556, 1558, 1560, 1562, 1564, 1566, 1568, 1570, 1572, 1574, 1576, 1578, 1580, 1582, 1584, 1586, 1588, 1590, 1592, 1594, 1596, 1598, 1600, 1602, 1604, 1606, 1608, 1610, 1612, 1614, 1616, 1618, 1620, 1622, 1624, 1626, 1628, 1630, 1632, 1634, 1636, 1638, 1640, 1642] (by decide +kernel) (by decide +kernel)
/-- the calls of private ones of a nest mate -/
abbrev zNsT : List (String × Nat × MethodName × String) := [(RX11, 24, yX2_init, RX11), (RX2, 22, yX8_init, RX11), (RX11, 34, yX3_init, RX11), (RX11, 66, yX4_init, RX11), (RX11, 80, yX0_init, RX11), (RX0, 11, yX10_init, RX11), (RX3, 56, yX11_symbolOf, RX11), (RX3, 66, yX11_lengthOf, RX11), (RX1, 160, yX11_leadsTo, RX11), (RX1, 166, yX11_ruleAt, RX11), (RX1, 169, yX11_lengthOf, RX11), (RX1, 180, yX11_symbolOf, RX11), (RX0, 74, yX11_fits, RX11), (RX10, 36, yX11_leadsTo, RX11), (RX10, 40, yX11_ruleAt, RX11), (RX10, 43, yX11_lengthOf, RX11), (RX10, 46, yX11_symbolOf, RX11)]
def zNest (U : State) : Prop := (∀ q ∈ zNsT, va_Nw (.methodLinkNest q.1 q.2.1 q.2.2.1 q.2.2.2) U) ∧ va_AO "RegrowDesk$Moment" U
theorem zk_mn_11_24 : (RX11, 24, yX2_init, RX11) ∈ zNsT := List.mem_of_getElem? (i := 0) rfl
theorem zk_mn_2_22 : (RX2, 22, yX8_init, RX11) ∈ zNsT := List.mem_of_getElem? (i := 1) rfl
theorem zk_mn_11_34 : (RX11, 34, yX3_init, RX11) ∈ zNsT := List.mem_of_getElem? (i := 2) rfl
theorem zk_mn_11_66 : (RX11, 66, yX4_init, RX11) ∈ zNsT := List.mem_of_getElem? (i := 3) rfl
theorem zk_mn_11_80 : (RX11, 80, yX0_init, RX11) ∈ zNsT := List.mem_of_getElem? (i := 4) rfl
theorem zk_mn_0_11 : (RX0, 11, yX10_init, RX11) ∈ zNsT := List.mem_of_getElem? (i := 5) rfl
theorem zk_mn_3_56 : (RX3, 56, yX11_symbolOf, RX11) ∈ zNsT := List.mem_of_getElem? (i := 6) rfl
theorem zk_mn_3_66 : (RX3, 66, yX11_lengthOf, RX11) ∈ zNsT := List.mem_of_getElem? (i := 7) rfl
theorem zk_mn_1_160 : (RX1, 160, yX11_leadsTo, RX11) ∈ zNsT := List.mem_of_getElem? (i := 8) rfl
theorem zk_mn_1_166 : (RX1, 166, yX11_ruleAt, RX11) ∈ zNsT := List.mem_of_getElem? (i := 9) rfl
theorem zk_mn_1_169 : (RX1, 169, yX11_lengthOf, RX11) ∈ zNsT := List.mem_of_getElem? (i := 10) rfl
theorem zk_mn_1_180 : (RX1, 180, yX11_symbolOf, RX11) ∈ zNsT := List.mem_of_getElem? (i := 11) rfl
theorem zk_mn_0_74 : (RX0, 74, yX11_fits, RX11) ∈ zNsT := List.mem_of_getElem? (i := 12) rfl
theorem zk_mn_10_36 : (RX10, 36, yX11_leadsTo, RX11) ∈ zNsT := List.mem_of_getElem? (i := 13) rfl
theorem zk_mn_10_40 : (RX10, 40, yX11_ruleAt, RX11) ∈ zNsT := List.mem_of_getElem? (i := 14) rfl
theorem zk_mn_10_43 : (RX10, 43, yX11_lengthOf, RX11) ∈ zNsT := List.mem_of_getElem? (i := 15) rfl
theorem zk_mn_10_46 : (RX10, 46, yX11_symbolOf, RX11) ∈ zNsT := List.mem_of_getElem? (i := 16) rfl
theorem zNs_tbl : ∀ q ∈ zNsT, Cond.methodLinkNest q.1 q.2.1 q.2.2.1 q.2.2.2 ∈ lw_tbl := by
  intro q hq
  have h : (zNsT.map (fun q => Cond.methodLinkNest q.1 q.2.1 q.2.2.1 q.2.2.2)) = [145, 153, 242, 495, 543, 549, 598, 701, 955, 972, 977, 984, 1128, 1156, 1157, 1158, 1159].filterMap (fun i => lw_tbl[i]?) := by decide +kernel
  have h2 : Cond.methodLinkNest q.1 q.2.1 q.2.2.1 q.2.2.2 ∈ zNsT.map (fun q => Cond.methodLinkNest q.1 q.2.1 q.2.2.1 q.2.2.2) := List.mem_map_of_mem hq
  rw [h] at h2
  obtain ⟨i, -, hi⟩ := List.mem_filterMap.mp h2
  exact List.mem_of_getElem? hi
def zst_LEADS : List Int32 := [1, 0, 0, 0, 0, 0, 0, 0, 0, 0, 0, 0, 0, 0, 0, 0, 0, 0, 2, 0, 0, 0, 3, 0, 0, 0, 0, 0, 0, 0, 4, 0, 0, 0, 0, 0, 0, 0, 0, 0, 0, 0, 0, 0, 0, 0, 0, 0, 0, 0, 0, 0, 0, 0, 0, 0, 0, 0, 5, 0, 0, 0, 0, 0, 0, 0, 0, 0, 6, 0, 0, 0, 0, 0, 0, 0, 0, 0, 0, 0, 0, 0, 0, 0, 0, 0, 0, 7, 8, 9, 10, 11, 0, 0, 0, 0, 12, 0, 0, 0, 0, 0, 0, 2, 0, 0, 0, 3, 0, 0, 0, 0, 0, 0, 0, 4, 13, 0, 0, 0, 0, 0, 0, 0, 0, 0, 0, 14, 15, 0, 0, 0, 0, 0, 0, 0, 0, 0, 0, 0, 0, 0, 0, 0, 0, 0, 16, 0, 0, 0, 0, 0, 0, 0, 0, 0, 0, 0, 0, 0, 0, 0, 0, 0, 0, 0, 0, 0, 0, 0, 0, 0, 0, 0, 0, 0, 0, 0, 0, 0, 0, 0, 0, 0, 0, 0, 0, 0, 0, 0, 0, 0, 0, 0, 0, 0, 0, 0, 0, 0, 0, 0, 0, 0, 0, 0, 17, 8, 9, 10, 11, 0, 0, 0, 0, 12, 0, 0, 0, 0, 0, 0, 0, 0, 0, 0, 0, 0, 0, 0, 0, 0, 0, 0, 0, 0, 0, 0, 0, 0, 0, 0, 0, 0, 0, 0, 0, 0, 0, 0, 0, 0, 0, 0, 0, 0, 0, 0, 18, 9, 10, 11, 0, 0, 0, 0, 12, 0, 0, 0, 0, 0, 0, 0, 0, 0, 19, 10, 11, 0, 0, 0, 0, 12, 0, 0, 0, 0, 0, 0, 0, 0, 0, 0, 0, 0, 0, 0, 15, 0, 0, 20, 0, 0, 0, 0, 0, 0, 0, 0, 0, 0, 0, 0, 0, 0, 16, 0, 0, 0, 0, 0, 0, 0, 0, 0, 0, 0, 0, 0, 0, 0, 0, 0, 0, 0, 0, 0, 0, 0, 0, 0, 0, 0, 0, 0, 0, 0, 0, 0, 0, 0, 0, 0, 0, 0, 0]
def zst_STATE_RULE : List Int32 := [0, (-1), 1, (-1), 0, (-1), (-1), (-1), 5, 7, 8, 9, (-1), 3, 2, (-1), (-1), (-1), 4, 6, 10]
def zst_RULE_SYMBOL : List Int32 := [0, 0, 1, 1, 2, 2, 3, 3, 4, 4, 4]
def zst_FOLLOWERS : List Int32 := [188, 184, 67, 1793, 67, 67, 67, 184, 769, 1793, 0, 0, 1281]
def zst_RULE_LENGTH : List Int32 := [0, 2, 4, 3, 3, 1, 3, 1, 1, 1, 3]
/-- the statics that are rows of numbers -/
abbrev zTab : List (String × String × List Int32) := [("RegrowDesk", "LEADS", zst_LEADS), ("RegrowDesk", "STATE_RULE", zst_STATE_RULE), ("RegrowDesk", "RULE_SYMBOL", zst_RULE_SYMBOL), ("RegrowDesk", "FOLLOWERS", zst_FOLLOWERS), ("RegrowDesk", "RULE_LENGTH", zst_RULE_LENGTH)]
