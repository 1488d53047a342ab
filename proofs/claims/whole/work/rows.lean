section
-- ===== PART A: goes FIRST, ahead of the names: the tables' words, and 'selects' of the private methods out of them =====
/-- a private method of a class that the tables say can be made, by its rows of tables_1 -/
def lw_okq (q : MethodName × Nat) : Prop := (q.1.cls ≠ "java/lang/invoke/MethodHandle" ∧ q.1.cls ≠ "java/lang/invoke/VarHandle") ∧ Cond.instantiable q.1.cls q.2 ∈ tables_1 ∧ Cond.privateMethod q.1 ∈ tables_1 ∧ Cond.instanceMethod q.1 ∈ tables_1
theorem lw_p0 : lw_okq (⟨"OneHandEach$Changes", "dropEldest", "()V"⟩, 5) := ⟨⟨by decide +kernel, by decide +kernel⟩, List.mem_of_getElem? (i := 164) (by decide +kernel), List.mem_of_getElem? (i := 319) (by decide +kernel), List.mem_of_getElem? (i := 320) (by decide +kernel)⟩
theorem lw_p1 : lw_okq (⟨"OneHandEach$Reader", "line", "()V"⟩, 5) := ⟨⟨by decide +kernel, by decide +kernel⟩, List.mem_of_getElem? (i := 76) (by decide +kernel), List.mem_of_getElem? (i := 395) (by decide +kernel), List.mem_of_getElem? (i := 396) (by decide +kernel)⟩
theorem lw_p2 : lw_okq (⟨"OneHandEach$Reader", "joined", "(II)V"⟩, 5) := ⟨⟨by decide +kernel, by decide +kernel⟩, List.mem_of_getElem? (i := 76) (by decide +kernel), List.mem_of_getElem? (i := 399) (by decide +kernel), List.mem_of_getElem? (i := 400) (by decide +kernel)⟩
theorem lw_p3 : lw_okq (⟨"OneHandEach$Reader", "operand", "(I)V"⟩, 5) := ⟨⟨by decide +kernel, by decide +kernel⟩, List.mem_of_getElem? (i := 76) (by decide +kernel), List.mem_of_getElem? (i := 403) (by decide +kernel), List.mem_of_getElem? (i := 404) (by decide +kernel)⟩
theorem lw_p4 : lw_okq (⟨"OneHandEach$Reader", "here", "()I"⟩, 5) := ⟨⟨by decide +kernel, by decide +kernel⟩, List.mem_of_getElem? (i := 76) (by decide +kernel), List.mem_of_getElem? (i := 407) (by decide +kernel), List.mem_of_getElem? (i := 408) (by decide +kernel)⟩
theorem lw_p5 : lw_okq (⟨"OneHandEach$Reader", "number", "()V"⟩, 5) := ⟨⟨by decide +kernel, by decide +kernel⟩, List.mem_of_getElem? (i := 76) (by decide +kernel), List.mem_of_getElem? (i := 411) (by decide +kernel), List.mem_of_getElem? (i := 412) (by decide +kernel)⟩
theorem lw_p6 : lw_okq (⟨"OneHandEach$Reader", "close", "()V"⟩, 5) := ⟨⟨by decide +kernel, by decide +kernel⟩, List.mem_of_getElem? (i := 76) (by decide +kernel), List.mem_of_getElem? (i := 419) (by decide +kernel), List.mem_of_getElem? (i := 420) (by decide +kernel)⟩
theorem lw_p7 : lw_okq (⟨"OneHandEach$Reader", "takes", "(I)Z"⟩, 5) := ⟨⟨by decide +kernel, by decide +kernel⟩, List.mem_of_getElem? (i := 76) (by decide +kernel), List.mem_of_getElem? (i := 423) (by decide +kernel), List.mem_of_getElem? (i := 424) (by decide +kernel)⟩
theorem lw_p8 : lw_okq (⟨"OneHandEach", "weightOf", "(I)I"⟩, 10) := ⟨⟨by decide +kernel, by decide +kernel⟩, List.mem_of_getElem? (i := 18) (by decide +kernel), List.mem_of_getElem? (i := 437) (by decide +kernel), List.mem_of_getElem? (i := 438) (by decide +kernel)⟩
theorem lw_p9 : lw_okq (⟨"OneHandEach$Law", "valueOf", "(III)I"⟩, 4) := ⟨⟨by decide +kernel, by decide +kernel⟩, List.mem_of_getElem? (i := 70) (by decide +kernel), List.mem_of_getElem? (i := 449) (by decide +kernel), List.mem_of_getElem? (i := 450) (by decide +kernel)⟩
theorem lw_p10 : lw_okq (⟨"OneHandEach$Law", "push", "(II)I"⟩, 4) := ⟨⟨by decide +kernel, by decide +kernel⟩, List.mem_of_getElem? (i := 70) (by decide +kernel), List.mem_of_getElem? (i := 462) (by decide +kernel), List.mem_of_getElem? (i := 463) (by decide +kernel)⟩
theorem lw_p11 : lw_okq (⟨"OneHandEach$Law", "workOut", "(II)I"⟩, 4) := ⟨⟨by decide +kernel, by decide +kernel⟩, List.mem_of_getElem? (i := 70) (by decide +kernel), List.mem_of_getElem? (i := 466) (by decide +kernel), List.mem_of_getElem? (i := 467) (by decide +kernel)⟩
theorem lw_p12 : lw_okq (⟨"OneHandEach$Entries", "lay", "(II)V"⟩, 4) := ⟨⟨by decide +kernel, by decide +kernel⟩, List.mem_of_getElem? (i := 48) (by decide +kernel), List.mem_of_getElem? (i := 495) (by decide +kernel), List.mem_of_getElem? (i := 496) (by decide +kernel)⟩
theorem lw_p13 : lw_okq (⟨"OneHandEach", "sightsFrom", "(LOneHandEach$Shelf;II)I"⟩, 10) := ⟨⟨by decide +kernel, by decide +kernel⟩, List.mem_of_getElem? (i := 18) (by decide +kernel), List.mem_of_getElem? (i := 510) (by decide +kernel), List.mem_of_getElem? (i := 511) (by decide +kernel)⟩
theorem lw_p14 : lw_okq (⟨"OneHandEach$Fitting", "startAnew", "()V"⟩, 3) := ⟨⟨by decide +kernel, by decide +kernel⟩, List.mem_of_getElem? (i := 135) (by decide +kernel), List.mem_of_getElem? (i := 526) (by decide +kernel), List.mem_of_getElem? (i := 527) (by decide +kernel)⟩
theorem lw_p15 : lw_okq (⟨"OneHandEach$Fitting", "strike", "(LOneHandEach$Town;IIII)V"⟩, 3) := ⟨⟨by decide +kernel, by decide +kernel⟩, List.mem_of_getElem? (i := 135) (by decide +kernel), List.mem_of_getElem? (i := 531) (by decide +kernel), List.mem_of_getElem? (i := 532) (by decide +kernel)⟩
def lw_privs_1 : List (MethodName × Nat) := [(⟨"OneHandEach$Changes", "dropEldest", "()V"⟩, 5), (⟨"OneHandEach$Reader", "line", "()V"⟩, 5), (⟨"OneHandEach$Reader", "joined", "(II)V"⟩, 5), (⟨"OneHandEach$Reader", "operand", "(I)V"⟩, 5), (⟨"OneHandEach$Reader", "here", "()I"⟩, 5), (⟨"OneHandEach$Reader", "number", "()V"⟩, 5), (⟨"OneHandEach$Reader", "close", "()V"⟩, 5), (⟨"OneHandEach$Reader", "takes", "(I)Z"⟩, 5), (⟨"OneHandEach", "weightOf", "(I)I"⟩, 10), (⟨"OneHandEach$Law", "valueOf", "(III)I"⟩, 4), (⟨"OneHandEach$Law", "push", "(II)I"⟩, 4), (⟨"OneHandEach$Law", "workOut", "(II)I"⟩, 4), (⟨"OneHandEach$Entries", "lay", "(II)V"⟩, 4), (⟨"OneHandEach", "sightsFrom", "(LOneHandEach$Shelf;II)I"⟩, 10), (⟨"OneHandEach$Fitting", "startAnew", "()V"⟩, 3), (⟨"OneHandEach$Fitting", "strike", "(LOneHandEach$Town;IIII)V"⟩, 3)]
theorem lw_r1 : ∀ q ∈ lw_privs_1, lw_okq q := List.forall_mem_cons.mpr ⟨lw_p0, List.forall_mem_cons.mpr ⟨lw_p1, List.forall_mem_cons.mpr ⟨lw_p2, List.forall_mem_cons.mpr ⟨lw_p3, List.forall_mem_cons.mpr ⟨lw_p4, List.forall_mem_cons.mpr ⟨lw_p5, List.forall_mem_cons.mpr ⟨lw_p6, List.forall_mem_cons.mpr ⟨lw_p7, List.forall_mem_cons.mpr ⟨lw_p8, List.forall_mem_cons.mpr ⟨lw_p9, List.forall_mem_cons.mpr ⟨lw_p10, List.forall_mem_cons.mpr ⟨lw_p11, List.forall_mem_cons.mpr ⟨lw_p12, List.forall_mem_cons.mpr ⟨lw_p13, List.forall_mem_cons.mpr ⟨lw_p14, List.forall_mem_cons.mpr ⟨lw_p15, fun _ h => absurd h List.not_mem_nil⟩⟩⟩⟩⟩⟩⟩⟩⟩⟩⟩⟩⟩⟩⟩⟩
theorem lw_p16 : lw_okq (⟨"OneHandEach", "weightOfFits", "(II)I"⟩, 10) := ⟨⟨by decide +kernel, by decide +kernel⟩, List.mem_of_getElem? (i := 18) (by decide +kernel), List.mem_of_getElem? (i := 557) (by decide +kernel), List.mem_of_getElem? (i := 558) (by decide +kernel)⟩
theorem lw_p17 : lw_okq (⟨"OneHandEach$Guesses", "note", "(II)V"⟩, 1) := ⟨⟨by decide +kernel, by decide +kernel⟩, List.mem_of_getElem? (i := 153) (by decide +kernel), List.mem_of_getElem? (i := 619) (by decide +kernel), List.mem_of_getElem? (i := 620) (by decide +kernel)⟩
theorem lw_p18 : lw_okq (⟨"OneHandEach", "refusalOfRow", "(I)I"⟩, 10) := ⟨⟨by decide +kernel, by decide +kernel⟩, List.mem_of_getElem? (i := 18) (by decide +kernel), List.mem_of_getElem? (i := 673) (by decide +kernel), List.mem_of_getElem? (i := 674) (by decide +kernel)⟩
theorem lw_p19 : lw_okq (⟨"OneHandEach", "isSo", "(LOneHandEach$Shelf;I)Z"⟩, 10) := ⟨⟨by decide +kernel, by decide +kernel⟩, List.mem_of_getElem? (i := 18) (by decide +kernel), List.mem_of_getElem? (i := 677) (by decide +kernel), List.mem_of_getElem? (i := 678) (by decide +kernel)⟩
theorem lw_p20 : lw_okq (⟨"OneHandEach$Bodies", "own", "(IIII)I"⟩, 4) := ⟨⟨by decide +kernel, by decide +kernel⟩, List.mem_of_getElem? (i := 219) (by decide +kernel), List.mem_of_getElem? (i := 733) (by decide +kernel), List.mem_of_getElem? (i := 734) (by decide +kernel)⟩
theorem lw_p21 : lw_okq (⟨"OneHandEach$Bodies", "from", "(IIIII)I"⟩, 4) := ⟨⟨by decide +kernel, by decide +kernel⟩, List.mem_of_getElem? (i := 219) (by decide +kernel), List.mem_of_getElem? (i := 741) (by decide +kernel), List.mem_of_getElem? (i := 742) (by decide +kernel)⟩
theorem lw_p22 : lw_okq (⟨"OneHandEach$Bodies", "run", "(IIIII)I"⟩, 4) := ⟨⟨by decide +kernel, by decide +kernel⟩, List.mem_of_getElem? (i := 219) (by decide +kernel), List.mem_of_getElem? (i := 749) (by decide +kernel), List.mem_of_getElem? (i := 750) (by decide +kernel)⟩
theorem lw_p23 : lw_okq (⟨"OneHandEach", "refusalOfPlace", "(II)I"⟩, 10) := ⟨⟨by decide +kernel, by decide +kernel⟩, List.mem_of_getElem? (i := 18) (by decide +kernel), List.mem_of_getElem? (i := 773) (by decide +kernel), List.mem_of_getElem? (i := 774) (by decide +kernel)⟩
theorem lw_p24 : lw_okq (⟨"OneHandEachModel", "show", "(II)I"⟩, 57) := ⟨⟨by decide +kernel, by decide +kernel⟩, List.mem_of_getElem? (i := 807) (by decide +kernel), List.mem_of_getElem? (i := 1000) (by decide +kernel), List.mem_of_getElem? (i := 1001) (by decide +kernel)⟩
theorem lw_p25 : lw_okq (⟨"OneHandEachModel", "partAt", "(II)I"⟩, 57) := ⟨⟨by decide +kernel, by decide +kernel⟩, List.mem_of_getElem? (i := 807) (by decide +kernel), List.mem_of_getElem? (i := 1007) (by decide +kernel), List.mem_of_getElem? (i := 1008) (by decide +kernel)⟩
theorem lw_p26 : lw_okq (⟨"OneHandEachModel", "lays", "(III)V"⟩, 57) := ⟨⟨by decide +kernel, by decide +kernel⟩, List.mem_of_getElem? (i := 807) (by decide +kernel), List.mem_of_getElem? (i := 1018) (by decide +kernel), List.mem_of_getElem? (i := 1019) (by decide +kernel)⟩
theorem lw_p27 : lw_okq (⟨"OneHandEachModel", "changes", "(III)I"⟩, 57) := ⟨⟨by decide +kernel, by decide +kernel⟩, List.mem_of_getElem? (i := 807) (by decide +kernel), List.mem_of_getElem? (i := 1030) (by decide +kernel), List.mem_of_getElem? (i := 1031) (by decide +kernel)⟩
theorem lw_p28 : lw_okq (⟨"OneHandEachModel", "valueAt", "(II)I"⟩, 57) := ⟨⟨by decide +kernel, by decide +kernel⟩, List.mem_of_getElem? (i := 807) (by decide +kernel), List.mem_of_getElem? (i := 1034) (by decide +kernel), List.mem_of_getElem? (i := 1035) (by decide +kernel)⟩
theorem lw_p29 : lw_okq (⟨"OneHandEachModel", "addSight", "(IIII)I"⟩, 57) := ⟨⟨by decide +kernel, by decide +kernel⟩, List.mem_of_getElem? (i := 807) (by decide +kernel), List.mem_of_getElem? (i := 1050) (by decide +kernel), List.mem_of_getElem? (i := 1051) (by decide +kernel)⟩
theorem lw_p30 : lw_okq (⟨"OneHandEachModel", "readText", "(I)I"⟩, 57) := ⟨⟨by decide +kernel, by decide +kernel⟩, List.mem_of_getElem? (i := 807) (by decide +kernel), List.mem_of_getElem? (i := 1078) (by decide +kernel), List.mem_of_getElem? (i := 1079) (by decide +kernel)⟩
theorem lw_p31 : lw_okq (⟨"OneHandEachModel", "line", "()V"⟩, 57) := ⟨⟨by decide +kernel, by decide +kernel⟩, List.mem_of_getElem? (i := 807) (by decide +kernel), List.mem_of_getElem? (i := 1082) (by decide +kernel), List.mem_of_getElem? (i := 1083) (by decide +kernel)⟩
def lw_privs_2 : List (MethodName × Nat) := [(⟨"OneHandEach", "weightOfFits", "(II)I"⟩, 10), (⟨"OneHandEach$Guesses", "note", "(II)V"⟩, 1), (⟨"OneHandEach", "refusalOfRow", "(I)I"⟩, 10), (⟨"OneHandEach", "isSo", "(LOneHandEach$Shelf;I)Z"⟩, 10), (⟨"OneHandEach$Bodies", "own", "(IIII)I"⟩, 4), (⟨"OneHandEach$Bodies", "from", "(IIIII)I"⟩, 4), (⟨"OneHandEach$Bodies", "run", "(IIIII)I"⟩, 4), (⟨"OneHandEach", "refusalOfPlace", "(II)I"⟩, 10), (⟨"OneHandEachModel", "show", "(II)I"⟩, 57), (⟨"OneHandEachModel", "partAt", "(II)I"⟩, 57), (⟨"OneHandEachModel", "lays", "(III)V"⟩, 57), (⟨"OneHandEachModel", "changes", "(III)I"⟩, 57), (⟨"OneHandEachModel", "valueAt", "(II)I"⟩, 57), (⟨"OneHandEachModel", "addSight", "(IIII)I"⟩, 57), (⟨"OneHandEachModel", "readText", "(I)I"⟩, 57), (⟨"OneHandEachModel", "line", "()V"⟩, 57)]
theorem lw_r2 : ∀ q ∈ lw_privs_2, lw_okq q := List.forall_mem_cons.mpr ⟨lw_p16, List.forall_mem_cons.mpr ⟨lw_p17, List.forall_mem_cons.mpr ⟨lw_p18, List.forall_mem_cons.mpr ⟨lw_p19, List.forall_mem_cons.mpr ⟨lw_p20, List.forall_mem_cons.mpr ⟨lw_p21, List.forall_mem_cons.mpr ⟨lw_p22, List.forall_mem_cons.mpr ⟨lw_p23, List.forall_mem_cons.mpr ⟨lw_p24, List.forall_mem_cons.mpr ⟨lw_p25, List.forall_mem_cons.mpr ⟨lw_p26, List.forall_mem_cons.mpr ⟨lw_p27, List.forall_mem_cons.mpr ⟨lw_p28, List.forall_mem_cons.mpr ⟨lw_p29, List.forall_mem_cons.mpr ⟨lw_p30, List.forall_mem_cons.mpr ⟨lw_p31, fun _ h => absurd h List.not_mem_nil⟩⟩⟩⟩⟩⟩⟩⟩⟩⟩⟩⟩⟩⟩⟩⟩
theorem lw_p32 : lw_okq (⟨"OneHandEachModel", "either", "()V"⟩, 57) := ⟨⟨by decide +kernel, by decide +kernel⟩, List.mem_of_getElem? (i := 807) (by decide +kernel), List.mem_of_getElem? (i := 1086) (by decide +kernel), List.mem_of_getElem? (i := 1087) (by decide +kernel)⟩
theorem lw_p33 : lw_okq (⟨"OneHandEachModel", "both", "()V"⟩, 57) := ⟨⟨by decide +kernel, by decide +kernel⟩, List.mem_of_getElem? (i := 807) (by decide +kernel), List.mem_of_getElem? (i := 1090) (by decide +kernel), List.mem_of_getElem? (i := 1091) (by decide +kernel)⟩
theorem lw_p34 : lw_okq (⟨"OneHandEachModel", "compared", "()V"⟩, 57) := ⟨⟨by decide +kernel, by decide +kernel⟩, List.mem_of_getElem? (i := 807) (by decide +kernel), List.mem_of_getElem? (i := 1094) (by decide +kernel), List.mem_of_getElem? (i := 1095) (by decide +kernel)⟩
theorem lw_p35 : lw_okq (⟨"OneHandEachModel", "sum", "()V"⟩, 57) := ⟨⟨by decide +kernel, by decide +kernel⟩, List.mem_of_getElem? (i := 807) (by decide +kernel), List.mem_of_getElem? (i := 1098) (by decide +kernel), List.mem_of_getElem? (i := 1099) (by decide +kernel)⟩
theorem lw_p36 : lw_okq (⟨"OneHandEachModel", "product", "()V"⟩, 57) := ⟨⟨by decide +kernel, by decide +kernel⟩, List.mem_of_getElem? (i := 807) (by decide +kernel), List.mem_of_getElem? (i := 1102) (by decide +kernel), List.mem_of_getElem? (i := 1103) (by decide +kernel)⟩
theorem lw_p37 : lw_okq (⟨"OneHandEachModel", "operand", "()V"⟩, 57) := ⟨⟨by decide +kernel, by decide +kernel⟩, List.mem_of_getElem? (i := 807) (by decide +kernel), List.mem_of_getElem? (i := 1106) (by decide +kernel), List.mem_of_getElem? (i := 1107) (by decide +kernel)⟩
theorem lw_p38 : lw_okq (⟨"OneHandEachModel", "look", "()I"⟩, 57) := ⟨⟨by decide +kernel, by decide +kernel⟩, List.mem_of_getElem? (i := 807) (by decide +kernel), List.mem_of_getElem? (i := 1110) (by decide +kernel), List.mem_of_getElem? (i := 1111) (by decide +kernel)⟩
theorem lw_p39 : lw_okq (⟨"OneHandEachModel", "addStep", "(II)V"⟩, 57) := ⟨⟨by decide +kernel, by decide +kernel⟩, List.mem_of_getElem? (i := 807) (by decide +kernel), List.mem_of_getElem? (i := 1117) (by decide +kernel), List.mem_of_getElem? (i := 1118) (by decide +kernel)⟩
theorem lw_p40 : lw_okq (⟨"OneHandEachModel", "opens", "()Z"⟩, 57) := ⟨⟨by decide +kernel, by decide +kernel⟩, List.mem_of_getElem? (i := 807) (by decide +kernel), List.mem_of_getElem? (i := 1121) (by decide +kernel), List.mem_of_getElem? (i := 1122) (by decide +kernel)⟩
theorem lw_p41 : lw_okq (⟨"OneHandEachModel", "faulty", "()V"⟩, 57) := ⟨⟨by decide +kernel, by decide +kernel⟩, List.mem_of_getElem? (i := 807) (by decide +kernel), List.mem_of_getElem? (i := 1125) (by decide +kernel), List.mem_of_getElem? (i := 1126) (by decide +kernel)⟩
theorem lw_p42 : lw_okq (⟨"OneHandEachModel", "figure", "()V"⟩, 57) := ⟨⟨by decide +kernel, by decide +kernel⟩, List.mem_of_getElem? (i := 807) (by decide +kernel), List.mem_of_getElem? (i := 1129) (by decide +kernel), List.mem_of_getElem? (i := 1130) (by decide +kernel)⟩
theorem lw_p43 : lw_okq (⟨"OneHandEachModel", "weightOf", "(I)I"⟩, 57) := ⟨⟨by decide +kernel, by decide +kernel⟩, List.mem_of_getElem? (i := 807) (by decide +kernel), List.mem_of_getElem? (i := 1137) (by decide +kernel), List.mem_of_getElem? (i := 1138) (by decide +kernel)⟩
theorem lw_p44 : lw_okq (⟨"OneHandEachModel", "gives", "(I)I"⟩, 57) := ⟨⟨by decide +kernel, by decide +kernel⟩, List.mem_of_getElem? (i := 807) (by decide +kernel), List.mem_of_getElem? (i := 1141) (by decide +kernel), List.mem_of_getElem? (i := 1142) (by decide +kernel)⟩
theorem lw_p45 : lw_okq (⟨"OneHandEachModel", "worked", "(III)I"⟩, 57) := ⟨⟨by decide +kernel, by decide +kernel⟩, List.mem_of_getElem? (i := 807) (by decide +kernel), List.mem_of_getElem? (i := 1145) (by decide +kernel), List.mem_of_getElem? (i := 1146) (by decide +kernel)⟩
theorem lw_p46 : lw_okq (⟨"OneHandEachModel", "findFits", "(I)V"⟩, 57) := ⟨⟨by decide +kernel, by decide +kernel⟩, List.mem_of_getElem? (i := 807) (by decide +kernel), List.mem_of_getElem? (i := 1156) (by decide +kernel), List.mem_of_getElem? (i := 1157) (by decide +kernel)⟩
theorem lw_p47 : lw_okq (⟨"OneHandEachModel", "isSeen", "(II)Z"⟩, 57) := ⟨⟨by decide +kernel, by decide +kernel⟩, List.mem_of_getElem? (i := 807) (by decide +kernel), List.mem_of_getElem? (i := 1160) (by decide +kernel), List.mem_of_getElem? (i := 1161) (by decide +kernel)⟩
def lw_privs_3 : List (MethodName × Nat) := [(⟨"OneHandEachModel", "either", "()V"⟩, 57), (⟨"OneHandEachModel", "both", "()V"⟩, 57), (⟨"OneHandEachModel", "compared", "()V"⟩, 57), (⟨"OneHandEachModel", "sum", "()V"⟩, 57), (⟨"OneHandEachModel", "product", "()V"⟩, 57), (⟨"OneHandEachModel", "operand", "()V"⟩, 57), (⟨"OneHandEachModel", "look", "()I"⟩, 57), (⟨"OneHandEachModel", "addStep", "(II)V"⟩, 57), (⟨"OneHandEachModel", "opens", "()Z"⟩, 57), (⟨"OneHandEachModel", "faulty", "()V"⟩, 57), (⟨"OneHandEachModel", "figure", "()V"⟩, 57), (⟨"OneHandEachModel", "weightOf", "(I)I"⟩, 57), (⟨"OneHandEachModel", "gives", "(I)I"⟩, 57), (⟨"OneHandEachModel", "worked", "(III)I"⟩, 57), (⟨"OneHandEachModel", "findFits", "(I)V"⟩, 57), (⟨"OneHandEachModel", "isSeen", "(II)Z"⟩, 57)]
theorem lw_r3 : ∀ q ∈ lw_privs_3, lw_okq q := List.forall_mem_cons.mpr ⟨lw_p32, List.forall_mem_cons.mpr ⟨lw_p33, List.forall_mem_cons.mpr ⟨lw_p34, List.forall_mem_cons.mpr ⟨lw_p35, List.forall_mem_cons.mpr ⟨lw_p36, List.forall_mem_cons.mpr ⟨lw_p37, List.forall_mem_cons.mpr ⟨lw_p38, List.forall_mem_cons.mpr ⟨lw_p39, List.forall_mem_cons.mpr ⟨lw_p40, List.forall_mem_cons.mpr ⟨lw_p41, List.forall_mem_cons.mpr ⟨lw_p42, List.forall_mem_cons.mpr ⟨lw_p43, List.forall_mem_cons.mpr ⟨lw_p44, List.forall_mem_cons.mpr ⟨lw_p45, List.forall_mem_cons.mpr ⟨lw_p46, List.forall_mem_cons.mpr ⟨lw_p47, fun _ h => absurd h List.not_mem_nil⟩⟩⟩⟩⟩⟩⟩⟩⟩⟩⟩⟩⟩⟩⟩⟩
theorem lw_p48 : lw_okq (⟨"OneHandEachModel", "isNear", "(II)Z"⟩, 57) := ⟨⟨by decide +kernel, by decide +kernel⟩, List.mem_of_getElem? (i := 807) (by decide +kernel), List.mem_of_getElem? (i := 1164) (by decide +kernel), List.mem_of_getElem? (i := 1165) (by decide +kernel)⟩
theorem lw_p49 : lw_okq (⟨"OneHandEachModel", "mostAlike", "(II)I"⟩, 57) := ⟨⟨by decide +kernel, by decide +kernel⟩, List.mem_of_getElem? (i := 807) (by decide +kernel), List.mem_of_getElem? (i := 1187) (by decide +kernel), List.mem_of_getElem? (i := 1188) (by decide +kernel)⟩
theorem lw_p50 : lw_okq (⟨"OneHandEachModel", "draw", "(I)I"⟩, 57) := ⟨⟨by decide +kernel, by decide +kernel⟩, List.mem_of_getElem? (i := 807) (by decide +kernel), List.mem_of_getElem? (i := 1195) (by decide +kernel), List.mem_of_getElem? (i := 1196) (by decide +kernel)⟩
theorem lw_p51 : lw_okq (⟨"OneHandEachModel", "walksSo", "(III)Z"⟩, 57) := ⟨⟨by decide +kernel, by decide +kernel⟩, List.mem_of_getElem? (i := 807) (by decide +kernel), List.mem_of_getElem? (i := 1200) (by decide +kernel), List.mem_of_getElem? (i := 1201) (by decide +kernel)⟩
theorem lw_p52 : lw_okq (⟨"OneHandEachModel", "wrongBy", "(III)I"⟩, 57) := ⟨⟨by decide +kernel, by decide +kernel⟩, List.mem_of_getElem? (i := 807) (by decide +kernel), List.mem_of_getElem? (i := 1208) (by decide +kernel), List.mem_of_getElem? (i := 1209) (by decide +kernel)⟩
theorem lw_p53 : lw_okq (⟨"OneHandEachModel", "meets", "(III)I"⟩, 57) := ⟨⟨by decide +kernel, by decide +kernel⟩, List.mem_of_getElem? (i := 807) (by decide +kernel), List.mem_of_getElem? (i := 1227) (by decide +kernel), List.mem_of_getElem? (i := 1228) (by decide +kernel)⟩
theorem lw_p54 : lw_okq (⟨"OneHandEachModel", "isBody", "(I)Z"⟩, 57) := ⟨⟨by decide +kernel, by decide +kernel⟩, List.mem_of_getElem? (i := 807) (by decide +kernel), List.mem_of_getElem? (i := 1267) (by decide +kernel), List.mem_of_getElem? (i := 1268) (by decide +kernel)⟩
theorem lw_p55 : lw_okq (⟨"OneHandEachModel", "showing", "(II)I"⟩, 57) := ⟨⟨by decide +kernel, by decide +kernel⟩, List.mem_of_getElem? (i := 807) (by decide +kernel), List.mem_of_getElem? (i := 1271) (by decide +kernel), List.mem_of_getElem? (i := 1272) (by decide +kernel)⟩
theorem lw_p56 : lw_okq (⟨"OneHandEachModel", "ran", "(I)V"⟩, 57) := ⟨⟨by decide +kernel, by decide +kernel⟩, List.mem_of_getElem? (i := 807) (by decide +kernel), List.mem_of_getElem? (i := 1278) (by decide +kernel), List.mem_of_getElem? (i := 1279) (by decide +kernel)⟩
theorem lw_p57 : lw_okq (⟨"OneHandEachModel", "plainShows", "(II)I"⟩, 57) := ⟨⟨by decide +kernel, by decide +kernel⟩, List.mem_of_getElem? (i := 807) (by decide +kernel), List.mem_of_getElem? (i := 1282) (by decide +kernel), List.mem_of_getElem? (i := 1283) (by decide +kernel)⟩
theorem lw_p58 : lw_okq (⟨"OneHandEachModel", "boyShows", "(II)I"⟩, 57) := ⟨⟨by decide +kernel, by decide +kernel⟩, List.mem_of_getElem? (i := 807) (by decide +kernel), List.mem_of_getElem? (i := 1286) (by decide +kernel), List.mem_of_getElem? (i := 1287) (by decide +kernel)⟩
theorem lw_p59 : lw_okq (⟨"OneHandEachModel", "parting", "(II)I"⟩, 57) := ⟨⟨by decide +kernel, by decide +kernel⟩, List.mem_of_getElem? (i := 807) (by decide +kernel), List.mem_of_getElem? (i := 1290) (by decide +kernel), List.mem_of_getElem? (i := 1291) (by decide +kernel)⟩
theorem lw_p60 : lw_okq (⟨"OneHandEachModel", "hillParts", "(II)I"⟩, 57) := ⟨⟨by decide +kernel, by decide +kernel⟩, List.mem_of_getElem? (i := 807) (by decide +kernel), List.mem_of_getElem? (i := 1294) (by decide +kernel), List.mem_of_getElem? (i := 1295) (by decide +kernel)⟩
theorem lw_p61 : lw_okq (⟨"OneHandEachModel", "plainParts", "(II)I"⟩, 57) := ⟨⟨by decide +kernel, by decide +kernel⟩, List.mem_of_getElem? (i := 807) (by decide +kernel), List.mem_of_getElem? (i := 1298) (by decide +kernel), List.mem_of_getElem? (i := 1299) (by decide +kernel)⟩
theorem lw_p62 : lw_okq (⟨"OneHandEachModel", "walking", "(II)I"⟩, 57) := ⟨⟨by decide +kernel, by decide +kernel⟩, List.mem_of_getElem? (i := 807) (by decide +kernel), List.mem_of_getElem? (i := 1302) (by decide +kernel), List.mem_of_getElem? (i := 1303) (by decide +kernel)⟩
theorem lw_p63 : lw_okq (⟨"OneHandEachModel", "fogWalks", "(II)I"⟩, 57) := ⟨⟨by decide +kernel, by decide +kernel⟩, List.mem_of_getElem? (i := 807) (by decide +kernel), List.mem_of_getElem? (i := 1306) (by decide +kernel), List.mem_of_getElem? (i := 1307) (by decide +kernel)⟩
def lw_privs_4 : List (MethodName × Nat) := [(⟨"OneHandEachModel", "isNear", "(II)Z"⟩, 57), (⟨"OneHandEachModel", "mostAlike", "(II)I"⟩, 57), (⟨"OneHandEachModel", "draw", "(I)I"⟩, 57), (⟨"OneHandEachModel", "walksSo", "(III)Z"⟩, 57), (⟨"OneHandEachModel", "wrongBy", "(III)I"⟩, 57), (⟨"OneHandEachModel", "meets", "(III)I"⟩, 57), (⟨"OneHandEachModel", "isBody", "(I)Z"⟩, 57), (⟨"OneHandEachModel", "showing", "(II)I"⟩, 57), (⟨"OneHandEachModel", "ran", "(I)V"⟩, 57), (⟨"OneHandEachModel", "plainShows", "(II)I"⟩, 57), (⟨"OneHandEachModel", "boyShows", "(II)I"⟩, 57), (⟨"OneHandEachModel", "parting", "(II)I"⟩, 57), (⟨"OneHandEachModel", "hillParts", "(II)I"⟩, 57), (⟨"OneHandEachModel", "plainParts", "(II)I"⟩, 57), (⟨"OneHandEachModel", "walking", "(II)I"⟩, 57), (⟨"OneHandEachModel", "fogWalks", "(II)I"⟩, 57)]
theorem lw_r4 : ∀ q ∈ lw_privs_4, lw_okq q := List.forall_mem_cons.mpr ⟨lw_p48, List.forall_mem_cons.mpr ⟨lw_p49, List.forall_mem_cons.mpr ⟨lw_p50, List.forall_mem_cons.mpr ⟨lw_p51, List.forall_mem_cons.mpr ⟨lw_p52, List.forall_mem_cons.mpr ⟨lw_p53, List.forall_mem_cons.mpr ⟨lw_p54, List.forall_mem_cons.mpr ⟨lw_p55, List.forall_mem_cons.mpr ⟨lw_p56, List.forall_mem_cons.mpr ⟨lw_p57, List.forall_mem_cons.mpr ⟨lw_p58, List.forall_mem_cons.mpr ⟨lw_p59, List.forall_mem_cons.mpr ⟨lw_p60, List.forall_mem_cons.mpr ⟨lw_p61, List.forall_mem_cons.mpr ⟨lw_p62, List.forall_mem_cons.mpr ⟨lw_p63, fun _ h => absurd h List.not_mem_nil⟩⟩⟩⟩⟩⟩⟩⟩⟩⟩⟩⟩⟩⟩⟩⟩
theorem lw_p64 : lw_okq (⟨"OneHandEachModel", "plainWalks", "(II)I"⟩, 57) := ⟨⟨by decide +kernel, by decide +kernel⟩, List.mem_of_getElem? (i := 807) (by decide +kernel), List.mem_of_getElem? (i := 1310) (by decide +kernel), List.mem_of_getElem? (i := 1311) (by decide +kernel)⟩
theorem lw_p65 : lw_okq (⟨"OneHandEachModel", "telling", "(II)I"⟩, 57) := ⟨⟨by decide +kernel, by decide +kernel⟩, List.mem_of_getElem? (i := 807) (by decide +kernel), List.mem_of_getElem? (i := 1314) (by decide +kernel), List.mem_of_getElem? (i := 1315) (by decide +kernel)⟩
theorem lw_p66 : lw_okq (⟨"OneHandEachModel", "plainTells", "(II)I"⟩, 57) := ⟨⟨by decide +kernel, by decide +kernel⟩, List.mem_of_getElem? (i := 807) (by decide +kernel), List.mem_of_getElem? (i := 1318) (by decide +kernel), List.mem_of_getElem? (i := 1319) (by decide +kernel)⟩
theorem lw_p67 : lw_okq (⟨"OneHandEachModel", "whyNoPlace", "(II)I"⟩, 57) := ⟨⟨by decide +kernel, by decide +kernel⟩, List.mem_of_getElem? (i := 807) (by decide +kernel), List.mem_of_getElem? (i := 1338) (by decide +kernel), List.mem_of_getElem? (i := 1339) (by decide +kernel)⟩
def lw_privs_5 : List (MethodName × Nat) := [(⟨"OneHandEachModel", "plainWalks", "(II)I"⟩, 57), (⟨"OneHandEachModel", "telling", "(II)I"⟩, 57), (⟨"OneHandEachModel", "plainTells", "(II)I"⟩, 57), (⟨"OneHandEachModel", "whyNoPlace", "(II)I"⟩, 57)]
theorem lw_r5 : ∀ q ∈ lw_privs_5, lw_okq q := List.forall_mem_cons.mpr ⟨lw_p64, List.forall_mem_cons.mpr ⟨lw_p65, List.forall_mem_cons.mpr ⟨lw_p66, List.forall_mem_cons.mpr ⟨lw_p67, fun _ h => absurd h List.not_mem_nil⟩⟩⟩⟩
def lw_privs : List (MethodName × Nat) := lw_privs_1 ++ (lw_privs_2 ++ (lw_privs_3 ++ (lw_privs_4 ++ (lw_privs_5))))
def lw_tbl : List Cond := k2_sels lw_privs ++ tables_1
theorem lw_privs_ok : ∀ q ∈ lw_privs, lw_okq q := by
  show ∀ q ∈ lw_privs_1 ++ (lw_privs_2 ++ (lw_privs_3 ++ (lw_privs_4 ++ (lw_privs_5)))), lw_okq q
  exact List.forall_mem_append.mpr ⟨lw_r1, List.forall_mem_append.mpr ⟨lw_r2, List.forall_mem_append.mpr ⟨lw_r3, List.forall_mem_append.mpr ⟨lw_r4, lw_r5⟩⟩⟩⟩

theorem goodIn_r {big : List Cond} (ws : List Cond) (ps : List Nat) (hp : ws = ps.filterMap (fun i => big[i]?)) (h : ws.all goodWord = true) : GoodIn big ws := by
  intro w hw
  have h1 := List.all_eq_true.mp h w hw
  rw [hp] at hw
  obtain ⟨i, -, hi⟩ := List.mem_filterMap.mp hw
  have hm : w ∈ big := by first | exact List.mem_of_getElem? hi | exact List.getElem?_mem hi
  exact ⟨hm, good_of_word h1⟩
theorem goodIn_app {big a b : List Cond} (ha : GoodIn big a) (hb : GoodIn big b) : GoodIn big (a ++ b) := fun w h => (List.mem_append.mp h).elim (ha w) (hb w)
theorem goodIn_ca {big a b : List Cond} {c : Cond} (ha : GoodIn big (c :: a)) (hb : GoodIn big b) : GoodIn big (c :: (a ++ b)) := fun w h => (List.mem_cons.mp h).elim (fun e => ha w (List.mem_cons.mpr (Or.inl e))) (fun h => (List.mem_append.mp h).elim (fun h => ha w (List.mem_cons.mpr (Or.inr h))) (hb w))
theorem goodIn_sub {big ws : List Cond} (hm : ∀ w ∈ ws, w ∈ big) (h : ws.all goodWord = true) : GoodIn big ws := fun w hw => ⟨hm w hw, good_of_word (List.all_eq_true.mp h w hw)⟩

def RX0 : String := "OneHandEach$Bodies"
def TX0 : u_T := fun k => match k with
  | 0 => ("OneHandEach$Bodies", "kinds", "[I", true)
  | 1 => ("OneHandEach$Bodies", "traced", "[I", true)
  | 2 => ("OneHandEach$Bodies", "count", "I", false)
  | _ => ("OneHandEach$Bodies", "ran", "I", false)
def tyX0 : Nat → FieldType := fun k => match k with
  | 0 => .array .int
  | 1 => .array .int
  | 2 => .int
  | _ => .int
abbrev wsX00 : List Cond := u_ws RX0 TX0 4
theorem nmX0 : ∀ a, a < 4 → ∀ b, b < 4 → a ≠ b → (TX0 a).2.1 ≠ (TX0 b).2.1 := by decide +kernel
theorem tyX0_ok : ∀ k, k < 4 → parseFieldDescriptor (TX0 k).2.2.1 = some (tyX0 k) := by decide +kernel
abbrev cX0_init : ByteArray := prog_2_method_1_code
def yX0_init : MethodName := ⟨RX0, "<init>", "()V"⟩
abbrev cX0_add : ByteArray := prog_2_method_2_code
def yX0_add : MethodName := ⟨RX0, "add", "(I)I"⟩
abbrev cX0_kindOf : ByteArray := prog_2_method_3_code
def yX0_kindOf : MethodName := ⟨RX0, "kindOf", "(I)I"⟩
abbrev cX0_isUnder : ByteArray := prog_2_method_4_code
def yX0_isUnder : MethodName := ⟨RX0, "isUnder", "(II)Z"⟩
abbrev cX0_actOf : ByteArray := prog_2_method_5_code
def yX0_actOf : MethodName := ⟨RX0, "actOf", "(III)I"⟩
abbrev cX0_own : ByteArray := prog_2_method_6_code
def yX0_own : MethodName := ⟨RX0, "own", "(IIII)I"⟩
abbrev cX0_from : ByteArray := prog_2_method_7_code
def yX0_from : MethodName := ⟨RX0, "from", "(IIIII)I"⟩
abbrev cX0_run : ByteArray := prog_2_method_8_code
def yX0_run : MethodName := ⟨RX0, "run", "(IIIII)I"⟩
def RX1 : String := "OneHandEach$Changes"
def TX1 : u_T := fun k => match k with
  | 0 => ("OneHandEach$Changes", "places", "[I", true)
  | 1 => ("OneHandEach$Changes", "was", "[I", true)
  | 2 => ("OneHandEach$Changes", "became", "[I", true)
  | 3 => ("OneHandEach$Changes", "done", "I", false)
  | _ => ("OneHandEach$Changes", "known", "I", false)
def tyX1 : Nat → FieldType := fun k => match k with
  | 0 => .array .int
  | 1 => .array .int
  | 2 => .array .int
  | 3 => .int
  | _ => .int
abbrev wsX10 : List Cond := u_ws RX1 TX1 5
theorem nmX1 : ∀ a, a < 5 → ∀ b, b < 5 → a ≠ b → (TX1 a).2.1 ≠ (TX1 b).2.1 := by decide +kernel
theorem tyX1_ok : ∀ k, k < 5 → parseFieldDescriptor (TX1 k).2.2.1 = some (tyX1 k) := by decide +kernel
abbrev cX1_init : ByteArray := prog_3_method_1_code
def yX1_init : MethodName := ⟨RX1, "<init>", "()V"⟩
abbrev cX1_add : ByteArray := prog_3_method_2_code
def yX1_add : MethodName := ⟨RX1, "add", "(III)V"⟩
abbrev cX1_dropEldest : ByteArray := prog_3_method_3_code
def yX1_dropEldest : MethodName := ⟨RX1, "dropEldest", "()V"⟩
abbrev cX1_undoIn : ByteArray := prog_3_method_4_code
def yX1_undoIn : MethodName := ⟨RX1, "undoIn", "(LOneHandEach$Town;)I"⟩
abbrev cX1_redoIn : ByteArray := prog_3_method_5_code
def yX1_redoIn : MethodName := ⟨RX1, "redoIn", "(LOneHandEach$Town;)I"⟩
def RX2 : String := "OneHandEach$Entries"
def TX2 : u_T := fun k => match k with
  | 0 => ("OneHandEach$Entries", "most", "I", true)
  | 1 => ("OneHandEach$Entries", "width", "I", true)
  | 2 => ("OneHandEach$Entries", "numbers", "[I", true)
  | _ => ("OneHandEach$Entries", "count", "I", false)
def tyX2 : Nat → FieldType := fun k => match k with
  | 0 => .int
  | 1 => .int
  | 2 => .array .int
  | _ => .int
abbrev wsX20 : List Cond := u_ws RX2 TX2 4
theorem nmX2 : ∀ a, a < 4 → ∀ b, b < 4 → a ≠ b → (TX2 a).2.1 ≠ (TX2 b).2.1 := by decide +kernel
theorem tyX2_ok : ∀ k, k < 4 → parseFieldDescriptor (TX2 k).2.2.1 = some (tyX2 k) := by decide +kernel
abbrev cX2_init : ByteArray := prog_4_method_1_code
def yX2_init : MethodName := ⟨RX2, "<init>", "(II)V"⟩
abbrev cX2_isFull : ByteArray := prog_4_method_2_code
def yX2_isFull : MethodName := ⟨RX2, "isFull", "()Z"⟩
abbrev cX2_add : ByteArray := prog_4_method_3_code
def yX2_add : MethodName := ⟨RX2, "add", "(IIII)I"⟩
abbrev cX2_lay : ByteArray := prog_4_method_4_code
def yX2_lay : MethodName := ⟨RX2, "lay", "(II)V"⟩
abbrev cX2_told : ByteArray := prog_4_method_5_code
def yX2_told : MethodName := ⟨RX2, "told", "(II)I"⟩
abbrev cX2_become : ByteArray := prog_4_method_6_code
def yX2_become : MethodName := ⟨RX2, "become", "(LOneHandEach$Entries;)V"⟩
def RX3 : String := "OneHandEach$Fitting"
def TX3 : u_T := fun k => match k with
  | 0 => ("OneHandEach$Fitting", "fit", "[Z", true)
  | 1 => ("OneHandEach$Fitting", "nearAhead", "[I", true)
  | _ => ("OneHandEach$Fitting", "tally", "[I", true)
def tyX3 : Nat → FieldType := fun k => match k with
  | 0 => .array .boolean
  | 1 => .array .int
  | _ => .array .int
abbrev wsX30 : List Cond := u_ws RX3 TX3 3
theorem nmX3 : ∀ a, a < 3 → ∀ b, b < 3 → a ≠ b → (TX3 a).2.1 ≠ (TX3 b).2.1 := by decide +kernel
theorem tyX3_ok : ∀ k, k < 3 → parseFieldDescriptor (TX3 k).2.2.1 = some (tyX3 k) := by decide +kernel
abbrev cX3_init : ByteArray := prog_5_method_1_code
def yX3_init : MethodName := ⟨RX3, "<init>", "()V"⟩
abbrev cX3_findAll : ByteArray := prog_5_method_2_code
def yX3_findAll : MethodName := ⟨RX3, "findAll", "(LOneHandEach$Town;LOneHandEach$Entries;I)V"⟩
abbrev cX3_fitsOfWalker : ByteArray := prog_5_method_3_code
def yX3_fitsOfWalker : MethodName := ⟨RX3, "fitsOfWalker", "(LOneHandEach$Town;II)I"⟩
abbrev cX3_startAnew : ByteArray := prog_5_method_4_code
def yX3_startAnew : MethodName := ⟨RX3, "startAnew", "()V"⟩
abbrev cX3_strike : ByteArray := prog_5_method_5_code
def yX3_strike : MethodName := ⟨RX3, "strike", "(LOneHandEach$Town;IIII)V"⟩
abbrev cX3_howMany : ByteArray := prog_5_method_6_code
def yX3_howMany : MethodName := ⟨RX3, "howMany", "()I"⟩
abbrev cX3_timeOf : ByteArray := prog_5_method_7_code
def yX3_timeOf : MethodName := ⟨RX3, "timeOf", "(I)I"⟩
abbrev cX3_mostAlike : ByteArray := prog_5_method_8_code
def yX3_mostAlike : MethodName := ⟨RX3, "mostAlike", "(LOneHandEach$Town;II)I"⟩
def RX4 : String := "OneHandEach$Guesses"
def TX4 : u_T := fun k => match k with
  | _ => ("OneHandEach$Guesses", "told", "[I", true)
def tyX4 : Nat → FieldType := fun k => match k with
  | _ => .array .int
abbrev wsX40 : List Cond := u_ws RX4 TX4 1
theorem nmX4 : ∀ a, a < 1 → ∀ b, b < 1 → a ≠ b → (TX4 a).2.1 ≠ (TX4 b).2.1 := by decide +kernel
theorem tyX4_ok : ∀ k, k < 1 → parseFieldDescriptor (TX4 k).2.2.1 = some (tyX4 k) := by decide +kernel
abbrev cX4_init : ByteArray := prog_6_method_1_code
def yX4_init : MethodName := ⟨RX4, "<init>", "()V"⟩
abbrev cX4_find : ByteArray := prog_6_method_2_code
def yX4_find : MethodName := ⟨RX4, "find", "(LOneHandEach$Town;LOneHandEach$Entries;I)V"⟩
abbrev cX4_note : ByteArray := prog_6_method_3_code
def yX4_note : MethodName := ⟨RX4, "note", "(II)V"⟩
abbrev cX4_fewestWrong : ByteArray := prog_6_method_4_code
def yX4_fewestWrong : MethodName := ⟨RX4, "fewestWrong", "(LOneHandEach$Town;LOneHandEach$Entries;I)I"⟩
abbrev cX4_wrongBy : ByteArray := prog_6_method_5_code
def yX4_wrongBy : MethodName := ⟨RX4, "wrongBy", "(LOneHandEach$Town;LOneHandEach$Entries;III)I"⟩
def RX5 : String := "OneHandEach$Image"
def TX5 : u_T := fun k => match k with
  | 0 => ("OneHandEach$Image", "sights", "LOneHandEach$Entries;", true)
  | 1 => ("OneHandEach$Image", "guns", "LOneHandEach$Entries;", true)
  | 2 => ("OneHandEach$Image", "off", "[I", true)
  | 3 => ("OneHandEach$Image", "timesSet", "[I", true)
  | 4 => ("OneHandEach$Image", "latestSet", "[I", true)
  | _ => ("OneHandEach$Image", "there", "Z", false)
def tyX5 : Nat → FieldType := fun k => match k with
  | 0 => .object "OneHandEach$Entries"
  | 1 => .object "OneHandEach$Entries"
  | 2 => .array .int
  | 3 => .array .int
  | 4 => .array .int
  | _ => .boolean
abbrev wsX50 : List Cond := u_ws RX5 TX5 6
theorem nmX5 : ∀ a, a < 6 → ∀ b, b < 6 → a ≠ b → (TX5 a).2.1 ≠ (TX5 b).2.1 := by decide +kernel
theorem tyX5_ok : ∀ k, k < 6 → parseFieldDescriptor (TX5 k).2.2.1 = some (tyX5 k) := by decide +kernel
abbrev cX5_init : ByteArray := prog_7_method_1_code
def yX5_init : MethodName := ⟨RX5, "<init>", "()V"⟩
def RX6 : String := "OneHandEach$Law"
def TX6 : u_T := fun k => match k with
  | 0 => ("OneHandEach$Law", "stack", "[I", true)
  | 1 => ("OneHandEach$Law", "reader", "LOneHandEach$Reader;", true)
  | 2 => ("OneHandEach$Law", "valid", "LOneHandEach$Program;", false)
  | _ => ("OneHandEach$Law", "there", "Z", false)
def tyX6 : Nat → FieldType := fun k => match k with
  | 0 => .array .int
  | 1 => .object "OneHandEach$Reader"
  | 2 => .object "OneHandEach$Program"
  | _ => .boolean
abbrev wsX60 : List Cond := u_ws RX6 TX6 4
theorem nmX6 : ∀ a, a < 4 → ∀ b, b < 4 → a ≠ b → (TX6 a).2.1 ≠ (TX6 b).2.1 := by decide +kernel
theorem tyX6_ok : ∀ k, k < 4 → parseFieldDescriptor (TX6 k).2.2.1 = some (tyX6 k) := by decide +kernel
abbrev cX6_init : ByteArray := prog_8_method_1_code
def yX6_init : MethodName := ⟨RX6, "<init>", "()V"⟩
abbrev cX6_takeByte : ByteArray := prog_8_method_2_code
def yX6_takeByte : MethodName := ⟨RX6, "takeByte", "(I)I"⟩
abbrev cX6_bytesOnTape : ByteArray := prog_8_method_3_code
def yX6_bytesOnTape : MethodName := ⟨RX6, "bytesOnTape", "()I"⟩
abbrev cX6_readTape : ByteArray := prog_8_method_4_code
def yX6_readTape : MethodName := ⟨RX6, "readTape", "()I"⟩
abbrev cX6_weightOf : ByteArray := prog_8_method_5_code
def yX6_weightOf : MethodName := ⟨RX6, "weightOf", "(III)I"⟩
abbrev cX6_valueOf : ByteArray := prog_8_method_6_code
def yX6_valueOf : MethodName := ⟨RX6, "valueOf", "(III)I"⟩
abbrev cX6_isName : ByteArray := prog_8_method_7_code
def yX6_isName : MethodName := ⟨RX6, "isName", "(I)Z"⟩
abbrev cX6_named : ByteArray := prog_8_method_8_code
def yX6_named : MethodName := ⟨RX6, "named", "(IIII)I"⟩
abbrev cX6_push : ByteArray := prog_8_method_9_code
def yX6_push : MethodName := ⟨RX6, "push", "(II)I"⟩
abbrev cX6_workOut : ByteArray := prog_8_method_10_code
def yX6_workOut : MethodName := ⟨RX6, "workOut", "(II)I"⟩
abbrev cX6_joined : ByteArray := prog_8_method_11_code
def yX6_joined : MethodName := ⟨RX6, "joined", "(III)I"⟩
def RX7 : String := "OneHandEach$Program"
def TX7 : u_T := fun k => match k with
  | 0 => ("OneHandEach$Program", "steps", "[I", true)
  | 1 => ("OneHandEach$Program", "values", "[I", true)
  | _ => ("OneHandEach$Program", "length", "I", false)
def tyX7 : Nat → FieldType := fun k => match k with
  | 0 => .array .int
  | 1 => .array .int
  | _ => .int
abbrev wsX70 : List Cond := u_ws RX7 TX7 3
theorem nmX7 : ∀ a, a < 3 → ∀ b, b < 3 → a ≠ b → (TX7 a).2.1 ≠ (TX7 b).2.1 := by decide +kernel
theorem tyX7_ok : ∀ k, k < 3 → parseFieldDescriptor (TX7 k).2.2.1 = some (tyX7 k) := by decide +kernel
abbrev cX7_init : ByteArray := prog_9_method_1_code
def yX7_init : MethodName := ⟨RX7, "<init>", "()V"⟩
abbrev cX7_add : ByteArray := prog_9_method_2_code
def yX7_add : MethodName := ⟨RX7, "add", "(II)V"⟩
def RX8 : String := "OneHandEach$Reader"
def TX8 : u_T := fun k => match k with
  | 0 => ("OneHandEach$Reader", "tape", "[I", true)
  | 1 => ("OneHandEach$Reader", "length", "I", false)
  | 2 => ("OneHandEach$Reader", "at", "I", false)
  | 3 => ("OneHandEach$Reader", "fault", "I", false)
  | _ => ("OneHandEach$Reader", "into", "LOneHandEach$Program;", false)
def tyX8 : Nat → FieldType := fun k => match k with
  | 0 => .array .int
  | 1 => .int
  | 2 => .int
  | 3 => .int
  | _ => .object "OneHandEach$Program"
abbrev wsX80 : List Cond := u_ws RX8 TX8 5
theorem nmX8 : ∀ a, a < 5 → ∀ b, b < 5 → a ≠ b → (TX8 a).2.1 ≠ (TX8 b).2.1 := by decide +kernel
theorem tyX8_ok : ∀ k, k < 5 → parseFieldDescriptor (TX8 k).2.2.1 = some (tyX8 k) := by decide +kernel
abbrev cX8_init : ByteArray := prog_10_method_1_code
def yX8_init : MethodName := ⟨RX8, "<init>", "()V"⟩
abbrev cX8_takeByte : ByteArray := prog_10_method_2_code
def yX8_takeByte : MethodName := ⟨RX8, "takeByte", "(I)I"⟩
abbrev cX8_read : ByteArray := prog_10_method_3_code
def yX8_read : MethodName := ⟨RX8, "read", "()I"⟩
abbrev cX8_here : ByteArray := prog_10_method_4_code
def yX8_here : MethodName := ⟨RX8, "here", "()I"⟩
abbrev cX8_takes : ByteArray := prog_10_method_5_code
def yX8_takes : MethodName := ⟨RX8, "takes", "(I)Z"⟩
abbrev cX8_line : ByteArray := prog_10_method_6_code
def yX8_line : MethodName := ⟨RX8, "line", "()V"⟩
abbrev cX8_joined : ByteArray := prog_10_method_7_code
def yX8_joined : MethodName := ⟨RX8, "joined", "(II)V"⟩
abbrev cX8_rankOf : ByteArray := prog_10_method_8_code
def yX8_rankOf : MethodName := ⟨RX8, "rankOf", "(I)I"⟩
abbrev cX8_operand : ByteArray := prog_10_method_9_code
def yX8_operand : MethodName := ⟨RX8, "operand", "(I)V"⟩
abbrev cX8_close : ByteArray := prog_10_method_10_code
def yX8_close : MethodName := ⟨RX8, "close", "()V"⟩
abbrev cX8_number : ByteArray := prog_10_method_11_code
def yX8_number : MethodName := ⟨RX8, "number", "()V"⟩
def RX9 : String := "OneHandEach$Shelf"
def TX9 : u_T := fun k => match k with
  | 0 => ("OneHandEach$Shelf", "elements", "[J", true)
  | 1 => ("OneHandEach$Shelf", "held", "I", false)
  | 2 => ("OneHandEach$Shelf", "body", "I", false)
  | 3 => ("OneHandEach$Shelf", "sort", "I", false)
  | _ => ("OneHandEach$Shelf", "length", "I", false)
def tyX9 : Nat → FieldType := fun k => match k with
  | 0 => .array .long
  | 1 => .int
  | 2 => .int
  | 3 => .int
  | _ => .int
abbrev wsX90 : List Cond := u_ws RX9 TX9 5
theorem nmX9 : ∀ a, a < 5 → ∀ b, b < 5 → a ≠ b → (TX9 a).2.1 ≠ (TX9 b).2.1 := by decide +kernel
theorem tyX9_ok : ∀ k, k < 5 → parseFieldDescriptor (TX9 k).2.2.1 = some (tyX9 k) := by decide +kernel
abbrev cX9_init : ByteArray := prog_11_method_1_code
def yX9_init : MethodName := ⟨RX9, "<init>", "()V"⟩
abbrev cX9_holdsRow : ByteArray := prog_11_method_2_code
def yX9_holdsRow : MethodName := ⟨RX9, "holdsRow", "(I)Z"⟩
abbrev cX9_becomeRow : ByteArray := prog_11_method_3_code
def yX9_becomeRow : MethodName := ⟨RX9, "becomeRow", "(II)V"⟩
abbrev cX9_keptOf : ByteArray := prog_11_method_4_code
def yX9_keptOf : MethodName := ⟨RX9, "keptOf", "(J)J"⟩
def RX10 : String := "OneHandEach$Town"
def TX10 : u_T := fun k => match k with
  | 0 => ("OneHandEach$Town", "amounts", "[I", true)
  | 1 => ("OneHandEach$Town", "timesSet", "[I", true)
  | _ => ("OneHandEach$Town", "latestSet", "[I", true)
def tyX10 : Nat → FieldType := fun k => match k with
  | 0 => .array .int
  | 1 => .array .int
  | _ => .array .int
abbrev wsX100 : List Cond := u_ws RX10 TX10 3
theorem nmX10 : ∀ a, a < 3 → ∀ b, b < 3 → a ≠ b → (TX10 a).2.1 ≠ (TX10 b).2.1 := by decide +kernel
theorem tyX10_ok : ∀ k, k < 3 → parseFieldDescriptor (TX10 k).2.2.1 = some (tyX10 k) := by decide +kernel
abbrev cX10_init : ByteArray := prog_12_method_1_code
def yX10_init : MethodName := ⟨RX10, "<init>", "()V"⟩
abbrev cX10_placeOf : ByteArray := prog_12_method_2_code
def yX10_placeOf : MethodName := ⟨RX10, "placeOf", "(II)I"⟩
abbrev cX10_allows : ByteArray := prog_12_method_3_code
def yX10_allows : MethodName := ⟨RX10, "allows", "(II)Z"⟩
abbrev cX10_off : ByteArray := prog_12_method_4_code
def yX10_off : MethodName := ⟨RX10, "off", "(I)I"⟩
abbrev cX10_gain : ByteArray := prog_12_method_5_code
def yX10_gain : MethodName := ⟨RX10, "gain", "(I)I"⟩
abbrev cX10_err : ByteArray := prog_12_method_6_code
def yX10_err : MethodName := ⟨RX10, "err", "()I"⟩
abbrev cX10_timeBy : ByteArray := prog_12_method_7_code
def yX10_timeBy : MethodName := ⟨RX10, "timeBy", "(III)I"⟩
abbrev cX10_partOf : ByteArray := prog_12_method_8_code
def yX10_partOf : MethodName := ⟨RX10, "partOf", "(II)I"⟩
abbrev cX10_timeAt : ByteArray := prog_12_method_9_code
def yX10_timeAt : MethodName := ⟨RX10, "timeAt", "(II)I"⟩
abbrev cX10_partAt : ByteArray := prog_12_method_10_code
def yX10_partAt : MethodName := ⟨RX10, "partAt", "(II)I"⟩
abbrev cX10_isNear : ByteArray := prog_12_method_11_code
def yX10_isNear : MethodName := ⟨RX10, "isNear", "(II)Z"⟩
abbrev cX10_offToShow : ByteArray := prog_12_method_12_code
def yX10_offToShow : MethodName := ⟨RX10, "offToShow", "(III)I"⟩
abbrev cX10_firstMinute : ByteArray := prog_12_method_13_code
def yX10_firstMinute : MethodName := ⟨RX10, "firstMinute", "(III)I"⟩
abbrev cX10_walkOf : ByteArray := prog_12_method_14_code
def yX10_walkOf : MethodName := ⟨RX10, "walkOf", "(I)I"⟩
def RX11 : String := "OneHandEach"
def TX11 : u_T := fun k => match k with
  | 0 => ("OneHandEach", "town", "LOneHandEach$Town;", true)
  | 1 => ("OneHandEach", "sights", "LOneHandEach$Entries;", true)
  | 2 => ("OneHandEach", "guns", "LOneHandEach$Entries;", true)
  | 3 => ("OneHandEach", "law", "LOneHandEach$Law;", true)
  | 4 => ("OneHandEach", "fitting", "LOneHandEach$Fitting;", true)
  | 5 => ("OneHandEach", "guesses", "LOneHandEach$Guesses;", true)
  | 6 => ("OneHandEach", "changes", "LOneHandEach$Changes;", true)
  | 7 => ("OneHandEach", "kept", "LOneHandEach$Image;", true)
  | 8 => ("OneHandEach", "bodies", "LOneHandEach$Bodies;", true)
  | _ => ("OneHandEach", "shelves", "[LOneHandEach$Shelf;", true)
def tyX11 : Nat → FieldType := fun k => match k with
  | 0 => .object "OneHandEach$Town"
  | 1 => .object "OneHandEach$Entries"
  | 2 => .object "OneHandEach$Entries"
  | 3 => .object "OneHandEach$Law"
  | 4 => .object "OneHandEach$Fitting"
  | 5 => .object "OneHandEach$Guesses"
  | 6 => .object "OneHandEach$Changes"
  | 7 => .object "OneHandEach$Image"
  | 8 => .object "OneHandEach$Bodies"
  | _ => .array (.object "OneHandEach$Shelf")
abbrev wsX110 : List Cond := u_ws RX11 TX11 10
theorem nmX11 : ∀ a, a < 10 → ∀ b, b < 10 → a ≠ b → (TX11 a).2.1 ≠ (TX11 b).2.1 := by decide +kernel
theorem tyX11_ok : ∀ k, k < 10 → parseFieldDescriptor (TX11 k).2.2.1 = some (tyX11 k) := by decide +kernel
abbrev cX11_init : ByteArray := prog_1_method_1_code
def yX11_init : MethodName := ⟨RX11, "<init>", "()V"⟩
abbrev cX11_mend : ByteArray := prog_1_method_2_code
def yX11_mend : MethodName := ⟨RX11, "mend", "(III)I"⟩
abbrev cX11_of : ByteArray := prog_1_method_3_code
def yX11_of : MethodName := ⟨RX11, "of", "(II)I"⟩
abbrev cX11_shown : ByteArray := prog_1_method_4_code
def yX11_shown : MethodName := ⟨RX11, "shown", "(III)I"⟩
abbrev cX11_feed : ByteArray := prog_1_method_5_code
def yX11_feed : MethodName := ⟨RX11, "feed", "(I)I"⟩
abbrev cX11_law : ByteArray := prog_1_method_6_code
def yX11_law : MethodName := ⟨RX11, "law", "()I"⟩
abbrev cX11_weight : ByteArray := prog_1_method_7_code
def yX11_weight : MethodName := ⟨RX11, "weight", "(I)I"⟩
abbrev cX11_sight : ByteArray := prog_1_method_8_code
def yX11_sight : MethodName := ⟨RX11, "sight", "(II)I"⟩
abbrev cX11_sights : ByteArray := prog_1_method_9_code
def yX11_sights : MethodName := ⟨RX11, "sights", "(III)I"⟩
abbrev cX11_forget : ByteArray := prog_1_method_10_code
def yX11_forget : MethodName := ⟨RX11, "forget", "()I"⟩
abbrev cX11_fits : ByteArray := prog_1_method_11_code
def yX11_fits : MethodName := ⟨RX11, "fits", "(I)I"⟩
abbrev cX11_chance : ByteArray := prog_1_method_12_code
def yX11_chance : MethodName := ⟨RX11, "chance", "(II)I"⟩
abbrev cX11_likely : ByteArray := prog_1_method_13_code
def yX11_likely : MethodName := ⟨RX11, "likely", "()I"⟩
abbrev cX11_tells : ByteArray := prog_1_method_14_code
def yX11_tells : MethodName := ⟨RX11, "tells", "(I)I"⟩
abbrev cX11_next : ByteArray := prog_1_method_15_code
def yX11_next : MethodName := ⟨RX11, "next", "(II)I"⟩
abbrev cX11_lot : ByteArray := prog_1_method_16_code
def yX11_lot : MethodName := ⟨RX11, "lot", "(III)I"⟩
abbrev cX11_gun : ByteArray := prog_1_method_17_code
def yX11_gun : MethodName := ⟨RX11, "gun", "(II)I"⟩
abbrev cX11_guess : ByteArray := prog_1_method_18_code
def yX11_guess : MethodName := ⟨RX11, "guess", "(II)I"⟩
abbrev cX11_liars : ByteArray := prog_1_method_19_code
def yX11_liars : MethodName := ⟨RX11, "liars", "(I)I"⟩
abbrev cX11_agree : ByteArray := prog_1_method_20_code
def yX11_agree : MethodName := ⟨RX11, "agree", "(III)I"⟩
abbrev cX11_meet : ByteArray := prog_1_method_21_code
def yX11_meet : MethodName := ⟨RX11, "meet", "(III)I"⟩
abbrev cX11_round : ByteArray := prog_1_method_22_code
def yX11_round : MethodName := ⟨RX11, "round", "(II)I"⟩
abbrev cX11_set : ByteArray := prog_1_method_23_code
def yX11_set : MethodName := ⟨RX11, "set", "(II)I"⟩
abbrev cX11_led : ByteArray := prog_1_method_24_code
def yX11_led : MethodName := ⟨RX11, "led", "(II)I"⟩
abbrev cX11_judge : ByteArray := prog_1_method_25_code
def yX11_judge : MethodName := ⟨RX11, "judge", "(I)I"⟩
abbrev cX11_image : ByteArray := prog_1_method_26_code
def yX11_image : MethodName := ⟨RX11, "image", "()I"⟩
abbrev cX11_back : ByteArray := prog_1_method_27_code
def yX11_back : MethodName := ⟨RX11, "back", "()I"⟩
abbrev cX11_undo : ByteArray := prog_1_method_28_code
def yX11_undo : MethodName := ⟨RX11, "undo", "()I"⟩
abbrev cX11_redo : ByteArray := prog_1_method_29_code
def yX11_redo : MethodName := ⟨RX11, "redo", "()I"⟩
abbrev cX11_body : ByteArray := prog_1_method_30_code
def yX11_body : MethodName := ⟨RX11, "body", "(I)I"⟩
abbrev cX11_act : ByteArray := prog_1_method_31_code
def yX11_act : MethodName := ⟨RX11, "act", "(III)I"⟩
abbrev cX11_trace : ByteArray := prog_1_method_32_code
def yX11_trace : MethodName := ⟨RX11, "trace", "(I)I"⟩
abbrev cX11_keep : ByteArray := prog_1_method_33_code
def yX11_keep : MethodName := ⟨RX11, "keep", "(II)I"⟩
abbrev cX11_row : ByteArray := prog_1_method_34_code
def yX11_row : MethodName := ⟨RX11, "row", "(III)I"⟩
abbrev cX11_put : ByteArray := prog_1_method_35_code
def yX11_put : MethodName := ⟨RX11, "put", "(IIJ)I"⟩
abbrev cX11_element : ByteArray := prog_1_method_36_code
def yX11_element : MethodName := ⟨RX11, "element", "(II)J"⟩
abbrev cX11_shift : ByteArray := prog_1_method_37_code
def yX11_shift : MethodName := ⟨RX11, "shift", "(IIIII)I"⟩
abbrev cX11_taken : ByteArray := prog_1_method_38_code
def yX11_taken : MethodName := ⟨RX11, "taken", "(II)I"⟩
abbrev cX11_count : ByteArray := prog_1_method_39_code
def yX11_count : MethodName := ⟨RX11, "count", "(I)I"⟩
abbrev cX11_isOneOf : ByteArray := prog_1_method_40_code
def yX11_isOneOf : MethodName := ⟨RX11, "isOneOf", "(II)Z"⟩
abbrev cX11_isClock : ByteArray := prog_1_method_41_code
def yX11_isClock : MethodName := ⟨RX11, "isClock", "(I)Z"⟩
abbrev cX11_isMinute : ByteArray := prog_1_method_42_code
def yX11_isMinute : MethodName := ⟨RX11, "isMinute", "(I)Z"⟩
abbrev cX11_isTime : ByteArray := prog_1_method_43_code
def yX11_isTime : MethodName := ⟨RX11, "isTime", "(I)Z"⟩
abbrev cX11_isPart : ByteArray := prog_1_method_44_code
def yX11_isPart : MethodName := ⟨RX11, "isPart", "(I)Z"⟩
abbrev cX11_isShelf : ByteArray := prog_1_method_45_code
def yX11_isShelf : MethodName := ⟨RX11, "isShelf", "(I)Z"⟩
abbrev cX11_isKind : ByteArray := prog_1_method_46_code
def yX11_isKind : MethodName := ⟨RX11, "isKind", "(I)Z"⟩
abbrev cX11_isSight : ByteArray := prog_1_method_47_code
def yX11_isSight : MethodName := ⟨RX11, "isSight", "(IIII)Z"⟩
abbrev cX11_drawn : ByteArray := prog_1_method_48_code
def yX11_drawn : MethodName := ⟨RX11, "drawn", "(I)I"⟩
abbrev cX11_commonMeasure : ByteArray := prog_1_method_49_code
def yX11_commonMeasure : MethodName := ⟨RX11, "commonMeasure", "(II)I"⟩
abbrev cX11_weightOf : ByteArray := prog_1_method_50_code
def yX11_weightOf : MethodName := ⟨RX11, "weightOf", "(I)I"⟩
abbrev cX11_weightOfFits : ByteArray := prog_1_method_51_code
def yX11_weightOfFits : MethodName := ⟨RX11, "weightOfFits", "(II)I"⟩
abbrev cX11_sightsFrom : ByteArray := prog_1_method_52_code
def yX11_sightsFrom : MethodName := ⟨RX11, "sightsFrom", "(LOneHandEach$Shelf;II)I"⟩
abbrev cX11_isSo : ByteArray := prog_1_method_53_code
def yX11_isSo : MethodName := ⟨RX11, "isSo", "(LOneHandEach$Shelf;I)Z"⟩
abbrev cX11_refusalOfRow : ByteArray := prog_1_method_54_code
def yX11_refusalOfRow : MethodName := ⟨RX11, "refusalOfRow", "(I)I"⟩
abbrev cX11_refusalOfPlace : ByteArray := prog_1_method_55_code
def yX11_refusalOfPlace : MethodName := ⟨RX11, "refusalOfPlace", "(II)I"⟩
def RX12 : String := "OneHandEachModel"
def TX12 : u_T := fun k => match k with
  | 0 => ("OneHandEachModel", "code", "I", false)
  | 1 => ("OneHandEachModel", "off", "[I", true)
  | 2 => ("OneHandEachModel", "gain", "[I", true)
  | 3 => ("OneHandEachModel", "err", "I", false)
  | 4 => ("OneHandEachModel", "walkFrom", "I", false)
  | 5 => ("OneHandEachModel", "walkTo", "I", false)
  | 6 => ("OneHandEachModel", "setOften", "[I", true)
  | 7 => ("OneHandEachModel", "setLatest", "[I", true)
  | 8 => ("OneHandEachModel", "doneMany", "I", false)
  | 9 => ("OneHandEachModel", "undoneMany", "I", false)
  | 10 => ("OneHandEachModel", "changeOf", "[I", true)
  | 11 => ("OneHandEachModel", "changeAt", "[I", true)
  | 12 => ("OneHandEachModel", "before", "[I", true)
  | 13 => ("OneHandEachModel", "behind", "[I", true)
  | 14 => ("OneHandEachModel", "sights", "I", false)
  | 15 => ("OneHandEachModel", "seenClock", "[I", true)
  | 16 => ("OneHandEachModel", "seenPart", "[I", true)
  | 17 => ("OneHandEachModel", "seenFrom", "[I", true)
  | 18 => ("OneHandEachModel", "seenTo", "[I", true)
  | 19 => ("OneHandEachModel", "guns", "I", false)
  | 20 => ("OneHandEachModel", "gunClock", "[I", true)
  | 21 => ("OneHandEachModel", "gunDay", "[I", true)
  | 22 => ("OneHandEachModel", "gunPart", "[I", true)
  | 23 => ("OneHandEachModel", "tape", "[B", true)
  | 24 => ("OneHandEachModel", "taped", "I", false)
  | 25 => ("OneHandEachModel", "here", "I", false)
  | 26 => ("OneHandEachModel", "fault", "I", false)
  | 27 => ("OneHandEachModel", "open", "I", false)
  | 28 => ("OneHandEachModel", "laid", "I", false)
  | 29 => ("OneHandEachModel", "act", "[B", true)
  | 30 => ("OneHandEachModel", "with", "[I", true)
  | 31 => ("OneHandEachModel", "lineMany", "[I", true)
  | 32 => ("OneHandEachModel", "testEnd", "[S", true)
  | 33 => ("OneHandEachModel", "lineEnd", "[S", true)
  | 34 => ("OneHandEachModel", "facts", "[I", true)
  | 35 => ("OneHandEachModel", "pile", "[I", true)
  | 36 => ("OneHandEachModel", "hasLaw", "Z", false)
  | 37 => ("OneHandEachModel", "fit", "[Z", true)
  | 38 => ("OneHandEachModel", "fitMany", "I", false)
  | 39 => ("OneHandEachModel", "parts", "[I", true)
  | 40 => ("OneHandEachModel", "drawn", "I", false)
  | 41 => ("OneHandEachModel", "hasImage", "Z", false)
  | 42 => ("OneHandEachModel", "keptSights", "I", false)
  | 43 => ("OneHandEachModel", "keptGuns", "I", false)
  | 44 => ("OneHandEachModel", "keptOff", "[I", true)
  | 45 => ("OneHandEachModel", "keptOften", "[I", true)
  | 46 => ("OneHandEachModel", "keptLatest", "[I", true)
  | 47 => ("OneHandEachModel", "keptSeen", "[I", true)
  | 48 => ("OneHandEachModel", "keptGun", "[I", true)
  | 49 => ("OneHandEachModel", "bodies", "I", false)
  | 50 => ("OneHandEachModel", "kind", "[I", true)
  | 51 => ("OneHandEachModel", "traces", "I", false)
  | 52 => ("OneHandEachModel", "traced", "[I", true)
  | 53 => ("OneHandEachModel", "holds", "[I", true)
  | 54 => ("OneHandEachModel", "size", "[I", true)
  | 55 => ("OneHandEachModel", "elements", "[J", true)
  | _ => ("OneHandEachModel", "shifted", "[J", true)
def tyX12 : Nat → FieldType := fun k => match k with
  | 0 => .int
  | 1 => .array .int
  | 2 => .array .int
  | 3 => .int
  | 4 => .int
  | 5 => .int
  | 6 => .array .int
  | 7 => .array .int
  | 8 => .int
  | 9 => .int
  | 10 => .array .int
  | 11 => .array .int
  | 12 => .array .int
  | 13 => .array .int
  | 14 => .int
  | 15 => .array .int
  | 16 => .array .int
  | 17 => .array .int
  | 18 => .array .int
  | 19 => .int
  | 20 => .array .int
  | 21 => .array .int
  | 22 => .array .int
  | 23 => .array .byte
  | 24 => .int
  | 25 => .int
  | 26 => .int
  | 27 => .int
  | 28 => .int
  | 29 => .array .byte
  | 30 => .array .int
  | 31 => .array .int
  | 32 => .array .short
  | 33 => .array .short
  | 34 => .array .int
  | 35 => .array .int
  | 36 => .boolean
  | 37 => .array .boolean
  | 38 => .int
  | 39 => .array .int
  | 40 => .int
  | 41 => .boolean
  | 42 => .int
  | 43 => .int
  | 44 => .array .int
  | 45 => .array .int
  | 46 => .array .int
  | 47 => .array .int
  | 48 => .array .int
  | 49 => .int
  | 50 => .array .int
  | 51 => .int
  | 52 => .array .int
  | 53 => .array .int
  | 54 => .array .int
  | 55 => .array .long
  | _ => .array .long
abbrev wsX120 : List Cond := u_ws RX12 TX12 57
theorem nmX12 : ∀ a, a < 57 → ∀ b, b < 57 → a ≠ b → (TX12 a).2.1 ≠ (TX12 b).2.1 := by decide +kernel
theorem tyX12_ok : ∀ k, k < 57 → parseFieldDescriptor (TX12 k).2.2.1 = some (tyX12 k) := by decide +kernel
abbrev cX12_init : ByteArray := prog_14_method_1_code
def yX12_init : MethodName := ⟨RX12, "<init>", "()V"⟩
abbrev cX12_in : ByteArray := prog_14_method_3_code
def yX12_in : MethodName := ⟨RX12, "in", "(III)Z"⟩
abbrev cX12_bitsOf : ByteArray := prog_14_method_4_code
def yX12_bitsOf : MethodName := ⟨RX12, "bitsOf", "(I)I"⟩
abbrev cX12_isClock : ByteArray := prog_14_method_5_code
def yX12_isClock : MethodName := ⟨RX12, "isClock", "(I)Z"⟩
abbrev cX12_isMinute : ByteArray := prog_14_method_6_code
def yX12_isMinute : MethodName := ⟨RX12, "isMinute", "(I)Z"⟩
abbrev cX12_showBy : ByteArray := prog_14_method_7_code
def yX12_showBy : MethodName := ⟨RX12, "showBy", "(III)I"⟩
abbrev cX12_show : ByteArray := prog_14_method_8_code
def yX12_show : MethodName := ⟨RX12, "show", "(II)I"⟩
abbrev cX12_partOf : ByteArray := prog_14_method_9_code
def yX12_partOf : MethodName := ⟨RX12, "partOf", "(II)I"⟩
abbrev cX12_partAt : ByteArray := prog_14_method_10_code
def yX12_partAt : MethodName := ⟨RX12, "partAt", "(II)I"⟩
abbrev cX12_isNear : ByteArray := prog_14_method_11_code
def yX12_isNear : MethodName := ⟨RX12, "isNear", "(II)Z"⟩
abbrev cX12_shown : ByteArray := prog_14_method_12_code
def yX12_shown : MethodName := ⟨RX12, "shown", "(III)I"⟩
abbrev cX12_valueAt : ByteArray := prog_14_method_13_code
def yX12_valueAt : MethodName := ⟨RX12, "valueAt", "(II)I"⟩
abbrev cX12_lays : ByteArray := prog_14_method_14_code
def yX12_lays : MethodName := ⟨RX12, "lays", "(III)V"⟩
abbrev cX12_changes : ByteArray := prog_14_method_15_code
def yX12_changes : MethodName := ⟨RX12, "changes", "(III)I"⟩
abbrev cX12_undo : ByteArray := prog_14_method_16_code
def yX12_undo : MethodName := ⟨RX12, "undo", "()I"⟩
abbrev cX12_redo : ByteArray := prog_14_method_17_code
def yX12_redo : MethodName := ⟨RX12, "redo", "()I"⟩
abbrev cX12_mend : ByteArray := prog_14_method_18_code
def yX12_mend : MethodName := ⟨RX12, "mend", "(III)I"⟩
abbrev cX12_of : ByteArray := prog_14_method_19_code
def yX12_of : MethodName := ⟨RX12, "of", "(II)I"⟩
abbrev cX12_isSight : ByteArray := prog_14_method_20_code
def yX12_isSight : MethodName := ⟨RX12, "isSight", "(IIII)Z"⟩
abbrev cX12_addSight : ByteArray := prog_14_method_21_code
def yX12_addSight : MethodName := ⟨RX12, "addSight", "(IIII)I"⟩
abbrev cX12_sight : ByteArray := prog_14_method_22_code
def yX12_sight : MethodName := ⟨RX12, "sight", "(II)I"⟩
abbrev cX12_sights : ByteArray := prog_14_method_23_code
def yX12_sights : MethodName := ⟨RX12, "sights", "(III)I"⟩
abbrev cX12_forget : ByteArray := prog_14_method_24_code
def yX12_forget : MethodName := ⟨RX12, "forget", "()I"⟩
abbrev cX12_gun : ByteArray := prog_14_method_25_code
def yX12_gun : MethodName := ⟨RX12, "gun", "(II)I"⟩
abbrev cX12_feed : ByteArray := prog_14_method_26_code
def yX12_feed : MethodName := ⟨RX12, "feed", "(I)I"⟩
abbrev cX12_look : ByteArray := prog_14_method_27_code
def yX12_look : MethodName := ⟨RX12, "look", "()I"⟩
abbrev cX12_faulty : ByteArray := prog_14_method_28_code
def yX12_faulty : MethodName := ⟨RX12, "faulty", "()V"⟩
abbrev cX12_addStep : ByteArray := prog_14_method_29_code
def yX12_addStep : MethodName := ⟨RX12, "addStep", "(II)V"⟩
abbrev cX12_nameOf : ByteArray := prog_14_method_30_code
def yX12_nameOf : MethodName := ⟨RX12, "nameOf", "(I)I"⟩
abbrev cX12_opens : ByteArray := prog_14_method_31_code
def yX12_opens : MethodName := ⟨RX12, "opens", "()Z"⟩
abbrev cX12_figure : ByteArray := prog_14_method_32_code
def yX12_figure : MethodName := ⟨RX12, "figure", "()V"⟩
abbrev cX12_operand : ByteArray := prog_14_method_33_code
def yX12_operand : MethodName := ⟨RX12, "operand", "()V"⟩
abbrev cX12_product : ByteArray := prog_14_method_34_code
def yX12_product : MethodName := ⟨RX12, "product", "()V"⟩
abbrev cX12_sum : ByteArray := prog_14_method_35_code
def yX12_sum : MethodName := ⟨RX12, "sum", "()V"⟩
abbrev cX12_compared : ByteArray := prog_14_method_36_code
def yX12_compared : MethodName := ⟨RX12, "compared", "()V"⟩
abbrev cX12_both : ByteArray := prog_14_method_37_code
def yX12_both : MethodName := ⟨RX12, "both", "()V"⟩
abbrev cX12_either : ByteArray := prog_14_method_38_code
def yX12_either : MethodName := ⟨RX12, "either", "()V"⟩
abbrev cX12_line : ByteArray := prog_14_method_39_code
def yX12_line : MethodName := ⟨RX12, "line", "()V"⟩
abbrev cX12_readText : ByteArray := prog_14_method_40_code
def yX12_readText : MethodName := ⟨RX12, "readText", "(I)I"⟩
abbrev cX12_twoOf : ByteArray := prog_14_method_41_code
def yX12_twoOf : MethodName := ⟨RX12, "twoOf", "(III)I"⟩
abbrev cX12_worked : ByteArray := prog_14_method_42_code
def yX12_worked : MethodName := ⟨RX12, "worked", "(III)I"⟩
abbrev cX12_gives : ByteArray := prog_14_method_43_code
def yX12_gives : MethodName := ⟨RX12, "gives", "(I)I"⟩
abbrev cX12_law : ByteArray := prog_14_method_44_code
def yX12_law : MethodName := ⟨RX12, "law", "()I"⟩
abbrev cX12_weightOf : ByteArray := prog_14_method_45_code
def yX12_weightOf : MethodName := ⟨RX12, "weightOf", "(I)I"⟩
abbrev cX12_weight : ByteArray := prog_14_method_46_code
def yX12_weight : MethodName := ⟨RX12, "weight", "(I)I"⟩
abbrev cX12_isSeen : ByteArray := prog_14_method_47_code
def yX12_isSeen : MethodName := ⟨RX12, "isSeen", "(II)Z"⟩
abbrev cX12_findFits : ByteArray := prog_14_method_48_code
def yX12_findFits : MethodName := ⟨RX12, "findFits", "(I)V"⟩
abbrev cX12_fits : ByteArray := prog_14_method_49_code
def yX12_fits : MethodName := ⟨RX12, "fits", "(I)I"⟩
abbrev cX12_common : ByteArray := prog_14_method_50_code
def yX12_common : MethodName := ⟨RX12, "common", "(II)I"⟩
abbrev cX12_chance : ByteArray := prog_14_method_51_code
def yX12_chance : MethodName := ⟨RX12, "chance", "(II)I"⟩
abbrev cX12_likely : ByteArray := prog_14_method_52_code
def yX12_likely : MethodName := ⟨RX12, "likely", "()I"⟩
abbrev cX12_tells : ByteArray := prog_14_method_53_code
def yX12_tells : MethodName := ⟨RX12, "tells", "(I)I"⟩
abbrev cX12_mostAlike : ByteArray := prog_14_method_54_code
def yX12_mostAlike : MethodName := ⟨RX12, "mostAlike", "(II)I"⟩
abbrev cX12_next : ByteArray := prog_14_method_55_code
def yX12_next : MethodName := ⟨RX12, "next", "(II)I"⟩
abbrev cX12_draw : ByteArray := prog_14_method_56_code
def yX12_draw : MethodName := ⟨RX12, "draw", "(I)I"⟩
abbrev cX12_walksSo : ByteArray := prog_14_method_57_code
def yX12_walksSo : MethodName := ⟨RX12, "walksSo", "(III)Z"⟩
abbrev cX12_lot : ByteArray := prog_14_method_58_code
def yX12_lot : MethodName := ⟨RX12, "lot", "(III)I"⟩
abbrev cX12_wrongBy : ByteArray := prog_14_method_59_code
def yX12_wrongBy : MethodName := ⟨RX12, "wrongBy", "(III)I"⟩
abbrev cX12_guess : ByteArray := prog_14_method_60_code
def yX12_guess : MethodName := ⟨RX12, "guess", "(II)I"⟩
abbrev cX12_liars : ByteArray := prog_14_method_61_code
def yX12_liars : MethodName := ⟨RX12, "liars", "(I)I"⟩
abbrev cX12_agree : ByteArray := prog_14_method_62_code
def yX12_agree : MethodName := ⟨RX12, "agree", "(III)I"⟩
abbrev cX12_meets : ByteArray := prog_14_method_63_code
def yX12_meets : MethodName := ⟨RX12, "meets", "(III)I"⟩
abbrev cX12_meet : ByteArray := prog_14_method_64_code
def yX12_meet : MethodName := ⟨RX12, "meet", "(III)I"⟩
abbrev cX12_round : ByteArray := prog_14_method_65_code
def yX12_round : MethodName := ⟨RX12, "round", "(II)I"⟩
abbrev cX12_set : ByteArray := prog_14_method_66_code
def yX12_set : MethodName := ⟨RX12, "set", "(II)I"⟩
abbrev cX12_led : ByteArray := prog_14_method_67_code
def yX12_led : MethodName := ⟨RX12, "led", "(II)I"⟩
abbrev cX12_judge : ByteArray := prog_14_method_68_code
def yX12_judge : MethodName := ⟨RX12, "judge", "(I)I"⟩
abbrev cX12_image : ByteArray := prog_14_method_69_code
def yX12_image : MethodName := ⟨RX12, "image", "()I"⟩
abbrev cX12_back : ByteArray := prog_14_method_70_code
def yX12_back : MethodName := ⟨RX12, "back", "()I"⟩
abbrev cX12_isBody : ByteArray := prog_14_method_71_code
def yX12_isBody : MethodName := ⟨RX12, "isBody", "(I)Z"⟩
abbrev cX12_ran : ByteArray := prog_14_method_72_code
def yX12_ran : MethodName := ⟨RX12, "ran", "(I)V"⟩
abbrev cX12_trace : ByteArray := prog_14_method_73_code
def yX12_trace : MethodName := ⟨RX12, "trace", "(I)I"⟩
abbrev cX12_body : ByteArray := prog_14_method_74_code
def yX12_body : MethodName := ⟨RX12, "body", "(I)I"⟩
abbrev cX12_isUnder : ByteArray := prog_14_method_75_code
def yX12_isUnder : MethodName := ⟨RX12, "isUnder", "(II)Z"⟩
abbrev cX12_plainShows : ByteArray := prog_14_method_76_code
def yX12_plainShows : MethodName := ⟨RX12, "plainShows", "(II)I"⟩
abbrev cX12_boyShows : ByteArray := prog_14_method_77_code
def yX12_boyShows : MethodName := ⟨RX12, "boyShows", "(II)I"⟩
abbrev cX12_showing : ByteArray := prog_14_method_78_code
def yX12_showing : MethodName := ⟨RX12, "showing", "(II)I"⟩
abbrev cX12_plainParts : ByteArray := prog_14_method_79_code
def yX12_plainParts : MethodName := ⟨RX12, "plainParts", "(II)I"⟩
abbrev cX12_hillParts : ByteArray := prog_14_method_80_code
def yX12_hillParts : MethodName := ⟨RX12, "hillParts", "(II)I"⟩
abbrev cX12_parting : ByteArray := prog_14_method_81_code
def yX12_parting : MethodName := ⟨RX12, "parting", "(II)I"⟩
abbrev cX12_plainWalks : ByteArray := prog_14_method_82_code
def yX12_plainWalks : MethodName := ⟨RX12, "plainWalks", "(II)I"⟩
abbrev cX12_fogWalks : ByteArray := prog_14_method_83_code
def yX12_fogWalks : MethodName := ⟨RX12, "fogWalks", "(II)I"⟩
abbrev cX12_walking : ByteArray := prog_14_method_84_code
def yX12_walking : MethodName := ⟨RX12, "walking", "(II)I"⟩
abbrev cX12_plainTells : ByteArray := prog_14_method_85_code
def yX12_plainTells : MethodName := ⟨RX12, "plainTells", "(II)I"⟩
abbrev cX12_telling : ByteArray := prog_14_method_86_code
def yX12_telling : MethodName := ⟨RX12, "telling", "(II)I"⟩
abbrev cX12_act : ByteArray := prog_14_method_87_code
def yX12_act : MethodName := ⟨RX12, "act", "(III)I"⟩
abbrev cX12_count : ByteArray := prog_14_method_88_code
def yX12_count : MethodName := ⟨RX12, "count", "(I)I"⟩
abbrev cX12_isShelf : ByteArray := prog_14_method_89_code
def yX12_isShelf : MethodName := ⟨RX12, "isShelf", "(I)Z"⟩
abbrev cX12_keep : ByteArray := prog_14_method_90_code
def yX12_keep : MethodName := ⟨RX12, "keep", "(II)I"⟩
abbrev cX12_row : ByteArray := prog_14_method_91_code
def yX12_row : MethodName := ⟨RX12, "row", "(III)I"⟩
abbrev cX12_whyNoPlace : ByteArray := prog_14_method_92_code
def yX12_whyNoPlace : MethodName := ⟨RX12, "whyNoPlace", "(II)I"⟩
abbrev cX12_put : ByteArray := prog_14_method_93_code
def yX12_put : MethodName := ⟨RX12, "put", "(IIJ)I"⟩
abbrev cX12_element : ByteArray := prog_14_method_94_code
def yX12_element : MethodName := ⟨RX12, "element", "(II)J"⟩
abbrev cX12_shift : ByteArray := prog_14_method_95_code
def yX12_shift : MethodName := ⟨RX12, "shift", "(IIIII)I"⟩
abbrev cX12_taken : ByteArray := prog_14_method_96_code
def yX12_taken : MethodName := ⟨RX12, "taken", "(II)I"⟩
def RJ6 : String := "java/lang/Integer"
def TJ6 : u_T := fun k => match k with
  | _ => ("", "", "", false)
def tyJ6 : Nat → FieldType := fun k => match k with
  | _ => .int
abbrev wsJ60 : List Cond := u_ws RJ6 TJ6 0
theorem nmJ6 : ∀ a, a < 0 → ∀ b, b < 0 → a ≠ b → (TJ6 a).2.1 ≠ (TJ6 b).2.1 := by decide +kernel
theorem tyJ6_ok : ∀ k, k < 0 → parseFieldDescriptor (TJ6 k).2.2.1 = some (tyJ6 k) := by decide +kernel
abbrev cJ6_bitCount_0f7a4 : ByteArray := prog_15_method_49_code
def yJ6_bitCount_0f7a4 : MethodName := ⟨RJ6, "bitCount", "(I)I"⟩
def RJ9 : String := "java/lang/Math"
def TJ9 : u_T := fun k => match k with
  | _ => ("", "", "", false)
def tyJ9 : Nat → FieldType := fun k => match k with
  | _ => .int
abbrev wsJ90 : List Cond := u_ws RJ9 TJ9 0
theorem nmJ9 : ∀ a, a < 0 → ∀ b, b < 0 → a ≠ b → (TJ9 a).2.1 ≠ (TJ9 b).2.1 := by decide +kernel
theorem tyJ9_ok : ∀ k, k < 0 → parseFieldDescriptor (TJ9 k).2.2.1 = some (tyJ9 k) := by decide +kernel
abbrev cJ9_floorMod_7cf53 : ByteArray := prog_16_method_50_code
def yJ9_floorMod_7cf53 : MethodName := ⟨RJ9, "floorMod", "(II)I"⟩
abbrev cJ9_abs_0f7a4 : ByteArray := prog_16_method_59_code
def yJ9_abs_0f7a4 : MethodName := ⟨RJ9, "abs", "(I)I"⟩
abbrev cJ9_max_7cf53 : ByteArray := prog_16_method_65_code
def yJ9_max_7cf53 : MethodName := ⟨RJ9, "max", "(II)I"⟩
abbrev cJ9_min_7cf53 : ByteArray := prog_16_method_69_code
def yJ9_min_7cf53 : MethodName := ⟨RJ9, "min", "(II)I"⟩
def RJ10 : String := "java/lang/System"
def TJ10 : u_T := fun k => match k with
  | _ => ("", "", "", false)
def tyJ10 : Nat → FieldType := fun k => match k with
  | _ => .int
abbrev wsJ100 : List Cond := u_ws RJ10 TJ10 0
theorem nmJ10 : ∀ a, a < 0 → ∀ b, b < 0 → a ≠ b → (TJ10 a).2.1 ≠ (TJ10 b).2.1 := by decide +kernel
theorem tyJ10_ok : ∀ k, k < 0 → parseFieldDescriptor (TJ10 k).2.2.1 = some (tyJ10 k) := by decide +kernel
def RL : String := "OneHandEachLaw"
abbrev cL_law : ByteArray := code
def yL_law : MethodName := ⟨RL, "law", "([I)Z"⟩
abbrev vwCl : List vw_C := [(RX0, TX0, 4), (RX1, TX1, 5), (RX2, TX2, 4), (RX3, TX3, 3), (RX4, TX4, 1), (RX5, TX5, 6), (RX6, TX6, 4), (RX7, TX7, 3), (RX8, TX8, 5), (RX9, TX9, 5), (RX10, TX10, 3), (RX11, TX11, 10), (RX12, TX12, 57)]
-- ===== object shapes (kind: class number, 100 int[], 101 boolean[], 102 byte[], 103 short[], 104 long[], 105 Shelf[]; size), constant references =====
def m_shl : List (Nat × Nat) := [(11, 10), (10, 3), (100, 7), (100, 2), (100, 2), (2, 4), (100, 32), (2, 4), (100, 30), (6, 4), (100, 121), (8, 5), (100, 120), (7, 3), (100, 121), (100, 121), (7, 3), (100, 121), (100, 121), (3, 3), (101, 720), (100, 820), (100, 60), (4, 1), (100, 7), (1, 5), (100, 40), (100, 40), (100, 40), (5, 6), (2, 4), (100, 32), (2, 4), (100, 30), (100, 2), (100, 2), (100, 2), (0, 4), (100, 50), (100, 24), (105, 6), (9, 5), (104, 60), (9, 5), (104, 60), (9, 5), (104, 60), (9, 5), (104, 60), (9, 5), (104, 60), (9, 5), (104, 60), (12, 57), (100, 2), (100, 2), (100, 2), (100, 2), (100, 40), (100, 40), (100, 40), (100, 40), (100, 8), (100, 8), (100, 8), (100, 8), (100, 10), (100, 10), (100, 10), (102, 120), (102, 260), (100, 260), (100, 2), (103, 122), (103, 122), (100, 5), (100, 130), (101, 720), (100, 60), (100, 2), (100, 2), (100, 2), (100, 32), (100, 30), (100, 50), (100, 24), (100, 6), (100, 6), (104, 360), (104, 60)]
def m_srl : List (List Nat) := [[2, 6, 8, 10, 20, 24, 26, 30, 38, 41], [3, 4, 5], [], [], [], [0, 0, 7, 0], [], [0, 0, 9, 0], [], [11, 12, 0, 0], [], [13, 0, 0, 0, 0], [], [15, 16, 0], [], [], [18, 19, 0], [], [], [21, 22, 23], [], [], [], [25], [], [27, 28, 29, 0, 0], [], [], [], [31, 33, 35, 36, 37, 0], [0, 0, 32, 0], [], [0, 0, 34, 0], [], [], [], [], [39, 40, 0, 0], [], [], [42, 44, 46, 48, 50, 52], [43, 0, 0, 0, 0], [], [45, 0, 0, 0, 0], [], [47, 0, 0, 0, 0], [], [49, 0, 0, 0, 0], [], [51, 0, 0, 0, 0], [], [53, 0, 0, 0, 0], [], [0, 55, 56, 0, 0, 0, 57, 58, 0, 0, 59, 60, 61, 62, 0, 63, 64, 65, 66, 0, 67, 68, 69, 70, 0, 0, 0, 0, 0, 71, 72, 73, 74, 75, 76, 77, 0, 78, 0, 79, 0, 0, 0, 0, 80, 81, 82, 83, 84, 0, 85, 0, 86, 87, 88, 89, 90], [], [], [], [], [], [], [], [], [], [], [], [], [], [], [], [], [], [], [], [], [], [], [], [], [], [], [], [], [], [], [], [], [], [], [], []]
def m_ftl : List (List Nat) := [[2, 2, 0, 0], [2, 2, 2, 0, 0], [0, 0, 2, 0], [2, 2, 2], [2], [2, 2, 2, 2, 2, 1], [2, 2, 2, 1], [2, 2, 0], [2, 0, 0, 0, 2], [2, 0, 0, 0, 0], [2, 2, 2], [2, 2, 2, 2, 2, 2, 2, 2, 2, 2], [0, 2, 2, 0, 0, 0, 2, 2, 0, 0, 2, 2, 2, 2, 0, 2, 2, 2, 2, 0, 2, 2, 2, 2, 0, 0, 0, 0, 0, 2, 2, 2, 2, 2, 2, 2, 1, 2, 0, 2, 0, 1, 0, 0, 2, 2, 2, 2, 2, 0, 2, 0, 2, 2, 2, 2, 2]]
def m_own (j : Nat) : Int32 := ([1, 10, 11, 2, 20, 0, 0, 0, 0, 30, 0, 0, 0, 41, 40, 0, 0, 0, 0, 50, 0, 0, 60, 61, 70, 0, 0, 0, 81, 80, 0, 0] : List Int32).getD j 0
def m_abv (j : Nat) : Int32 := ([-1, 0, 0, 2, 1, 3, 0, 6] : List Int32).getD j 0
def m_ws : List Cond := lw_tbl.filter goodWord
def m_nw : List Cond := [.fieldLinkNest "OneHandEach$Law" 31 "OneHandEach$Reader" "length" "I" "OneHandEach", .methodLinkNest "OneHandEach$Town" 21 ⟨"OneHandEach", "isClock", "(I)Z"⟩ "OneHandEach", .methodLinkNest "OneHandEach$Entries" 33 ⟨"OneHandEach", "isOneOf", "(II)Z"⟩ "OneHandEach", .methodLinkNest "OneHandEach$Fitting" 51 ⟨"OneHandEach", "isSight", "(IIII)Z"⟩ "OneHandEach", .methodLinkNest "OneHandEach$Fitting" 59 ⟨"OneHandEach", "isPart", "(I)Z"⟩ "OneHandEach", .methodLinkNest "OneHandEach$Bodies" 22 ⟨"OneHandEach", "isOneOf", "(II)Z"⟩ "OneHandEach"]
theorem goodIn_rr {big : List Cond} (ws : List Cond) (ps : List Nat) (hp : ws = ps.filterMap (fun i => big[i]?)) : ∀ w ∈ ws, w ∈ big := by
  intro w hw
  rw [hp] at hw
  obtain ⟨i, -, hi⟩ := List.mem_filterMap.mp hw
  exact List.mem_of_getElem? hi
theorem m_nw_in : ∀ w ∈ m_nw, w ∈ lw_tbl := fun w hw => ((goodIn_rr (big := lw_tbl) m_nw [171, 374, 398, 602, 647, 799] (by decide +kernel)) w hw)
theorem m_nw_on {w : Cond} (hw : w ∈ m_nw) : w.onTables = true := by
  have h : m_nw.all Cond.onTables = true := by decide +kernel
  exact List.all_eq_true.mp h w hw
theorem m_nw_warm {s U : State} (hW : s.WarmedH U.vm) {w : Cond} (hw : w ∈ m_nw) (h : va_Nw w s) : va_Nw w U := by
  simp only [m_nw, List.mem_cons, List.not_mem_nil, or_false] at hw
  rcases hw with rfl | rfl | rfl | rfl | rfl | rfl
  · exact va_Nw.warmF hW h
  · exact va_Nw.warmM hW h
  · exact va_Nw.warmM hW h
  · exact va_Nw.warmM hW h
  · exact va_Nw.warmM hW h
  · exact va_Nw.warmM hW h
theorem ix_0 : ∀ w ∈ u_ws RX0 TX0 4, w ∈ m_ws := by
  have h1 : ∀ w ∈ u_ws RX0 TX0 4, w ∈ lw_tbl := goodIn_rr _ [299, 301, 303, 305] (by decide +kernel)
  have h2 : (u_ws RX0 TX0 4).all goodWord = true := by decide +kernel
  exact fun w hw => List.mem_filter.mpr ⟨h1 w hw, List.all_eq_true.mp h2 w hw⟩
theorem ix_1 : ∀ w ∈ u_ws RX1 TX1 5, w ∈ m_ws := by
  have h1 : ∀ w ∈ u_ws RX1 TX1 5, w ∈ lw_tbl := goodIn_rr _ [243, 245, 247, 249, 251] (by decide +kernel)
  have h2 : (u_ws RX1 TX1 5).all goodWord = true := by decide +kernel
  exact fun w hw => List.mem_filter.mpr ⟨h1 w hw, List.all_eq_true.mp h2 w hw⟩
theorem ix_2 : ∀ w ∈ u_ws RX2 TX2 4, w ∈ m_ws := by
  have h1 : ∀ w ∈ u_ws RX2 TX2 4, w ∈ lw_tbl := goodIn_rr _ [128, 130, 132, 134] (by decide +kernel)
  have h2 : (u_ws RX2 TX2 4).all goodWord = true := by decide +kernel
  exact fun w hw => List.mem_filter.mpr ⟨h1 w hw, List.all_eq_true.mp h2 w hw⟩
theorem ix_3 : ∀ w ∈ u_ws RX3 TX3 3, w ∈ m_ws := by
  have h1 : ∀ w ∈ u_ws RX3 TX3 3, w ∈ lw_tbl := goodIn_rr _ [212, 214, 216] (by decide +kernel)
  have h2 : (u_ws RX3 TX3 3).all goodWord = true := by decide +kernel
  exact fun w hw => List.mem_filter.mpr ⟨h1 w hw, List.all_eq_true.mp h2 w hw⟩
theorem ix_4 : ∀ w ∈ u_ws RX4 TX4 1, w ∈ m_ws := by
  have h1 : ∀ w ∈ u_ws RX4 TX4 1, w ∈ lw_tbl := goodIn_rr _ [228] (by decide +kernel)
  have h2 : (u_ws RX4 TX4 1).all goodWord = true := by decide +kernel
  exact fun w hw => List.mem_filter.mpr ⟨h1 w hw, List.all_eq_true.mp h2 w hw⟩
theorem ix_5 : ∀ w ∈ u_ws RX5 TX5 6, w ∈ m_ws := by
  have h1 : ∀ w ∈ u_ws RX5 TX5 6, w ∈ lw_tbl := goodIn_rr _ [273, 275, 277, 279, 281, 283] (by decide +kernel)
  have h2 : (u_ws RX5 TX5 6).all goodWord = true := by decide +kernel
  exact fun w hw => List.mem_filter.mpr ⟨h1 w hw, List.all_eq_true.mp h2 w hw⟩
theorem ix_6 : ∀ w ∈ u_ws RX6 TX6 4, w ∈ m_ws := by
  have h1 : ∀ w ∈ u_ws RX6 TX6 4, w ∈ lw_tbl := goodIn_rr _ [193, 195, 197, 199] (by decide +kernel)
  have h2 : (u_ws RX6 TX6 4).all goodWord = true := by decide +kernel
  exact fun w hw => List.mem_filter.mpr ⟨h1 w hw, List.all_eq_true.mp h2 w hw⟩
theorem ix_7 : ∀ w ∈ u_ws RX7 TX7 3, w ∈ m_ws := by
  have h1 : ∀ w ∈ u_ws RX7 TX7 3, w ∈ lw_tbl := goodIn_rr _ [162, 164, 166] (by decide +kernel)
  have h2 : (u_ws RX7 TX7 3).all goodWord = true := by decide +kernel
  exact fun w hw => List.mem_filter.mpr ⟨h1 w hw, List.all_eq_true.mp h2 w hw⟩
theorem ix_8 : ∀ w ∈ u_ws RX8 TX8 5, w ∈ m_ws := by
  have h1 : ∀ w ∈ u_ws RX8 TX8 5, w ∈ lw_tbl := goodIn_rr _ [176, 178, 180, 182, 184] (by decide +kernel)
  have h2 : (u_ws RX8 TX8 5).all goodWord = true := by decide +kernel
  exact fun w hw => List.mem_filter.mpr ⟨h1 w hw, List.all_eq_true.mp h2 w hw⟩
theorem ix_9 : ∀ w ∈ u_ws RX9 TX9 5, w ∈ m_ws := by
  have h1 : ∀ w ∈ u_ws RX9 TX9 5, w ∈ lw_tbl := goodIn_rr _ [324, 326, 328, 330, 332] (by decide +kernel)
  have h2 : (u_ws RX9 TX9 5).all goodWord = true := by decide +kernel
  exact fun w hw => List.mem_filter.mpr ⟨h1 w hw, List.all_eq_true.mp h2 w hw⟩
theorem ix_10 : ∀ w ∈ u_ws RX10 TX10 3, w ∈ m_ws := by
  have h1 : ∀ w ∈ u_ws RX10 TX10 3, w ∈ lw_tbl := goodIn_rr _ [107, 109, 111] (by decide +kernel)
  have h2 : (u_ws RX10 TX10 3).all goodWord = true := by decide +kernel
  exact fun w hw => List.mem_filter.mpr ⟨h1 w hw, List.all_eq_true.mp h2 w hw⟩
theorem ix_11 : ∀ w ∈ u_ws RX11 TX11 10, w ∈ m_ws := by
  have h1 : ∀ w ∈ u_ws RX11 TX11 10, w ∈ lw_tbl := goodIn_rr _ [346, 348, 350, 352, 354, 356, 358, 360, 362, 364] (by decide +kernel)
  have h2 : (u_ws RX11 TX11 10).all goodWord = true := by decide +kernel
  exact fun w hw => List.mem_filter.mpr ⟨h1 w hw, List.all_eq_true.mp h2 w hw⟩
theorem ix_12 : ∀ w ∈ u_ws RX12 TX12 57, w ∈ m_ws := by
  have h1 : ∀ w ∈ u_ws RX12 TX12 57, w ∈ lw_tbl := goodIn_rr _ [936, 938, 940, 942, 944, 946, 948, 950, 952, 954, 956, 958, 960, 962, 964, 966, 968, 970, 972, 974, 976, 978, 980, 982, 984, 986, 988, 990, 992, 994, 996, 998, 1000, 1002, 1004, 1006, 1008, 1010, 1012, 1014, 1016, 1018, 1020, 1022, 1024, 1026, 1028, 1030, 1032, 1034, 1036, 1038, 1040, 1042, 1044, 1046, 1048] (by decide +kernel)
  have h2 : (u_ws RX12 TX12 57).all goodWord = true := by decide +kernel
  exact fun w hw => List.mem_filter.mpr ⟨h1 w hw, List.all_eq_true.mp h2 w hw⟩
end
section
/-! THE SMALL MACHINE: the heap as numbered objects with contents, locals and stack as lists; Sat: from this frame the method ends, with an answer and contents that Q allows. -/
-- contents: ints (and codes of references: 0 null, j + 1 the object j), longs
abbrev mH : Type := (Nat → Nat → Int32) × (Nat → Nat → Int64)
def gi (h : mH) (o k : Nat) : Int32 := h.1 o k
def gl (h : mH) (o k : Nat) : Int64 := h.2 o k
def si (h : mH) (o k : Nat) (x : Int32) : mH := (fun a b => if a = o ∧ b = k then x else h.1 a b, h.2)
def sl (h : mH) (o k : Nat) (x : Int64) : mH := (h.1, fun a b => if a = o ∧ b = k then x else h.2 a b)
def zo (h : mH) (o : Nat) : mH := (fun a b => if a = o then 0 else h.1 a b, fun a b => if a = o then 0 else h.2 a b)
/-- n ints of object o from sp on come to object q, place dp on -/
def cpi (h : mH) (o q sp dp n : Nat) : mH := (fun a b => if a = q then va_cpy (h.1 o) (h.1 q) sp dp n b else h.1 a b, h.2)
def cpl (h : mH) (o q sp dp n : Nat) : mH := (h.1, fun a b => if a = q then va_cpy (h.2 o) (h.2 q) sp dp n b else h.2 a b)
def rc (s : Nat) (x : Int32) : Nat := if s = 0 then x.toNatClampNeg else s
def vr : Nat → Value
  | 0 => .null
  | j + 1 => .ref j
-- machine-side bundle: launch, class ids and slots, array classes, first address, the two static rows, the script
abbrev mG : Type := Launch × va_G × (Nat → ClassId) × Nat × (Nat × Nat) × (Nat × Nat × (Nat → Int32))
def ad (G : mG) (j : Nat) : Nat := if j < 1000 then G.2.2.2.1 + j else if j = 1000 then G.2.2.2.2.2.1 else if j = 1001 then G.2.2.2.2.1.1 else G.2.2.2.2.1.2
def tr (G : mG) : Value → Value
  | .ref j => .ref (ad G j)
  | v => v
def rO (G : mG) : Nat → Option Nat
  | 0 => none
  | j + 1 => some (ad G j)
def m_sh (o : Nat) : Nat × Nat := m_shl.getD o (999, 0)
def m_ft (c k : Nat) : Nat := (m_ftl.getD c []).getD k 0
def m_sr (o k : Nat) : Nat := (m_srl.getD o []).getD k 0
def m_s0 (_ _ : Nat) : Nat := 0
def rf (o k : Nat) : Nat := m_sr o k - 1
def lenOf (o : Nat) : Nat := (m_sh o).2
def m_sl (cn : Nat) : Nat := ((m_shl.take cn).map (fun q => q.2)).sum
def m_tys (t : Nat → ClassId) : List (ClassId × FieldType) := [(t 0, .int), (t 1, .boolean), (t 2, .byte), (t 3, .short), (t 4, .long), (t 5, .object "OneHandEach$Shelf")]
def fv (sr : Nat → Nat → Nat) (h : mH) (o k : Nat) : Value := if m_ft (m_sh o).1 k = 2 then vr (rc (sr o k) (h.1 o k)) else .int (h.1 o k)
def mE (G : mG) (sr : Nat → Nat → Nat) (h : mH) (o : Nat) : va_E :=
  if (m_sh o).1 < 100 then .inr ((m_sh o).1, (List.range (m_sh o).2).map fun k => tr G (fv sr h o k))
  else if (m_sh o).1 = 104 then .inl (G.2.2.1 4, (m_sh o).2, .inr (.inl (h.2 o)))
  else if (m_sh o).1 = 105 then .inl (G.2.2.1 5, (m_sh o).2, .inr (.inr (.inr (.inr (fun j => rO G (rc (sr o j) (h.1 o j)))))))
  else .inl (G.2.2.1 ((m_sh o).1 - 100), (m_sh o).2, .inl (h.1 o))
def mWs (G : mG) (sr : Nat → Nat → Nat) (h : mH) (cn : Nat) : va_W := (List.range cn).map fun o => (ad G o, mE G sr h o)
def mA (G : mG) : Nat → Prop := fun q => G.2.2.2.1 ≤ q
def mWorld (G : mG) (sr : Nat → Nat → Nat) (h : mH) (cn : Nat) (H : Heap) : Prop := va_P G.2.1 vwCl (mWs G sr h cn) H ∧ va_D (mA G) (mWs G sr h cn) ∧ cn ≤ 999
-- locals
def lg : List (Option Value) → Nat → Option Value
  | [], _ => none
  | a :: _, 0 => a
  | _ :: t, n + 1 => lg t n
def lset : List (Option Value) → Nat → Option Value → List (Option Value)
  | [], _, _ => []
  | _ :: t, 0, v => v :: t
  | a :: t, n + 1, v => a :: lset t n v
def nlong : Option Value → Bool
  | some (.long _) => false
  | some (.double _) => false
  | _ => true
/-- no value of two slots stands right ahead of place k -/
def mnl : List (Option Value) → Nat → Bool
  | _, 0 => true
  | [], _ => true
  | a :: _, 1 => nlong a
  | _ :: t, n + 2 => mnl t (n + 1)
def lA (G : mG) : Nat → List (Option Value) → List (Nat × Value)
  | _, [] => []
  | i, none :: t => lA G (i + 1) t
  | i, some v :: t => (i, tr G v) :: lA G (i + 1) t
def mL0 : List Value → List (Option Value)
  | [] => []
  | .long x :: t => some (.long x) :: none :: mL0 t
  | .double x :: t => some (.double x) :: none :: mL0 t
  | v :: t => some v :: mL0 t
-- a method: code, maxLocals, what it returns, its class, is it a constructor; environment: constant references, method, height, objects at its start and at its end
abbrev mI : Type := ByteArray × Nat × Option FieldType × String × Bool
abbrev mEn : Type := (Nat → Nat → Nat) × mI × Nat × Nat × Nat
abbrev mCode (E : mEn) : ByteArray := E.2.1.1
abbrev mMax (E : mEn) : Nat := E.2.1.2.1
abbrev mRt (E : mEn) : Option FieldType := E.2.1.2.2.1
abbrev mOwn (E : mEn) : String := E.2.1.2.2.2.1
abbrev mIni (E : mEn) : Bool := E.2.1.2.2.2.2
abbrev mHt (E : mEn) : Nat := E.2.2.1
abbrev mC0 (E : mEn) : Nat := E.2.2.2.1
abbrev mC1 (E : mEn) : Nat := E.2.2.2.2
def mEnv (G : mG) (c0 : Nat) (U : State) : Prop :=
  U.heap.size = G.2.2.2.1 + c0 ∧ va_K G.2.1 vwCl (m_tys G.2.2.1) U ∧
  (va_Z "OneHandEach$Bodies" "OWN" "[I" (.ref (ad G 1001)) (mA G) U U.heap ∧ va_T .int (ad G 1001) 32 (fun j => .int (m_own j)) (mA G) U U.heap) ∧
  (va_Z "OneHandEach$Bodies" "ABOVE" "[I" (.ref (ad G 1002)) (mA G) U U.heap ∧ va_T .int (ad G 1002) 8 (fun j => .int (m_abv j)) (mA G) U U.heap) ∧
  (va_X (ad G 1000) G.2.2.2.2.2.2.1 G.2.2.2.2.2.2.2 U U.heap ∧ ad G 1000 < G.2.2.2.1) ∧ (∀ w ∈ m_nw, va_Nw w U) ∧ va_AO "OneHandEach$Shelf" U
def mCtx (G : mG) (E : mEn) (p : Program) (R : Room) (s : State) (m : MethodId) (args : Array Value) (meth : Method) (c : Code) : Prop :=
  p.tables.exec = Jvm.exec ∧ c.code = mCode E ∧ meth.sig.returnType = mRt E ∧ meth.locks = false ∧ c.maxLocals = mMax E ∧ s.vm.findClass (mOwn E) = some m.cls ∧
  (∀ w ∈ m_ws, w.before args s = true) ∧ (mIni E = true → meth.name = "<init>") ∧ mEnv G (mC0 E) s ∧ (mHt E ≤ R.frames ∧ 64 * mHt E ≤ R.locals) ∧ (mC1 E - mC0 E ≤ R.cells ∧ m_sl (mC1 E) - m_sl (mC0 E) ≤ R.slots) ∧ mC0 E ≤ mC1 E
def mRI (E : mEn) (pc : Nat) : Option Value → Prop
  | none => mRt E = none ∧ decode (mCode E) pc = .ok (.return_, 1)
  | some (.int x) => (∃ ty, mRt E = some ty ∧ narrow ty (.int x) = .int x) ∧ decode (mCode E) pc = .ok (.ireturn, 1)
  | some (.long _) => mRt E = some .long ∧ decode (mCode E) pc = .ok (.lreturn, 1)
  | _ => False
def mRet (G : mG) (E : mEn) (Q : Option Value → mH → Prop) (p : Program) (e : Env) (R : Room) (s : State) (m : MethodId) (args : Array Value) (below : List Frame) (meth : Method) (c : Code) (Qm : State → Prop) : Prop :=
  ∀ (v : Option Value) (h' : mH) (H' : Heap) (locs' : List Loc) (pc' : Nat) (la' : Array Slot), Q v h' → mWorld G E.1 h' (mC1 E) H' → va_S (mA G) s.heap H' locs' → mRI E pc' v →
    W p G.1 e R s m args below meth c H' locs' (mC1 E - mC0 E) (m_sl (mC1 E) - m_sl (mC0 E)) Qm (F0 m pc' la' v.toList)
def Sat (G : mG) (E : mEn) (Q : Option Value → mH → Prop) (cn pc : Nat) (ls : List (Option Value)) (st : List Value) (h : mH) : Prop :=
  ∀ (p : Program) (e : Env) (R : Room) (s : State) (m : MethodId) (args : Array Value) (below : List Frame) (meth : Method) (c : Code) (H : Heap) (la : Array Slot) (locs : List Loc) (Qm : State → Prop),
    mCtx G E p R s m args meth c → (mC0 E ≤ cn ∧ cn ≤ mC1 E) → mWorld G E.1 h cn H → va_S (mA G) s.heap H locs → lv_has la (mMax E) (lA G 0 ls) → mRet G E Q p e R s m args below meth c Qm →
    W p G.1 e R s m args below meth c H locs (cn - mC0 E) (m_sl cn - m_sl (mC0 E)) Qm (F0 m pc la (st.map (tr G)))
-- ===== facts on these words =====
theorem m_in {w : Cond} (h : w ∈ lw_tbl) (hg : goodWord w = true) : w ∈ m_ws := List.mem_filter.mpr ⟨h, hg⟩
theorem m_good : GoodIn lw_tbl m_ws := fun w h => ⟨(List.mem_filter.mp h).1, good_of_word (List.mem_filter.mp h).2⟩
theorem m_goodC {w : Cond} (hw : w ∈ m_ws) : GoodIn m_ws (w :: m_ws) := by
  intro v hv
  have hv : v ∈ m_ws := by
    rcases List.mem_cons.mp hv with q | q
    · rw [q]; exact hw
    · exact q
  exact ⟨hv, (m_good v hv).2⟩
theorem tr_cat (G : mG) (v : Value) : (tr G v).category = v.category := by cases v <;> rfl
theorem tr_cats (G : mG) (st : List Value) : ((st.map (tr G)).map fun v => v.category) = st.map fun v => v.category := by
  rw [List.map_map]
  exact List.map_congr_left fun v _ => tr_cat G v
theorem ad_lt {G : mG} {j : Nat} (h : j < 1000) : ad G j = G.2.2.2.1 + j := by unfold ad; rw [if_pos h]
theorem tr_vr (G : mG) (n : Nat) : tr G (vr n) = va_rf (rO G n) := by cases n <;> rfl
theorem lA_get {G : mG} : ∀ (ls : List (Option Value)) (i k : Nat) (v : Value), lg ls k = some v → (i + k, tr G v) ∈ lA G i ls := by
  intro ls
  induction ls with
  | nil => intro i k v h; cases k <;> cases h
  | cons a t ih =>
    intro i k v h
    cases k with
    | zero =>
      have h : a = some v := h
      subst h
      exact List.mem_cons_self
    | succ k =>
      have h1 := ih (i + 1) k v h
      rw [show i + 1 + k = i + (k + 1) by omega] at h1
      cases a with
      | none => exact h1
      | some w => exact List.mem_cons_of_mem _ h1
theorem lA_of {G : mG} : ∀ (ls : List (Option Value)) (i : Nat) (q : Nat × Value), q ∈ lA G i ls → ∃ (k : Nat) (v : Value), lg ls k = some v ∧ q = (i + k, tr G v) := by
  intro ls
  induction ls with
  | nil => intro i q h; cases h
  | cons a t ih =>
    intro i q h
    cases a with
    | none =>
      obtain ⟨k, v, h1, h2⟩ := ih (i + 1) q h
      exact ⟨k + 1, v, h1, by rw [h2, show i + 1 + k = i + (k + 1) by omega]⟩
    | some w =>
      rcases List.mem_cons.mp h with h | h
      · exact ⟨0, w, rfl, h⟩
      · obtain ⟨k, v, h1, h2⟩ := ih (i + 1) q h
        exact ⟨k + 1, v, h1, by rw [h2, show i + 1 + k = i + (k + 1) by omega]⟩
theorem lA_at {G : mG} {la : Array Slot} {n k : Nat} {v : Value} {ls : List (Option Value)} (h : lv_has la n (lA G 0 ls)) (hk : lg ls k = some v) : la[k]? = some (.val (tr G v)) := by
  have h1 := h.2.2 _ (lA_get ls 0 k v hk)
  rw [Nat.zero_add] at h1
  exact h1
theorem lv_mono {la : Array Slot} {n : Nat} {l l' : List (Nat × Value)} (h : lv_has la n l) (hs : ∀ q ∈ l', q ∈ l) : lv_has la n l' := ⟨h.1, h.2.1, fun q hq => h.2.2 q (hs q hq)⟩
theorem lg_lset : ∀ (ls : List (Option Value)) (k : Nat) (x : Option Value) (j : Nat) (v : Value), lg (lset ls k x) j = some v → (j = k ∧ x = some v) ∨ (j ≠ k ∧ lg ls j = some v) := by
  intro ls
  induction ls with
  | nil => intro k x j v h; cases k <;> cases j <;> cases h
  | cons a t ih =>
    intro k x j v h
    cases k with
    | zero =>
      cases j with
      | zero => exact Or.inl ⟨rfl, h⟩
      | succ j => exact Or.inr ⟨by omega, h⟩
    | succ k =>
      cases j with
      | zero => exact Or.inr ⟨by omega, h⟩
      | succ j =>
        rcases ih k x j v h with q | q
        · exact Or.inl ⟨by omega, q.2⟩
        · exact Or.inr ⟨by omega, q.2⟩
theorem mnl_ok : ∀ (ls : List (Option Value)) (k : Nat) (v : Value), mnl ls (k + 1) = true → lg ls k = some v → ¬ v.category = 2 := by
  intro ls
  induction ls with
  | nil => intro k v _ h; cases k <;> cases h
  | cons a t ih =>
    intro k v h h2
    cases k with
    | zero =>
      have h2 : a = some v := h2
      subst h2
      have h : nlong (some v) = true := h
      cases v <;> first | (simp [Value.category]; done) | (simp [nlong] at h)
    | succ k => exact ih k v h h2
theorem lA_set {G : mG} {ls : List (Option Value)} {k : Nat} {v : Value} (hn : mnl ls k = true) : ∀ q ∈ lA G 0 (lset ls k (some v)), q ∈ (k, tr G v) :: (lA G 0 ls).filter (fun q => !(q.1 == k) && !(q.1 + 1 == k && q.2.category == 2)) := by
  intro q hq
  obtain ⟨j, w, h1, rfl⟩ := lA_of _ _ _ hq
  rcases lg_lset ls k (some v) j w h1 with ⟨h2, h3⟩ | ⟨h2, h3⟩
  · cases h3
    rw [Nat.zero_add, h2]
    exact List.mem_cons_self
  · refine List.mem_cons_of_mem _ (List.mem_filter.mpr ⟨lA_get ls 0 j w h3, ?_⟩)
    simp only [Nat.zero_add, Bool.and_eq_true, Bool.not_eq_true', Bool.and_eq_false_imp, beq_eq_false_iff_ne, beq_iff_eq]
    refine ⟨h2, fun h4 => ?_⟩
    subst h4
    show ¬ (tr G w).category = 2
    rw [tr_cat]
    exact mnl_ok ls j w hn h3
theorem lA_setL {G : mG} {ls : List (Option Value)} {k : Nat} {x : Int64} (hn : mnl ls k = true) (h1 : lg ls (k + 1) = none) : ∀ q ∈ lA G 0 (lset ls k (some (.long x))), q ∈ (k, Value.long x) :: (lA G 0 ls).filter (fun q => !(q.1 == k) && (!(q.1 == k + 1) && !(q.1 + 1 == k && q.2.category == 2))) := by
  intro q hq
  obtain ⟨j, w, h1', rfl⟩ := lA_of _ _ _ hq
  rcases lg_lset ls k _ j w h1' with ⟨h2, h3⟩ | ⟨h2, h3⟩
  · cases h3
    rw [Nat.zero_add, h2]
    exact List.mem_cons_self
  · refine List.mem_cons_of_mem _ (List.mem_filter.mpr ⟨lA_get ls 0 j w h3, ?_⟩)
    simp only [Nat.zero_add, Bool.and_eq_true, Bool.not_eq_true', Bool.and_eq_false_imp, beq_eq_false_iff_ne, beq_iff_eq]
    refine ⟨h2, fun h4 => ?_, fun h4 => ?_⟩
    · rw [h4, h1] at h3
      cases h3
    · subst h4
      show ¬ (tr G w).category = 2
      rw [tr_cat]
      exact mnl_ok ls j w hn h3
theorem lA_args {G : mG} : ∀ (vs : List Value) (i k : Nat) (q : Nat × Value), q ∈ lA G i (mL0 vs ++ List.replicate k none) → q ∈ lv_args i (vs.map (tr G)) := by
  intro vs
  induction vs with
  | nil =>
    intro i k q h
    have h0 : ∀ (k i : Nat), lA G i (List.replicate k none) = [] := by
      intro k
      induction k with
      | zero => intro i; rfl
      | succ k ih => intro i; exact ih (i + 1)
    rw [show mL0 [] ++ List.replicate k none = List.replicate k none from rfl, h0] at h
    cases h
  | cons v t ih =>
    intro i k q h
    cases v with
    | long x =>
      rcases List.mem_cons.mp (show q ∈ (i, tr G (.long x)) :: lA G (i + 1 + 1) (mL0 t ++ List.replicate k none) from h) with h | h
      · rw [h]; exact List.mem_cons_self
      · exact List.mem_cons_of_mem _ (ih (i + 2) k q h)
    | double x =>
      rcases List.mem_cons.mp (show q ∈ (i, tr G (.double x)) :: lA G (i + 1 + 1) (mL0 t ++ List.replicate k none) from h) with h | h
      · rw [h]; exact List.mem_cons_self
      · exact List.mem_cons_of_mem _ (ih (i + 2) k q h)
    | _ =>
      rcases List.mem_cons.mp h with h | h
      · rw [h]; exact List.mem_cons_self
      · exact List.mem_cons_of_mem _ (ih (i + 1) k q h)

-- ===== the world as a list =====
theorem mWs_get {G : mG} {sr : Nat → Nat → Nat} {h : mH} {cn o : Nat} (ho : o < cn) : (mWs G sr h cn)[o]? = some (ad G o, mE G sr h o) := by
  simp [mWs, List.getElem?_map, List.getElem?_range ho]
theorem mWs_len {G : mG} {sr : Nat → Nat → Nat} {h : mH} {cn : Nat} : (mWs G sr h cn).length = cn := by simp [mWs]
theorem mE_congr {G : mG} {sr : Nat → Nat → Nat} {h h' : mH} {a : Nat} (h1 : h'.1 a = h.1 a) (h2 : h'.2 a = h.2 a) : mE G sr h' a = mE G sr h a := by
  unfold mE fv
  rw [h1, h2]
theorem mWs_congr {G : mG} {sr : Nat → Nat → Nat} {h h' : mH} {cn : Nat} (hh : ∀ a, a < cn → mE G sr h' a = mE G sr h a) : mWs G sr h' cn = mWs G sr h cn := by
  unfold mWs
  exact List.map_congr_left fun o ho => by rw [hh o (List.mem_range.mp ho)]
theorem mWs_set {G : mG} {sr : Nat → Nat → Nat} {h h' : mH} {cn o : Nat} {e : va_E} (ho : o < cn) (he : mE G sr h' o = e) (hh : ∀ a, a ≠ o → mE G sr h' a = mE G sr h a) : (mWs G sr h cn).set o (ad G o, e) = mWs G sr h' cn := by
  refine List.ext_getElem? fun k => ?_
  rw [List.getElem?_set]
  by_cases hk : o = k
  · subst hk
    rw [if_pos rfl, mWs_len, if_pos ho, mWs_get ho, he]
  · rw [if_neg hk]
    by_cases hc : k < cn
    · rw [mWs_get hc, mWs_get hc, hh k (fun q => hk q.symm)]
    · rw [List.getElem?_eq_none (by rw [mWs_len]; omega), List.getElem?_eq_none (by rw [mWs_len]; omega)]
theorem mWs_push {G : mG} {sr : Nat → Nat → Nat} {h : mH} {cn : Nat} : mWs G sr h cn ++ [(ad G cn, mE G sr h cn)] = mWs G sr h (cn + 1) := by
  simp [mWs, List.range_succ]
theorem si_1 {h : mH} {o k a : Nat} {x : Int32} (ha : a ≠ o) : (si h o k x).1 a = h.1 a := by
  funext b
  simp [si, ha]
theorem sl_2 {h : mH} {o k a : Nat} {x : Int64} (ha : a ≠ o) : (sl h o k x).2 a = h.2 a := by
  funext b
  simp [sl, ha]
theorem si_up {h : mH} {o k : Nat} {x : Int32} : (si h o k x).1 o = upd (h.1 o) k x := by
  funext b
  simp [si, upd]
theorem sl_up {h : mH} {o k : Nat} {x : Int64} : (sl h o k x).2 o = vp_updL (h.2 o) k x := by
  funext b
  simp [sl, vp_updL]
theorem mE_obj {G : mG} {sr : Nat → Nat → Nat} {h : mH} {o c n : Nat} (hs : m_sh o = (c, n)) (hc : c < 100) : mE G sr h o = .inr (c, (List.range n).map fun k => tr G (fv sr h o k)) := by
  unfold mE
  rw [hs]
  exact if_pos hc
theorem mE_int {G : mG} {sr : Nat → Nat → Nat} {h : mH} {o t n : Nat} (hs : m_sh o = (100 + t, n)) (ht : t < 4) : mE G sr h o = .inl (G.2.2.1 t, n, .inl (h.1 o)) := by
  unfold mE
  rw [hs]
  simp only
  rw [if_neg (by omega), if_neg (by omega), if_neg (by omega), show 100 + t - 100 = t by omega]
theorem mE_long {G : mG} {sr : Nat → Nat → Nat} {h : mH} {o n : Nat} (hs : m_sh o = (104, n)) : mE G sr h o = .inl (G.2.2.1 4, n, .inr (.inl (h.2 o))) := by
  unfold mE
  rw [hs]
  rfl
theorem mE_ref {G : mG} {sr : Nat → Nat → Nat} {h : mH} {o n : Nat} (hs : m_sh o = (105, n)) : mE G sr h o = .inl (G.2.2.1 5, n, .inr (.inr (.inr (.inr (fun j => rO G (rc (sr o j) (h.1 o j))))))) := by
  unfold mE
  rw [hs]
  rfl
theorem m_fget {G : mG} {sr : Nat → Nat → Nat} {h : mH} {o n k : Nat} (hk : k < n) : ((List.range n).map fun k => tr G (fv sr h o k))[k]? = some (tr G (fv sr h o k)) := by
  simp [List.getElem?_map, List.getElem?_range hk]
theorem m_fset {G : mG} {sr : Nat → Nat → Nat} {h : mH} {o n k : Nat} {x : Int32} {v : Value} (hv : tr G (fv sr (si h o k x) o k) = v) : ((List.range n).map fun j => tr G (fv sr (si h o k x) o j)) = ((List.range n).map fun j => tr G (fv sr h o j)).set k v := by
  refine List.ext_getElem? fun j => ?_
  rw [List.getElem?_set]
  by_cases hj : k = j
  · subst hj
    rw [if_pos rfl]
    by_cases hn : k < n
    · rw [m_fget hn, List.length_map, List.length_range, if_pos hn, hv]
    · rw [List.length_map, List.length_range, if_neg hn, List.getElem?_eq_none (by simp; omega)]
  · rw [if_neg hj]
    by_cases hn : j < n
    · rw [m_fget hn, m_fget hn]
      have : fv sr (si h o k x) o j = fv sr h o j := by
        unfold fv
        rw [show (si h o k x).1 o j = h.1 o j by simp [si]; intro q; exact absurd q.symm hj]
      rw [this]
    · rw [List.getElem?_eq_none (by simp; omega), List.getElem?_eq_none (by simp; omega)]
theorem m_lt {o a n : Nat} (hs : m_sh o = (a, n)) (ha : a ≠ 999) : o < m_shl.length := by
  unfold m_sh at hs
  by_cases q : o < m_shl.length
  · exact q
  · rw [List.getD_eq_getElem?_getD, List.getElem?_eq_none (by omega)] at hs
    cases hs
    exact absurd rfl ha
theorem mW_lt {G : mG} {sr : Nat → Nat → Nat} {h : mH} {cn o : Nat} {H : Heap} (hW : mWorld G sr h cn H) (ho : o < cn) : G.2.2.2.1 + o < H.size := by
  have h1 := (hW.1 o _ (mWs_get ho)).lt
  have h2 := hW.2.2
  rw [show ((ad G o, mE G sr h o) : Nat × va_E).1 = ad G o from rfl, ad_lt (by omega)] at h1
  exact h1
/-- how large the heap is: all that was made is the world's -/
theorem mW_size {G : mG} {sr : Nat → Nat → Nat} {h : mH} {cn c0 sl0 : Nat} {H : Heap} {p : Program} {e : Env} {R : Room} {s : State} {m : MethodId} {args : Array Value} {below : List Frame} {meth : Method} {c : Code} {T : State} {locs : List Loc} (hW : mWorld G sr h cn H) (hT : T.heap = H) (X : Stand p G.1 e R s m args below meth c T locs (cn - c0) sl0) (hs : s.heap.size = G.2.2.2.1 + c0) (hc : c0 ≤ cn) : H.size = G.2.2.2.1 + cn := by
  have h1 : T.heap.size ≤ s.heap.size + (cn - c0) := X.same.2.2.1
  have h2 : s.heap.size ≤ T.heap.size := X.same.2.1
  rw [hT] at h1 h2
  have h3 : cn = 0 ∨ G.2.2.2.1 + (cn - 1) < H.size := by
    rcases Nat.eq_zero_or_pos cn with q | q
    · exact Or.inl q
    · exact Or.inr (mW_lt hW (by omega))
  omega
theorem mEnv_moved {G : mG} {c0 c1 : Nat} {s U : State} {H : Heap} {locs : List Loc} (h : mEnv G c0 s) (hS : va_S (mA G) s.heap H locs) (hU : U.heap = H) (hW : s.WarmedH U.vm) (hz : H.size = G.2.2.2.1 + c1) : mEnv G c1 U := by
  obtain ⟨h1, h2, ⟨h3, h4⟩, ⟨h5, h6⟩, ⟨h7, h8⟩, h9, h10⟩ := h
  have k : ∀ a : Nat, a < s.heap.size → ¬ mA G a → U.heap[a]? = s.heap[a]? := fun a q1 q2 => by rw [hU]; exact hS.2.1 a q1 q2
  have ha : ad G 1000 < s.heap.size := by rw [h1]; omega
  refine ⟨by rw [hU]; exact hz, va_K.moved hW.alike h2, ⟨(h3.moved hW.alike).kept k, (h4.moved hW.alike).kept k⟩, ⟨(h5.moved hW.alike).kept k, (h6.moved hW.alike).kept k⟩, ⟨(h7.moved hW.alike).kept (k _ ha (Nat.not_le.mpr h8)), h8⟩, fun w hw => ?_, h10.moved hW.alike⟩
  exact m_nw_warm hW hw (h9 w hw)
theorem mEnv_call {G : mG} {c0 : Nat} {U : State} (g : JFrame) (mk : MethodId) (a : Array Value) (h : mEnv G c0 U) : mEnv G c0 (U.calling g mk a) := by
  obtain ⟨h1, h2, ⟨h3, h4⟩, ⟨h5, h6⟩, ⟨h7, h8⟩, h9, h10⟩ := h
  have al : U.vm.Alike (U.calling g mk a).vm := Vm.Alike.refl U.vm
  exact ⟨h1, va_K.moved al h2, ⟨h3.moved al, h4.moved al⟩, ⟨h5.moved al, h6.moved al⟩, ⟨h7.moved al, h8⟩, fun w hw => va_Nw.same (u := U) (U := U.calling g mk a) (m_nw_on hw) rfl (h9 w hw), h10.moved al⟩
theorem m_sl_mono {a b : Nat} (h : a ≤ b) : m_sl a ≤ m_sl b := by
  unfold m_sl
  obtain ⟨d, rfl⟩ := Nat.exists_eq_add_of_le h
  rw [List.take_add, List.map_append, List.sum_append]
  exact Nat.le_add_right _ _
end
section
/-! rows of the small machine: one an instruction (printed by wip/gen/rows.py) -/
theorem r_iconst {G : mG} {E : mEn} {Q : Option Value → mH → Prop} {cn pc : Nat} {ls : List (Option Value)} {st : List Value} {h : mH} {n : Int} {v : Int32} (q : Nat) (hd : decode (mCode E) pc = .ok (.iconst n, 1)) (hq : pc + 1 = q) (hv : Int32.ofInt n = v) (K : Sat G E Q cn q ls (.int v :: st) h) : Sat G E Q cn pc ls (st) h := by
  subst hq
  intro p e R s m args below meth c H la locs Qm C hcn hW hS hl hr
  exact lv_iconst C.1 C.2.1 hd hv (K p e R s m args below meth c H la locs Qm C hcn hW hS hl hr)
theorem r_bipush {G : mG} {E : mEn} {Q : Option Value → mH → Prop} {cn pc : Nat} {ls : List (Option Value)} {st : List Value} {h : mH} {n : Int} {v : Int32} (q : Nat) (hd : decode (mCode E) pc = .ok (.bipush n, 2)) (hq : pc + 2 = q) (hv : (Int8.ofInt n).toInt32 = v) (K : Sat G E Q cn q ls (.int v :: st) h) : Sat G E Q cn pc ls (st) h := by
  subst hq
  intro p e R s m args below meth c H la locs Qm C hcn hW hS hl hr
  exact lv_bipush C.1 C.2.1 hd hv (K p e R s m args below meth c H la locs Qm C hcn hW hS hl hr)
theorem r_sipush {G : mG} {E : mEn} {Q : Option Value → mH → Prop} {cn pc : Nat} {ls : List (Option Value)} {st : List Value} {h : mH} {n : Int} {v : Int32} (q : Nat) (hd : decode (mCode E) pc = .ok (.sipush n, 3)) (hq : pc + 3 = q) (hv : (Int16.ofInt n).toInt32 = v) (K : Sat G E Q cn q ls (.int v :: st) h) : Sat G E Q cn pc ls (st) h := by
  subst hq
  intro p e R s m args below meth c H la locs Qm C hcn hW hS hl hr
  exact lv_sipush C.1 C.2.1 hd hv (K p e R s m args below meth c H la locs Qm C hcn hW hS hl hr)
theorem r_lconst {G : mG} {E : mEn} {Q : Option Value → mH → Prop} {cn pc : Nat} {ls : List (Option Value)} {st : List Value} {h : mH} {n : Fin 2} {v : Int64} (q : Nat) (hd : decode (mCode E) pc = .ok (.lconst n, 1)) (hq : pc + 1 = q) (hv : Int64.ofNat (n : Nat) = v) (K : Sat G E Q cn q ls (.long v :: st) h) : Sat G E Q cn pc ls (st) h := by
  subst hq
  intro p e R s m args below meth c H la locs Qm C hcn hW hS hl hr
  exact lv_lconst C.1 C.2.1 hd hv (K p e R s m args below meth c H la locs Qm C hcn hW hS hl hr)
theorem r_ldc {G : mG} {E : mEn} {Q : Option Value → mH → Prop} {cn pc : Nat} {ls : List (Option Value)} {st : List Value} {h : mH} {ix : Nat} {v : Int32} (q : Nat) (hd : decode (mCode E) pc = .ok (.ldc ix, 2)) (hq : pc + 2 = q) (hw : Cond.constant (mOwn E) ix v ∈ m_ws) (K : Sat G E Q cn q ls (.int v :: st) h) : Sat G E Q cn pc ls (st) h := by
  subst hq
  intro p e R s m args below meth c H la locs Qm C hcn hW hS hl hr
  exact lv_ldc C.1 C.2.1 C.2.2.2.2.2.1 (C.2.2.2.2.2.2.1 _ hw) hd (K p e R s m args below meth c H la locs Qm C hcn hW hS hl hr)
theorem r_ldcw {G : mG} {E : mEn} {Q : Option Value → mH → Prop} {cn pc : Nat} {ls : List (Option Value)} {st : List Value} {h : mH} {ix : Nat} {v : Int32} (q : Nat) (hd : decode (mCode E) pc = .ok (.ldc_w ix, 3)) (hq : pc + 3 = q) (hw : Cond.constant (mOwn E) ix v ∈ m_ws) (K : Sat G E Q cn q ls (.int v :: st) h) : Sat G E Q cn pc ls (st) h := by
  subst hq
  intro p e R s m args below meth c H la locs Qm C hcn hW hS hl hr
  exact lv_ldcw C.1 C.2.1 C.2.2.2.2.2.1 (C.2.2.2.2.2.2.1 _ hw) hd (K p e R s m args below meth c H la locs Qm C hcn hW hS hl hr)
theorem r_ldc2 {G : mG} {E : mEn} {Q : Option Value → mH → Prop} {cn pc : Nat} {ls : List (Option Value)} {st : List Value} {h : mH} {ix : Nat} {v : Int64} (q : Nat) (hd : decode (mCode E) pc = .ok (.ldc2_w ix, 3)) (hq : pc + 3 = q) (hw : Cond.constantLong (mOwn E) ix v ∈ m_ws) (K : Sat G E Q cn q ls (.long v :: st) h) : Sat G E Q cn pc ls (st) h := by
  subst hq
  intro p e R s m args below meth c H la locs Qm C hcn hW hS hl hr
  exact lv_ldc2 C.1 C.2.1 C.2.2.2.2.2.1 (C.2.2.2.2.2.2.1 _ hw) hd (K p e R s m args below meth c H la locs Qm C hcn hW hS hl hr)
theorem r_iload_n {G : mG} {E : mEn} {Q : Option Value → mH → Prop} {cn pc : Nat} {ls : List (Option Value)} {st : List Value} {h : mH} {f : Fin 4} {x : Int32} (q : Nat) (hd : decode (mCode E) pc = .ok (.iload_n f, 1)) (hq : pc + 1 = q) (hl : lg ls f = some (.int x)) (K : Sat G E Q cn q ls (.int x :: st) h) : Sat G E Q cn pc ls (st) h := by
  subst hq
  intro p e R s m args below meth c H la locs Qm C hcn hW hS hl9 hr
  exact lv_iload_n C.1 C.2.1 hd rfl (lA_at hl9 hl) (K p e R s m args below meth c H la locs Qm C hcn hW hS hl9 hr)
theorem r_iload {G : mG} {E : mEn} {Q : Option Value → mH → Prop} {cn pc : Nat} {ls : List (Option Value)} {st : List Value} {h : mH} {f : Nat} {x : Int32} (q : Nat) (hd : decode (mCode E) pc = .ok (.iload f, 2)) (hq : pc + 2 = q) (hl : lg ls f = some (.int x)) (K : Sat G E Q cn q ls (.int x :: st) h) : Sat G E Q cn pc ls (st) h := by
  subst hq
  intro p e R s m args below meth c H la locs Qm C hcn hW hS hl9 hr
  exact lv_iload C.1 C.2.1 hd (lA_at hl9 hl) (K p e R s m args below meth c H la locs Qm C hcn hW hS hl9 hr)
theorem r_lload_n {G : mG} {E : mEn} {Q : Option Value → mH → Prop} {cn pc : Nat} {ls : List (Option Value)} {st : List Value} {h : mH} {f : Fin 4} {x : Int64} (q : Nat) (hd : decode (mCode E) pc = .ok (.lload_n f, 1)) (hq : pc + 1 = q) (hl : lg ls f = some (.long x)) (K : Sat G E Q cn q ls (.long x :: st) h) : Sat G E Q cn pc ls (st) h := by
  subst hq
  intro p e R s m args below meth c H la locs Qm C hcn hW hS hl9 hr
  exact lv_lload_n C.1 C.2.1 hd rfl (lA_at hl9 hl) (K p e R s m args below meth c H la locs Qm C hcn hW hS hl9 hr)
theorem r_lload {G : mG} {E : mEn} {Q : Option Value → mH → Prop} {cn pc : Nat} {ls : List (Option Value)} {st : List Value} {h : mH} {f : Nat} {x : Int64} (q : Nat) (hd : decode (mCode E) pc = .ok (.lload f, 2)) (hq : pc + 2 = q) (hl : lg ls f = some (.long x)) (K : Sat G E Q cn q ls (.long x :: st) h) : Sat G E Q cn pc ls (st) h := by
  subst hq
  intro p e R s m args below meth c H la locs Qm C hcn hW hS hl9 hr
  exact lv_lload C.1 C.2.1 hd (lA_at hl9 hl) (K p e R s m args below meth c H la locs Qm C hcn hW hS hl9 hr)
theorem r_aload_n {G : mG} {E : mEn} {Q : Option Value → mH → Prop} {cn pc : Nat} {ls : List (Option Value)} {st : List Value} {h : mH} {f : Fin 4} {x : Nat} (q : Nat) (hd : decode (mCode E) pc = .ok (.aload_n f, 1)) (hq : pc + 1 = q) (hl : lg ls f = some (.ref x)) (K : Sat G E Q cn q ls (.ref x :: st) h) : Sat G E Q cn pc ls (st) h := by
  subst hq
  intro p e R s m args below meth c H la locs Qm C hcn hW hS hl9 hr
  exact lv_aload_n C.1 C.2.1 hd rfl (lA_at hl9 hl) (K p e R s m args below meth c H la locs Qm C hcn hW hS hl9 hr)
theorem r_aload {G : mG} {E : mEn} {Q : Option Value → mH → Prop} {cn pc : Nat} {ls : List (Option Value)} {st : List Value} {h : mH} {f : Nat} {x : Nat} (q : Nat) (hd : decode (mCode E) pc = .ok (.aload f, 2)) (hq : pc + 2 = q) (hl : lg ls f = some (.ref x)) (K : Sat G E Q cn q ls (.ref x :: st) h) : Sat G E Q cn pc ls (st) h := by
  subst hq
  intro p e R s m args below meth c H la locs Qm C hcn hW hS hl9 hr
  exact lv_aload C.1 C.2.1 hd (lA_at hl9 hl) (K p e R s m args below meth c H la locs Qm C hcn hW hS hl9 hr)
theorem r_istore_n {G : mG} {E : mEn} {Q : Option Value → mH → Prop} {cn pc : Nat} {ls : List (Option Value)} {st : List Value} {h : mH} {f : Fin 4} {x : Int32} (q : Nat) (ls1 : List (Option Value)) (hd : decode (mCode E) pc = .ok (.istore_n f, 1)) (hq : pc + 1 = q) (hm : (f : Nat) < mMax E) (hn : mnl ls f = true) (hs : lset ls f (some (.int x)) = ls1) (K : Sat G E Q cn q ls1 st h) : Sat G E Q cn pc ls (.int x :: st) h := by
  subst hq
  subst hs
  intro p e R s m args below meth c H la locs Qm C hcn hW hS hl hr
  exact lv_istore_n C.1 C.2.1 hd rfl hl hm rfl (fun la1 hl1 => K p e R s m args below meth c H la1 locs Qm C hcn hW hS (lv_mono hl1 (lA_set hn)) hr)
theorem r_istore {G : mG} {E : mEn} {Q : Option Value → mH → Prop} {cn pc : Nat} {ls : List (Option Value)} {st : List Value} {h : mH} {f : Nat} {x : Int32} (q : Nat) (ls1 : List (Option Value)) (hd : decode (mCode E) pc = .ok (.istore f, 2)) (hq : pc + 2 = q) (hm : (f : Nat) < mMax E) (hn : mnl ls f = true) (hs : lset ls f (some (.int x)) = ls1) (K : Sat G E Q cn q ls1 st h) : Sat G E Q cn pc ls (.int x :: st) h := by
  subst hq
  subst hs
  intro p e R s m args below meth c H la locs Qm C hcn hW hS hl hr
  exact lv_istore C.1 C.2.1 hd hl hm rfl (fun la1 hl1 => K p e R s m args below meth c H la1 locs Qm C hcn hW hS (lv_mono hl1 (lA_set hn)) hr)
theorem r_astore_n {G : mG} {E : mEn} {Q : Option Value → mH → Prop} {cn pc : Nat} {ls : List (Option Value)} {st : List Value} {h : mH} {f : Fin 4} {x : Nat} (q : Nat) (ls1 : List (Option Value)) (hd : decode (mCode E) pc = .ok (.astore_n f, 1)) (hq : pc + 1 = q) (hm : (f : Nat) < mMax E) (hn : mnl ls f = true) (hs : lset ls f (some (.ref x)) = ls1) (K : Sat G E Q cn q ls1 st h) : Sat G E Q cn pc ls (.ref x :: st) h := by
  subst hq
  subst hs
  intro p e R s m args below meth c H la locs Qm C hcn hW hS hl hr
  exact lv_astore_n C.1 C.2.1 hd rfl hl hm rfl (fun la1 hl1 => K p e R s m args below meth c H la1 locs Qm C hcn hW hS (lv_mono hl1 (lA_set hn)) hr)
theorem r_astore {G : mG} {E : mEn} {Q : Option Value → mH → Prop} {cn pc : Nat} {ls : List (Option Value)} {st : List Value} {h : mH} {f : Nat} {x : Nat} (q : Nat) (ls1 : List (Option Value)) (hd : decode (mCode E) pc = .ok (.astore f, 2)) (hq : pc + 2 = q) (hm : (f : Nat) < mMax E) (hn : mnl ls f = true) (hs : lset ls f (some (.ref x)) = ls1) (K : Sat G E Q cn q ls1 st h) : Sat G E Q cn pc ls (.ref x :: st) h := by
  subst hq
  subst hs
  intro p e R s m args below meth c H la locs Qm C hcn hW hS hl hr
  exact lv_astore C.1 C.2.1 hd hl hm rfl (fun la1 hl1 => K p e R s m args below meth c H la1 locs Qm C hcn hW hS (lv_mono hl1 (lA_set hn)) hr)
theorem r_lstore_n {G : mG} {E : mEn} {Q : Option Value → mH → Prop} {cn pc : Nat} {ls : List (Option Value)} {st : List Value} {h : mH} {f : Fin 4} {x : Int64} (q : Nat) (ls1 : List (Option Value)) (hd : decode (mCode E) pc = .ok (.lstore_n f, 1)) (hq : pc + 1 = q) (hm : (f : Nat) + 1 < mMax E) (hn : mnl ls f = true) (h1 : lg ls ((f : Nat) + 1) = none) (hs : lset ls f (some (.long x)) = ls1) (K : Sat G E Q cn q ls1 st h) : Sat G E Q cn pc ls (.long x :: st) h := by
  subst hq
  subst hs
  intro p e R s m args below meth c H la locs Qm C hcn hW hS hl hr
  exact lv_lstore_n C.1 C.2.1 hd rfl hl hm rfl (fun la1 hl1 => K p e R s m args below meth c H la1 locs Qm C hcn hW hS (lv_mono hl1 (lA_setL hn h1)) hr)
theorem r_lstore {G : mG} {E : mEn} {Q : Option Value → mH → Prop} {cn pc : Nat} {ls : List (Option Value)} {st : List Value} {h : mH} {f : Nat} {x : Int64} (q : Nat) (ls1 : List (Option Value)) (hd : decode (mCode E) pc = .ok (.lstore f, 2)) (hq : pc + 2 = q) (hm : (f : Nat) + 1 < mMax E) (hn : mnl ls f = true) (h1 : lg ls ((f : Nat) + 1) = none) (hs : lset ls f (some (.long x)) = ls1) (K : Sat G E Q cn q ls1 st h) : Sat G E Q cn pc ls (.long x :: st) h := by
  subst hq
  subst hs
  intro p e R s m args below meth c H la locs Qm C hcn hW hS hl hr
  exact lv_lstore C.1 C.2.1 hd hl hm rfl (fun la1 hl1 => K p e R s m args below meth c H la1 locs Qm C hcn hW hS (lv_mono hl1 (lA_setL hn h1)) hr)
theorem r_iinc {G : mG} {E : mEn} {Q : Option Value → mH → Prop} {cn pc : Nat} {ls : List (Option Value)} {st : List Value} {h : mH} {f : Nat} {n : Int} {x v : Int32} (q : Nat) (ls1 : List (Option Value)) (hd : decode (mCode E) pc = .ok (.iinc f n, 3)) (hq : pc + 3 = q) (hg : lg ls f = some (.int x)) (hv : x + Int32.ofInt n = v) (hm : f < mMax E) (hn : mnl ls f = true) (hs : lset ls f (some (.int v)) = ls1) (K : Sat G E Q cn q ls1 st h) : Sat G E Q cn pc ls st h := by
  subst hq
  subst hs
  intro p e R s m args below meth c H la locs Qm C hcn hW hS hl hr
  have h1 := lA_get (G := G) ls 0 f _ hg
  rw [Nat.zero_add] at h1
  obtain ⟨k, hk⟩ := List.getElem?_of_mem h1
  exact lv_iinc C.1 C.2.1 hd hl (k := k) hk hv hm rfl (fun la1 hl1 => K p e R s m args below meth c H la1 locs Qm C hcn hW hS (lv_mono hl1 (lA_set hn)) hr)
theorem r_iincW {G : mG} {E : mEn} {Q : Option Value → mH → Prop} {cn pc : Nat} {ls : List (Option Value)} {st : List Value} {h : mH} {f : Nat} {n : Int} {x v : Int32} (q : Nat) (ls1 : List (Option Value)) (hd : decode (mCode E) pc = .ok (.iinc f n, 6)) (hq : pc + 6 = q) (hg : lg ls f = some (.int x)) (hv : x + Int32.ofInt n = v) (hm : f < mMax E) (hn : mnl ls f = true) (hs : lset ls f (some (.int v)) = ls1) (K : Sat G E Q cn q ls1 st h) : Sat G E Q cn pc ls st h := by
  subst hq
  subst hs
  intro p e R s m args below meth c H la locs Qm C hcn hW hS hl hr
  have h1 := lA_get (G := G) ls 0 f _ hg
  rw [Nat.zero_add] at h1
  obtain ⟨k, hk⟩ := List.getElem?_of_mem h1
  exact lv_iincW C.1 C.2.1 hd hl (k := k) hk hv hm rfl (fun la1 hl1 => K p e R s m args below meth c H la1 locs Qm C hcn hW hS (lv_mono hl1 (lA_set hn)) hr)
theorem r_iadd {G : mG} {E : mEn} {Q : Option Value → mH → Prop} {cn pc : Nat} {ls : List (Option Value)} {st : List Value} {h : mH} {x y : Int32} (q : Nat) (hd : decode (mCode E) pc = .ok (.iadd, 1)) (hq : pc + 1 = q) (K : Sat G E Q cn q ls (.int (x + y) :: st) h) : Sat G E Q cn pc ls (.int y :: .int x :: st) h := by
  subst hq
  intro p e R s m args below meth c H la locs Qm C hcn hW hS hl hr
  exact lv_iadd C.1 C.2.1 hd (K p e R s m args below meth c H la locs Qm C hcn hW hS hl hr)
theorem r_isub {G : mG} {E : mEn} {Q : Option Value → mH → Prop} {cn pc : Nat} {ls : List (Option Value)} {st : List Value} {h : mH} {x y : Int32} (q : Nat) (hd : decode (mCode E) pc = .ok (.isub, 1)) (hq : pc + 1 = q) (K : Sat G E Q cn q ls (.int (x - y) :: st) h) : Sat G E Q cn pc ls (.int y :: .int x :: st) h := by
  subst hq
  intro p e R s m args below meth c H la locs Qm C hcn hW hS hl hr
  exact lv_isub C.1 C.2.1 hd (K p e R s m args below meth c H la locs Qm C hcn hW hS hl hr)
theorem r_imul {G : mG} {E : mEn} {Q : Option Value → mH → Prop} {cn pc : Nat} {ls : List (Option Value)} {st : List Value} {h : mH} {x y : Int32} (q : Nat) (hd : decode (mCode E) pc = .ok (.imul, 1)) (hq : pc + 1 = q) (K : Sat G E Q cn q ls (.int (x * y) :: st) h) : Sat G E Q cn pc ls (.int y :: .int x :: st) h := by
  subst hq
  intro p e R s m args below meth c H la locs Qm C hcn hW hS hl hr
  exact lv_imul C.1 C.2.1 hd (K p e R s m args below meth c H la locs Qm C hcn hW hS hl hr)
theorem r_iand {G : mG} {E : mEn} {Q : Option Value → mH → Prop} {cn pc : Nat} {ls : List (Option Value)} {st : List Value} {h : mH} {x y : Int32} (q : Nat) (hd : decode (mCode E) pc = .ok (.iand, 1)) (hq : pc + 1 = q) (K : Sat G E Q cn q ls (.int (x &&& y) :: st) h) : Sat G E Q cn pc ls (.int y :: .int x :: st) h := by
  subst hq
  intro p e R s m args below meth c H la locs Qm C hcn hW hS hl hr
  exact lv_iand C.1 C.2.1 hd (K p e R s m args below meth c H la locs Qm C hcn hW hS hl hr)
theorem r_ior {G : mG} {E : mEn} {Q : Option Value → mH → Prop} {cn pc : Nat} {ls : List (Option Value)} {st : List Value} {h : mH} {x y : Int32} (q : Nat) (hd : decode (mCode E) pc = .ok (.ior, 1)) (hq : pc + 1 = q) (K : Sat G E Q cn q ls (.int (x ||| y) :: st) h) : Sat G E Q cn pc ls (.int y :: .int x :: st) h := by
  subst hq
  intro p e R s m args below meth c H la locs Qm C hcn hW hS hl hr
  exact lv_ior C.1 C.2.1 hd (K p e R s m args below meth c H la locs Qm C hcn hW hS hl hr)
theorem r_ixor {G : mG} {E : mEn} {Q : Option Value → mH → Prop} {cn pc : Nat} {ls : List (Option Value)} {st : List Value} {h : mH} {x y : Int32} (q : Nat) (hd : decode (mCode E) pc = .ok (.ixor, 1)) (hq : pc + 1 = q) (K : Sat G E Q cn q ls (.int (x ^^^ y) :: st) h) : Sat G E Q cn pc ls (.int y :: .int x :: st) h := by
  subst hq
  intro p e R s m args below meth c H la locs Qm C hcn hW hS hl hr
  exact lv_ixor C.1 C.2.1 hd (K p e R s m args below meth c H la locs Qm C hcn hW hS hl hr)
theorem r_ishl {G : mG} {E : mEn} {Q : Option Value → mH → Prop} {cn pc : Nat} {ls : List (Option Value)} {st : List Value} {h : mH} {x y : Int32} (q : Nat) (hd : decode (mCode E) pc = .ok (.ishl, 1)) (hq : pc + 1 = q) (K : Sat G E Q cn q ls (.int (x <<< (y &&& 31)) :: st) h) : Sat G E Q cn pc ls (.int y :: .int x :: st) h := by
  subst hq
  intro p e R s m args below meth c H la locs Qm C hcn hW hS hl hr
  exact lv_ishl C.1 C.2.1 hd (K p e R s m args below meth c H la locs Qm C hcn hW hS hl hr)
theorem r_iushr {G : mG} {E : mEn} {Q : Option Value → mH → Prop} {cn pc : Nat} {ls : List (Option Value)} {st : List Value} {h : mH} {x y : Int32} (q : Nat) (hd : decode (mCode E) pc = .ok (.iushr, 1)) (hq : pc + 1 = q) (K : Sat G E Q cn q ls (.int ((x.toUInt32 >>> (y.toUInt32 &&& Int32.toUInt32 31)).toInt32) :: st) h) : Sat G E Q cn pc ls (.int y :: .int x :: st) h := by
  subst hq
  intro p e R s m args below meth c H la locs Qm C hcn hW hS hl hr
  exact lv_iushr C.1 C.2.1 hd rfl (K p e R s m args below meth c H la locs Qm C hcn hW hS hl hr)
theorem r_idiv {G : mG} {E : mEn} {Q : Option Value → mH → Prop} {cn pc : Nat} {ls : List (Option Value)} {st : List Value} {h : mH} {x y : Int32} (q : Nat) (hd : decode (mCode E) pc = .ok (.idiv, 1)) (hq : pc + 1 = q) (hne : ¬ y = 0) (K : Sat G E Q cn q ls (.int (x / y) :: st) h) : Sat G E Q cn pc ls (.int y :: .int x :: st) h := by
  subst hq
  intro p e R s m args below meth c H la locs Qm C hcn hW hS hl hr
  exact lv_idiv C.1 C.2.1 hd hne (K p e R s m args below meth c H la locs Qm C hcn hW hS hl hr)
theorem r_irem {G : mG} {E : mEn} {Q : Option Value → mH → Prop} {cn pc : Nat} {ls : List (Option Value)} {st : List Value} {h : mH} {x y : Int32} (q : Nat) (hd : decode (mCode E) pc = .ok (.irem, 1)) (hq : pc + 1 = q) (hne : ¬ y = 0) (K : Sat G E Q cn q ls (.int (x - x / y * y) :: st) h) : Sat G E Q cn pc ls (.int y :: .int x :: st) h := by
  subst hq
  intro p e R s m args below meth c H la locs Qm C hcn hW hS hl hr
  exact lv_irem C.1 C.2.1 hd hne (K p e R s m args below meth c H la locs Qm C hcn hW hS hl hr)
theorem r_ineg {G : mG} {E : mEn} {Q : Option Value → mH → Prop} {cn pc : Nat} {ls : List (Option Value)} {st : List Value} {h : mH} {x : Int32} (q : Nat) (hd : decode (mCode E) pc = .ok (.ineg, 1)) (hq : pc + 1 = q) (K : Sat G E Q cn q ls (.int (-x) :: st) h) : Sat G E Q cn pc ls (.int x :: st) h := by
  subst hq
  intro p e R s m args below meth c H la locs Qm C hcn hW hS hl hr
  exact lv_ineg C.1 C.2.1 hd (K p e R s m args below meth c H la locs Qm C hcn hW hS hl hr)
theorem r_ladd {G : mG} {E : mEn} {Q : Option Value → mH → Prop} {cn pc : Nat} {ls : List (Option Value)} {st : List Value} {h : mH} {x y : Int64} (q : Nat) (hd : decode (mCode E) pc = .ok (.ladd, 1)) (hq : pc + 1 = q) (K : Sat G E Q cn q ls (.long (x + y) :: st) h) : Sat G E Q cn pc ls (.long y :: .long x :: st) h := by
  subst hq
  intro p e R s m args below meth c H la locs Qm C hcn hW hS hl hr
  exact lv_ladd C.1 C.2.1 hd (K p e R s m args below meth c H la locs Qm C hcn hW hS hl hr)
theorem r_land {G : mG} {E : mEn} {Q : Option Value → mH → Prop} {cn pc : Nat} {ls : List (Option Value)} {st : List Value} {h : mH} {x y : Int64} (q : Nat) (hd : decode (mCode E) pc = .ok (.land, 1)) (hq : pc + 1 = q) (K : Sat G E Q cn q ls (.long (x &&& y) :: st) h) : Sat G E Q cn pc ls (.long y :: .long x :: st) h := by
  subst hq
  intro p e R s m args below meth c H la locs Qm C hcn hW hS hl hr
  exact lv_land C.1 C.2.1 hd (K p e R s m args below meth c H la locs Qm C hcn hW hS hl hr)
theorem r_lor {G : mG} {E : mEn} {Q : Option Value → mH → Prop} {cn pc : Nat} {ls : List (Option Value)} {st : List Value} {h : mH} {x y : Int64} (q : Nat) (hd : decode (mCode E) pc = .ok (.lor, 1)) (hq : pc + 1 = q) (K : Sat G E Q cn q ls (.long (x ||| y) :: st) h) : Sat G E Q cn pc ls (.long y :: .long x :: st) h := by
  subst hq
  intro p e R s m args below meth c H la locs Qm C hcn hW hS hl hr
  exact lv_lor C.1 C.2.1 hd (K p e R s m args below meth c H la locs Qm C hcn hW hS hl hr)
theorem r_lshl {G : mG} {E : mEn} {Q : Option Value → mH → Prop} {cn pc : Nat} {ls : List (Option Value)} {st : List Value} {h : mH} {x : Int64} {y : Int32} (q : Nat) (hd : decode (mCode E) pc = .ok (.lshl, 1)) (hq : pc + 1 = q) (K : Sat G E Q cn q ls (.long (x <<< (y.toInt64 &&& 63)) :: st) h) : Sat G E Q cn pc ls (.int y :: .long x :: st) h := by
  subst hq
  intro p e R s m args below meth c H la locs Qm C hcn hW hS hl hr
  exact lv_lshl C.1 C.2.1 hd rfl (K p e R s m args below meth c H la locs Qm C hcn hW hS hl hr)
theorem r_lcmp {G : mG} {E : mEn} {Q : Option Value → mH → Prop} {cn pc : Nat} {ls : List (Option Value)} {st : List Value} {h : mH} {x y : Int64} (q : Nat) (hd : decode (mCode E) pc = .ok (.lcmp, 1)) (hq : pc + 1 = q) (K : Sat G E Q cn q ls (.int (lg_cmp x y) :: st) h) : Sat G E Q cn pc ls (.long y :: .long x :: st) h := by
  subst hq
  intro p e R s m args below meth c H la locs Qm C hcn hW hS hl hr
  exact W.lcmp C.1 C.2.1 hd (K p e R s m args below meth c H la locs Qm C hcn hW hS hl hr)
theorem r_i2l {G : mG} {E : mEn} {Q : Option Value → mH → Prop} {cn pc : Nat} {ls : List (Option Value)} {st : List Value} {h : mH} {x : Int32} (q : Nat) (hd : decode (mCode E) pc = .ok (.i2l, 1)) (hq : pc + 1 = q) (K : Sat G E Q cn q ls (.long x.toInt64 :: st) h) : Sat G E Q cn pc ls (.int x :: st) h := by
  subst hq
  intro p e R s m args below meth c H la locs Qm C hcn hW hS hl hr
  exact lv_i2l C.1 C.2.1 hd rfl (K p e R s m args below meth c H la locs Qm C hcn hW hS hl hr)
theorem r_l2i {G : mG} {E : mEn} {Q : Option Value → mH → Prop} {cn pc : Nat} {ls : List (Option Value)} {st : List Value} {h : mH} {x : Int64} (q : Nat) (hd : decode (mCode E) pc = .ok (.l2i, 1)) (hq : pc + 1 = q) (K : Sat G E Q cn q ls (.int x.toInt32 :: st) h) : Sat G E Q cn pc ls (.long x :: st) h := by
  subst hq
  intro p e R s m args below meth c H la locs Qm C hcn hW hS hl hr
  exact lv_l2i C.1 C.2.1 hd rfl (K p e R s m args below meth c H la locs Qm C hcn hW hS hl hr)
theorem r_i2b {G : mG} {E : mEn} {Q : Option Value → mH → Prop} {cn pc : Nat} {ls : List (Option Value)} {st : List Value} {h : mH} {x : Int32} (q : Nat) (hd : decode (mCode E) pc = .ok (.i2b, 1)) (hq : pc + 1 = q) (K : Sat G E Q cn q ls (.int x.toInt8.toInt32 :: st) h) : Sat G E Q cn pc ls (.int x :: st) h := by
  subst hq
  intro p e R s m args below meth c H la locs Qm C hcn hW hS hl hr
  exact lv_i2b C.1 C.2.1 hd rfl (K p e R s m args below meth c H la locs Qm C hcn hW hS hl hr)
theorem r_i2s {G : mG} {E : mEn} {Q : Option Value → mH → Prop} {cn pc : Nat} {ls : List (Option Value)} {st : List Value} {h : mH} {x : Int32} (q : Nat) (hd : decode (mCode E) pc = .ok (.i2s, 1)) (hq : pc + 1 = q) (K : Sat G E Q cn q ls (.int x.toInt16.toInt32 :: st) h) : Sat G E Q cn pc ls (.int x :: st) h := by
  subst hq
  intro p e R s m args below meth c H la locs Qm C hcn hW hS hl hr
  exact lv_i2s C.1 C.2.1 hd rfl (K p e R s m args below meth c H la locs Qm C hcn hW hS hl hr)
theorem r_dup {G : mG} {E : mEn} {Q : Option Value → mH → Prop} {cn pc : Nat} {ls : List (Option Value)} {st : List Value} {h : mH} {v : Value} (q : Nat) (hd : decode (mCode E) pc = .ok (.dup, 1)) (hq : pc + 1 = q) (hc : v.category = 1) (K : Sat G E Q cn q ls (v :: v :: st) h) : Sat G E Q cn pc ls (v :: st) h := by
  subst hq
  intro p e R s m args below meth c H la locs Qm C hcn hW hS hl hr
  exact lv_dup C.1 C.2.1 hd (by rw [tr_cat]; exact hc) (K p e R s m args below meth c H la locs Qm C hcn hW hS hl hr)
theorem r_pop {G : mG} {E : mEn} {Q : Option Value → mH → Prop} {cn pc : Nat} {ls : List (Option Value)} {st : List Value} {h : mH} {v : Value} (q : Nat) (hd : decode (mCode E) pc = .ok (.pop, 1)) (hq : pc + 1 = q) (hc : v.category = 1) (K : Sat G E Q cn q ls (st) h) : Sat G E Q cn pc ls (v :: st) h := by
  subst hq
  intro p e R s m args below meth c H la locs Qm C hcn hW hS hl hr
  exact lv_pop C.1 C.2.1 hd (by rw [tr_cat]; exact hc) (K p e R s m args below meth c H la locs Qm C hcn hW hS hl hr)
theorem r_dup2 {G : mG} {E : mEn} {Q : Option Value → mH → Prop} {cn pc : Nat} {ls : List (Option Value)} {st : List Value} {h : mH} {v w : Value} (q : Nat) (hd : decode (mCode E) pc = .ok (.dup2, 1)) (hq : pc + 1 = q) (hc : v.category = 1) (hc2 : w.category = 1) (K : Sat G E Q cn q ls (v :: w :: v :: w :: st) h) : Sat G E Q cn pc ls (v :: w :: st) h := by
  subst hq
  intro p e R s m args below meth c H la locs Qm C hcn hW hS hl hr
  exact lv_dup2_11 C.1 C.2.1 hd (by rw [tr_cat]; exact hc) (by rw [tr_cat]; exact hc2) (K p e R s m args below meth c H la locs Qm C hcn hW hS hl hr)
theorem r_if_eq {G : mG} {E : mEn} {Q : Option Value → mH → Prop} {cn pc : Nat} {ls : List (Option Value)} {st : List Value} {h : mH} {x : Int32} {off : Int} (t q : Nat) (hd : decode (mCode E) pc = .ok (.ifCond .eq off, 3)) (ht : (pc : Int) + off = (t : Int)) (hq : pc + 3 = q) (kt : x = 0 → Sat G E Q cn t ls st h) (kf : ¬ x = 0 → Sat G E Q cn q ls st h) : Sat G E Q cn pc ls (.int x :: st) h := by
  subst hq
  intro p e R s m args below meth c H la locs Qm C hcn hW hS hl hr
  exact lv_if_eq C.1 C.2.1 hd ht (fun z => kt z p e R s m args below meth c H la locs Qm C hcn hW hS hl hr) (fun z => kf z p e R s m args below meth c H la locs Qm C hcn hW hS hl hr)
theorem r_icmp_eq {G : mG} {E : mEn} {Q : Option Value → mH → Prop} {cn pc : Nat} {ls : List (Option Value)} {st : List Value} {h : mH} {x y : Int32} {off : Int} (t q : Nat) (hd : decode (mCode E) pc = .ok (.if_icmp .eq off, 3)) (ht : (pc : Int) + off = (t : Int)) (hq : pc + 3 = q) (kt : x = y → Sat G E Q cn t ls st h) (kf : ¬ x = y → Sat G E Q cn q ls st h) : Sat G E Q cn pc ls (.int y :: .int x :: st) h := by
  subst hq
  intro p e R s m args below meth c H la locs Qm C hcn hW hS hl hr
  exact lv_icmp_eq C.1 C.2.1 hd ht (fun z => kt z p e R s m args below meth c H la locs Qm C hcn hW hS hl hr) (fun z => kf z p e R s m args below meth c H la locs Qm C hcn hW hS hl hr)
theorem r_if_ne {G : mG} {E : mEn} {Q : Option Value → mH → Prop} {cn pc : Nat} {ls : List (Option Value)} {st : List Value} {h : mH} {x : Int32} {off : Int} (t q : Nat) (hd : decode (mCode E) pc = .ok (.ifCond .ne off, 3)) (ht : (pc : Int) + off = (t : Int)) (hq : pc + 3 = q) (kt : ¬ x = 0 → Sat G E Q cn t ls st h) (kf : x = 0 → Sat G E Q cn q ls st h) : Sat G E Q cn pc ls (.int x :: st) h := by
  subst hq
  intro p e R s m args below meth c H la locs Qm C hcn hW hS hl hr
  exact lv_if_ne C.1 C.2.1 hd ht (fun z => kt z p e R s m args below meth c H la locs Qm C hcn hW hS hl hr) (fun z => kf z p e R s m args below meth c H la locs Qm C hcn hW hS hl hr)
theorem r_icmp_ne {G : mG} {E : mEn} {Q : Option Value → mH → Prop} {cn pc : Nat} {ls : List (Option Value)} {st : List Value} {h : mH} {x y : Int32} {off : Int} (t q : Nat) (hd : decode (mCode E) pc = .ok (.if_icmp .ne off, 3)) (ht : (pc : Int) + off = (t : Int)) (hq : pc + 3 = q) (kt : ¬ x = y → Sat G E Q cn t ls st h) (kf : x = y → Sat G E Q cn q ls st h) : Sat G E Q cn pc ls (.int y :: .int x :: st) h := by
  subst hq
  intro p e R s m args below meth c H la locs Qm C hcn hW hS hl hr
  exact lv_icmp_ne C.1 C.2.1 hd ht (fun z => kt z p e R s m args below meth c H la locs Qm C hcn hW hS hl hr) (fun z => kf z p e R s m args below meth c H la locs Qm C hcn hW hS hl hr)
theorem r_if_lt {G : mG} {E : mEn} {Q : Option Value → mH → Prop} {cn pc : Nat} {ls : List (Option Value)} {st : List Value} {h : mH} {x : Int32} {off : Int} (t q : Nat) (hd : decode (mCode E) pc = .ok (.ifCond .lt off, 3)) (ht : (pc : Int) + off = (t : Int)) (hq : pc + 3 = q) (kt : x < 0 → Sat G E Q cn t ls st h) (kf : ¬ x < 0 → Sat G E Q cn q ls st h) : Sat G E Q cn pc ls (.int x :: st) h := by
  subst hq
  intro p e R s m args below meth c H la locs Qm C hcn hW hS hl hr
  exact lv_if_lt C.1 C.2.1 hd ht (fun z => kt z p e R s m args below meth c H la locs Qm C hcn hW hS hl hr) (fun z => kf z p e R s m args below meth c H la locs Qm C hcn hW hS hl hr)
theorem r_icmp_lt {G : mG} {E : mEn} {Q : Option Value → mH → Prop} {cn pc : Nat} {ls : List (Option Value)} {st : List Value} {h : mH} {x y : Int32} {off : Int} (t q : Nat) (hd : decode (mCode E) pc = .ok (.if_icmp .lt off, 3)) (ht : (pc : Int) + off = (t : Int)) (hq : pc + 3 = q) (kt : x < y → Sat G E Q cn t ls st h) (kf : ¬ x < y → Sat G E Q cn q ls st h) : Sat G E Q cn pc ls (.int y :: .int x :: st) h := by
  subst hq
  intro p e R s m args below meth c H la locs Qm C hcn hW hS hl hr
  exact lv_icmp_lt C.1 C.2.1 hd ht (fun z => kt z p e R s m args below meth c H la locs Qm C hcn hW hS hl hr) (fun z => kf z p e R s m args below meth c H la locs Qm C hcn hW hS hl hr)
theorem r_if_ge {G : mG} {E : mEn} {Q : Option Value → mH → Prop} {cn pc : Nat} {ls : List (Option Value)} {st : List Value} {h : mH} {x : Int32} {off : Int} (t q : Nat) (hd : decode (mCode E) pc = .ok (.ifCond .ge off, 3)) (ht : (pc : Int) + off = (t : Int)) (hq : pc + 3 = q) (kt : 0 ≤ x → Sat G E Q cn t ls st h) (kf : ¬ 0 ≤ x → Sat G E Q cn q ls st h) : Sat G E Q cn pc ls (.int x :: st) h := by
  subst hq
  intro p e R s m args below meth c H la locs Qm C hcn hW hS hl hr
  exact lv_if_ge C.1 C.2.1 hd ht (fun z => kt z p e R s m args below meth c H la locs Qm C hcn hW hS hl hr) (fun z => kf z p e R s m args below meth c H la locs Qm C hcn hW hS hl hr)
theorem r_icmp_ge {G : mG} {E : mEn} {Q : Option Value → mH → Prop} {cn pc : Nat} {ls : List (Option Value)} {st : List Value} {h : mH} {x y : Int32} {off : Int} (t q : Nat) (hd : decode (mCode E) pc = .ok (.if_icmp .ge off, 3)) (ht : (pc : Int) + off = (t : Int)) (hq : pc + 3 = q) (kt : y ≤ x → Sat G E Q cn t ls st h) (kf : ¬ y ≤ x → Sat G E Q cn q ls st h) : Sat G E Q cn pc ls (.int y :: .int x :: st) h := by
  subst hq
  intro p e R s m args below meth c H la locs Qm C hcn hW hS hl hr
  exact lv_icmp_ge C.1 C.2.1 hd ht (fun z => kt z p e R s m args below meth c H la locs Qm C hcn hW hS hl hr) (fun z => kf z p e R s m args below meth c H la locs Qm C hcn hW hS hl hr)
theorem r_if_gt {G : mG} {E : mEn} {Q : Option Value → mH → Prop} {cn pc : Nat} {ls : List (Option Value)} {st : List Value} {h : mH} {x : Int32} {off : Int} (t q : Nat) (hd : decode (mCode E) pc = .ok (.ifCond .gt off, 3)) (ht : (pc : Int) + off = (t : Int)) (hq : pc + 3 = q) (kt : 0 < x → Sat G E Q cn t ls st h) (kf : ¬ 0 < x → Sat G E Q cn q ls st h) : Sat G E Q cn pc ls (.int x :: st) h := by
  subst hq
  intro p e R s m args below meth c H la locs Qm C hcn hW hS hl hr
  exact lv_if_gt C.1 C.2.1 hd ht (fun z => kt z p e R s m args below meth c H la locs Qm C hcn hW hS hl hr) (fun z => kf z p e R s m args below meth c H la locs Qm C hcn hW hS hl hr)
theorem r_icmp_gt {G : mG} {E : mEn} {Q : Option Value → mH → Prop} {cn pc : Nat} {ls : List (Option Value)} {st : List Value} {h : mH} {x y : Int32} {off : Int} (t q : Nat) (hd : decode (mCode E) pc = .ok (.if_icmp .gt off, 3)) (ht : (pc : Int) + off = (t : Int)) (hq : pc + 3 = q) (kt : y < x → Sat G E Q cn t ls st h) (kf : ¬ y < x → Sat G E Q cn q ls st h) : Sat G E Q cn pc ls (.int y :: .int x :: st) h := by
  subst hq
  intro p e R s m args below meth c H la locs Qm C hcn hW hS hl hr
  exact lv_icmp_gt C.1 C.2.1 hd ht (fun z => kt z p e R s m args below meth c H la locs Qm C hcn hW hS hl hr) (fun z => kf z p e R s m args below meth c H la locs Qm C hcn hW hS hl hr)
theorem r_if_le {G : mG} {E : mEn} {Q : Option Value → mH → Prop} {cn pc : Nat} {ls : List (Option Value)} {st : List Value} {h : mH} {x : Int32} {off : Int} (t q : Nat) (hd : decode (mCode E) pc = .ok (.ifCond .le off, 3)) (ht : (pc : Int) + off = (t : Int)) (hq : pc + 3 = q) (kt : x ≤ 0 → Sat G E Q cn t ls st h) (kf : ¬ x ≤ 0 → Sat G E Q cn q ls st h) : Sat G E Q cn pc ls (.int x :: st) h := by
  subst hq
  intro p e R s m args below meth c H la locs Qm C hcn hW hS hl hr
  exact lv_if_le C.1 C.2.1 hd ht (fun z => kt z p e R s m args below meth c H la locs Qm C hcn hW hS hl hr) (fun z => kf z p e R s m args below meth c H la locs Qm C hcn hW hS hl hr)
theorem r_icmp_le {G : mG} {E : mEn} {Q : Option Value → mH → Prop} {cn pc : Nat} {ls : List (Option Value)} {st : List Value} {h : mH} {x y : Int32} {off : Int} (t q : Nat) (hd : decode (mCode E) pc = .ok (.if_icmp .le off, 3)) (ht : (pc : Int) + off = (t : Int)) (hq : pc + 3 = q) (kt : x ≤ y → Sat G E Q cn t ls st h) (kf : ¬ x ≤ y → Sat G E Q cn q ls st h) : Sat G E Q cn pc ls (.int y :: .int x :: st) h := by
  subst hq
  intro p e R s m args below meth c H la locs Qm C hcn hW hS hl hr
  exact lv_icmp_le C.1 C.2.1 hd ht (fun z => kt z p e R s m args below meth c H la locs Qm C hcn hW hS hl hr) (fun z => kf z p e R s m args below meth c H la locs Qm C hcn hW hS hl hr)
theorem r_goto {G : mG} {E : mEn} {Q : Option Value → mH → Prop} {cn pc : Nat} {ls : List (Option Value)} {st : List Value} {h : mH} {off : Int} (t : Nat) (hd : decode (mCode E) pc = .ok (.goto off, 3)) (ht : (pc : Int) + off = (t : Int)) (K : Sat G E Q cn t ls st h) : Sat G E Q cn pc ls st h := by
  intro p e R s m args below meth c H la locs Qm C hcn hW hS hl hr
  exact lv_goto C.1 C.2.1 hd ht (K p e R s m args below meth c H la locs Qm C hcn hW hS hl hr)
theorem r_lookup {G : mG} {E : mEn} {Q : Option Value → mH → Prop} {cn pc : Nat} {ls : List (Option Value)} {st : List Value} {h : mH} {dflt off : Int} {ps : Array (Int × Int)} {len : Nat} {x : Int32} (t : Nat) (hd : decode (mCode E) pc = .ok (.lookupswitch dflt ps, len)) (hp : (ps.toList.zip (ps.toList.drop 1)).all (fun (a, next) => a.1 < next.1) = true) (ho : Op.lookupswitch.offset ps.toList dflt x.toInt = off) (ht : (pc : Int) + off = (t : Int)) (K : Sat G E Q cn t ls st h) : Sat G E Q cn pc ls (.int x :: st) h := by
  intro p e R s m args below meth c H la locs Qm C hcn hW hS hl hr
  exact lv_lookup C.1 C.2.1 hd hp ho ht (K p e R s m args below meth c H la locs Qm C hcn hW hS hl hr)
theorem r_tableOut {G : mG} {E : mEn} {Q : Option Value → mH → Prop} {cn pc : Nat} {ls : List (Option Value)} {st : List Value} {h : mH} {dflt lo hi : Int} {offs : Array Int} {len : Nat} {x : Int32} (t : Nat) (hd : decode (mCode E) pc = .ok (.tableswitch dflt lo hi offs, len)) (hx : x.toInt < lo ∨ hi < x.toInt) (ht : (pc : Int) + dflt = (t : Int)) (K : Sat G E Q cn t ls st h) : Sat G E Q cn pc ls (.int x :: st) h := by
  intro p e R s m args below meth c H la locs Qm C hcn hW hS hl hr
  exact lv_tableOut C.1 C.2.1 hd hx ht (K p e R s m args below meth c H la locs Qm C hcn hW hS hl hr)
theorem r_tableIn {G : mG} {E : mEn} {Q : Option Value → mH → Prop} {cn pc : Nat} {ls : List (Option Value)} {st : List Value} {h : mH} {dflt lo hi off : Int} {offs : Array Int} {len : Nat} {x : Int32} (t : Nat) (hd : decode (mCode E) pc = .ok (.tableswitch dflt lo hi offs, len)) (h1 : ¬ x.toInt < lo) (h2 : ¬ hi < x.toInt) (ho : offs[(x.toInt - lo).toNat]? = some off) (ht : (pc : Int) + off = (t : Int)) (K : Sat G E Q cn t ls st h) : Sat G E Q cn pc ls (.int x :: st) h := by
  intro p e R s m args below meth c H la locs Qm C hcn hW hS hl hr
  exact lv_tableIn C.1 C.2.1 hd h1 h2 ho ht (K p e R s m args below meth c H la locs Qm C hcn hW hS hl hr)
end
section
/-! rows of the small machine that read and write cells -/
/-- a class, as the rows need it -/
def mCl (ci N : Nat) (C : String) (T : u_T) (ty0 : Nat → FieldType) : Prop := vwCl[ci]? = some (C, T, N) ∧ (∀ w ∈ u_ws C T N, w ∈ m_ws) ∧ (∀ k, k < N → parseFieldDescriptor (T k).2.2.1 = some (ty0 k)) ∧ (∀ a, a < N → ∀ b, b < N → a ≠ b → (T a).2.1 ≠ (T b).2.1) ∧ ci < 100
section MEM
variable {G : mG} {E : mEn} {Q : Option Value → mH → Prop} {cn pc : Nat} {ls : List (Option Value)} {st : List Value} {h : mH}
variable {ci N o k ix : Nat} {C ref : String} {T : u_T} {ty0 : Nat → FieldType}
theorem m_getV {v : Value} (q : Nat) (hd : decode (mCode E) pc = .ok (.getfield ix, 3)) (hq : pc + 3 = q) (hC : mCl ci N C T ty0) (hs : m_sh o = (ci, N)) (ho : o < cn) (hk : k < N) (href : (T k).1 = ref)
    (hl : Cond.fieldLink (mOwn E) ix ref (T k).2.1 (T k).2.2.1 ∈ m_ws) (hv : fv E.1 h o k = v) (K : Sat G E Q cn q ls (v :: st) h) : Sat G E Q cn pc ls (.ref o :: st) h := by
  subst hq
  subst hv
  subst href
  intro p e R s m args below meth c H la locs Qm C9 hcn hW hS hl9 hr
  obtain ⟨hc, hin, -, -, hci⟩ := hC
  have he := mWs_get (G := G) (sr := E.1) (h := h) ho
  rw [mE_obj hs hci] at he
  exact va_get C9.1 C9.2.1 C9.2.2.2.2.2.2.1 hin C9.2.2.2.2.2.1 C9.2.2.2.2.2.2.2.2.1.2.1 hW.1 o he hc k hk (C9.2.2.2.2.2.2.1 _ hl) (fun _ z => z) (m_fget hk) hd (K p e R s m args below meth c H la locs Qm C9 hcn hW hS hl9 hr)
theorem r_getN {v : Value} {host : String} (q : Nat) (hd : decode (mCode E) pc = .ok (.getfield ix, 3)) (hq : pc + 3 = q) (hC : mCl ci N C T ty0) (hs : m_sh o = (ci, N)) (ho : o < cn) (hk : k < N) (href : (T k).1 = ref)
    (hl : Cond.fieldLinkNest (mOwn E) ix ref (T k).2.1 (T k).2.2.1 host ∈ m_nw) (hv : fv E.1 h o k = v) (K : Sat G E Q cn q ls (v :: st) h) : Sat G E Q cn pc ls (.ref o :: st) h := by
  subst hq
  subst hv
  subst href
  intro p e R s m args below meth c H la locs Qm C9 hcn hW hS hl9 hr
  obtain ⟨hc, hin, -, -, hci⟩ := hC
  have he := mWs_get (G := G) (sr := E.1) (h := h) ho
  rw [mE_obj hs hci] at he
  have hE := C9.2.2.2.2.2.2.2.2.1
  exact va_getN C9.1 C9.2.1 C9.2.2.2.2.2.2.1 hin C9.2.2.2.2.2.1 hE.2.1 hW.1 o he hc k hk (va_Nw.use (m_nw_on hl) (hE.2.2.2.2.2.1 _ hl)) (fun _ z => z) (m_fget hk) hd (K p e R s m args below meth c H la locs Qm C9 hcn hW hS hl9 hr)
theorem fv_int {sr : Nat → Nat → Nat} (hs : m_sh o = (ci, N)) (hf : (m_ft ci k == 2) = false) : fv sr h o k = .int (gi h o k) := by
  unfold fv
  rw [hs]
  exact if_neg (by simpa using hf)
theorem fv_ref {sr : Nat → Nat → Nat} {j : Nat} (hs : m_sh o = (ci, N)) (hf : (m_ft ci k == 2) = true) (hj : sr o k = j + 1) : fv sr h o k = .ref j := by
  unfold fv
  rw [hs]
  simp only [beq_iff_eq] at hf
  rw [if_pos hf, hj]
  rfl
theorem fv_dyn {sr : Nat → Nat → Nat} {j : Nat} (hs : m_sh o = (ci, N)) (hf : (m_ft ci k == 2) = true) (hj : sr o k = 0) (hv : gi h o k = nI (j + 1)) (hl : j < 2000) : fv sr h o k = .ref j := by
  unfold fv
  rw [hs]
  simp only [beq_iff_eq] at hf
  rw [if_pos hf, hj, show h.1 o k = nI (j + 1) from hv]
  unfold rc
  rw [if_pos rfl, nI_clamp (by omega)]
  rfl
theorem r_getI (q : Nat) (hd : decode (mCode E) pc = .ok (.getfield ix, 3)) (hq : pc + 3 = q) (hC : mCl ci N C T ty0) (hs : m_sh o = (ci, N)) (ho : o < cn) (hk : k < N) (href : (T k).1 = ref)
    (hl : Cond.fieldLink (mOwn E) ix ref (T k).2.1 (T k).2.2.1 ∈ m_ws) (hf : (m_ft ci k == 2) = false) (K : Sat G E Q cn q ls (.int (gi h o k) :: st) h) : Sat G E Q cn pc ls (.ref o :: st) h :=
  m_getV q hd hq hC hs ho hk href hl (fv_int hs hf) K
theorem r_getR {j : Nat} (q : Nat) (hd : decode (mCode E) pc = .ok (.getfield ix, 3)) (hq : pc + 3 = q) (hC : mCl ci N C T ty0) (hs : m_sh o = (ci, N)) (ho : o < cn) (hk : k < N) (href : (T k).1 = ref)
    (hl : Cond.fieldLink (mOwn E) ix ref (T k).2.1 (T k).2.2.1 ∈ m_ws) (hf : (m_ft ci k == 2) = true) (hj : E.1 o k = j + 1) (K : Sat G E Q cn q ls (.ref j :: st) h) : Sat G E Q cn pc ls (.ref o :: st) h :=
  m_getV q hd hq hC hs ho hk href hl (fv_ref hs hf hj) K
theorem r_getD {j : Nat} (q : Nat) (hd : decode (mCode E) pc = .ok (.getfield ix, 3)) (hq : pc + 3 = q) (hC : mCl ci N C T ty0) (hs : m_sh o = (ci, N)) (ho : o < cn) (hk : k < N) (href : (T k).1 = ref)
    (hl : Cond.fieldLink (mOwn E) ix ref (T k).2.1 (T k).2.2.1 ∈ m_ws) (hf : (m_ft ci k == 2) = true) (hj : E.1 o k = 0) (hv : gi h o k = nI (j + 1)) (hlj : j < 2000) (K : Sat G E Q cn q ls (.ref j :: st) h) : Sat G E Q cn pc ls (.ref o :: st) h :=
  m_getV q hd hq hC hs ho hk href hl (fv_dyn hs hf hj hv hlj) K
/-- a store into a field: which value, and what the contents are then -/
theorem m_putV {v : Value} {x : Int32} (q : Nat) (hd : decode (mCode E) pc = .ok (.putfield ix, 3)) (hq : pc + 3 = q) (hC : mCl ci N C T ty0) (hs : m_sh o = (ci, N)) (ho : o < cn) (hk : k < N) (href : (T k).1 = ref)
    (hl : Cond.fieldLink (mOwn E) ix ref (T k).2.1 (T k).2.2.1 ∈ m_ws) (hfin : (T k).2.2.2 = false ∨ ((T k).2.2.2 = true ∧ mIni E = true ∧ (T k).1 = mOwn E)) (hv : tr G (fv E.1 (si h o k x) o k) = tr G v)
    (hn : narrow (ty0 k) (tr G v) = tr G v) (hfit : fits (ty0 k) (tr G v) = true) (K : Sat G E Q cn q ls st (si h o k x)) : Sat G E Q cn pc ls (v :: .ref o :: st) h := by
  subst hq
  subst href
  intro p e R s m args below meth c H la locs Qm C9 hcn hW hS hl9 hr
  obtain ⟨hc, hin, hty, hnm, hci⟩ := hC
  have he := mWs_get (G := G) (sr := E.1) (h := h) ho
  rw [mE_obj hs hci] at he
  have hset := mWs_set (G := G) (sr := E.1) (h := h) (h' := si h o k x) (cn := cn) ho ((mE_obj hs hci).trans (congrArg Sum.inr (congrArg (Prod.mk ci) (m_fset (n := N) hv)))) (fun a ha => mE_congr (si_1 ha) rfl)
  have hts := C9.2.2.2.2.2.2.1
  have hK := C9.2.2.2.2.2.2.2.2.1.2.1
  have hlen : k < ((List.range N).map fun k => tr G (fv E.1 h o k)).length := by simpa using hk
  have kk : ∀ (H1 : Heap) (locs1 : List Loc), va_P G.2.1 vwCl ((mWs G E.1 h cn).set o (ad G o, .inr (ci, ((List.range N).map fun k => tr G (fv E.1 h o k)).set k (tr G v)))) H1 → va_D (mA G) ((mWs G E.1 h cn).set o (ad G o, .inr (ci, ((List.range N).map fun k => tr G (fv E.1 h o k)).set k (tr G v)))) → va_S (mA G) s.heap H1 locs1 → W p G.1 e R s m args below meth c H1 locs1 (cn - mC0 E) (m_sl cn - m_sl (mC0 E)) Qm (F0 m (pc + 3) la (st.map (tr G))) := by
    intro H1 locs1 hP1 hD1 hS1
    rw [hset] at hP1 hD1
    exact K p e R s m args below meth c H1 la locs1 Qm C9 hcn ⟨hP1, hD1, hW.2.2⟩ hS1 hl9 hr
  show W p G.1 e R s m args below meth c H locs _ _ Qm (F0 m pc la (tr G v :: .ref (ad G o) :: st.map (tr G)))
  rcases hfin with hfin | ⟨hf1, hf2, hf3⟩
  · exact va_put C9.1 C9.2.1 hts hin ty0 hty hnm C9.2.2.2.2.2.1 hK hW.1 hW.2.1 hS o he hc k hk (hts _ hl) (fun _ z => z) hfin (hty k hk) hn hfit hlen hd kk
  · exact va_putF C9.1 C9.2.1 hts hin ty0 hty hnm C9.2.2.2.2.2.1 hK hW.1 hW.2.1 hS o he hc k hk (hts _ hl) (fun _ z => z) hf1 (C9.2.2.2.2.2.2.2.1 hf2) hf3 (hty k hk) hn hfit hlen hd kk
theorem r_putI {x : Int32} (q : Nat) (hd : decode (mCode E) pc = .ok (.putfield ix, 3)) (hq : pc + 3 = q) (hC : mCl ci N C T ty0) (hs : m_sh o = (ci, N)) (ho : o < cn) (hk : k < N) (href : (T k).1 = ref)
    (hl : Cond.fieldLink (mOwn E) ix ref (T k).2.1 (T k).2.2.1 ∈ m_ws) (hfin : (T k).2.2.2 = false ∨ ((T k).2.2.2 = true ∧ mIni E = true ∧ (T k).1 = mOwn E)) (hf : (m_ft ci k == 2) = false)
    (hn : narrow (ty0 k) (.int x) = .int x) (hfit : fits (ty0 k) (.int x) = true) (K : Sat G E Q cn q ls st (si h o k x)) : Sat G E Q cn pc ls (.int x :: .ref o :: st) h :=
  m_putV q hd hq hC hs ho hk href hl hfin (by rw [fv_int hs hf]; simp [gi, si]) hn hfit K
theorem r_putD {j : Nat} (q : Nat) (hd : decode (mCode E) pc = .ok (.putfield ix, 3)) (hq : pc + 3 = q) (hC : mCl ci N C T ty0) (hs : m_sh o = (ci, N)) (ho : o < cn) (hk : k < N) (href : (T k).1 = ref)
    (hl : Cond.fieldLink (mOwn E) ix ref (T k).2.1 (T k).2.2.1 ∈ m_ws) (hfin : (T k).2.2.2 = false ∨ ((T k).2.2.2 = true ∧ mIni E = true ∧ (T k).1 = mOwn E)) (hf : (m_ft ci k == 2) = true) (hj : E.1 o k = 0) (hlj : j < 2000)
    (hn : ∀ a : Nat, narrow (ty0 k) (.ref a) = .ref a) (hfit : ∀ a : Nat, fits (ty0 k) (.ref a) = true) (K : Sat G E Q cn q ls st (si h o k (nI (j + 1)))) : Sat G E Q cn pc ls (.ref j :: .ref o :: st) h :=
  m_putV q hd hq hC hs ho hk href hl hfin (by rw [fv_dyn (j := j) hs hf hj (by simp [gi, si]) hlj]) (hn _) (hfit _) K
-- arrays
theorem r_alen {a n : Nat} (q : Nat) (hd : decode (mCode E) pc = .ok (.arraylength, 1)) (hq : pc + 1 = q) (hs : m_sh o = (a, n)) (ha : 100 ≤ a) (ha2 : a < 106) (ho : o < cn) (K : Sat G E Q cn q ls (.int (nI n) :: st) h) : Sat G E Q cn pc ls (.ref o :: st) h := by
  subst hq
  intro p e R s m args below meth c H la locs Qm C9 hcn hW hS hl9 hr
  have he := mWs_get (G := G) (sr := E.1) (h := h) ho
  have hK := C9.2.2.2.2.2.2.2.2.1.2.1
  have kk := K p e R s m args below meth c H la locs Qm C9 hcn hW hS hl9 hr
  rcases (show a < 104 ∨ a = 104 ∨ a = 105 by omega) with q | rfl | rfl
  · obtain ⟨t, rfl⟩ : ∃ t, a = 100 + t := ⟨a - 100, by omega⟩
    rw [mE_int hs (by omega)] at he
    have ht : ∃ ty, (m_tys G.2.2.1)[t]? = some (G.2.2.1 t, ty) := by
      rcases (show t = 0 ∨ t = 1 ∨ t = 2 ∨ t = 3 by omega) with rfl | rfl | rfl | rfl <;> exact ⟨_, rfl⟩
    obtain ⟨ty, ht⟩ := ht
    exact va_alen C9.1 C9.2.1 hK hW.1 o t he ht rfl hd kk
  · rw [mE_long hs] at he
    exact va_alen C9.1 C9.2.1 hK hW.1 o 4 he (rfl : (m_tys G.2.2.1)[4]? = some (G.2.2.1 4, .long)) rfl hd kk
  · rw [mE_ref hs] at he
    exact va_alen C9.1 C9.2.1 hK hW.1 o 5 he (rfl : (m_tys G.2.2.1)[5]? = some (G.2.2.1 5, .object "OneHandEach$Shelf")) rfl hd kk
theorem r_lald {n : Nat} {i : Int32} (q : Nat) (hd : decode (mCode E) pc = .ok (.laload, 1)) (hq : pc + 1 = q) (hs : m_sh o = (104, n)) (ho : o < cn) (hin : vp_in i n) (K : Sat G E Q cn q ls (.long (gl h o i.toNatClampNeg) :: st) h) : Sat G E Q cn pc ls (.int i :: .ref o :: st) h := by
  subst hq
  intro p e R s m args below meth c H la locs Qm C9 hcn hW hS hl9 hr
  have he := mWs_get (G := G) (sr := E.1) (h := h) ho
  rw [mE_long hs] at he
  exact va_lald C9.1 C9.2.1 C9.2.2.2.2.2.2.2.2.1.2.1 hW.1 o 4 he rfl hin hd (K p e R s m args below meth c H la locs Qm C9 hcn hW hS hl9 hr)
theorem r_last {n : Nat} {i : Int32} {x : Int64} (q : Nat) (hd : decode (mCode E) pc = .ok (.lastore, 1)) (hq : pc + 1 = q) (hs : m_sh o = (104, n)) (ho : o < cn) (hin : vp_in i n) (K : Sat G E Q cn q ls st (sl h o i.toNatClampNeg x)) : Sat G E Q cn pc ls (.long x :: .int i :: .ref o :: st) h := by
  subst hq
  intro p e R s m args below meth c H la locs Qm C9 hcn hW hS hl9 hr
  have he := mWs_get (G := G) (sr := E.1) (h := h) ho
  rw [mE_long hs] at he
  refine va_last C9.1 C9.2.1 C9.2.2.2.2.2.2.2.2.1.2.1 hW.1 hW.2.1 hS o 4 he rfl hin hd (fun H1 locs1 hP1 hD1 hS1 => ?_)
  rw [mWs_set (G := G) (sr := E.1) (h := h) (h' := sl h o i.toNatClampNeg x) ho (by rw [mE_long hs, sl_up]) (fun a ha => mE_congr rfl (sl_2 ha))] at hP1 hD1
  exact K p e R s m args below meth c H1 la locs1 Qm C9 hcn ⟨hP1, hD1, hW.2.2⟩ hS1 hl9 hr
theorem r_iald {n : Nat} {i : Int32} (q : Nat) (hd : decode (mCode E) pc = .ok (.iaload, 1)) (hq : pc + 1 = q) (hs : m_sh o = (100, n)) (ho : o < cn) (hin : vp_in i n) (K : Sat G E Q cn q ls (.int (gi h o i.toNatClampNeg) :: st) h) : Sat G E Q cn pc ls (.int i :: .ref o :: st) h := by
  subst hq
  intro p e R s m args below meth c H la locs Qm C9 hcn hW hS hl9 hr
  have he := mWs_get (G := G) (sr := E.1) (h := h) ho
  rw [mE_int (t := 0) hs (by decide)] at he
  exact va_iald C9.1 C9.2.1 C9.2.2.2.2.2.2.2.2.1.2.1 hW.1 o 0 he rfl hin hd (K p e R s m args below meth c H la locs Qm C9 hcn hW hS hl9 hr)
theorem r_iast {n : Nat} {i x : Int32} (q : Nat) (hd : decode (mCode E) pc = .ok (.iastore, 1)) (hq : pc + 1 = q) (hs : m_sh o = (100, n)) (ho : o < cn) (hin : vp_in i n) (K : Sat G E Q cn q ls st (si h o i.toNatClampNeg x)) : Sat G E Q cn pc ls (.int x :: .int i :: .ref o :: st) h := by
  subst hq
  intro p e R s m args below meth c H la locs Qm C9 hcn hW hS hl9 hr
  have he := mWs_get (G := G) (sr := E.1) (h := h) ho
  rw [mE_int (t := 0) hs (by decide)] at he
  refine va_iast C9.1 C9.2.1 C9.2.2.2.2.2.2.2.2.1.2.1 hW.1 hW.2.1 hS o 0 he rfl hin hd (fun H1 locs1 hP1 hD1 hS1 => ?_)
  rw [mWs_set (G := G) (sr := E.1) (h := h) (h' := si h o i.toNatClampNeg x) ho (by rw [mE_int (t := 0) hs (by decide), si_up]) (fun a ha => mE_congr (si_1 ha) rfl)] at hP1 hD1
  exact K p e R s m args below meth c H1 la locs1 Qm C9 hcn ⟨hP1, hD1, hW.2.2⟩ hS1 hl9 hr
theorem r_zald {n : Nat} {i : Int32} (q : Nat) (hd : decode (mCode E) pc = .ok (.baload, 1)) (hq : pc + 1 = q) (hs : m_sh o = (101, n)) (ho : o < cn) (hin : vp_in i n) (K : Sat G E Q cn q ls (.int (gi h o i.toNatClampNeg) :: st) h) : Sat G E Q cn pc ls (.int i :: .ref o :: st) h := by
  subst hq
  intro p e R s m args below meth c H la locs Qm C9 hcn hW hS hl9 hr
  have he := mWs_get (G := G) (sr := E.1) (h := h) ho
  rw [mE_int (t := 1) hs (by decide)] at he
  exact va_zald C9.1 C9.2.1 C9.2.2.2.2.2.2.2.2.1.2.1 hW.1 o 1 he rfl hin hd (K p e R s m args below meth c H la locs Qm C9 hcn hW hS hl9 hr)
theorem r_zast {n : Nat} {i x : Int32} (q : Nat) (hd : decode (mCode E) pc = .ok (.bastore, 1)) (hq : pc + 1 = q) (hs : m_sh o = (101, n)) (ho : o < cn) (hin : vp_in i n) (K : Sat G E Q cn q ls st (si h o i.toNatClampNeg (vp_nar .boolean x))) : Sat G E Q cn pc ls (.int x :: .int i :: .ref o :: st) h := by
  subst hq
  intro p e R s m args below meth c H la locs Qm C9 hcn hW hS hl9 hr
  have he := mWs_get (G := G) (sr := E.1) (h := h) ho
  rw [mE_int (t := 1) hs (by decide)] at he
  refine va_zast C9.1 C9.2.1 C9.2.2.2.2.2.2.2.2.1.2.1 hW.1 hW.2.1 hS o 1 he rfl hin hd (fun H1 locs1 hP1 hD1 hS1 => ?_)
  rw [mWs_set (G := G) (sr := E.1) (h := h) (h' := si h o i.toNatClampNeg (vp_nar .boolean x)) ho (by rw [mE_int (t := 1) hs (by decide), si_up]) (fun a ha => mE_congr (si_1 ha) rfl)] at hP1 hD1
  exact K p e R s m args below meth c H1 la locs1 Qm C9 hcn ⟨hP1, hD1, hW.2.2⟩ hS1 hl9 hr
theorem r_bald {n : Nat} {i : Int32} (q : Nat) (hd : decode (mCode E) pc = .ok (.baload, 1)) (hq : pc + 1 = q) (hs : m_sh o = (102, n)) (ho : o < cn) (hin : vp_in i n) (K : Sat G E Q cn q ls (.int (gi h o i.toNatClampNeg) :: st) h) : Sat G E Q cn pc ls (.int i :: .ref o :: st) h := by
  subst hq
  intro p e R s m args below meth c H la locs Qm C9 hcn hW hS hl9 hr
  have he := mWs_get (G := G) (sr := E.1) (h := h) ho
  rw [mE_int (t := 2) hs (by decide)] at he
  exact va_bald C9.1 C9.2.1 C9.2.2.2.2.2.2.2.2.1.2.1 hW.1 o 2 he rfl hin hd (K p e R s m args below meth c H la locs Qm C9 hcn hW hS hl9 hr)
theorem r_bast {n : Nat} {i x : Int32} (q : Nat) (hd : decode (mCode E) pc = .ok (.bastore, 1)) (hq : pc + 1 = q) (hs : m_sh o = (102, n)) (ho : o < cn) (hin : vp_in i n) (K : Sat G E Q cn q ls st (si h o i.toNatClampNeg (vp_nar .byte x))) : Sat G E Q cn pc ls (.int x :: .int i :: .ref o :: st) h := by
  subst hq
  intro p e R s m args below meth c H la locs Qm C9 hcn hW hS hl9 hr
  have he := mWs_get (G := G) (sr := E.1) (h := h) ho
  rw [mE_int (t := 2) hs (by decide)] at he
  refine va_bast C9.1 C9.2.1 C9.2.2.2.2.2.2.2.2.1.2.1 hW.1 hW.2.1 hS o 2 he rfl hin hd (fun H1 locs1 hP1 hD1 hS1 => ?_)
  rw [mWs_set (G := G) (sr := E.1) (h := h) (h' := si h o i.toNatClampNeg (vp_nar .byte x)) ho (by rw [mE_int (t := 2) hs (by decide), si_up]) (fun a ha => mE_congr (si_1 ha) rfl)] at hP1 hD1
  exact K p e R s m args below meth c H1 la locs1 Qm C9 hcn ⟨hP1, hD1, hW.2.2⟩ hS1 hl9 hr
theorem r_sald {n : Nat} {i : Int32} (q : Nat) (hd : decode (mCode E) pc = .ok (.saload, 1)) (hq : pc + 1 = q) (hs : m_sh o = (103, n)) (ho : o < cn) (hin : vp_in i n) (K : Sat G E Q cn q ls (.int (gi h o i.toNatClampNeg) :: st) h) : Sat G E Q cn pc ls (.int i :: .ref o :: st) h := by
  subst hq
  intro p e R s m args below meth c H la locs Qm C9 hcn hW hS hl9 hr
  have he := mWs_get (G := G) (sr := E.1) (h := h) ho
  rw [mE_int (t := 3) hs (by decide)] at he
  exact va_sald C9.1 C9.2.1 C9.2.2.2.2.2.2.2.2.1.2.1 hW.1 o 3 he rfl hin hd (K p e R s m args below meth c H la locs Qm C9 hcn hW hS hl9 hr)
theorem r_sast {n : Nat} {i x : Int32} (q : Nat) (hd : decode (mCode E) pc = .ok (.sastore, 1)) (hq : pc + 1 = q) (hs : m_sh o = (103, n)) (ho : o < cn) (hin : vp_in i n) (K : Sat G E Q cn q ls st (si h o i.toNatClampNeg (vp_nar .short x))) : Sat G E Q cn pc ls (.int x :: .int i :: .ref o :: st) h := by
  subst hq
  intro p e R s m args below meth c H la locs Qm C9 hcn hW hS hl9 hr
  have he := mWs_get (G := G) (sr := E.1) (h := h) ho
  rw [mE_int (t := 3) hs (by decide)] at he
  refine va_sast C9.1 C9.2.1 C9.2.2.2.2.2.2.2.2.1.2.1 hW.1 hW.2.1 hS o 3 he rfl hin hd (fun H1 locs1 hP1 hD1 hS1 => ?_)
  rw [mWs_set (G := G) (sr := E.1) (h := h) (h' := si h o i.toNatClampNeg (vp_nar .short x)) ho (by rw [mE_int (t := 3) hs (by decide), si_up]) (fun a ha => mE_congr (si_1 ha) rfl)] at hP1 hD1
  exact K p e R s m args below meth c H1 la locs1 Qm C9 hcn ⟨hP1, hD1, hW.2.2⟩ hS1 hl9 hr
theorem r_aald {n j : Nat} {i : Int32} (q : Nat) (hd : decode (mCode E) pc = .ok (.aaload, 1)) (hq : pc + 1 = q) (hs : m_sh o = (105, n)) (ho : o < cn) (hin : vp_in i n) (hj : E.1 o i.toNatClampNeg = j + 1) (K : Sat G E Q cn q ls (.ref j :: st) h) : Sat G E Q cn pc ls (.int i :: .ref o :: st) h := by
  subst hq
  intro p e R s m args below meth c H la locs Qm C9 hcn hW hS hl9 hr
  have he := mWs_get (G := G) (sr := E.1) (h := h) ho
  rw [mE_ref hs] at he
  refine va_aldq C9.1 C9.2.1 C9.2.2.2.2.2.2.2.2.1.2.1 hW.1 o 5 he rfl hin hd ?_
  have e1 : rO G (rc (E.1 o i.toNatClampNeg) (h.1 o i.toNatClampNeg)) = some (ad G j) := by rw [hj]; rfl
  simp only [e1]
  exact K p e R s m args below meth c H la locs Qm C9 hcn hW hS hl9 hr
/-- a reference comes into an array of references, in a constructor -/
theorem r_aast {n j cj nj : Nat} {i : Int32} (q : Nat) (hd : decode (mCode E) pc = .ok (.aastore, 1)) (hq : pc + 1 = q) (hs : m_sh o = (105, n)) (ho : o < cn) (hin : vp_in i n) (hsj : m_sh j = (9, nj)) (hoj : j < cn) (hj : E.1 o i.toNatClampNeg = 0) (hlj : j < 2000) (K : Sat G E Q cn q ls st (si h o i.toNatClampNeg (nI (j + 1)))) : Sat G E Q cn pc ls (.ref j :: .int i :: .ref o :: st) h := by
  subst hq
  intro p e R s m args below meth c H la locs Qm C9 hcn hW hS hl9 hr
  have he := mWs_get (G := G) (sr := E.1) (h := h) ho
  rw [mE_ref hs] at he
  have hv := mWs_get (G := G) (sr := E.1) (h := h) hoj
  rw [mE_obj hsj (by decide)] at hv
  refine va_astq (r := (RX9, TX9, 5)) C9.1 C9.2.1 C9.2.2.2.2.2.2.2.2.1.2.1 hW.1 hW.2.1 hS o 5 j 9 he rfl hv rfl hin hd (fun H1 locs1 hP1 hD1 hS1 => ?_)
  have hup : (fun a => rO G (rc (E.1 o a) ((si h o i.toNatClampNeg (nI (j + 1))).1 o a))) = va_up (fun a => rO G (rc (E.1 o a) (h.1 o a))) i.toNatClampNeg (some (ad G j)) := by
    funext a
    unfold va_up
    by_cases ha : a = i.toNatClampNeg
    · rw [if_pos ha, ha, hj]
      simp only [si, rc, if_true, and_self]
      rw [nI_clamp (by omega)]
      rfl
    · rw [if_neg ha]
      simp [si, ha]
  rw [mWs_set (G := G) (sr := E.1) (h := h) (h' := si h o i.toNatClampNeg (nI (j + 1))) ho (by rw [mE_ref hs, hup]) (fun a ha => mE_congr (si_1 ha) rfl)] at hP1 hD1
  exact K p e R s m args below meth c H1 la locs1 Qm C9 hcn ⟨hP1, hD1, hW.2.2⟩ hS1 hl9 hr
-- the static rows, the script
theorem r_gst {w1 w2 : String} {j : Nat} (q : Nat) (hd : decode (mCode E) pc = .ok (.getstatic ix, 3)) (hq : pc + 3 = q) (hj : (w1 = "OWN" ∧ j = 1001) ∨ (w1 = "ABOVE" ∧ j = 1002)) (hl : Cond.fieldLink (mOwn E) ix "OneHandEach$Bodies" w1 "[I" ∈ m_ws) (K : Sat G E Q cn q ls (.ref j :: st) h) : Sat G E Q cn pc ls st h := by
  subst hq
  intro p e R s m args below meth c H la locs Qm C9 hcn hW hS hl9 hr
  obtain ⟨-, -, ⟨h3, h4⟩, ⟨h5, h6⟩, -⟩ := C9.2.2.2.2.2.2.2.2.1
  rcases hj with ⟨rfl, rfl⟩ | ⟨rfl, rfl⟩
  · exact va_gets C9.1 C9.2.1 h3 hS C9.2.2.2.2.2.1 (C9.2.2.2.2.2.2.1 _ hl) (fun _ z => z) hd (K p e R s m args below meth c H la locs Qm C9 hcn hW hS hl9 hr)
  · exact va_gets C9.1 C9.2.1 h5 hS C9.2.2.2.2.2.1 (C9.2.2.2.2.2.2.1 _ hl) (fun _ z => z) hd (K p e R s m args below meth c H la locs Qm C9 hcn hW hS hl9 hr)
theorem r_own {i : Int32} (q : Nat) (hd : decode (mCode E) pc = .ok (.iaload, 1)) (hq : pc + 1 = q) (hin : vp_in i 32) (K : Sat G E Q cn q ls (.int (m_own i.toNatClampNeg) :: st) h) : Sat G E Q cn pc ls (.int i :: .ref 1001 :: st) h := by
  subst hq
  intro p e R s m args below meth c H la locs Qm C9 hcn hW hS hl9 hr
  obtain ⟨-, -, ⟨h3, h4⟩, -⟩ := C9.2.2.2.2.2.2.2.2.1
  exact va_ti C9.1 C9.2.1 h4 hS hin rfl hd (K p e R s m args below meth c H la locs Qm C9 hcn hW hS hl9 hr)
theorem r_abv {i : Int32} (q : Nat) (hd : decode (mCode E) pc = .ok (.iaload, 1)) (hq : pc + 1 = q) (hin : vp_in i 8) (K : Sat G E Q cn q ls (.int (m_abv i.toNatClampNeg) :: st) h) : Sat G E Q cn pc ls (.int i :: .ref 1002 :: st) h := by
  subst hq
  intro p e R s m args below meth c H la locs Qm C9 hcn hW hS hl9 hr
  obtain ⟨-, -, -, ⟨h5, h6⟩, -⟩ := C9.2.2.2.2.2.2.2.2.1
  exact va_ti C9.1 C9.2.1 h6 hS hin rfl hd (K p e R s m args below meth c H la locs Qm C9 hcn hW hS hl9 hr)
theorem r_scr {i : Int32} (q : Nat) (hd : decode (mCode E) pc = .ok (.iaload, 1)) (hq : pc + 1 = q) (hin : vp_in i G.2.2.2.2.2.2.1) (K : Sat G E Q cn q ls (.int (G.2.2.2.2.2.2.2 i.toNatClampNeg) :: st) h) : Sat G E Q cn pc ls (.int i :: .ref 1000 :: st) h := by
  subst hq
  intro p e R s m args below meth c H la locs Qm C9 hcn hW hS hl9 hr
  obtain ⟨hz, -, -, -, ⟨h7, h8⟩, -⟩ := C9.2.2.2.2.2.2.2.2.1
  exact va_sld C9.1 C9.2.1 h7 (by rw [hz]; omega) (Nat.not_le.mpr h8) hS hin hd (K p e R s m args below meth c H la locs Qm C9 hcn hW hS hl9 hr)
theorem r_slen (q : Nat) (hd : decode (mCode E) pc = .ok (.arraylength, 1)) (hq : pc + 1 = q) (K : Sat G E Q cn q ls (.int (nI G.2.2.2.2.2.2.1) :: st) h) : Sat G E Q cn pc ls (.ref 1000 :: st) h := by
  subst hq
  intro p e R s m args below meth c H la locs Qm C9 hcn hW hS hl9 hr
  obtain ⟨hz, -, -, -, ⟨h7, h8⟩, -⟩ := C9.2.2.2.2.2.2.2.2.1
  exact va_slen C9.1 C9.2.1 h7 (by rw [hz]; omega) (Nat.not_le.mpr h8) hS hd (K p e R s m args below meth c H la locs Qm C9 hcn hW hS hl9 hr)
-- Math
theorem m_sum8 {G : mG} {st : List Value} (hc : (st.map fun v => v.category).sum ≤ 8) : ((st.map (tr G)).map fun v => v.category).sum ≤ 8 := by rw [tr_cats]; exact hc
theorem r_max {x y : Int32} (q : Nat) (hd : decode (mCode E) pc = .ok (.invokestatic ix, 3)) (hq : pc + 3 = q) (hl : Cond.methodLink (mOwn E) ix Lib.Math.max.name ∈ m_ws) (hst : Cond.static Lib.Math.max.name ∈ m_ws) (hini : Cond.initialized "java/lang/Math" ∈ m_ws) (hco : Cond.code Lib.Math.max.name Lib.Math.max.code 2 (some .int) ∈ m_ws) (hht : 1 ≤ mHt E) (hc : (st.map fun v => v.category).sum ≤ 8) (K : Sat G E Q cn q ls (.int (if x < y then y else x) :: st) h) : Sat G E Q cn pc ls (.int y :: .int x :: st) h := by
  subst hq
  intro p e R s m args below meth c H la locs Qm C hcn hW hS hl9 hr
  have hts := C.2.2.2.2.2.2.1
  obtain ⟨hR1, hR2⟩ := C.2.2.2.2.2.2.2.2.2.1
  obtain ⟨hR3, hR4⟩ := C.2.2.2.2.2.2.2.2.2.2.1
  have h8 := m_sum8 (G := G) hc
  exact va_mmax C.1 C.2.1 (by rw [C.2.2.2.2.1]; exact hl9.1.symm) C.2.2.2.2.2.1 (hts _ hl) (hts _ hst) (hts _ hini) (hts _ hco) (by omega) (by omega) (by omega) (Nat.le_trans (Nat.sub_le_sub_right (m_sl_mono hcn.2) _) hR4) hd (K p e R s m args below meth c H la locs Qm C hcn hW hS hl9 hr)
theorem r_min {x y : Int32} (q : Nat) (hd : decode (mCode E) pc = .ok (.invokestatic ix, 3)) (hq : pc + 3 = q) (hl : Cond.methodLink (mOwn E) ix Lib.Math.min.name ∈ m_ws) (hst : Cond.static Lib.Math.min.name ∈ m_ws) (hini : Cond.initialized "java/lang/Math" ∈ m_ws) (hco : Cond.code Lib.Math.min.name Lib.Math.min.code 2 (some .int) ∈ m_ws) (hht : 1 ≤ mHt E) (hc : (st.map fun v => v.category).sum ≤ 8) (K : Sat G E Q cn q ls (.int (if y < x then y else x) :: st) h) : Sat G E Q cn pc ls (.int y :: .int x :: st) h := by
  subst hq
  intro p e R s m args below meth c H la locs Qm C hcn hW hS hl9 hr
  have hts := C.2.2.2.2.2.2.1
  obtain ⟨hR1, hR2⟩ := C.2.2.2.2.2.2.2.2.2.1
  obtain ⟨hR3, hR4⟩ := C.2.2.2.2.2.2.2.2.2.2.1
  have h8 := m_sum8 (G := G) hc
  exact va_mmin C.1 C.2.1 (by rw [C.2.2.2.2.1]; exact hl9.1.symm) C.2.2.2.2.2.1 (hts _ hl) (hts _ hst) (hts _ hini) (hts _ hco) (by omega) (by omega) (by omega) (Nat.le_trans (Nat.sub_le_sub_right (m_sl_mono hcn.2) _) hR4) hd (K p e R s m args below meth c H la locs Qm C hcn hW hS hl9 hr)
theorem r_abs {x : Int32} (q : Nat) (hd : decode (mCode E) pc = .ok (.invokestatic ix, 3)) (hq : pc + 3 = q) (hl : Cond.methodLink (mOwn E) ix Lib.Math.abs.name ∈ m_ws) (hst : Cond.static Lib.Math.abs.name ∈ m_ws) (hini : Cond.initialized "java/lang/Math" ∈ m_ws) (hco : Cond.code Lib.Math.abs.name Lib.Math.abs.code 1 (some .int) ∈ m_ws) (hht : 1 ≤ mHt E) (hc : (st.map fun v => v.category).sum ≤ 8) (K : Sat G E Q cn q ls (.int (if 0 ≤ x then x else 0 - x) :: st) h) : Sat G E Q cn pc ls (.int x :: st) h := by
  subst hq
  intro p e R s m args below meth c H la locs Qm C hcn hW hS hl9 hr
  have hts := C.2.2.2.2.2.2.1
  obtain ⟨hR1, hR2⟩ := C.2.2.2.2.2.2.2.2.2.1
  obtain ⟨hR3, hR4⟩ := C.2.2.2.2.2.2.2.2.2.2.1
  have h8 := m_sum8 (G := G) hc
  exact va_mabs C.1 C.2.1 (by rw [C.2.2.2.2.1]; exact hl9.1.symm) C.2.2.2.2.2.1 (hts _ hl) (hts _ hst) (hts _ hini) (hts _ hco) (by omega) (by omega) (by omega) (Nat.le_trans (Nat.sub_le_sub_right (m_sl_mono hcn.2) _) hR4) hd (K p e R s m args below meth c H la locs Qm C hcn hW hS hl9 hr)
-- System.arraycopy of ints, of longs
theorem r_copyi {n0 n1 o1 : Nat} {sp dp n : Int32} (q : Nat) (hd : decode (mCode E) pc = .ok (.invokestatic ix, 3)) (hq : pc + 3 = q) (hl : Cond.methodLink (mOwn E) ix arraycopyName ∈ m_ws) (hnat : Cond.native arraycopyName ∈ m_ws) (hst : Cond.static arraycopyName ∈ m_ws) (hini : Cond.initialized "java/lang/System" ∈ m_ws) (hs0 : m_sh o = (100, n0)) (ho0 : o < cn) (hs1 : m_sh o1 = (100, n1)) (ho1 : o1 < cn)
    (h1 : ¬ sp < 0) (h2 : ¬ dp < 0) (h3 : ¬ n < 0) (h4 : sp.toNatClampNeg + n.toNatClampNeg ≤ n0) (h5 : dp.toNatClampNeg + n.toNatClampNeg ≤ n1) (hht : 1 ≤ mHt E) (hc : (st.map fun v => v.category).sum ≤ 8) (K : Sat G E Q cn q ls st (cpi h o o1 sp.toNatClampNeg dp.toNatClampNeg n.toNatClampNeg)) : Sat G E Q cn pc ls (.int n :: .int dp :: .ref o1 :: .int sp :: .ref o :: st) h := by
  subst hq
  intro p e R s m args below meth c H la locs Qm C hcn hW hS hl9 hr
  have hts := C.2.2.2.2.2.2.1
  obtain ⟨hR1, hR2⟩ := C.2.2.2.2.2.2.2.2.2.1
  have h8 := m_sum8 (G := G) hc
  have he0 := mWs_get (G := G) (sr := E.1) (h := h) ho0
  have he1 := mWs_get (G := G) (sr := E.1) (h := h) ho1
  rw [mE_int (t := 0) hs0 (by decide)] at he0
  rw [mE_int (t := 0) hs1 (by decide)] at he1
  refine va_copyi C.1 C.2.1 (by rw [C.2.2.2.2.1]; exact hl9.1.symm) C.2.2.2.2.2.1 (hts _ hl) (hts _ hnat) (hts _ hst) (hts _ hini) C.2.2.2.2.2.2.2.2.1.2.1 hW.1 hW.2.1 hS o o1 0 0 he0 he1 (ty := .int) rfl rfl rfl h1 h2 h3 h4 h5 (fun _ _ => rfl) (by omega) ?_ hd (fun H1 locs1 hP1 hD1 hS1 => ?_)
  · have h9 : nativeFrameWords "java/lang/System" "arraycopy" 5 + 11 ≤ 40 := by decide +kernel
    omega
  · rw [mWs_set (G := G) (sr := E.1) (h := h) (h' := cpi h o o1 sp.toNatClampNeg dp.toNatClampNeg n.toNatClampNeg) ho1 (by rw [mE_int (t := 0) hs1 (by decide)]; simp [cpi]) (fun a ha => mE_congr (by funext b; simp [cpi, ha]) rfl)] at hP1 hD1
    exact K p e R s m args below meth c H1 la locs1 Qm C hcn ⟨hP1, hD1, hW.2.2⟩ hS1 hl9 hr
theorem r_copyl {n0 n1 o1 : Nat} {sp dp n : Int32} (q : Nat) (hd : decode (mCode E) pc = .ok (.invokestatic ix, 3)) (hq : pc + 3 = q) (hl : Cond.methodLink (mOwn E) ix arraycopyName ∈ m_ws) (hnat : Cond.native arraycopyName ∈ m_ws) (hst : Cond.static arraycopyName ∈ m_ws) (hini : Cond.initialized "java/lang/System" ∈ m_ws) (hs0 : m_sh o = (104, n0)) (ho0 : o < cn) (hs1 : m_sh o1 = (104, n1)) (ho1 : o1 < cn)
    (h1 : ¬ sp < 0) (h2 : ¬ dp < 0) (h3 : ¬ n < 0) (h4 : sp.toNatClampNeg + n.toNatClampNeg ≤ n0) (h5 : dp.toNatClampNeg + n.toNatClampNeg ≤ n1) (hht : 1 ≤ mHt E) (hc : (st.map fun v => v.category).sum ≤ 8) (K : Sat G E Q cn q ls st (cpl h o o1 sp.toNatClampNeg dp.toNatClampNeg n.toNatClampNeg)) : Sat G E Q cn pc ls (.int n :: .int dp :: .ref o1 :: .int sp :: .ref o :: st) h := by
  subst hq
  intro p e R s m args below meth c H la locs Qm C hcn hW hS hl9 hr
  have hts := C.2.2.2.2.2.2.1
  obtain ⟨hR1, hR2⟩ := C.2.2.2.2.2.2.2.2.2.1
  have h8 := m_sum8 (G := G) hc
  have he0 := mWs_get (G := G) (sr := E.1) (h := h) ho0
  have he1 := mWs_get (G := G) (sr := E.1) (h := h) ho1
  rw [mE_long hs0] at he0
  rw [mE_long hs1] at he1
  refine va_copyl C.1 C.2.1 (by rw [C.2.2.2.2.1]; exact hl9.1.symm) C.2.2.2.2.2.1 (hts _ hl) (hts _ hnat) (hts _ hst) (hts _ hini) C.2.2.2.2.2.2.2.2.1.2.1 hW.1 hW.2.1 hS o o1 4 4 he0 he1 (ty := .long) rfl rfl rfl h1 h2 h3 h4 h5 (fun _ _ => rfl) (by omega) ?_ hd (fun H1 locs1 hP1 hD1 hS1 => ?_)
  · have h9 : nativeFrameWords "java/lang/System" "arraycopy" 5 + 11 ≤ 40 := by decide +kernel
    omega
  · rw [mWs_set (G := G) (sr := E.1) (h := h) (h' := cpl h o o1 sp.toNatClampNeg dp.toNatClampNeg n.toNatClampNeg) ho1 (by rw [mE_long hs1]; simp [cpl]) (fun a ha => mE_congr rfl (by funext b; simp [cpl, ha]))] at hP1 hD1
    exact K p e R s m args below meth c H1 la locs1 Qm C hcn ⟨hP1, hD1, hW.2.2⟩ hS1 hl9 hr
end MEM
end
section
/-! contracts of the small machine: calls, returns, what is made -/
abbrev mRoom (E : mEn) : Room := { frames := mHt E, cells := mC1 E - mC0 E, slots := m_sl (mC1 E) - m_sl (mC0 E), locals := 64 * mHt E }
abbrev mWsY (y : MethodName) (E : mEn) : List Cond := Cond.code y (mCode E) (mMax E) (mRt E) :: m_ws
def mPre (G : mG) (E : mEn) (h : mH) : State → Prop := fun U => mWorld G E.1 h (mC0 E) U.heap ∧ mEnv G (mC0 E) U
abbrev mPost (G : mG) (E : mEn) : mH → State → Prop := fun h' t => mWorld G E.1 h' (mC1 E) t.heap
def mConI (G : mG) (y : MethodName) (E : mEn) (av : List Value) (h : mH) (Q : Int32 → mH → Prop) : Prop := Met G.1 y (mWsY y E) (mRoom E) (va_Pc (av.map (tr G)) (mPre G E h)) (va_Qi Q (mPost G E) (mA G)) (mC1 E - mC0 E) (m_sl (mC1 E) - m_sl (mC0 E)) (mA G)
def mConL (G : mG) (y : MethodName) (E : mEn) (av : List Value) (h : mH) (Q : Int64 → mH → Prop) : Prop := Met G.1 y (mWsY y E) (mRoom E) (va_Pc (av.map (tr G)) (mPre G E h)) (va_Ql Q (mPost G E) (mA G)) (mC1 E - mC0 E) (m_sl (mC1 E) - m_sl (mC0 E)) (mA G)
def mConV (G : mG) (y : MethodName) (E : mEn) (av : List Value) (h : mH) (Q : mH → Prop) : Prop := Met G.1 y (mWsY y E) (mRoom E) (va_Pc (av.map (tr G)) (mPre G E h)) (va_Qv Q (mPost G E) (mA G)) (mC1 E - mC0 E) (m_sl (mC1 E) - m_sl (mC0 E)) (mA G)
def mQi (Q : Int32 → mH → Prop) : Option Value → mH → Prop := fun v h => ∃ x, v = some (.int x) ∧ Q x h
def mQl (Q : Int64 → mH → Prop) : Option Value → mH → Prop := fun v h => ∃ x, v = some (.long x) ∧ Q x h
def mQv (Q : mH → Prop) : Option Value → mH → Prop := fun v h => v = none ∧ Q h
theorem mPre_blind {G : mG} {E : mEn} {h : mH} {av : List Value} : FrameBlind (va_Pc av (mPre G E h)) := fun a _ g mk q => ⟨q.1, q.2.1, mEnv_call g mk a q.2.2⟩
/-- what every call needs of its callee -/
def mCal (y : MethodName) (i : mI) (n : Nat) : Prop := (Cond.code y i.1 i.2.1 i.2.2.1 ∈ m_ws) ∧ (Cond.initialized y.cls ∈ m_ws) ∧ (y.cls ≠ "java/lang/invoke/MethodHandle" ∧ y.cls ≠ "java/lang/invoke/VarHandle" ∧ (parseMethodDescriptor y.desc).map (fun d => d.parameters.length) = some n) ∧ i.2.1 ≤ 45
def mCalV (y : MethodName) (i : mI) (n : Nat) : Prop := mCal y i n ∧ (Cond.instanceMethod y ∈ m_ws) ∧ (Cond.selects y.cls y y ∈ m_ws)
def mCalS (y : MethodName) (i : mI) (n : Nat) : Prop := mCal y i n ∧ (Cond.static y ∈ m_ws)
def mCalI (y : MethodName) (i : mI) (n : Nat) : Prop := mCal y i n ∧ (Cond.instanceMethod y ∈ m_ws) ∧ y.name = "<init>" ∧ i.2.2.1 = none
section RET
variable {G : mG} {E : mEn} {Q : Option Value → mH → Prop} {cn pc : Nat} {ls : List (Option Value)} {st : List Value} {h : mH}
theorem r_ireturn {x : Int32} {ty : FieldType} {Q : Int32 → mH → Prop} (hd : decode (mCode E) pc = .ok (.ireturn, 1)) (hc : cn = mC1 E) (hrt : mRt E = some ty) (hn : narrow ty (.int x) = .int x) (hQ : Q x h) : Sat G E (mQi Q) cn pc ls [.int x] h := by
  subst hc
  intro p e R s m args below meth c H la locs Qm C9 hcn hW hS hl9 hr
  exact hr (some (.int x)) h H locs pc la ⟨x, rfl, hQ⟩ hW hS ⟨⟨ty, hrt, hn⟩, hd⟩
theorem r_lreturn {x : Int64} {Q : Int64 → mH → Prop} (hd : decode (mCode E) pc = .ok (.lreturn, 1)) (hc : cn = mC1 E) (hrt : mRt E = some .long) (hQ : Q x h) : Sat G E (mQl Q) cn pc ls [.long x] h := by
  subst hc
  intro p e R s m args below meth c H la locs Qm C9 hcn hW hS hl9 hr
  exact hr (some (.long x)) h H locs pc la ⟨x, rfl, hQ⟩ hW hS ⟨hrt, hd⟩
theorem r_return {Q : mH → Prop} (hd : decode (mCode E) pc = .ok (.return_, 1)) (hc : cn = mC1 E) (hrt : mRt E = none) (hQ : Q h) : Sat G E (mQv Q) cn pc ls [] h := by
  subst hc
  intro p e R s m args below meth c H la locs Qm C9 hcn hW hS hl9 hr
  exact hr none h H locs pc la ⟨rfl, hQ⟩ hW hS ⟨hrt, hd⟩
end RET
theorem mConI_of {G : mG} {E : mEn} {y : MethodName} {av : List Value} {h : mH} {Q : Int32 → mH → Prop} {ls : List (Option Value)} (nn : Nat) (hy : plainName y.cls = true) (hyc : y.cls = mOwn E) (hini : mIni E = true → y.name = "<init>") (hlen : (lg_sl (av.map (tr G))).length ≤ mMax E) (hls : mL0 av ++ List.replicate nn none = ls) (hc : mC0 E ≤ mC1 E) (K : Sat G E (mQi Q) (mC0 E) 0 ls [] h) : mConI G y E av h Q := by
  refine Met.ofW (cc := mCode E) (maxL := mMax E) (ret := mRt E) hy rfl ?_
  intro p e s m args below meth c s₁ B hml hv
  obtain ⟨rfl, hW, hE⟩ := hv
  have hts := atoms_spec (ws := mWsY y E) B.pre
  have hown : s.vm.findClass (mOwn E) = some m.cls := hyc ▸ findClass_of_methodNamed B.named
  have hl := lv_entry (av.map (tr G)) hlen
  have K1 := K p e (headSpec (mWsY y E) (mRoom E)).room s m _ below meth c s.heap _ [] (MQ below (va_Qi Q (mPost G E) (mA G)) (av.map (tr G)).toArray s (mC1 E - mC0 E) (m_sl (mC1 E) - m_sl (mC0 E)) (mA G))
    ⟨B.exec, B.bytes, B.returns, B.notSynchronized, hml, hown, fun w hw => hts w (List.mem_cons_of_mem _ hw), fun q => (name_of_methodNamed B.named B.method).1.trans (hini q), hE, ⟨Nat.le_refl _, Nat.le_refl _⟩, ⟨Nat.le_refl _, Nat.le_refl _⟩, hc⟩ ⟨Nat.le_refl _, hc⟩ hW va_S.rf
    (lv_mono hl (fun q hq => lA_args av 0 nn q (by rw [hls]; exact hq))) (fun v h1 H1 locs1 pc1 la1 hQ hW1 hS1 hRI => by
      obtain ⟨x, rfl, hQ⟩ := hQ
      obtain ⟨⟨ty, hrt, hn⟩, hdg⟩ := hRI
      exact W.zret B.exec B.bytes (B.returns.trans hrt) hn (fun t ht hWm => ⟨⟨x, h1, rfl, hQ, by show mWorld G E.1 h1 (mC1 E) t.heap; rw [ht]; exact hW1⟩, hS1.F ht⟩) hS1.2.2 hdg B.notSynchronized)
  rw [lg_entry_eq]
  rw [Nat.sub_self, Nat.sub_self] at K1
  exact K1
theorem mConL_of {G : mG} {E : mEn} {y : MethodName} {av : List Value} {h : mH} {Q : Int64 → mH → Prop} {ls : List (Option Value)} (nn : Nat) (hy : plainName y.cls = true) (hyc : y.cls = mOwn E) (hini : mIni E = true → y.name = "<init>") (hlen : (lg_sl (av.map (tr G))).length ≤ mMax E) (hls : mL0 av ++ List.replicate nn none = ls) (hc : mC0 E ≤ mC1 E) (K : Sat G E (mQl Q) (mC0 E) 0 ls [] h) : mConL G y E av h Q := by
  refine Met.ofW (cc := mCode E) (maxL := mMax E) (ret := mRt E) hy rfl ?_
  intro p e s m args below meth c s₁ B hml hv
  obtain ⟨rfl, hW, hE⟩ := hv
  have hts := atoms_spec (ws := mWsY y E) B.pre
  have hown : s.vm.findClass (mOwn E) = some m.cls := hyc ▸ findClass_of_methodNamed B.named
  have hl := lv_entry (av.map (tr G)) hlen
  have K1 := K p e (headSpec (mWsY y E) (mRoom E)).room s m _ below meth c s.heap _ [] (MQ below (va_Ql Q (mPost G E) (mA G)) (av.map (tr G)).toArray s (mC1 E - mC0 E) (m_sl (mC1 E) - m_sl (mC0 E)) (mA G))
    ⟨B.exec, B.bytes, B.returns, B.notSynchronized, hml, hown, fun w hw => hts w (List.mem_cons_of_mem _ hw), fun q => (name_of_methodNamed B.named B.method).1.trans (hini q), hE, ⟨Nat.le_refl _, Nat.le_refl _⟩, ⟨Nat.le_refl _, Nat.le_refl _⟩, hc⟩ ⟨Nat.le_refl _, hc⟩ hW va_S.rf
    (lv_mono hl (fun q hq => lA_args av 0 nn q (by rw [hls]; exact hq))) (fun v h1 H1 locs1 pc1 la1 hQ hW1 hS1 hRI => by
      obtain ⟨x, rfl, hQ⟩ := hQ
      obtain ⟨hrt, hdg⟩ := hRI
      exact W.lret B.exec B.bytes (B.returns.trans hrt) (fun t ht hWm => ⟨⟨x, h1, rfl, hQ, by show mWorld G E.1 h1 (mC1 E) t.heap; rw [ht]; exact hW1⟩, hS1.F ht⟩) hS1.2.2 hdg B.notSynchronized)
  rw [lg_entry_eq]
  rw [Nat.sub_self, Nat.sub_self] at K1
  exact K1
theorem mConV_of {G : mG} {E : mEn} {y : MethodName} {av : List Value} {h : mH} {Q : mH → Prop} {ls : List (Option Value)} (nn : Nat) (hy : plainName y.cls = true) (hyc : y.cls = mOwn E) (hini : mIni E = true → y.name = "<init>") (hlen : (lg_sl (av.map (tr G))).length ≤ mMax E) (hls : mL0 av ++ List.replicate nn none = ls) (hc : mC0 E ≤ mC1 E) (K : Sat G E (mQv Q) (mC0 E) 0 ls [] h) : mConV G y E av h Q := by
  refine Met.ofW (cc := mCode E) (maxL := mMax E) (ret := mRt E) hy rfl ?_
  intro p e s m args below meth c s₁ B hml hv
  obtain ⟨rfl, hW, hE⟩ := hv
  have hts := atoms_spec (ws := mWsY y E) B.pre
  have hown : s.vm.findClass (mOwn E) = some m.cls := hyc ▸ findClass_of_methodNamed B.named
  have hl := lv_entry (av.map (tr G)) hlen
  have K1 := K p e (headSpec (mWsY y E) (mRoom E)).room s m _ below meth c s.heap _ [] (MQ below (va_Qv Q (mPost G E) (mA G)) (av.map (tr G)).toArray s (mC1 E - mC0 E) (m_sl (mC1 E) - m_sl (mC0 E)) (mA G))
    ⟨B.exec, B.bytes, B.returns, B.notSynchronized, hml, hown, fun w hw => hts w (List.mem_cons_of_mem _ hw), fun q => (name_of_methodNamed B.named B.method).1.trans (hini q), hE, ⟨Nat.le_refl _, Nat.le_refl _⟩, ⟨Nat.le_refl _, Nat.le_refl _⟩, hc⟩ ⟨Nat.le_refl _, hc⟩ hW va_S.rf
    (lv_mono hl (fun q hq => lA_args av 0 nn q (by rw [hls]; exact hq))) (fun v h1 H1 locs1 pc1 la1 hQ hW1 hS1 hRI => by
      obtain ⟨rfl, hQ⟩ := hQ
      obtain ⟨hrt, hdg⟩ := hRI
      exact W.vret B.exec B.bytes (B.returns.trans hrt) (fun t ht hWm => ⟨⟨h1, rfl, hQ, by show mWorld G E.1 h1 (mC1 E) t.heap; rw [ht]; exact hW1⟩, hS1.F ht⟩) hS1.2.2 hdg B.notSynchronized)
  rw [lg_entry_eq]
  rw [Nat.sub_self, Nat.sub_self] at K1
  exact K1
section CALLS
variable {G : mG} {E E2 : mEn} {Q : Option Value → mH → Prop} {cn pc ix n : Nat} {ls : List (Option Value)} {st stk As : List Value} {h : mH} {y : MethodName}
theorem r_callVi {Q1 : Int32 → mH → Prop} (q : Nat) {o ci N : Nat} {T : u_T} (hs : m_sh o = (ci, N)) (hcl : vwCl[ci]? = some (y.cls, T, N)) (hci : ci < 100) (ho : o < cn) (hd : decode (mCode E) pc = .ok (.invokevirtual ix, 3)) (hq : pc + 3 = q) (hl : Cond.methodLink (mOwn E) ix y ∈ m_ws) (hy : mCalV y E2.2.1 n) (hst : stk = As.reverse ++ .ref o :: st) (hn : As.length = n) (hc8 : (st.map fun v => v.category).sum ≤ 8) (hht : mHt E2 + 1 ≤ mHt E) (hsr : E2.1 = E.1) (h0 : mC0 E2 = cn) (h1 : mC1 E2 ≤ mC1 E) (h2 : mC0 E2 ≤ mC1 E2)
    (hcon : mConI G y E2 (.ref o :: As) h Q1) (K : ∀ (x : Int32) (h1 : mH), Q1 x h1 → Sat G E Q (mC1 E2) q ls (.int x :: st) h1) : Sat G E Q cn pc ls stk h := by
  subst hq
  subst hst
  intro p e R s m args below meth c H la locs Qm C9 hcn hW hS hl9 hr T hT X
  have hE := C9.2.2.2.2.2.2.2.2.1
  have hts := C9.2.2.2.2.2.2.1
  obtain ⟨hR1, hR2⟩ := C9.2.2.2.2.2.2.2.2.2.1
  obtain ⟨hR3, hR4⟩ := C9.2.2.2.2.2.2.2.2.2.2.1
  have hz := mW_size hW hT X hE.1 hcn.1
  have h8 := m_sum8 (G := G) hc8
  have hm45 : mMax E2 ≤ 45 := hy.1.2.2.2
  have hRA : (mRoom E2).frames + 1 ≤ R.frames := by show mHt E2 + 1 ≤ R.frames; omega
  have hRB : 8 + (mMax E2 + 11) + (mRoom E2).locals ≤ R.locals := by show 8 + (mMax E2 + 11) + 64 * mHt E2 ≤ R.locals; omega
  have s1 := m_sl_mono hcn.1
  have s2 := m_sl_mono h1
  have s3 := m_sl_mono h2
  rw [h0] at s3
  have hc0 : cn ≤ mC1 E2 := h0 ▸ h2
  have hmon : 2 * (F0 m pc la ((As.reverse ++ .ref o :: st).map (tr G))).monitorRoom + ((st.map (tr G)).map fun v => v.category).sum ≤ 8 := lv_room h8
  refine va_calli (va_runV (As := As.map (tr G)) (rest := st.map (tr G)) (b := ad G o) ⟨C9.1, C9.2.1, C9.2.2.2.2.1, C9.2.2.2.2.2.1, hts⟩ hcon ⟨callB_of n hts (m_goodC hy.1.1) rfl rfl rfl (hts _ hy.1.2.1) (hts _ hl) hy.1.2.2.1 ⟨hRA, hRB⟩, hts _ hy.2.1, hts _ hy.2.2⟩ ⟨mPre_blind, va_recv hE.2.1 hW.1 hcl (by have he := mWs_get (G := G) (sr := E.1) (h := h) ho; rw [mE_obj hs hci] at he; exact he), fun U hU hWm => ⟨rfl, by rw [hU, hsr, h0]; exact hW, by rw [h0]; exact mEnv_moved hE hS hU hWm hz⟩⟩ rfl (by rw [List.length_map]; exact hn) hl9.1 (by show (As.reverse ++ .ref o :: st).map (tr G) = _; rw [List.map_append, List.map_reverse] <;> rfl) hmon hd ⟨by rw [h0]; omega, by rw [h0]; omega⟩) hS (fun q _ z => z) (fun q z => z) (fun r u t H1 locs1 ht hvm hw hB hz1 hk1 hS1 => ?_) T hT X
  have hB : mWorld G E2.1 u (mC1 E2) t.heap := hB
  rw [ht, hsr] at hB
  have K1 := K r u hw p e R s m args below meth c H1 la locs1 Qm C9 ⟨by omega, h1⟩ hB hS1 hl9 hr
  rw [h0]
  rw [show cn - mC0 E + (mC1 E2 - cn) = mC1 E2 - mC0 E by omega, show m_sl cn - m_sl (mC0 E) + (m_sl (mC1 E2) - m_sl cn) = m_sl (mC1 E2) - m_sl (mC0 E) by omega]
  exact K1
theorem r_callVl {Q1 : Int64 → mH → Prop} (q : Nat) {o ci N : Nat} {T : u_T} (hs : m_sh o = (ci, N)) (hcl : vwCl[ci]? = some (y.cls, T, N)) (hci : ci < 100) (ho : o < cn) (hd : decode (mCode E) pc = .ok (.invokevirtual ix, 3)) (hq : pc + 3 = q) (hl : Cond.methodLink (mOwn E) ix y ∈ m_ws) (hy : mCalV y E2.2.1 n) (hst : stk = As.reverse ++ .ref o :: st) (hn : As.length = n) (hc8 : (st.map fun v => v.category).sum ≤ 8) (hht : mHt E2 + 1 ≤ mHt E) (hsr : E2.1 = E.1) (h0 : mC0 E2 = cn) (h1 : mC1 E2 ≤ mC1 E) (h2 : mC0 E2 ≤ mC1 E2)
    (hcon : mConL G y E2 (.ref o :: As) h Q1) (K : ∀ (x : Int64) (h1 : mH), Q1 x h1 → Sat G E Q (mC1 E2) q ls (.long x :: st) h1) : Sat G E Q cn pc ls stk h := by
  subst hq
  subst hst
  intro p e R s m args below meth c H la locs Qm C9 hcn hW hS hl9 hr T hT X
  have hE := C9.2.2.2.2.2.2.2.2.1
  have hts := C9.2.2.2.2.2.2.1
  obtain ⟨hR1, hR2⟩ := C9.2.2.2.2.2.2.2.2.2.1
  obtain ⟨hR3, hR4⟩ := C9.2.2.2.2.2.2.2.2.2.2.1
  have hz := mW_size hW hT X hE.1 hcn.1
  have h8 := m_sum8 (G := G) hc8
  have hm45 : mMax E2 ≤ 45 := hy.1.2.2.2
  have hRA : (mRoom E2).frames + 1 ≤ R.frames := by show mHt E2 + 1 ≤ R.frames; omega
  have hRB : 8 + (mMax E2 + 11) + (mRoom E2).locals ≤ R.locals := by show 8 + (mMax E2 + 11) + 64 * mHt E2 ≤ R.locals; omega
  have s1 := m_sl_mono hcn.1
  have s2 := m_sl_mono h1
  have s3 := m_sl_mono h2
  rw [h0] at s3
  have hc0 : cn ≤ mC1 E2 := h0 ▸ h2
  have hmon : 2 * (F0 m pc la ((As.reverse ++ .ref o :: st).map (tr G))).monitorRoom + ((st.map (tr G)).map fun v => v.category).sum ≤ 8 := lv_room h8
  refine va_calll (va_runV (As := As.map (tr G)) (rest := st.map (tr G)) (b := ad G o) ⟨C9.1, C9.2.1, C9.2.2.2.2.1, C9.2.2.2.2.2.1, hts⟩ hcon ⟨callB_of n hts (m_goodC hy.1.1) rfl rfl rfl (hts _ hy.1.2.1) (hts _ hl) hy.1.2.2.1 ⟨hRA, hRB⟩, hts _ hy.2.1, hts _ hy.2.2⟩ ⟨mPre_blind, va_recv hE.2.1 hW.1 hcl (by have he := mWs_get (G := G) (sr := E.1) (h := h) ho; rw [mE_obj hs hci] at he; exact he), fun U hU hWm => ⟨rfl, by rw [hU, hsr, h0]; exact hW, by rw [h0]; exact mEnv_moved hE hS hU hWm hz⟩⟩ rfl (by rw [List.length_map]; exact hn) hl9.1 (by show (As.reverse ++ .ref o :: st).map (tr G) = _; rw [List.map_append, List.map_reverse] <;> rfl) hmon hd ⟨by rw [h0]; omega, by rw [h0]; omega⟩) hS (fun q _ z => z) (fun q z => z) (fun r u t H1 locs1 ht hvm hw hB hz1 hk1 hS1 => ?_) T hT X
  have hB : mWorld G E2.1 u (mC1 E2) t.heap := hB
  rw [ht, hsr] at hB
  have K1 := K r u hw p e R s m args below meth c H1 la locs1 Qm C9 ⟨by omega, h1⟩ hB hS1 hl9 hr
  rw [h0]
  rw [show cn - mC0 E + (mC1 E2 - cn) = mC1 E2 - mC0 E by omega, show m_sl cn - m_sl (mC0 E) + (m_sl (mC1 E2) - m_sl cn) = m_sl (mC1 E2) - m_sl (mC0 E) by omega]
  exact K1
theorem r_callVv {Q1 : mH → Prop} (q : Nat) {o ci N : Nat} {T : u_T} (hs : m_sh o = (ci, N)) (hcl : vwCl[ci]? = some (y.cls, T, N)) (hci : ci < 100) (ho : o < cn) (hd : decode (mCode E) pc = .ok (.invokevirtual ix, 3)) (hq : pc + 3 = q) (hl : Cond.methodLink (mOwn E) ix y ∈ m_ws) (hy : mCalV y E2.2.1 n) (hst : stk = As.reverse ++ .ref o :: st) (hn : As.length = n) (hc8 : (st.map fun v => v.category).sum ≤ 8) (hht : mHt E2 + 1 ≤ mHt E) (hsr : E2.1 = E.1) (h0 : mC0 E2 = cn) (h1 : mC1 E2 ≤ mC1 E) (h2 : mC0 E2 ≤ mC1 E2)
    (hcon : mConV G y E2 (.ref o :: As) h Q1) (K : ∀ (h1 : mH), Q1 h1 → Sat G E Q (mC1 E2) q ls (st) h1) : Sat G E Q cn pc ls stk h := by
  subst hq
  subst hst
  intro p e R s m args below meth c H la locs Qm C9 hcn hW hS hl9 hr T hT X
  have hE := C9.2.2.2.2.2.2.2.2.1
  have hts := C9.2.2.2.2.2.2.1
  obtain ⟨hR1, hR2⟩ := C9.2.2.2.2.2.2.2.2.2.1
  obtain ⟨hR3, hR4⟩ := C9.2.2.2.2.2.2.2.2.2.2.1
  have hz := mW_size hW hT X hE.1 hcn.1
  have h8 := m_sum8 (G := G) hc8
  have hm45 : mMax E2 ≤ 45 := hy.1.2.2.2
  have hRA : (mRoom E2).frames + 1 ≤ R.frames := by show mHt E2 + 1 ≤ R.frames; omega
  have hRB : 8 + (mMax E2 + 11) + (mRoom E2).locals ≤ R.locals := by show 8 + (mMax E2 + 11) + 64 * mHt E2 ≤ R.locals; omega
  have s1 := m_sl_mono hcn.1
  have s2 := m_sl_mono h1
  have s3 := m_sl_mono h2
  rw [h0] at s3
  have hc0 : cn ≤ mC1 E2 := h0 ▸ h2
  have hmon : 2 * (F0 m pc la ((As.reverse ++ .ref o :: st).map (tr G))).monitorRoom + ((st.map (tr G)).map fun v => v.category).sum ≤ 8 := lv_room h8
  refine va_callv (va_runV (As := As.map (tr G)) (rest := st.map (tr G)) (b := ad G o) ⟨C9.1, C9.2.1, C9.2.2.2.2.1, C9.2.2.2.2.2.1, hts⟩ hcon ⟨callB_of n hts (m_goodC hy.1.1) rfl rfl rfl (hts _ hy.1.2.1) (hts _ hl) hy.1.2.2.1 ⟨hRA, hRB⟩, hts _ hy.2.1, hts _ hy.2.2⟩ ⟨mPre_blind, va_recv hE.2.1 hW.1 hcl (by have he := mWs_get (G := G) (sr := E.1) (h := h) ho; rw [mE_obj hs hci] at he; exact he), fun U hU hWm => ⟨rfl, by rw [hU, hsr, h0]; exact hW, by rw [h0]; exact mEnv_moved hE hS hU hWm hz⟩⟩ rfl (by rw [List.length_map]; exact hn) hl9.1 (by show (As.reverse ++ .ref o :: st).map (tr G) = _; rw [List.map_append, List.map_reverse] <;> rfl) hmon hd ⟨by rw [h0]; omega, by rw [h0]; omega⟩) hS (fun q _ z => z) (fun q z => z) (fun u t H1 locs1 ht hvm hw hB hz1 hk1 hS1 => ?_) T hT X
  have hB : mWorld G E2.1 u (mC1 E2) t.heap := hB
  rw [ht, hsr] at hB
  have K1 := K u hw p e R s m args below meth c H1 la locs1 Qm C9 ⟨by omega, h1⟩ hB hS1 hl9 hr
  rw [h0]
  rw [show cn - mC0 E + (mC1 E2 - cn) = mC1 E2 - mC0 E by omega, show m_sl cn - m_sl (mC0 E) + (m_sl (mC1 E2) - m_sl cn) = m_sl (mC1 E2) - m_sl (mC0 E) by omega]
  exact K1
theorem r_callSi {Q1 : Int32 → mH → Prop} (q : Nat) (hd : decode (mCode E) pc = .ok (.invokestatic ix, 3)) (hq : pc + 3 = q) (hl : Cond.methodLink (mOwn E) ix y ∈ m_ws) (hy : mCalS y E2.2.1 n) (hst : stk = As.reverse ++ st) (hn : As.length = n) (hc8 : (st.map fun v => v.category).sum ≤ 8) (hht : mHt E2 + 1 ≤ mHt E) (hsr : E2.1 = E.1) (h0 : mC0 E2 = cn) (h1 : mC1 E2 ≤ mC1 E) (h2 : mC0 E2 ≤ mC1 E2)
    (hcon : mConI G y E2 As h Q1) (K : ∀ (x : Int32) (h1 : mH), Q1 x h1 → Sat G E Q (mC1 E2) q ls (.int x :: st) h1) : Sat G E Q cn pc ls stk h := by
  subst hq
  subst hst
  intro p e R s m args below meth c H la locs Qm C9 hcn hW hS hl9 hr T hT X
  have hE := C9.2.2.2.2.2.2.2.2.1
  have hts := C9.2.2.2.2.2.2.1
  obtain ⟨hR1, hR2⟩ := C9.2.2.2.2.2.2.2.2.2.1
  obtain ⟨hR3, hR4⟩ := C9.2.2.2.2.2.2.2.2.2.2.1
  have hz := mW_size hW hT X hE.1 hcn.1
  have h8 := m_sum8 (G := G) hc8
  have hm45 : mMax E2 ≤ 45 := hy.1.2.2.2
  have hRA : (mRoom E2).frames + 1 ≤ R.frames := by show mHt E2 + 1 ≤ R.frames; omega
  have hRB : 8 + (mMax E2 + 11) + (mRoom E2).locals ≤ R.locals := by show 8 + (mMax E2 + 11) + 64 * mHt E2 ≤ R.locals; omega
  have s1 := m_sl_mono hcn.1
  have s2 := m_sl_mono h1
  have s3 := m_sl_mono h2
  rw [h0] at s3
  have hc0 : cn ≤ mC1 E2 := h0 ▸ h2
  have hmon : 2 * (F0 m pc la ((As.reverse ++ st).map (tr G))).monitorRoom + ((st.map (tr G)).map fun v => v.category).sum ≤ 8 := lv_room h8
  refine va_calli (va_runS (As := As.map (tr G)) (rest := st.map (tr G)) ⟨C9.1, C9.2.1, C9.2.2.2.2.1, C9.2.2.2.2.2.1, hts⟩ hcon ⟨callB_of n hts (m_goodC hy.1.1) rfl rfl rfl (hts _ hy.1.2.1) (hts _ hl) hy.1.2.2.1 ⟨hRA, hRB⟩, hts _ hy.2⟩ ⟨mPre_blind, fun U hU hWm => ⟨rfl, by rw [hU, hsr, h0]; exact hW, by rw [h0]; exact mEnv_moved hE hS hU hWm hz⟩⟩ rfl (by rw [List.length_map]; exact hn) hl9.1 (by show (As.reverse ++ st).map (tr G) = _; rw [List.map_append, List.map_reverse] <;> rfl) hmon hd ⟨by rw [h0]; omega, by rw [h0]; omega⟩) hS (fun q _ z => z) (fun q z => z) (fun r u t H1 locs1 ht hvm hw hB hz1 hk1 hS1 => ?_) T hT X
  have hB : mWorld G E2.1 u (mC1 E2) t.heap := hB
  rw [ht, hsr] at hB
  have K1 := K r u hw p e R s m args below meth c H1 la locs1 Qm C9 ⟨by omega, h1⟩ hB hS1 hl9 hr
  rw [h0]
  rw [show cn - mC0 E + (mC1 E2 - cn) = mC1 E2 - mC0 E by omega, show m_sl cn - m_sl (mC0 E) + (m_sl (mC1 E2) - m_sl cn) = m_sl (mC1 E2) - m_sl (mC0 E) by omega]
  exact K1
theorem r_callSl {Q1 : Int64 → mH → Prop} (q : Nat) (hd : decode (mCode E) pc = .ok (.invokestatic ix, 3)) (hq : pc + 3 = q) (hl : Cond.methodLink (mOwn E) ix y ∈ m_ws) (hy : mCalS y E2.2.1 n) (hst : stk = As.reverse ++ st) (hn : As.length = n) (hc8 : (st.map fun v => v.category).sum ≤ 8) (hht : mHt E2 + 1 ≤ mHt E) (hsr : E2.1 = E.1) (h0 : mC0 E2 = cn) (h1 : mC1 E2 ≤ mC1 E) (h2 : mC0 E2 ≤ mC1 E2)
    (hcon : mConL G y E2 As h Q1) (K : ∀ (x : Int64) (h1 : mH), Q1 x h1 → Sat G E Q (mC1 E2) q ls (.long x :: st) h1) : Sat G E Q cn pc ls stk h := by
  subst hq
  subst hst
  intro p e R s m args below meth c H la locs Qm C9 hcn hW hS hl9 hr T hT X
  have hE := C9.2.2.2.2.2.2.2.2.1
  have hts := C9.2.2.2.2.2.2.1
  obtain ⟨hR1, hR2⟩ := C9.2.2.2.2.2.2.2.2.2.1
  obtain ⟨hR3, hR4⟩ := C9.2.2.2.2.2.2.2.2.2.2.1
  have hz := mW_size hW hT X hE.1 hcn.1
  have h8 := m_sum8 (G := G) hc8
  have hm45 : mMax E2 ≤ 45 := hy.1.2.2.2
  have hRA : (mRoom E2).frames + 1 ≤ R.frames := by show mHt E2 + 1 ≤ R.frames; omega
  have hRB : 8 + (mMax E2 + 11) + (mRoom E2).locals ≤ R.locals := by show 8 + (mMax E2 + 11) + 64 * mHt E2 ≤ R.locals; omega
  have s1 := m_sl_mono hcn.1
  have s2 := m_sl_mono h1
  have s3 := m_sl_mono h2
  rw [h0] at s3
  have hc0 : cn ≤ mC1 E2 := h0 ▸ h2
  have hmon : 2 * (F0 m pc la ((As.reverse ++ st).map (tr G))).monitorRoom + ((st.map (tr G)).map fun v => v.category).sum ≤ 8 := lv_room h8
  refine va_calll (va_runS (As := As.map (tr G)) (rest := st.map (tr G)) ⟨C9.1, C9.2.1, C9.2.2.2.2.1, C9.2.2.2.2.2.1, hts⟩ hcon ⟨callB_of n hts (m_goodC hy.1.1) rfl rfl rfl (hts _ hy.1.2.1) (hts _ hl) hy.1.2.2.1 ⟨hRA, hRB⟩, hts _ hy.2⟩ ⟨mPre_blind, fun U hU hWm => ⟨rfl, by rw [hU, hsr, h0]; exact hW, by rw [h0]; exact mEnv_moved hE hS hU hWm hz⟩⟩ rfl (by rw [List.length_map]; exact hn) hl9.1 (by show (As.reverse ++ st).map (tr G) = _; rw [List.map_append, List.map_reverse] <;> rfl) hmon hd ⟨by rw [h0]; omega, by rw [h0]; omega⟩) hS (fun q _ z => z) (fun q z => z) (fun r u t H1 locs1 ht hvm hw hB hz1 hk1 hS1 => ?_) T hT X
  have hB : mWorld G E2.1 u (mC1 E2) t.heap := hB
  rw [ht, hsr] at hB
  have K1 := K r u hw p e R s m args below meth c H1 la locs1 Qm C9 ⟨by omega, h1⟩ hB hS1 hl9 hr
  rw [h0]
  rw [show cn - mC0 E + (mC1 E2 - cn) = mC1 E2 - mC0 E by omega, show m_sl cn - m_sl (mC0 E) + (m_sl (mC1 E2) - m_sl cn) = m_sl (mC1 E2) - m_sl (mC0 E) by omega]
  exact K1
theorem r_callSv {Q1 : mH → Prop} (q : Nat) (hd : decode (mCode E) pc = .ok (.invokestatic ix, 3)) (hq : pc + 3 = q) (hl : Cond.methodLink (mOwn E) ix y ∈ m_ws) (hy : mCalS y E2.2.1 n) (hst : stk = As.reverse ++ st) (hn : As.length = n) (hc8 : (st.map fun v => v.category).sum ≤ 8) (hht : mHt E2 + 1 ≤ mHt E) (hsr : E2.1 = E.1) (h0 : mC0 E2 = cn) (h1 : mC1 E2 ≤ mC1 E) (h2 : mC0 E2 ≤ mC1 E2)
    (hcon : mConV G y E2 As h Q1) (K : ∀ (h1 : mH), Q1 h1 → Sat G E Q (mC1 E2) q ls (st) h1) : Sat G E Q cn pc ls stk h := by
  subst hq
  subst hst
  intro p e R s m args below meth c H la locs Qm C9 hcn hW hS hl9 hr T hT X
  have hE := C9.2.2.2.2.2.2.2.2.1
  have hts := C9.2.2.2.2.2.2.1
  obtain ⟨hR1, hR2⟩ := C9.2.2.2.2.2.2.2.2.2.1
  obtain ⟨hR3, hR4⟩ := C9.2.2.2.2.2.2.2.2.2.2.1
  have hz := mW_size hW hT X hE.1 hcn.1
  have h8 := m_sum8 (G := G) hc8
  have hm45 : mMax E2 ≤ 45 := hy.1.2.2.2
  have hRA : (mRoom E2).frames + 1 ≤ R.frames := by show mHt E2 + 1 ≤ R.frames; omega
  have hRB : 8 + (mMax E2 + 11) + (mRoom E2).locals ≤ R.locals := by show 8 + (mMax E2 + 11) + 64 * mHt E2 ≤ R.locals; omega
  have s1 := m_sl_mono hcn.1
  have s2 := m_sl_mono h1
  have s3 := m_sl_mono h2
  rw [h0] at s3
  have hc0 : cn ≤ mC1 E2 := h0 ▸ h2
  have hmon : 2 * (F0 m pc la ((As.reverse ++ st).map (tr G))).monitorRoom + ((st.map (tr G)).map fun v => v.category).sum ≤ 8 := lv_room h8
  refine va_callv (va_runS (As := As.map (tr G)) (rest := st.map (tr G)) ⟨C9.1, C9.2.1, C9.2.2.2.2.1, C9.2.2.2.2.2.1, hts⟩ hcon ⟨callB_of n hts (m_goodC hy.1.1) rfl rfl rfl (hts _ hy.1.2.1) (hts _ hl) hy.1.2.2.1 ⟨hRA, hRB⟩, hts _ hy.2⟩ ⟨mPre_blind, fun U hU hWm => ⟨rfl, by rw [hU, hsr, h0]; exact hW, by rw [h0]; exact mEnv_moved hE hS hU hWm hz⟩⟩ rfl (by rw [List.length_map]; exact hn) hl9.1 (by show (As.reverse ++ st).map (tr G) = _; rw [List.map_append, List.map_reverse] <;> rfl) hmon hd ⟨by rw [h0]; omega, by rw [h0]; omega⟩) hS (fun q _ z => z) (fun q z => z) (fun u t H1 locs1 ht hvm hw hB hz1 hk1 hS1 => ?_) T hT X
  have hB : mWorld G E2.1 u (mC1 E2) t.heap := hB
  rw [ht, hsr] at hB
  have K1 := K u hw p e R s m args below meth c H1 la locs1 Qm C9 ⟨by omega, h1⟩ hB hS1 hl9 hr
  rw [h0]
  rw [show cn - mC0 E + (mC1 E2 - cn) = mC1 E2 - mC0 E by omega, show m_sl cn - m_sl (mC0 E) + (m_sl (mC1 E2) - m_sl cn) = m_sl (mC1 E2) - m_sl (mC0 E) by omega]
  exact K1
theorem r_callSNi {host : String} {Q1 : Int32 → mH → Prop} (q : Nat) (hd : decode (mCode E) pc = .ok (.invokestatic ix, 3)) (hq : pc + 3 = q) (hl : Cond.methodLinkNest (mOwn E) ix y host ∈ m_nw) (hy : mCalS y E2.2.1 n) (hst : stk = As.reverse ++ st) (hn : As.length = n) (hc8 : (st.map fun v => v.category).sum ≤ 8) (hht : mHt E2 + 1 ≤ mHt E) (hsr : E2.1 = E.1) (h0 : mC0 E2 = cn) (h1 : mC1 E2 ≤ mC1 E) (h2 : mC0 E2 ≤ mC1 E2)
    (hcon : mConI G y E2 As h Q1) (K : ∀ (x : Int32) (h1 : mH), Q1 x h1 → Sat G E Q (mC1 E2) q ls (.int x :: st) h1) : Sat G E Q cn pc ls stk h := by
  subst hq
  subst hst
  intro p e R s m args below meth c H la locs Qm C9 hcn hW hS hl9 hr T hT X
  have hE := C9.2.2.2.2.2.2.2.2.1
  have hts := C9.2.2.2.2.2.2.1
  obtain ⟨hR1, hR2⟩ := C9.2.2.2.2.2.2.2.2.2.1
  obtain ⟨hR3, hR4⟩ := C9.2.2.2.2.2.2.2.2.2.2.1
  have hz := mW_size hW hT X hE.1 hcn.1
  have h8 := m_sum8 (G := G) hc8
  have hm45 : mMax E2 ≤ 45 := hy.1.2.2.2
  have hRA : (mRoom E2).frames + 1 ≤ R.frames := by show mHt E2 + 1 ≤ R.frames; omega
  have hRB : 8 + (mMax E2 + 11) + (mRoom E2).locals ≤ R.locals := by show 8 + (mMax E2 + 11) + 64 * mHt E2 ≤ R.locals; omega
  have s1 := m_sl_mono hcn.1
  have s2 := m_sl_mono h1
  have s3 := m_sl_mono h2
  rw [h0] at s3
  have hc0 : cn ≤ mC1 E2 := h0 ▸ h2
  have hmon : 2 * (F0 m pc la ((As.reverse ++ st).map (tr G))).monitorRoom + ((st.map (tr G)).map fun v => v.category).sum ≤ 8 := lv_room h8
  refine va_calli (va_runSN (As := As.map (tr G)) (rest := st.map (tr G)) ⟨C9.1, C9.2.1, C9.2.2.2.2.1, C9.2.2.2.2.2.1, hts⟩ hcon ⟨va_cnB n hts (m_goodC hy.1.1) rfl rfl rfl (hE.2.2.2.2.2.1 _ hl) (hts _ hy.1.2.1) hy.1.2.2.1 ⟨hRA, hRB⟩, hts _ hy.2, trivial⟩ ⟨mPre_blind, fun U hU hWm => ⟨rfl, by rw [hU, hsr, h0]; exact hW, by rw [h0]; exact mEnv_moved hE hS hU hWm hz⟩⟩ rfl (by rw [List.length_map]; exact hn) hl9.1 (by show (As.reverse ++ st).map (tr G) = _; rw [List.map_append, List.map_reverse] <;> rfl) hmon hd ⟨by rw [h0]; omega, by rw [h0]; omega⟩) hS (fun q _ z => z) (fun q z => z) (fun r u t H1 locs1 ht hvm hw hB hz1 hk1 hS1 => ?_) T hT X
  have hB : mWorld G E2.1 u (mC1 E2) t.heap := hB
  rw [ht, hsr] at hB
  have K1 := K r u hw p e R s m args below meth c H1 la locs1 Qm C9 ⟨by omega, h1⟩ hB hS1 hl9 hr
  rw [h0]
  rw [show cn - mC0 E + (mC1 E2 - cn) = mC1 E2 - mC0 E by omega, show m_sl cn - m_sl (mC0 E) + (m_sl (mC1 E2) - m_sl cn) = m_sl (mC1 E2) - m_sl (mC0 E) by omega]
  exact K1
theorem r_callIv {Q1 : mH → Prop} (q : Nat) {o : Nat} (hd : decode (mCode E) pc = .ok (.invokespecial ix, 3)) (hq : pc + 3 = q) (hl : Cond.methodLink (mOwn E) ix y ∈ m_ws) (hy : mCalI y E2.2.1 n) (hst : stk = As.reverse ++ .ref o :: st) (hn : As.length = n) (hc8 : (st.map fun v => v.category).sum ≤ 8) (hht : mHt E2 + 1 ≤ mHt E) (hsr : E2.1 = E.1) (h0 : mC0 E2 = cn) (h1 : mC1 E2 ≤ mC1 E) (h2 : mC0 E2 ≤ mC1 E2)
    (hcon : mConV G y E2 (.ref o :: As) h Q1) (K : ∀ (h1 : mH), Q1 h1 → Sat G E Q (mC1 E2) q ls (st) h1) : Sat G E Q cn pc ls stk h := by
  subst hq
  subst hst
  intro p e R s m args below meth c H la locs Qm C9 hcn hW hS hl9 hr T hT X
  have hE := C9.2.2.2.2.2.2.2.2.1
  have hts := C9.2.2.2.2.2.2.1
  obtain ⟨hR1, hR2⟩ := C9.2.2.2.2.2.2.2.2.2.1
  obtain ⟨hR3, hR4⟩ := C9.2.2.2.2.2.2.2.2.2.2.1
  have hz := mW_size hW hT X hE.1 hcn.1
  have h8 := m_sum8 (G := G) hc8
  have hm45 : mMax E2 ≤ 45 := hy.1.2.2.2
  have hRA : (mRoom E2).frames + 1 ≤ R.frames := by show mHt E2 + 1 ≤ R.frames; omega
  have hRB : 8 + (mMax E2 + 11) + (mRoom E2).locals ≤ R.locals := by show 8 + (mMax E2 + 11) + 64 * mHt E2 ≤ R.locals; omega
  have s1 := m_sl_mono hcn.1
  have s2 := m_sl_mono h1
  have s3 := m_sl_mono h2
  rw [h0] at s3
  have hc0 : cn ≤ mC1 E2 := h0 ▸ h2
  have hmon : 2 * (F0 m pc la ((As.reverse ++ .ref o :: st).map (tr G))).monitorRoom + ((st.map (tr G)).map fun v => v.category).sum ≤ 8 := lv_room h8
  refine va_callv (va_runI (As := As.map (tr G)) (rest := st.map (tr G)) (b := ad G o) ⟨C9.1, C9.2.1, C9.2.2.2.2.1, C9.2.2.2.2.2.1, hts⟩ hcon ⟨callB_of n hts (m_goodC hy.1.1) (show mWsY y E2 = Cond.code y (mCode E2) (mMax E2) none :: m_ws by show Cond.code y (mCode E2) (mMax E2) (mRt E2) :: m_ws = _; rw [show mRt E2 = none from hy.2.2.2]) rfl rfl (hts _ hy.1.2.1) (hts _ hl) hy.1.2.2.1 ⟨hRA, hRB⟩, hy.2.2.1, hts _ hy.2.1⟩ ⟨mPre_blind, fun U hU hWm => ⟨rfl, by rw [hU, hsr, h0]; exact hW, by rw [h0]; exact mEnv_moved hE hS hU hWm hz⟩⟩ rfl (by rw [List.length_map]; exact hn) hl9.1 (by show (As.reverse ++ .ref o :: st).map (tr G) = _; rw [List.map_append, List.map_reverse] <;> rfl) hmon hd ⟨by rw [h0]; omega, by rw [h0]; omega⟩) hS (fun q _ z => z) (fun q z => z) (fun u t H1 locs1 ht hvm hw hB hz1 hk1 hS1 => ?_) T hT X
  have hB : mWorld G E2.1 u (mC1 E2) t.heap := hB
  rw [ht, hsr] at hB
  have K1 := K u hw p e R s m args below meth c H1 la locs1 Qm C9 ⟨by omega, h1⟩ hB hS1 hl9 hr
  rw [h0]
  rw [show cn - mC0 E + (mC1 E2 - cn) = mC1 E2 - mC0 E by omega, show m_sl cn - m_sl (mC0 E) + (m_sl (mC1 E2) - m_sl cn) = m_sl (mC1 E2) - m_sl (mC0 E) by omega]
  exact K1
end CALLS
theorem m_sl_succ {cn a n : Nat} (hs : m_sh cn = (a, n)) (ha : a ≠ 999) : m_sl (cn + 1) = m_sl cn + n := by
  have hl := m_lt hs ha
  unfold m_sl
  rw [List.take_add_one, List.map_append, List.sum_append, List.getElem?_eq_getElem hl]
  have h2 : m_shl[cn] = (a, n) := by
    unfold m_sh at hs
    rw [List.getD_eq_getElem?_getD, List.getElem?_eq_getElem hl] at hs
    exact hs
  rw [h2]
  simp
theorem zo_1 {h : mH} {o a : Nat} (ha : a ≠ o) : (zo h o).1 a = h.1 a := by
  funext b
  simp [zo, ha]
theorem zo_2 {h : mH} {o a : Nat} (ha : a ≠ o) : (zo h o).2 a = h.2 a := by
  funext b
  simp [zo, ha]
/-- where a new cell lies -/
theorem m_addr {G : mG} {sr : Nat → Nat → Nat} {h : mH} {cn c0 q1 sl0 : Nat} {e1 : va_E} {H1 : Heap} {p : Program} {e : Env} {R : Room} {s : State} {m : MethodId} {args : Array Value} {below : List Frame} {meth : Method} {c : Code} {T : State} {locs : List Loc} (hP1 : va_P G.2.1 vwCl (mWs G sr h cn ++ [(q1, e1)]) H1) (hD1 : va_D (mA G) (mWs G sr h cn ++ [(q1, e1)])) (hT : T.heap = H1) (X : Stand p G.1 e R s m args below meth c T locs (cn - c0 + 1) sl0) (hs : s.heap.size = G.2.2.2.1 + c0) (hc : c0 ≤ cn) (hcn : cn < 999) : q1 = ad G cn := by
  have h1 : T.heap.size ≤ s.heap.size + (cn - c0 + 1) := X.same.2.2.1
  rw [hT] at h1
  have hlast : (mWs G sr h cn ++ [(q1, e1)])[cn]? = some (q1, e1) := by
    rw [List.getElem?_append_right (by rw [mWs_len]; omega), mWs_len, Nat.sub_self]
    rfl
  have h2 : q1 < H1.size := (hP1 cn _ hlast).lt
  have h3 : G.2.2.2.1 ≤ q1 := hD1.2 cn _ hlast
  rw [ad_lt (by omega)]
  by_cases h4 : q1 < G.2.2.2.1 + cn
  · have h5 : (mWs G sr h cn ++ [(q1, e1)])[q1 - G.2.2.2.1]? = some (ad G (q1 - G.2.2.2.1), mE G sr h (q1 - G.2.2.2.1)) := by
      rw [List.getElem?_append_left (by rw [mWs_len]; omega)]
      exact mWs_get (by omega)
    have h6 := hD1.1 _ _ _ _ h5 hlast (by show ad G (q1 - G.2.2.2.1) = q1; rw [ad_lt (by omega)]; omega)
    omega
  · omega
section NEW
variable {G : mG} {E : mEn} {Q : Option Value → mH → Prop} {cn pc ix : Nat} {ls : List (Option Value)} {st : List Value} {h : mH}
theorem m_new {q1 : Nat} {e1 : va_E} {H1 : Heap} {p : Program} {e : Env} {R : Room} {s : State} {m : MethodId} {args : Array Value} {below : List Frame} {meth : Method} {c : Code} {la : Array Slot} {locs : List Loc} {Qm : State → Prop} {q a n : Nat} (hs : m_sh cn = (a, n)) (ha : a ≠ 999) (hlt : cn < mC1 E) (hcn9 : cn < 999)
    (K : Sat G E Q (cn + 1) q ls (.ref cn :: st) (zo h cn)) (C9 : mCtx G E p R s m args meth c) (hcn : mC0 E ≤ cn ∧ cn ≤ mC1 E) (hl9 : lv_has la (mMax E) (lA G 0 ls)) (hr : mRet G E Q p e R s m args below meth c Qm)
    (he : mE G E.1 (zo h cn) cn = e1) (hP1 : va_P G.2.1 vwCl (mWs G E.1 h cn ++ [(q1, e1)]) H1) (hD1 : va_D (mA G) (mWs G E.1 h cn ++ [(q1, e1)])) (hS1 : va_S (mA G) s.heap H1 locs) :
    W p G.1 e R s m args below meth c H1 locs (cn - mC0 E + 1) (m_sl cn - m_sl (mC0 E) + n) Qm (F0 m q la (.ref q1 :: st.map (tr G))) := by
  intro T hT X
  have hq := m_addr hP1 hD1 hT X C9.2.2.2.2.2.2.2.2.1.1 hcn.1 hcn9
  subst hq
  have e2 : mWs G E.1 h cn ++ [(ad G cn, e1)] = mWs G E.1 (zo h cn) (cn + 1) := by
    rw [← mWs_push, he, mWs_congr (h := h) (h' := zo h cn) (fun a ha => mE_congr (zo_1 (by omega)) (zo_2 (by omega)))]
  rw [e2] at hP1 hD1
  have s1 := m_sl_succ hs ha
  have s2 := m_sl_mono hcn.1
  have K1 := K p e R s m args below meth c H1 la locs Qm C9 ⟨by omega, by omega⟩ ⟨hP1, hD1, by omega⟩ hS1 hl9 hr
  rw [show cn + 1 - mC0 E = cn - mC0 E + 1 by omega, show m_sl (cn + 1) - m_sl (mC0 E) = m_sl cn - m_sl (mC0 E) + n by omega] at K1
  exact K1 T hT X
theorem r_new {ci N : Nat} {C : String} {T : u_T} {ty0 : Nat → FieldType} (q : Nat) (hd : decode (mCode E) pc = .ok (.new ix, 3)) (hq : pc + 3 = q) (hC : mCl ci N C T ty0) (hw : Cond.classLink (mOwn E) ix C ∈ m_ws) (hi : Cond.instantiable C N ∈ m_ws) (hini : Cond.initialized C ∈ m_ws) (hs : m_sh cn = (ci, N)) (hlt : cn < mC1 E) (hcn9 : cn < 999) (hsr : E.1 = m_s0)
    (hdf : ∀ k, k < N → defaultValue (ty0 k) = if m_ft ci k = 2 then .null else .int 0) (K : Sat G E Q (cn + 1) q ls (.ref cn :: st) (zo h cn)) : Sat G E Q cn pc ls st h := by
  subst hq
  intro p e R s m args below meth c H la locs Qm C9 hcn hW hS hl9 hr
  have hE := C9.2.2.2.2.2.2.2.2.1
  have hts := C9.2.2.2.2.2.2.1
  obtain ⟨hR3, hR4⟩ := C9.2.2.2.2.2.2.2.2.2.2.1
  obtain ⟨hc, hin, hty, hnm, hci⟩ := hC
  have s1 := m_sl_succ hs (by omega)
  have s2 := m_sl_mono hcn.1
  have s3 := m_sl_mono (show cn + 1 ≤ mC1 E from hlt)
  refine va_new (fs := (List.range N).map fun k => tr G (fv E.1 (zo h cn) cn k)) C9.1 C9.2.1 hts hin ty0 hty C9.2.2.2.2.2.1 (hts _ hw) (hts _ hi) (hts _ hini) hE.2.1 hW.1 hW.2.1 hS (fun q hq => by have h9 := hE.1; show G.2.2.2.1 ≤ q; omega) hc (fun j hj => ?_) (by omega) (by omega) hd (fun q1 H1 hP1 hD1 hS1 => m_new hs (by omega) hlt hcn9 K C9 hcn hl9 hr (mE_obj hs hci) hP1 hD1 hS1)
  rw [hdf j hj]
  show _ = vp_V _ j
  unfold vp_V
  rw [List.getD_eq_getElem?_getD, m_fget hj, Option.getD_some]
  unfold fv
  rw [hs, hsr]
  by_cases h2 : m_ft ci j = 2
  · rw [if_pos h2]
    simp only [h2, if_true]
    have z9 : rc (m_s0 cn j) ((zo h cn).1 cn j) = 0 := by simp [zo, rc, m_s0]
    rw [z9]
    rfl
  · rw [if_neg h2]
    simp only [h2, if_false]
    simp [zo, tr]
theorem r_newai {N : Nat} {n9 : Int32} (q : Nat) (hd : decode (mCode E) pc = .ok (.newarray .int, 2)) (hq : pc + 2 = q) (hw : Cond.arrayClass .int ∈ m_ws) (hs : m_sh cn = (100, N)) (hlt : cn < mC1 E) (hcn9 : cn < 999) (hn : ¬ n9 < 0) (hN : n9.toNatClampNeg = N) (hb : N < 10000)
    (K : Sat G E Q (cn + 1) q ls (.ref cn :: st) (zo h cn)) : Sat G E Q cn pc ls (.int n9 :: st) h := by
  subst hq
  intro p e R s m args below meth c H la locs Qm C9 hcn hW hS hl9 hr
  have hE := C9.2.2.2.2.2.2.2.2.1
  have hts := C9.2.2.2.2.2.2.1
  obtain ⟨hR3, hR4⟩ := C9.2.2.2.2.2.2.2.2.2.2.1
  have s1 := m_sl_succ hs (by decide)
  have s2 := m_sl_mono hcn.1
  have s3 := m_sl_mono (show cn + 1 ≤ mC1 E from hlt)
  refine va_newa (atype := .int) (ty := .int) (N' := N) (a0 := (N, .inl (fun _ => 0))) C9.1 C9.2.1 (hts _ hw) rfl hE.2.1 hW.1 hW.2.1 hS (fun q hq => by have h9 := hE.1; show G.2.2.2.1 ≤ q; omega) (fun _ => rfl) hn hN (by show N * 4 ≤ 536870912; omega) (by omega) (by omega) hd (fun q1 cA H1 hK1 hP1 hD1 hS1 => ?_)
  have e1 : s.vm.findClass ("[" ++ (.int : FieldType).toString) = some cA := (hK1.2 6 _ rfl).2
  have e2 : s.vm.findClass ("[" ++ (.int : FieldType).toString) = some (G.2.2.1 0) := (hE.2.1.2 0 _ rfl).2
  have e3 : cA = G.2.2.1 0 := Option.some.inj (e1.symm.trans e2)
  subst e3
  exact m_new hs (by decide) hlt hcn9 K C9 hcn hl9 hr (by rw [mE_int (t := 0) hs (by decide)]; simp [zo]) hP1 hD1 hS1
theorem r_newaz {N : Nat} {n9 : Int32} (q : Nat) (hd : decode (mCode E) pc = .ok (.newarray .boolean, 2)) (hq : pc + 2 = q) (hw : Cond.arrayClass .boolean ∈ m_ws) (hs : m_sh cn = (101, N)) (hlt : cn < mC1 E) (hcn9 : cn < 999) (hn : ¬ n9 < 0) (hN : n9.toNatClampNeg = N) (hb : N < 10000)
    (K : Sat G E Q (cn + 1) q ls (.ref cn :: st) (zo h cn)) : Sat G E Q cn pc ls (.int n9 :: st) h := by
  subst hq
  intro p e R s m args below meth c H la locs Qm C9 hcn hW hS hl9 hr
  have hE := C9.2.2.2.2.2.2.2.2.1
  have hts := C9.2.2.2.2.2.2.1
  obtain ⟨hR3, hR4⟩ := C9.2.2.2.2.2.2.2.2.2.2.1
  have s1 := m_sl_succ hs (by decide)
  have s2 := m_sl_mono hcn.1
  have s3 := m_sl_mono (show cn + 1 ≤ mC1 E from hlt)
  refine va_newa (atype := .boolean) (ty := .boolean) (N' := N) (a0 := (N, .inl (fun _ => 0))) C9.1 C9.2.1 (hts _ hw) rfl hE.2.1 hW.1 hW.2.1 hS (fun q hq => by have h9 := hE.1; show G.2.2.2.1 ≤ q; omega) (fun _ => rfl) hn hN (by show N * 1 ≤ 536870912; omega) (by omega) (by omega) hd (fun q1 cA H1 hK1 hP1 hD1 hS1 => ?_)
  have e1 : s.vm.findClass ("[" ++ (.boolean : FieldType).toString) = some cA := (hK1.2 6 _ rfl).2
  have e2 : s.vm.findClass ("[" ++ (.boolean : FieldType).toString) = some (G.2.2.1 1) := (hE.2.1.2 1 _ rfl).2
  have e3 : cA = G.2.2.1 1 := Option.some.inj (e1.symm.trans e2)
  subst e3
  exact m_new hs (by decide) hlt hcn9 K C9 hcn hl9 hr (by rw [mE_int (t := 1) hs (by decide)]; simp [zo]) hP1 hD1 hS1
theorem r_newab {N : Nat} {n9 : Int32} (q : Nat) (hd : decode (mCode E) pc = .ok (.newarray .byte, 2)) (hq : pc + 2 = q) (hw : Cond.arrayClass .byte ∈ m_ws) (hs : m_sh cn = (102, N)) (hlt : cn < mC1 E) (hcn9 : cn < 999) (hn : ¬ n9 < 0) (hN : n9.toNatClampNeg = N) (hb : N < 10000)
    (K : Sat G E Q (cn + 1) q ls (.ref cn :: st) (zo h cn)) : Sat G E Q cn pc ls (.int n9 :: st) h := by
  subst hq
  intro p e R s m args below meth c H la locs Qm C9 hcn hW hS hl9 hr
  have hE := C9.2.2.2.2.2.2.2.2.1
  have hts := C9.2.2.2.2.2.2.1
  obtain ⟨hR3, hR4⟩ := C9.2.2.2.2.2.2.2.2.2.2.1
  have s1 := m_sl_succ hs (by decide)
  have s2 := m_sl_mono hcn.1
  have s3 := m_sl_mono (show cn + 1 ≤ mC1 E from hlt)
  refine va_newa (atype := .byte) (ty := .byte) (N' := N) (a0 := (N, .inl (fun _ => 0))) C9.1 C9.2.1 (hts _ hw) rfl hE.2.1 hW.1 hW.2.1 hS (fun q hq => by have h9 := hE.1; show G.2.2.2.1 ≤ q; omega) (fun _ => rfl) hn hN (by show N * 1 ≤ 536870912; omega) (by omega) (by omega) hd (fun q1 cA H1 hK1 hP1 hD1 hS1 => ?_)
  have e1 : s.vm.findClass ("[" ++ (.byte : FieldType).toString) = some cA := (hK1.2 6 _ rfl).2
  have e2 : s.vm.findClass ("[" ++ (.byte : FieldType).toString) = some (G.2.2.1 2) := (hE.2.1.2 2 _ rfl).2
  have e3 : cA = G.2.2.1 2 := Option.some.inj (e1.symm.trans e2)
  subst e3
  exact m_new hs (by decide) hlt hcn9 K C9 hcn hl9 hr (by rw [mE_int (t := 2) hs (by decide)]; simp [zo]) hP1 hD1 hS1
theorem r_newas {N : Nat} {n9 : Int32} (q : Nat) (hd : decode (mCode E) pc = .ok (.newarray .short, 2)) (hq : pc + 2 = q) (hw : Cond.arrayClass .short ∈ m_ws) (hs : m_sh cn = (103, N)) (hlt : cn < mC1 E) (hcn9 : cn < 999) (hn : ¬ n9 < 0) (hN : n9.toNatClampNeg = N) (hb : N < 10000)
    (K : Sat G E Q (cn + 1) q ls (.ref cn :: st) (zo h cn)) : Sat G E Q cn pc ls (.int n9 :: st) h := by
  subst hq
  intro p e R s m args below meth c H la locs Qm C9 hcn hW hS hl9 hr
  have hE := C9.2.2.2.2.2.2.2.2.1
  have hts := C9.2.2.2.2.2.2.1
  obtain ⟨hR3, hR4⟩ := C9.2.2.2.2.2.2.2.2.2.2.1
  have s1 := m_sl_succ hs (by decide)
  have s2 := m_sl_mono hcn.1
  have s3 := m_sl_mono (show cn + 1 ≤ mC1 E from hlt)
  refine va_newa (atype := .short) (ty := .short) (N' := N) (a0 := (N, .inl (fun _ => 0))) C9.1 C9.2.1 (hts _ hw) rfl hE.2.1 hW.1 hW.2.1 hS (fun q hq => by have h9 := hE.1; show G.2.2.2.1 ≤ q; omega) (fun _ => rfl) hn hN (by show N * 2 ≤ 536870912; omega) (by omega) (by omega) hd (fun q1 cA H1 hK1 hP1 hD1 hS1 => ?_)
  have e1 : s.vm.findClass ("[" ++ (.short : FieldType).toString) = some cA := (hK1.2 6 _ rfl).2
  have e2 : s.vm.findClass ("[" ++ (.short : FieldType).toString) = some (G.2.2.1 3) := (hE.2.1.2 3 _ rfl).2
  have e3 : cA = G.2.2.1 3 := Option.some.inj (e1.symm.trans e2)
  subst e3
  exact m_new hs (by decide) hlt hcn9 K C9 hcn hl9 hr (by rw [mE_int (t := 3) hs (by decide)]; simp [zo]) hP1 hD1 hS1
theorem r_newal {N : Nat} {n9 : Int32} (q : Nat) (hd : decode (mCode E) pc = .ok (.newarray .long, 2)) (hq : pc + 2 = q) (hw : Cond.arrayClass .long ∈ m_ws) (hs : m_sh cn = (104, N)) (hlt : cn < mC1 E) (hcn9 : cn < 999) (hn : ¬ n9 < 0) (hN : n9.toNatClampNeg = N) (hb : N < 10000)
    (K : Sat G E Q (cn + 1) q ls (.ref cn :: st) (zo h cn)) : Sat G E Q cn pc ls (.int n9 :: st) h := by
  subst hq
  intro p e R s m args below meth c H la locs Qm C9 hcn hW hS hl9 hr
  have hE := C9.2.2.2.2.2.2.2.2.1
  have hts := C9.2.2.2.2.2.2.1
  obtain ⟨hR3, hR4⟩ := C9.2.2.2.2.2.2.2.2.2.2.1
  have s1 := m_sl_succ hs (by decide)
  have s2 := m_sl_mono hcn.1
  have s3 := m_sl_mono (show cn + 1 ≤ mC1 E from hlt)
  refine va_newa (atype := .long) (ty := .long) (N' := N) (a0 := (N, .inr (.inl (fun _ => 0)))) C9.1 C9.2.1 (hts _ hw) rfl hE.2.1 hW.1 hW.2.1 hS (fun q hq => by have h9 := hE.1; show G.2.2.2.1 ≤ q; omega) (fun _ => rfl) hn hN (by show N * 8 ≤ 536870912; omega) (by omega) (by omega) hd (fun q1 cA H1 hK1 hP1 hD1 hS1 => ?_)
  have e1 : s.vm.findClass ("[" ++ (.long : FieldType).toString) = some cA := (hK1.2 6 _ rfl).2
  have e2 : s.vm.findClass ("[" ++ (.long : FieldType).toString) = some (G.2.2.1 4) := (hE.2.1.2 4 _ rfl).2
  have e3 : cA = G.2.2.1 4 := Option.some.inj (e1.symm.trans e2)
  subst e3
  exact m_new hs (by decide) hlt hcn9 K C9 hcn hl9 hr (by rw [mE_long hs]; simp [zo]) hP1 hD1 hS1
theorem r_newq {N : Nat} {n9 : Int32} (q : Nat) (hd : decode (mCode E) pc = .ok (.anewarray ix, 3)) (hq : pc + 3 = q) (hw : Cond.classLink (mOwn E) ix "OneHandEach$Shelf" ∈ m_ws) (hs : m_sh cn = (105, N)) (hlt : cn < mC1 E) (hcn9 : cn < 999) (hsr : E.1 = m_s0) (hn : ¬ n9 < 0) (hN : n9.toNatClampNeg = N) (hb : N < 10000)
    (K : Sat G E Q (cn + 1) q ls (.ref cn :: st) (zo h cn)) : Sat G E Q cn pc ls (.int n9 :: st) h := by
  subst hq
  intro p e R s m args below meth c H la locs Qm C9 hcn hW hS hl9 hr
  have hE := C9.2.2.2.2.2.2.2.2.1
  have hts := C9.2.2.2.2.2.2.1
  obtain ⟨hR3, hR4⟩ := C9.2.2.2.2.2.2.2.2.2.2.1
  have s1 := m_sl_succ hs (by decide)
  have s2 := m_sl_mono hcn.1
  have s3 := m_sl_mono (show cn + 1 ≤ mC1 E from hlt)
  refine va_newq (N' := N) C9.1 C9.2.1 C9.2.2.2.2.2.1 (hts _ hw) hE.2.2.2.2.2.2 hE.2.1 hW.1 hW.2.1 hS (fun q hq => by have h9 := hE.1; show G.2.2.2.1 ≤ q; omega) hn hN (by omega) (by omega) (by omega) hd (fun q1 cA H1 hK1 hP1 hD1 hS1 => ?_)
  obtain ⟨_, _, -, -, -, e1⟩ := (hK1.2 6 _ rfl).2
  obtain ⟨_, _, -, -, -, e2⟩ := (hE.2.1.2 5 _ rfl).2
  have e3 : cA = G.2.2.1 5 := Option.some.inj (e1.symm.trans e2)
  subst e3
  exact m_new hs (by decide) hlt hcn9 K C9 hcn hl9 hr (by rw [mE_ref hs, hsr]; simp [zo, rc, m_s0, rO]) hP1 hD1 hS1
end NEW
end
section
/-! helpers of the printed walks -/
def irm (x y : Int32) : Int32 := x - x / y * y
def ush (x y : Int32) : Int32 := (x.toUInt32 >>> (y.toUInt32 &&& Int32.toUInt32 31)).toInt32
def ishl (x y : Int32) : Int32 := x <<< (y &&& 31)
def lshl (x : Int64) (y : Int32) : Int64 := x <<< (y.toInt64 &&& 63)
def imax (x y : Int32) : Int32 := if x < y then y else x
def imin (x y : Int32) : Int32 := if y < x then y else x
def iab (x : Int32) : Int32 := if 0 ≤ x then x else 0 - x
def mkeep : List Bool → List (Option Value) → List (Option Value)
  | true :: b, a :: t => a :: mkeep b t
  | false :: b, _ :: t => none :: mkeep b t
  | _, _ => []
theorem mkeep_get : ∀ (bs : List Bool) (ls : List (Option Value)) (k : Nat) (v : Value), lg (mkeep bs ls) k = some v → lg ls k = some v := by
  intro bs
  induction bs with
  | nil => intro ls k v h; cases ls <;> cases k <;> cases h
  | cons b bs ih =>
    intro ls k v h
    cases ls with
    | nil => cases b <;> cases k <;> cases h
    | cons a t =>
      cases b with
      | true =>
        cases k with
        | zero => exact h
        | succ k => exact ih t k v h
      | false =>
        cases k with
        | zero => cases h
        | succ k => exact ih t k v h
theorem m_at (i : Nat) {w : Cond} (h : lw_tbl[i]? = some w) (hg : goodWord w = true) : w ∈ m_ws := m_in (List.mem_of_getElem? h) hg
theorem m_nwat (i : Nat) {w : Cond} (h : m_nw[i]? = some w) : w ∈ m_nw := List.mem_of_getElem? h
theorem m_len : m_shl.length = 90 := by decide
theorem ol {o a n : Nat} (hs : m_sh o = (a, n)) (ha : (a == 999) = false) : o < 90 := by
  have h := m_lt hs (by simpa using ha)
  rw [m_len] at h
  exact h
theorem ol2 {o a n : Nat} (hs : m_sh o = (a, n)) (ha : (a == 999) = false) : o < 2000 := by
  have h := ol hs ha
  omega
section HELP
variable {G : mG} {E : mEn} {Q : Option Value → mH → Prop} {cn pc : Nat} {ls : List (Option Value)} {st : List Value} {h : mH}
theorem m_keep (bs : List Bool) {ls1 : List (Option Value)} (hm : mkeep bs ls = ls1) (K : Sat G E Q cn pc ls1 st h) : Sat G E Q cn pc ls st h := by
  subst hm
  intro p e R s m args below meth c H la locs Qm C9 hcn hW hS hl9 hr
  refine K p e R s m args below meth c H la locs Qm C9 hcn hW hS (lv_mono hl9 (fun q hq => ?_)) hr
  obtain ⟨k, v, h1, rfl⟩ := lA_of _ _ _ hq
  exact lA_get ls 0 k v (mkeep_get bs ls k v h1)
theorem m_nmi {x : Int32} (K : ∀ y : Int32, y = x → Sat G E Q cn pc ls (.int y :: st) h) : Sat G E Q cn pc ls (.int x :: st) h := K x rfl
theorem m_nml {x : Int64} (K : ∀ y : Int64, y = x → Sat G E Q cn pc ls (.long y :: st) h) : Sat G E Q cn pc ls (.long x :: st) h := K x rfl
theorem m_nmr {x : Nat} (K : ∀ y : Nat, y = x → Sat G E Q cn pc ls (.ref y :: st) h) : Sat G E Q cn pc ls (.ref x :: st) h := K x rfl
theorem m_nmh {x : mH} (K : ∀ y : mH, y = x → Sat G E Q cn pc ls st y) : Sat G E Q cn pc ls st x := K x rfl
theorem r_irm {x y : Int32} (q : Nat) (hd : decode (mCode E) pc = .ok (.irem, 1)) (hq : pc + 1 = q) (hne : ¬ y = 0) (K : Sat G E Q cn q ls (.int (irm x y) :: st) h) : Sat G E Q cn pc ls (.int y :: .int x :: st) h := r_irem q hd hq hne K
theorem r_ush {x y : Int32} (q : Nat) (hd : decode (mCode E) pc = .ok (.iushr, 1)) (hq : pc + 1 = q) (K : Sat G E Q cn q ls (.int (ush x y) :: st) h) : Sat G E Q cn pc ls (.int y :: .int x :: st) h := r_iushr q hd hq K
theorem r_shl {x y : Int32} (q : Nat) (hd : decode (mCode E) pc = .ok (.ishl, 1)) (hq : pc + 1 = q) (K : Sat G E Q cn q ls (.int (ishl x y) :: st) h) : Sat G E Q cn pc ls (.int y :: .int x :: st) h := r_ishl q hd hq K
theorem r_lsh {x : Int64} {y : Int32} (q : Nat) (hd : decode (mCode E) pc = .ok (.lshl, 1)) (hq : pc + 1 = q) (K : Sat G E Q cn q ls (.long (lshl x y) :: st) h) : Sat G E Q cn pc ls (.int y :: .long x :: st) h := r_lshl q hd hq K
-- switches: by a key, by none of them
theorem r_lkK {dflt off : Int} {ps : Array (Int × Int)} {len : Nat} {x : Int32} (k : Int32) (t : Nat) (hx : x = k) (hd : decode (mCode E) pc = .ok (.lookupswitch dflt ps, len)) (hp : (ps.toList.zip (ps.toList.drop 1)).all (fun (a, next) => a.1 < next.1) = true) (ho : Op.lookupswitch.offset ps.toList dflt k.toInt = off) (ht : (pc : Int) + off = (t : Int)) (K : Sat G E Q cn t ls st h) : Sat G E Q cn pc ls (.int x :: st) h := by
  subst hx
  exact r_lookup t hd hp ho ht K
theorem r_lkD {dflt : Int} {ps : Array (Int × Int)} {len : Nat} {x : Int32} (ks : List Int32) (t : Nat) (hx : ∀ k ∈ ks, ¬ x = k) (hd : decode (mCode E) pc = .ok (.lookupswitch dflt ps, len)) (hp : (ps.toList.zip (ps.toList.drop 1)).all (fun (a, next) => a.1 < next.1) = true) (hk : ps.toList.map (fun q => q.1) = ks.map (fun k => k.toInt)) (ht : (pc : Int) + dflt = (t : Int)) (K : Sat G E Q cn t ls st h) : Sat G E Q cn pc ls (.int x :: st) h := by
  refine r_lookup t hd hp (Op.lookupswitch.offset_none ?_) ht K
  rw [List.find?_eq_none]
  intro q hq
  have h1 : q.1 ∈ ks.map (fun k => k.toInt) := by rw [← hk]; exact List.mem_map_of_mem hq
  obtain ⟨k, hk1, hk2⟩ := List.mem_map.mp h1
  simp only [beq_iff_eq]
  intro h2
  exact hx k hk1 (Int32.toInt_inj.mp (by rw [← h2, ← hk2]))
theorem r_tabK {dflt lo hi off : Int} {offs : Array Int} {len : Nat} {x : Int32} (k : Int32) (t : Nat) (hx : x = k) (hd : decode (mCode E) pc = .ok (.tableswitch dflt lo hi offs, len)) (h1 : ¬ k.toInt < lo) (h2 : ¬ hi < k.toInt) (ho : offs[(k.toInt - lo).toNat]? = some off) (ht : (pc : Int) + off = (t : Int)) (K : Sat G E Q cn t ls st h) : Sat G E Q cn pc ls (.int x :: st) h := by
  subst hx
  exact r_tableIn t hd h1 h2 ho ht K
theorem r_tabD {dflt lo hi : Int} {offs : Array Int} {len : Nat} {x : Int32} (ks : List Int32) (t : Nat) (hx : ∀ k ∈ ks, ¬ x = k) (hd : decode (mCode E) pc = .ok (.tableswitch dflt lo hi offs, len)) (hk : (List.range (hi - lo + 1).toNat).all (fun j => offs[j]? == some dflt || (ks.any (fun k => k.toInt == lo + (j : Int)))) = true) (ht : (pc : Int) + dflt = (t : Int)) (K : Sat G E Q cn t ls st h) : Sat G E Q cn pc ls (.int x :: st) h := by
  by_cases h1 : x.toInt < lo
  · exact r_tableOut t hd (Or.inl h1) ht K
  · by_cases h2 : hi < x.toInt
    · exact r_tableOut t hd (Or.inr h2) ht K
    · have h3 := List.all_eq_true.mp hk (x.toInt - lo).toNat (List.mem_range.mpr (by omega))
      rcases Bool.or_eq_true_iff.mp h3 with h4 | h4
      · exact r_tableIn t hd h1 h2 (by simpa using h4) ht K
      · obtain ⟨k, hk1, hk2⟩ := List.any_eq_true.mp h4
        have hk2 : k.toInt = lo + ((x.toInt - lo).toNat : Int) := by simpa using hk2
        exact absurd (Int32.toInt_inj.mp (by rw [hk2]; omega)) (hx k hk1)
end HELP
theorem nar_b {x : Int32} (h : x = 0 ∨ x = 1) : narrow .boolean (.int x) = .int x := by rcases h with rfl | rfl <;> decide
theorem vp_lt {i : Int32} {n : Nat} (h : vp_in i n) : i.toNatClampNeg < n := Nat.not_le.mp fun q => h (Or.inr q)
theorem sh_shelf : ∀ k, k < 6 → m_sh (rf 40 k) = (9, 5) := by decide
theorem sr_shelf : ∀ k, k < 6 → m_sr 40 k = rf 40 k + 1 := by decide
theorem sh_0 : m_sh 0 = (11, 10) := by decide
theorem sh_1 : m_sh 1 = (10, 3) := by decide
theorem sh_2 : m_sh 2 = (100, 7) := by decide
theorem sh_3 : m_sh 3 = (100, 2) := by decide
theorem sh_4 : m_sh 4 = (100, 2) := by decide
theorem sh_5 : m_sh 5 = (2, 4) := by decide
theorem sh_6 : m_sh 6 = (100, 32) := by decide
theorem sh_7 : m_sh 7 = (2, 4) := by decide
theorem sh_8 : m_sh 8 = (100, 30) := by decide
theorem sh_9 : m_sh 9 = (6, 4) := by decide
theorem sh_10 : m_sh 10 = (100, 121) := by decide
theorem sh_11 : m_sh 11 = (8, 5) := by decide
theorem sh_12 : m_sh 12 = (100, 120) := by decide
theorem sh_13 : m_sh 13 = (7, 3) := by decide
theorem sh_14 : m_sh 14 = (100, 121) := by decide
theorem sh_15 : m_sh 15 = (100, 121) := by decide
theorem sh_16 : m_sh 16 = (7, 3) := by decide
theorem sh_17 : m_sh 17 = (100, 121) := by decide
theorem sh_18 : m_sh 18 = (100, 121) := by decide
theorem sh_19 : m_sh 19 = (3, 3) := by decide
theorem sh_20 : m_sh 20 = (101, 720) := by decide
theorem sh_21 : m_sh 21 = (100, 820) := by decide
theorem sh_22 : m_sh 22 = (100, 60) := by decide
theorem sh_23 : m_sh 23 = (4, 1) := by decide
theorem sh_24 : m_sh 24 = (100, 7) := by decide
theorem sh_25 : m_sh 25 = (1, 5) := by decide
theorem sh_26 : m_sh 26 = (100, 40) := by decide
theorem sh_27 : m_sh 27 = (100, 40) := by decide
theorem sh_28 : m_sh 28 = (100, 40) := by decide
theorem sh_29 : m_sh 29 = (5, 6) := by decide
theorem sh_30 : m_sh 30 = (2, 4) := by decide
theorem sh_31 : m_sh 31 = (100, 32) := by decide
theorem sh_32 : m_sh 32 = (2, 4) := by decide
theorem sh_33 : m_sh 33 = (100, 30) := by decide
theorem sh_34 : m_sh 34 = (100, 2) := by decide
theorem sh_35 : m_sh 35 = (100, 2) := by decide
theorem sh_36 : m_sh 36 = (100, 2) := by decide
theorem sh_37 : m_sh 37 = (0, 4) := by decide
theorem sh_38 : m_sh 38 = (100, 50) := by decide
theorem sh_39 : m_sh 39 = (100, 24) := by decide
theorem sh_40 : m_sh 40 = (105, 6) := by decide
theorem sh_41 : m_sh 41 = (9, 5) := by decide
theorem sh_42 : m_sh 42 = (104, 60) := by decide
theorem sh_43 : m_sh 43 = (9, 5) := by decide
theorem sh_44 : m_sh 44 = (104, 60) := by decide
theorem sh_45 : m_sh 45 = (9, 5) := by decide
theorem sh_46 : m_sh 46 = (104, 60) := by decide
theorem sh_47 : m_sh 47 = (9, 5) := by decide
theorem sh_48 : m_sh 48 = (104, 60) := by decide
theorem sh_49 : m_sh 49 = (9, 5) := by decide
theorem sh_50 : m_sh 50 = (104, 60) := by decide
theorem sh_51 : m_sh 51 = (9, 5) := by decide
theorem sh_52 : m_sh 52 = (104, 60) := by decide
theorem sh_53 : m_sh 53 = (12, 57) := by decide
theorem sh_54 : m_sh 54 = (100, 2) := by decide
theorem sh_55 : m_sh 55 = (100, 2) := by decide
theorem sh_56 : m_sh 56 = (100, 2) := by decide
theorem sh_57 : m_sh 57 = (100, 2) := by decide
theorem sh_58 : m_sh 58 = (100, 40) := by decide
theorem sh_59 : m_sh 59 = (100, 40) := by decide
theorem sh_60 : m_sh 60 = (100, 40) := by decide
theorem sh_61 : m_sh 61 = (100, 40) := by decide
theorem sh_62 : m_sh 62 = (100, 8) := by decide
theorem sh_63 : m_sh 63 = (100, 8) := by decide
theorem sh_64 : m_sh 64 = (100, 8) := by decide
theorem sh_65 : m_sh 65 = (100, 8) := by decide
theorem sh_66 : m_sh 66 = (100, 10) := by decide
theorem sh_67 : m_sh 67 = (100, 10) := by decide
theorem sh_68 : m_sh 68 = (100, 10) := by decide
theorem sh_69 : m_sh 69 = (102, 120) := by decide
theorem sh_70 : m_sh 70 = (102, 260) := by decide
theorem sh_71 : m_sh 71 = (100, 260) := by decide
theorem sh_72 : m_sh 72 = (100, 2) := by decide
theorem sh_73 : m_sh 73 = (103, 122) := by decide
theorem sh_74 : m_sh 74 = (103, 122) := by decide
theorem sh_75 : m_sh 75 = (100, 5) := by decide
theorem sh_76 : m_sh 76 = (100, 130) := by decide
theorem sh_77 : m_sh 77 = (101, 720) := by decide
theorem sh_78 : m_sh 78 = (100, 60) := by decide
theorem sh_79 : m_sh 79 = (100, 2) := by decide
theorem sh_80 : m_sh 80 = (100, 2) := by decide
theorem sh_81 : m_sh 81 = (100, 2) := by decide
theorem sh_82 : m_sh 82 = (100, 32) := by decide
theorem sh_83 : m_sh 83 = (100, 30) := by decide
theorem sh_84 : m_sh 84 = (100, 50) := by decide
theorem sh_85 : m_sh 85 = (100, 24) := by decide
theorem sh_86 : m_sh 86 = (100, 6) := by decide
theorem sh_87 : m_sh 87 = (100, 6) := by decide
theorem sh_88 : m_sh 88 = (104, 360) := by decide
theorem sh_89 : m_sh 89 = (104, 60) := by decide
theorem rs_2_2 {o : Nat} (hs : m_sh o = (2, 4)) : m_sh (rf o 2) = (100, lenOf (rf o 2)) ∧ m_sr o 2 = rf o 2 + 1 := by
  have h1 : ∀ o, o < 90 → m_sh o = (2, 4) → m_sh (rf o 2) = (100, lenOf (rf o 2)) ∧ m_sr o 2 = rf o 2 + 1 := by decide +kernel
  exact h1 o (ol hs (by decide)) hs
theorem rs_7_0 {o : Nat} (hs : m_sh o = (7, 3)) : m_sh (rf o 0) = (100, lenOf (rf o 0)) ∧ m_sr o 0 = rf o 0 + 1 := by
  have h1 : ∀ o, o < 90 → m_sh o = (7, 3) → m_sh (rf o 0) = (100, lenOf (rf o 0)) ∧ m_sr o 0 = rf o 0 + 1 := by decide +kernel
  exact h1 o (ol hs (by decide)) hs
theorem rs_7_1 {o : Nat} (hs : m_sh o = (7, 3)) : m_sh (rf o 1) = (100, lenOf (rf o 1)) ∧ m_sr o 1 = rf o 1 + 1 := by
  have h1 : ∀ o, o < 90 → m_sh o = (7, 3) → m_sh (rf o 1) = (100, lenOf (rf o 1)) ∧ m_sr o 1 = rf o 1 + 1 := by decide +kernel
  exact h1 o (ol hs (by decide)) hs
theorem rs_9_0 {o : Nat} (hs : m_sh o = (9, 5)) : m_sh (rf o 0) = (104, lenOf (rf o 0)) ∧ m_sr o 0 = rf o 0 + 1 := by
  have h1 : ∀ o, o < 90 → m_sh o = (9, 5) → m_sh (rf o 0) = (104, lenOf (rf o 0)) ∧ m_sr o 0 = rf o 0 + 1 := by decide +kernel
  exact h1 o (ol hs (by decide)) hs
theorem cl_0 : mCl 0 4 RX0 TX0 tyX0 := ⟨rfl, ix_0, tyX0_ok, nmX0, by decide⟩
theorem cl_1 : mCl 1 5 RX1 TX1 tyX1 := ⟨rfl, ix_1, tyX1_ok, nmX1, by decide⟩
theorem cl_2 : mCl 2 4 RX2 TX2 tyX2 := ⟨rfl, ix_2, tyX2_ok, nmX2, by decide⟩
theorem cl_3 : mCl 3 3 RX3 TX3 tyX3 := ⟨rfl, ix_3, tyX3_ok, nmX3, by decide⟩
theorem cl_4 : mCl 4 1 RX4 TX4 tyX4 := ⟨rfl, ix_4, tyX4_ok, nmX4, by decide⟩
theorem cl_5 : mCl 5 6 RX5 TX5 tyX5 := ⟨rfl, ix_5, tyX5_ok, nmX5, by decide⟩
theorem cl_6 : mCl 6 4 RX6 TX6 tyX6 := ⟨rfl, ix_6, tyX6_ok, nmX6, by decide⟩
theorem cl_7 : mCl 7 3 RX7 TX7 tyX7 := ⟨rfl, ix_7, tyX7_ok, nmX7, by decide⟩
theorem cl_8 : mCl 8 5 RX8 TX8 tyX8 := ⟨rfl, ix_8, tyX8_ok, nmX8, by decide⟩
theorem cl_9 : mCl 9 5 RX9 TX9 tyX9 := ⟨rfl, ix_9, tyX9_ok, nmX9, by decide⟩
theorem cl_10 : mCl 10 3 RX10 TX10 tyX10 := ⟨rfl, ix_10, tyX10_ok, nmX10, by decide⟩
theorem cl_11 : mCl 11 10 RX11 TX11 tyX11 := ⟨rfl, ix_11, tyX11_ok, nmX11, by decide⟩
theorem cl_12 : mCl 12 57 RX12 TX12 tyX12 := ⟨rfl, ix_12, tyX12_ok, nmX12, by decide⟩
theorem tb_1 {w : Cond} (i : Nat) (h : tables_1_1[i]? = some w) (hg : goodWord w = true) : w ∈ m_ws := m_in (List.mem_append_right _ (List.mem_append_left _ (List.mem_of_getElem? h))) hg
theorem tb_2 {w : Cond} (i : Nat) (h : tables_1_2[i]? = some w) (hg : goodWord w = true) : w ∈ m_ws := m_in (List.mem_append_right _ (List.mem_append_right _ (List.mem_append_left _ (List.mem_of_getElem? h)))) hg
theorem tb_3 {w : Cond} (i : Nat) (h : tables_1_3[i]? = some w) (hg : goodWord w = true) : w ∈ m_ws := m_in (List.mem_append_right _ (List.mem_append_right _ (List.mem_append_right _ (List.mem_append_left _ (List.mem_of_getElem? h))))) hg
theorem tb_4 {w : Cond} (i : Nat) (h : tables_1_4[i]? = some w) (hg : goodWord w = true) : w ∈ m_ws := m_in (List.mem_append_right _ (List.mem_append_right _ (List.mem_append_right _ (List.mem_append_right _ (List.mem_append_left _ (List.mem_of_getElem? h)))))) hg
theorem tb_5 {w : Cond} (i : Nat) (h : tables_1_5[i]? = some w) (hg : goodWord w = true) : w ∈ m_ws := m_in (List.mem_append_right _ (List.mem_append_right _ (List.mem_append_right _ (List.mem_append_right _ (List.mem_append_right _ (List.mem_append_left _ (List.mem_of_getElem? h))))))) hg
theorem tb_6 {w : Cond} (i : Nat) (h : tables_1_6[i]? = some w) (hg : goodWord w = true) : w ∈ m_ws := m_in (List.mem_append_right _ (List.mem_append_right _ (List.mem_append_right _ (List.mem_append_right _ (List.mem_append_right _ (List.mem_append_right _ (List.mem_of_getElem? h))))))) hg
theorem q_68 : (Jvm.Cond.initialized "OneHandEachLaw") ∈ m_ws := tb_1 0 rfl rfl
theorem q_69 : (Jvm.Cond.initialized "OneHandEach") ∈ m_ws := tb_1 1 rfl rfl
theorem q_70 : (Jvm.Cond.initialized "OneHandEach$Town") ∈ m_ws := tb_1 2 rfl rfl
theorem q_71 : (Jvm.Cond.initialized "OneHandEach$Entries") ∈ m_ws := tb_1 3 rfl rfl
theorem q_72 : (Jvm.Cond.initialized "OneHandEach$Law") ∈ m_ws := tb_1 4 rfl rfl
theorem q_73 : (Jvm.Cond.initialized "OneHandEach$Reader") ∈ m_ws := tb_1 5 rfl rfl
theorem q_74 : (Jvm.Cond.initialized "OneHandEach$Program") ∈ m_ws := tb_1 6 rfl rfl
theorem q_75 : (Jvm.Cond.initialized "OneHandEach$Fitting") ∈ m_ws := tb_1 7 rfl rfl
theorem q_76 : (Jvm.Cond.initialized "OneHandEach$Guesses") ∈ m_ws := tb_1 8 rfl rfl
theorem q_77 : (Jvm.Cond.initialized "OneHandEach$Changes") ∈ m_ws := tb_1 9 rfl rfl
theorem q_78 : (Jvm.Cond.initialized "OneHandEach$Image") ∈ m_ws := tb_1 10 rfl rfl
theorem q_79 : (Jvm.Cond.initialized "OneHandEach$Bodies") ∈ m_ws := tb_1 11 rfl rfl
theorem q_80 : (Jvm.Cond.initialized "OneHandEach$Shelf") ∈ m_ws := tb_1 12 rfl rfl
theorem q_81 : (Jvm.Cond.initialized "OneHandEachModel") ∈ m_ws := tb_1 13 rfl rfl
theorem q_82 : (Jvm.Cond.initialized "java/lang/Math") ∈ m_ws := tb_1 14 rfl rfl
theorem q_83 : (Jvm.Cond.initialized "java/lang/Integer") ∈ m_ws := tb_1 15 rfl rfl
theorem q_84 : (Jvm.Cond.initialized "java/lang/System") ∈ m_ws := tb_1 16 rfl rfl
theorem q_85 : (Jvm.Cond.classLink "OneHandEachLaw" (7 : Nat) "OneHandEach") ∈ m_ws := tb_1 17 rfl rfl
theorem q_86 : (Jvm.Cond.instantiable "OneHandEach" (10 : Nat)) ∈ m_ws := tb_1 18 rfl rfl
theorem q_87 : (Jvm.Cond.methodLink "OneHandEachLaw" (9 : Nat) ({ cls := "OneHandEach", name := "<init>", desc := "()V" } : Jvm.MethodName)) ∈ m_ws := tb_1 19 rfl rfl
theorem q_88 : (Jvm.Cond.instanceMethod ({ cls := "OneHandEach", name := "<init>", desc := "()V" } : Jvm.MethodName)) ∈ m_ws := tb_1 20 rfl rfl
theorem q_89 : (Jvm.Cond.code ({ cls := "OneHandEach", name := "<init>", desc := "()V" } : Jvm.MethodName) prog_1_method_1_code (2 : Nat) (Option.none : Option Jvm.ClassFile.FieldType)) ∈ m_ws := tb_1 21 rfl rfl
theorem q_90 : (Jvm.Cond.methodLink "OneHandEach" (1 : Nat) ({ cls := "java/lang/Object", name := "<init>", desc := "()V" } : Jvm.MethodName)) ∈ m_ws := tb_1 22 rfl rfl
theorem q_91 : (Jvm.Cond.instanceMethod ({ cls := "java/lang/Object", name := "<init>", desc := "()V" } : Jvm.MethodName)) ∈ m_ws := tb_1 23 rfl rfl
theorem q_92 : (Jvm.Cond.code ({ cls := "java/lang/Object", name := "<init>", desc := "()V" } : Jvm.MethodName) object_method_1_code (1 : Nat) (Option.none : Option Jvm.ClassFile.FieldType)) ∈ m_ws := tb_1 24 rfl rfl
theorem q_93 : (Jvm.Cond.classLink "OneHandEach" (7 : Nat) "OneHandEach$Town") ∈ m_ws := tb_1 25 rfl rfl
theorem q_94 : (Jvm.Cond.instantiable "OneHandEach$Town" (3 : Nat)) ∈ m_ws := tb_1 26 rfl rfl
theorem q_95 : (Jvm.Cond.methodLink "OneHandEach" (9 : Nat) ({ cls := "OneHandEach$Town", name := "<init>", desc := "()V" } : Jvm.MethodName)) ∈ m_ws := tb_1 27 rfl rfl
theorem q_96 : (Jvm.Cond.instanceMethod ({ cls := "OneHandEach$Town", name := "<init>", desc := "()V" } : Jvm.MethodName)) ∈ m_ws := tb_1 28 rfl rfl
theorem q_97 : (Jvm.Cond.code ({ cls := "OneHandEach$Town", name := "<init>", desc := "()V" } : Jvm.MethodName) prog_12_method_1_code (1 : Nat) (Option.none : Option Jvm.ClassFile.FieldType)) ∈ m_ws := tb_1 29 rfl rfl
theorem q_98 : (Jvm.Cond.methodLink "OneHandEach$Town" (3 : Nat) ({ cls := "java/lang/Object", name := "<init>", desc := "()V" } : Jvm.MethodName)) ∈ m_ws := tb_1 30 rfl rfl
theorem q_99 : (Jvm.Cond.fieldLink "OneHandEach$Town" (9 : Nat) "OneHandEach$Town" "amounts" "[I") ∈ m_ws := tb_1 31 rfl rfl
theorem q_100 : (Jvm.Cond.fieldLink "OneHandEach" (86 : Nat) "OneHandEach$Town" "amounts" "[I") ∈ m_ws := tb_1 32 rfl rfl
theorem q_101 : (Jvm.Cond.fieldLink "OneHandEach$Fitting" (44 : Nat) "OneHandEach$Town" "amounts" "[I") ∈ m_ws := tb_1 33 rfl rfl
theorem q_102 : (Jvm.Cond.fieldLink "OneHandEach$Changes" (31 : Nat) "OneHandEach$Town" "amounts" "[I") ∈ m_ws := tb_1 34 rfl rfl
theorem q_103 : (Jvm.Cond.fieldLink "OneHandEach$Town" (15 : Nat) "OneHandEach$Town" "timesSet" "[I") ∈ m_ws := tb_1 35 rfl rfl
theorem q_104 : (Jvm.Cond.fieldLink "OneHandEach" (218 : Nat) "OneHandEach$Town" "timesSet" "[I") ∈ m_ws := tb_1 36 rfl rfl
theorem q_105 : (Jvm.Cond.fieldLink "OneHandEach$Town" (18 : Nat) "OneHandEach$Town" "latestSet" "[I") ∈ m_ws := tb_1 37 rfl rfl
theorem q_106 : (Jvm.Cond.fieldLink "OneHandEach" (221 : Nat) "OneHandEach$Town" "latestSet" "[I") ∈ m_ws := tb_1 38 rfl rfl
theorem q_114 : (Jvm.Cond.arrayClass Jvm.ClassFile.FieldType.int) ∈ m_ws := tb_1 46 rfl rfl
theorem q_115 : (Jvm.Cond.classLink "OneHandEach" (16 : Nat) "OneHandEach$Entries") ∈ m_ws := tb_1 47 rfl rfl
theorem q_116 : (Jvm.Cond.instantiable "OneHandEach$Entries" (4 : Nat)) ∈ m_ws := tb_1 48 rfl rfl
theorem q_117 : (Jvm.Cond.methodLink "OneHandEach" (18 : Nat) ({ cls := "OneHandEach$Entries", name := "<init>", desc := "(II)V" } : Jvm.MethodName)) ∈ m_ws := tb_1 49 rfl rfl
theorem q_118 : (Jvm.Cond.instanceMethod ({ cls := "OneHandEach$Entries", name := "<init>", desc := "(II)V" } : Jvm.MethodName)) ∈ m_ws := tb_1 50 rfl rfl
theorem q_119 : (Jvm.Cond.code ({ cls := "OneHandEach$Entries", name := "<init>", desc := "(II)V" } : Jvm.MethodName) prog_4_method_1_code (3 : Nat) (Option.none : Option Jvm.ClassFile.FieldType)) ∈ m_ws := tb_1 51 rfl rfl
theorem q_120 : (Jvm.Cond.methodLink "OneHandEach$Entries" (3 : Nat) ({ cls := "java/lang/Object", name := "<init>", desc := "()V" } : Jvm.MethodName)) ∈ m_ws := tb_1 52 rfl rfl
theorem q_121 : (Jvm.Cond.fieldLink "OneHandEach$Entries" (9 : Nat) "OneHandEach$Entries" "most" "I") ∈ m_ws := tb_1 53 rfl rfl
theorem q_122 : (Jvm.Cond.fieldLink "OneHandEach$Entries" (15 : Nat) "OneHandEach$Entries" "width" "I") ∈ m_ws := tb_1 54 rfl rfl
theorem q_123 : (Jvm.Cond.fieldLink "OneHandEach$Entries" (18 : Nat) "OneHandEach$Entries" "numbers" "[I") ∈ m_ws := tb_1 55 rfl rfl
theorem q_124 : (Jvm.Cond.fieldLink "OneHandEach$Entries" (22 : Nat) "OneHandEach$Entries" "count" "I") ∈ m_ws := tb_1 56 rfl rfl
theorem q_125 : (Jvm.Cond.fieldLink "OneHandEach$Fitting" (25 : Nat) "OneHandEach$Entries" "count" "I") ∈ m_ws := tb_1 57 rfl rfl
theorem q_126 : (Jvm.Cond.fieldLink "OneHandEach$Guesses" (38 : Nat) "OneHandEach$Entries" "count" "I") ∈ m_ws := tb_1 58 rfl rfl
theorem q_127 : (Jvm.Cond.fieldLink "OneHandEach" (152 : Nat) "OneHandEach$Entries" "count" "I") ∈ m_ws := tb_1 59 rfl rfl
theorem q_137 : (Jvm.Cond.classLink "OneHandEach" (28 : Nat) "OneHandEach$Law") ∈ m_ws := tb_1 69 rfl rfl
theorem q_138 : (Jvm.Cond.instantiable "OneHandEach$Law" (4 : Nat)) ∈ m_ws := tb_1 70 rfl rfl
theorem q_139 : (Jvm.Cond.methodLink "OneHandEach" (30 : Nat) ({ cls := "OneHandEach$Law", name := "<init>", desc := "()V" } : Jvm.MethodName)) ∈ m_ws := tb_1 71 rfl rfl
theorem q_140 : (Jvm.Cond.instanceMethod ({ cls := "OneHandEach$Law", name := "<init>", desc := "()V" } : Jvm.MethodName)) ∈ m_ws := tb_1 72 rfl rfl
theorem q_141 : (Jvm.Cond.code ({ cls := "OneHandEach$Law", name := "<init>", desc := "()V" } : Jvm.MethodName) prog_8_method_1_code (1 : Nat) (Option.none : Option Jvm.ClassFile.FieldType)) ∈ m_ws := tb_1 73 rfl rfl
theorem q_142 : (Jvm.Cond.methodLink "OneHandEach$Law" (1 : Nat) ({ cls := "java/lang/Object", name := "<init>", desc := "()V" } : Jvm.MethodName)) ∈ m_ws := tb_1 74 rfl rfl
theorem q_143 : (Jvm.Cond.classLink "OneHandEach$Law" (15 : Nat) "OneHandEach$Reader") ∈ m_ws := tb_1 75 rfl rfl
theorem q_144 : (Jvm.Cond.instantiable "OneHandEach$Reader" (5 : Nat)) ∈ m_ws := tb_1 76 rfl rfl
theorem q_145 : (Jvm.Cond.methodLink "OneHandEach$Law" (17 : Nat) ({ cls := "OneHandEach$Reader", name := "<init>", desc := "()V" } : Jvm.MethodName)) ∈ m_ws := tb_1 77 rfl rfl
theorem q_146 : (Jvm.Cond.instanceMethod ({ cls := "OneHandEach$Reader", name := "<init>", desc := "()V" } : Jvm.MethodName)) ∈ m_ws := tb_1 78 rfl rfl
theorem q_147 : (Jvm.Cond.code ({ cls := "OneHandEach$Reader", name := "<init>", desc := "()V" } : Jvm.MethodName) prog_10_method_1_code (1 : Nat) (Option.none : Option Jvm.ClassFile.FieldType)) ∈ m_ws := tb_1 79 rfl rfl
theorem q_148 : (Jvm.Cond.methodLink "OneHandEach$Reader" (3 : Nat) ({ cls := "java/lang/Object", name := "<init>", desc := "()V" } : Jvm.MethodName)) ∈ m_ws := tb_1 80 rfl rfl
theorem q_149 : (Jvm.Cond.classLink "OneHandEach$Reader" (15 : Nat) "OneHandEach$Program") ∈ m_ws := tb_1 81 rfl rfl
theorem q_150 : (Jvm.Cond.instantiable "OneHandEach$Program" (3 : Nat)) ∈ m_ws := tb_1 82 rfl rfl
theorem q_151 : (Jvm.Cond.methodLink "OneHandEach$Reader" (17 : Nat) ({ cls := "OneHandEach$Program", name := "<init>", desc := "()V" } : Jvm.MethodName)) ∈ m_ws := tb_1 83 rfl rfl
theorem q_152 : (Jvm.Cond.instanceMethod ({ cls := "OneHandEach$Program", name := "<init>", desc := "()V" } : Jvm.MethodName)) ∈ m_ws := tb_1 84 rfl rfl
theorem q_153 : (Jvm.Cond.code ({ cls := "OneHandEach$Program", name := "<init>", desc := "()V" } : Jvm.MethodName) prog_9_method_1_code (1 : Nat) (Option.none : Option Jvm.ClassFile.FieldType)) ∈ m_ws := tb_1 85 rfl rfl
theorem q_154 : (Jvm.Cond.methodLink "OneHandEach$Program" (1 : Nat) ({ cls := "java/lang/Object", name := "<init>", desc := "()V" } : Jvm.MethodName)) ∈ m_ws := tb_1 86 rfl rfl
theorem q_155 : (Jvm.Cond.fieldLink "OneHandEach$Program" (9 : Nat) "OneHandEach$Program" "steps" "[I") ∈ m_ws := tb_1 87 rfl rfl
theorem q_156 : (Jvm.Cond.fieldLink "OneHandEach$Law" (60 : Nat) "OneHandEach$Program" "steps" "[I") ∈ m_ws := tb_1 88 rfl rfl
theorem q_157 : (Jvm.Cond.fieldLink "OneHandEach$Program" (13 : Nat) "OneHandEach$Program" "values" "[I") ∈ m_ws := tb_1 89 rfl rfl
theorem q_158 : (Jvm.Cond.fieldLink "OneHandEach$Law" (74 : Nat) "OneHandEach$Program" "values" "[I") ∈ m_ws := tb_1 90 rfl rfl
theorem q_159 : (Jvm.Cond.fieldLink "OneHandEach$Program" (16 : Nat) "OneHandEach$Program" "length" "I") ∈ m_ws := tb_1 91 rfl rfl
theorem q_160 : (Jvm.Cond.fieldLink "OneHandEach$Reader" (32 : Nat) "OneHandEach$Program" "length" "I") ∈ m_ws := tb_1 92 rfl rfl
theorem q_161 : (Jvm.Cond.fieldLink "OneHandEach$Law" (59 : Nat) "OneHandEach$Program" "length" "I") ∈ m_ws := tb_1 93 rfl rfl
theorem q_169 : (Jvm.Cond.fieldLink "OneHandEach$Reader" (11 : Nat) "OneHandEach$Reader" "tape" "[I") ∈ m_ws := tb_1 101 rfl rfl
theorem q_170 : (Jvm.Cond.fieldLink "OneHandEach$Reader" (22 : Nat) "OneHandEach$Reader" "length" "I") ∈ m_ws := tb_1 102 rfl rfl
theorem q_172 : (Jvm.Cond.fieldLink "OneHandEach$Reader" (26 : Nat) "OneHandEach$Reader" "at" "I") ∈ m_ws := tb_1 104 rfl rfl
theorem q_173 : (Jvm.Cond.fieldLink "OneHandEach$Reader" (29 : Nat) "OneHandEach$Reader" "fault" "I") ∈ m_ws := tb_1 105 rfl rfl
theorem q_174 : (Jvm.Cond.fieldLink "OneHandEach$Reader" (18 : Nat) "OneHandEach$Reader" "into" "LOneHandEach$Program;") ∈ m_ws := tb_1 106 rfl rfl
theorem q_175 : (Jvm.Cond.fieldLink "OneHandEach$Law" (39 : Nat) "OneHandEach$Reader" "into" "LOneHandEach$Program;") ∈ m_ws := tb_1 107 rfl rfl
theorem q_187 : (Jvm.Cond.classLink "OneHandEach$Law" (7 : Nat) "OneHandEach$Program") ∈ m_ws := tb_1 119 rfl rfl
theorem q_188 : (Jvm.Cond.methodLink "OneHandEach$Law" (22 : Nat) ({ cls := "OneHandEach$Program", name := "<init>", desc := "()V" } : Jvm.MethodName)) ∈ m_ws := tb_1 120 rfl rfl
theorem q_189 : (Jvm.Cond.fieldLink "OneHandEach$Law" (9 : Nat) "OneHandEach$Law" "stack" "[I") ∈ m_ws := tb_1 121 rfl rfl
theorem q_190 : (Jvm.Cond.fieldLink "OneHandEach$Law" (18 : Nat) "OneHandEach$Law" "reader" "LOneHandEach$Reader;") ∈ m_ws := tb_1 122 rfl rfl
theorem q_191 : (Jvm.Cond.fieldLink "OneHandEach$Law" (23 : Nat) "OneHandEach$Law" "valid" "LOneHandEach$Program;") ∈ m_ws := tb_1 123 rfl rfl
theorem q_192 : (Jvm.Cond.fieldLink "OneHandEach$Law" (42 : Nat) "OneHandEach$Law" "there" "Z") ∈ m_ws := tb_1 124 rfl rfl
theorem q_202 : (Jvm.Cond.classLink "OneHandEach" (35 : Nat) "OneHandEach$Fitting") ∈ m_ws := tb_1 134 rfl rfl
theorem q_203 : (Jvm.Cond.instantiable "OneHandEach$Fitting" (3 : Nat)) ∈ m_ws := tb_1 135 rfl rfl
theorem q_204 : (Jvm.Cond.methodLink "OneHandEach" (37 : Nat) ({ cls := "OneHandEach$Fitting", name := "<init>", desc := "()V" } : Jvm.MethodName)) ∈ m_ws := tb_1 136 rfl rfl
theorem q_205 : (Jvm.Cond.instanceMethod ({ cls := "OneHandEach$Fitting", name := "<init>", desc := "()V" } : Jvm.MethodName)) ∈ m_ws := tb_1 137 rfl rfl
theorem q_206 : (Jvm.Cond.code ({ cls := "OneHandEach$Fitting", name := "<init>", desc := "()V" } : Jvm.MethodName) prog_5_method_1_code (1 : Nat) (Option.none : Option Jvm.ClassFile.FieldType)) ∈ m_ws := tb_1 138 rfl rfl
theorem q_207 : (Jvm.Cond.methodLink "OneHandEach$Fitting" (3 : Nat) ({ cls := "java/lang/Object", name := "<init>", desc := "()V" } : Jvm.MethodName)) ∈ m_ws := tb_1 139 rfl rfl
theorem q_208 : (Jvm.Cond.fieldLink "OneHandEach$Fitting" (9 : Nat) "OneHandEach$Fitting" "fit" "[Z") ∈ m_ws := tb_1 140 rfl rfl
theorem q_209 : (Jvm.Cond.fieldLink "OneHandEach" (171 : Nat) "OneHandEach$Fitting" "fit" "[Z") ∈ m_ws := tb_1 141 rfl rfl
theorem q_210 : (Jvm.Cond.fieldLink "OneHandEach$Fitting" (15 : Nat) "OneHandEach$Fitting" "nearAhead" "[I") ∈ m_ws := tb_1 142 rfl rfl
theorem q_211 : (Jvm.Cond.fieldLink "OneHandEach$Fitting" (19 : Nat) "OneHandEach$Fitting" "tally" "[I") ∈ m_ws := tb_1 143 rfl rfl
theorem q_219 : (Jvm.Cond.arrayClass Jvm.ClassFile.FieldType.boolean) ∈ m_ws := tb_1 151 rfl rfl
theorem q_220 : (Jvm.Cond.classLink "OneHandEach" (42 : Nat) "OneHandEach$Guesses") ∈ m_ws := tb_1 152 rfl rfl
theorem q_221 : (Jvm.Cond.instantiable "OneHandEach$Guesses" (1 : Nat)) ∈ m_ws := tb_1 153 rfl rfl
theorem q_222 : (Jvm.Cond.methodLink "OneHandEach" (44 : Nat) ({ cls := "OneHandEach$Guesses", name := "<init>", desc := "()V" } : Jvm.MethodName)) ∈ m_ws := tb_1 154 rfl rfl
theorem q_223 : (Jvm.Cond.instanceMethod ({ cls := "OneHandEach$Guesses", name := "<init>", desc := "()V" } : Jvm.MethodName)) ∈ m_ws := tb_1 155 rfl rfl
theorem q_224 : (Jvm.Cond.code ({ cls := "OneHandEach$Guesses", name := "<init>", desc := "()V" } : Jvm.MethodName) prog_6_method_1_code (1 : Nat) (Option.none : Option Jvm.ClassFile.FieldType)) ∈ m_ws := tb_1 156 rfl rfl
theorem q_225 : (Jvm.Cond.methodLink "OneHandEach$Guesses" (3 : Nat) ({ cls := "java/lang/Object", name := "<init>", desc := "()V" } : Jvm.MethodName)) ∈ m_ws := tb_1 157 rfl rfl
theorem q_226 : (Jvm.Cond.fieldLink "OneHandEach$Guesses" (9 : Nat) "OneHandEach$Guesses" "told" "[I") ∈ m_ws := tb_1 158 rfl rfl
theorem q_227 : (Jvm.Cond.fieldLink "OneHandEach" (199 : Nat) "OneHandEach$Guesses" "told" "[I") ∈ m_ws := tb_1 159 rfl rfl
theorem q_231 : (Jvm.Cond.classLink "OneHandEach" (49 : Nat) "OneHandEach$Changes") ∈ m_ws := tb_1 163 rfl rfl
theorem q_232 : (Jvm.Cond.instantiable "OneHandEach$Changes" (5 : Nat)) ∈ m_ws := tb_1 164 rfl rfl
theorem q_233 : (Jvm.Cond.methodLink "OneHandEach" (51 : Nat) ({ cls := "OneHandEach$Changes", name := "<init>", desc := "()V" } : Jvm.MethodName)) ∈ m_ws := tb_1 165 rfl rfl
theorem q_234 : (Jvm.Cond.instanceMethod ({ cls := "OneHandEach$Changes", name := "<init>", desc := "()V" } : Jvm.MethodName)) ∈ m_ws := tb_1 166 rfl rfl
theorem q_235 : (Jvm.Cond.code ({ cls := "OneHandEach$Changes", name := "<init>", desc := "()V" } : Jvm.MethodName) prog_3_method_1_code (1 : Nat) (Option.none : Option Jvm.ClassFile.FieldType)) ∈ m_ws := tb_1 167 rfl rfl
theorem q_236 : (Jvm.Cond.methodLink "OneHandEach$Changes" (3 : Nat) ({ cls := "java/lang/Object", name := "<init>", desc := "()V" } : Jvm.MethodName)) ∈ m_ws := tb_1 168 rfl rfl
theorem q_237 : (Jvm.Cond.fieldLink "OneHandEach$Changes" (11 : Nat) "OneHandEach$Changes" "places" "[I") ∈ m_ws := tb_1 169 rfl rfl
theorem q_238 : (Jvm.Cond.fieldLink "OneHandEach$Changes" (15 : Nat) "OneHandEach$Changes" "was" "[I") ∈ m_ws := tb_1 170 rfl rfl
theorem q_239 : (Jvm.Cond.fieldLink "OneHandEach$Changes" (18 : Nat) "OneHandEach$Changes" "became" "[I") ∈ m_ws := tb_1 171 rfl rfl
theorem q_240 : (Jvm.Cond.fieldLink "OneHandEach$Changes" (21 : Nat) "OneHandEach$Changes" "done" "I") ∈ m_ws := tb_1 172 rfl rfl
theorem q_241 : (Jvm.Cond.fieldLink "OneHandEach" (310 : Nat) "OneHandEach$Changes" "done" "I") ∈ m_ws := tb_1 173 rfl rfl
theorem q_242 : (Jvm.Cond.fieldLink "OneHandEach$Changes" (28 : Nat) "OneHandEach$Changes" "known" "I") ∈ m_ws := tb_1 174 rfl rfl
theorem q_254 : (Jvm.Cond.classLink "OneHandEach" (56 : Nat) "OneHandEach$Image") ∈ m_ws := tb_1 186 rfl rfl
theorem q_255 : (Jvm.Cond.instantiable "OneHandEach$Image" (6 : Nat)) ∈ m_ws := tb_1 187 rfl rfl
theorem q_256 : (Jvm.Cond.methodLink "OneHandEach" (58 : Nat) ({ cls := "OneHandEach$Image", name := "<init>", desc := "()V" } : Jvm.MethodName)) ∈ m_ws := tb_1 188 rfl rfl
theorem q_257 : (Jvm.Cond.instanceMethod ({ cls := "OneHandEach$Image", name := "<init>", desc := "()V" } : Jvm.MethodName)) ∈ m_ws := tb_1 189 rfl rfl
theorem q_258 : (Jvm.Cond.code ({ cls := "OneHandEach$Image", name := "<init>", desc := "()V" } : Jvm.MethodName) prog_7_method_1_code (1 : Nat) (Option.none : Option Jvm.ClassFile.FieldType)) ∈ m_ws := tb_1 190 rfl rfl
theorem q_259 : (Jvm.Cond.methodLink "OneHandEach$Image" (1 : Nat) ({ cls := "java/lang/Object", name := "<init>", desc := "()V" } : Jvm.MethodName)) ∈ m_ws := tb_1 191 rfl rfl
theorem q_260 : (Jvm.Cond.classLink "OneHandEach$Image" (7 : Nat) "OneHandEach$Entries") ∈ m_ws := tb_1 192 rfl rfl
theorem q_261 : (Jvm.Cond.methodLink "OneHandEach$Image" (9 : Nat) ({ cls := "OneHandEach$Entries", name := "<init>", desc := "(II)V" } : Jvm.MethodName)) ∈ m_ws := tb_1 193 rfl rfl
theorem q_262 : (Jvm.Cond.fieldLink "OneHandEach$Image" (12 : Nat) "OneHandEach$Image" "sights" "LOneHandEach$Entries;") ∈ m_ws := tb_1 194 rfl rfl
theorem q_263 : (Jvm.Cond.fieldLink "OneHandEach" (238 : Nat) "OneHandEach$Image" "sights" "LOneHandEach$Entries;") ∈ m_ws := tb_1 195 rfl rfl
theorem q_264 : (Jvm.Cond.fieldLink "OneHandEach$Image" (18 : Nat) "OneHandEach$Image" "guns" "LOneHandEach$Entries;") ∈ m_ws := tb_1 196 rfl rfl
theorem q_265 : (Jvm.Cond.fieldLink "OneHandEach" (243 : Nat) "OneHandEach$Image" "guns" "LOneHandEach$Entries;") ∈ m_ws := tb_1 197 rfl rfl
theorem q_266 : (Jvm.Cond.fieldLink "OneHandEach$Image" (21 : Nat) "OneHandEach$Image" "off" "[I") ∈ m_ws := tb_1 198 rfl rfl
theorem q_267 : (Jvm.Cond.fieldLink "OneHandEach" (244 : Nat) "OneHandEach$Image" "off" "[I") ∈ m_ws := tb_1 199 rfl rfl
theorem q_268 : (Jvm.Cond.fieldLink "OneHandEach$Image" (25 : Nat) "OneHandEach$Image" "timesSet" "[I") ∈ m_ws := tb_1 200 rfl rfl
theorem q_269 : (Jvm.Cond.fieldLink "OneHandEach" (249 : Nat) "OneHandEach$Image" "timesSet" "[I") ∈ m_ws := tb_1 201 rfl rfl
theorem q_270 : (Jvm.Cond.fieldLink "OneHandEach$Image" (28 : Nat) "OneHandEach$Image" "latestSet" "[I") ∈ m_ws := tb_1 202 rfl rfl
theorem q_271 : (Jvm.Cond.fieldLink "OneHandEach" (250 : Nat) "OneHandEach$Image" "latestSet" "[I") ∈ m_ws := tb_1 203 rfl rfl
theorem q_272 : (Jvm.Cond.fieldLink "OneHandEach" (234 : Nat) "OneHandEach$Image" "there" "Z") ∈ m_ws := tb_1 204 rfl rfl
theorem q_286 : (Jvm.Cond.classLink "OneHandEach" (63 : Nat) "OneHandEach$Bodies") ∈ m_ws := tb_1 218 rfl rfl
theorem q_287 : (Jvm.Cond.instantiable "OneHandEach$Bodies" (4 : Nat)) ∈ m_ws := tb_1 219 rfl rfl
theorem q_288 : (Jvm.Cond.methodLink "OneHandEach" (65 : Nat) ({ cls := "OneHandEach$Bodies", name := "<init>", desc := "()V" } : Jvm.MethodName)) ∈ m_ws := tb_1 220 rfl rfl
theorem q_289 : (Jvm.Cond.instanceMethod ({ cls := "OneHandEach$Bodies", name := "<init>", desc := "()V" } : Jvm.MethodName)) ∈ m_ws := tb_1 221 rfl rfl
theorem q_290 : (Jvm.Cond.code ({ cls := "OneHandEach$Bodies", name := "<init>", desc := "()V" } : Jvm.MethodName) prog_2_method_1_code (1 : Nat) (Option.none : Option Jvm.ClassFile.FieldType)) ∈ m_ws := tb_1 222 rfl rfl
theorem q_291 : (Jvm.Cond.methodLink "OneHandEach$Bodies" (3 : Nat) ({ cls := "java/lang/Object", name := "<init>", desc := "()V" } : Jvm.MethodName)) ∈ m_ws := tb_1 223 rfl rfl
theorem q_292 : (Jvm.Cond.fieldLink "OneHandEach$Bodies" (11 : Nat) "OneHandEach$Bodies" "kinds" "[I") ∈ m_ws := tb_1 224 rfl rfl
theorem q_293 : (Jvm.Cond.fieldLink "OneHandEach$Bodies" (15 : Nat) "OneHandEach$Bodies" "traced" "[I") ∈ m_ws := tb_1 225 rfl rfl
theorem q_294 : (Jvm.Cond.fieldLink "OneHandEach" (269 : Nat) "OneHandEach$Bodies" "traced" "[I") ∈ m_ws := tb_1 226 rfl rfl
theorem q_295 : (Jvm.Cond.fieldLink "OneHandEach$Bodies" (18 : Nat) "OneHandEach$Bodies" "count" "I") ∈ m_ws := tb_1 227 rfl rfl
theorem q_296 : (Jvm.Cond.fieldLink "OneHandEach" (272 : Nat) "OneHandEach$Bodies" "count" "I") ∈ m_ws := tb_1 228 rfl rfl
theorem q_297 : (Jvm.Cond.fieldLink "OneHandEach$Bodies" (29 : Nat) "OneHandEach$Bodies" "ran" "I") ∈ m_ws := tb_1 229 rfl rfl
theorem q_298 : (Jvm.Cond.fieldLink "OneHandEach" (266 : Nat) "OneHandEach$Bodies" "ran" "I") ∈ m_ws := tb_1 230 rfl rfl
theorem q_308 : (Jvm.Cond.classLink "OneHandEach" (70 : Nat) "OneHandEach$Shelf") ∈ m_ws := tb_2 0 rfl rfl
theorem q_310 : (Jvm.Cond.instantiable "OneHandEach$Shelf" (5 : Nat)) ∈ m_ws := tb_2 2 rfl rfl
theorem q_311 : (Jvm.Cond.methodLink "OneHandEach" (76 : Nat) ({ cls := "OneHandEach$Shelf", name := "<init>", desc := "()V" } : Jvm.MethodName)) ∈ m_ws := tb_2 3 rfl rfl
theorem q_312 : (Jvm.Cond.instanceMethod ({ cls := "OneHandEach$Shelf", name := "<init>", desc := "()V" } : Jvm.MethodName)) ∈ m_ws := tb_2 4 rfl rfl
theorem q_313 : (Jvm.Cond.code ({ cls := "OneHandEach$Shelf", name := "<init>", desc := "()V" } : Jvm.MethodName) prog_11_method_1_code (1 : Nat) (Option.none : Option Jvm.ClassFile.FieldType)) ∈ m_ws := tb_2 5 rfl rfl
theorem q_314 : (Jvm.Cond.methodLink "OneHandEach$Shelf" (1 : Nat) ({ cls := "java/lang/Object", name := "<init>", desc := "()V" } : Jvm.MethodName)) ∈ m_ws := tb_2 6 rfl rfl
theorem q_315 : (Jvm.Cond.fieldLink "OneHandEach$Shelf" (9 : Nat) "OneHandEach$Shelf" "elements" "[J") ∈ m_ws := tb_2 7 rfl rfl
theorem q_316 : (Jvm.Cond.fieldLink "OneHandEach" (282 : Nat) "OneHandEach$Shelf" "elements" "[J") ∈ m_ws := tb_2 8 rfl rfl
theorem q_317 : (Jvm.Cond.fieldLink "OneHandEach$Shelf" (13 : Nat) "OneHandEach$Shelf" "held" "I") ∈ m_ws := tb_2 9 rfl rfl
theorem q_318 : (Jvm.Cond.fieldLink "OneHandEach" (141 : Nat) "OneHandEach$Shelf" "held" "I") ∈ m_ws := tb_2 10 rfl rfl
theorem q_319 : (Jvm.Cond.fieldLink "OneHandEach" (273 : Nat) "OneHandEach$Shelf" "body" "I") ∈ m_ws := tb_2 11 rfl rfl
theorem q_320 : (Jvm.Cond.fieldLink "OneHandEach$Shelf" (17 : Nat) "OneHandEach$Shelf" "sort" "I") ∈ m_ws := tb_2 12 rfl rfl
theorem q_321 : (Jvm.Cond.fieldLink "OneHandEach" (292 : Nat) "OneHandEach$Shelf" "sort" "I") ∈ m_ws := tb_2 13 rfl rfl
theorem q_322 : (Jvm.Cond.fieldLink "OneHandEach$Shelf" (20 : Nat) "OneHandEach$Shelf" "length" "I") ∈ m_ws := tb_2 14 rfl rfl
theorem q_323 : (Jvm.Cond.fieldLink "OneHandEach" (227 : Nat) "OneHandEach$Shelf" "length" "I") ∈ m_ws := tb_2 15 rfl rfl
theorem q_335 : (Jvm.Cond.arrayClass Jvm.ClassFile.FieldType.long) ∈ m_ws := tb_2 27 rfl rfl
theorem q_336 : (Jvm.Cond.fieldLink "OneHandEach" (10 : Nat) "OneHandEach" "town" "LOneHandEach$Town;") ∈ m_ws := tb_2 28 rfl rfl
theorem q_337 : (Jvm.Cond.fieldLink "OneHandEach" (21 : Nat) "OneHandEach" "sights" "LOneHandEach$Entries;") ∈ m_ws := tb_2 29 rfl rfl
theorem q_338 : (Jvm.Cond.fieldLink "OneHandEach" (25 : Nat) "OneHandEach" "guns" "LOneHandEach$Entries;") ∈ m_ws := tb_2 30 rfl rfl
theorem q_339 : (Jvm.Cond.fieldLink "OneHandEach" (31 : Nat) "OneHandEach" "law" "LOneHandEach$Law;") ∈ m_ws := tb_2 31 rfl rfl
theorem q_340 : (Jvm.Cond.fieldLink "OneHandEach" (38 : Nat) "OneHandEach" "fitting" "LOneHandEach$Fitting;") ∈ m_ws := tb_2 32 rfl rfl
theorem q_341 : (Jvm.Cond.fieldLink "OneHandEach" (45 : Nat) "OneHandEach" "guesses" "LOneHandEach$Guesses;") ∈ m_ws := tb_2 33 rfl rfl
theorem q_342 : (Jvm.Cond.fieldLink "OneHandEach" (52 : Nat) "OneHandEach" "changes" "LOneHandEach$Changes;") ∈ m_ws := tb_2 34 rfl rfl
theorem q_343 : (Jvm.Cond.fieldLink "OneHandEach" (59 : Nat) "OneHandEach" "kept" "LOneHandEach$Image;") ∈ m_ws := tb_2 35 rfl rfl
theorem q_344 : (Jvm.Cond.fieldLink "OneHandEach" (66 : Nat) "OneHandEach" "bodies" "LOneHandEach$Bodies;") ∈ m_ws := tb_2 36 rfl rfl
theorem q_345 : (Jvm.Cond.fieldLink "OneHandEach" (72 : Nat) "OneHandEach" "shelves" "[LOneHandEach$Shelf;") ∈ m_ws := tb_2 37 rfl rfl
theorem q_367 : (Jvm.Cond.methodLink "OneHandEachLaw" (13 : Nat) ({ cls := "OneHandEach", name := "mend", desc := "(III)I" } : Jvm.MethodName)) ∈ m_ws := tb_2 59 rfl rfl
theorem q_368 : (Jvm.Cond.instanceMethod ({ cls := "OneHandEach", name := "mend", desc := "(III)I" } : Jvm.MethodName)) ∈ m_ws := tb_2 60 rfl rfl
theorem q_369 : (Jvm.Cond.selects "OneHandEach" ({ cls := "OneHandEach", name := "mend", desc := "(III)I" } : Jvm.MethodName) ({ cls := "OneHandEach", name := "mend", desc := "(III)I" } : Jvm.MethodName)) ∈ m_ws := tb_2 61 rfl rfl
theorem q_370 : (Jvm.Cond.code ({ cls := "OneHandEach", name := "mend", desc := "(III)I" } : Jvm.MethodName) prog_1_method_2_code (6 : Nat) (Option.some Jvm.ClassFile.FieldType.int)) ∈ m_ws := tb_2 62 rfl rfl
theorem q_371 : (Jvm.Cond.methodLink "OneHandEach" (77 : Nat) ({ cls := "OneHandEach$Town", name := "placeOf", desc := "(II)I" } : Jvm.MethodName)) ∈ m_ws := tb_2 63 rfl rfl
theorem q_372 : (Jvm.Cond.static ({ cls := "OneHandEach$Town", name := "placeOf", desc := "(II)I" } : Jvm.MethodName)) ∈ m_ws := tb_2 64 rfl rfl
theorem q_373 : (Jvm.Cond.code ({ cls := "OneHandEach$Town", name := "placeOf", desc := "(II)I" } : Jvm.MethodName) prog_12_method_2_code (2 : Nat) (Option.some Jvm.ClassFile.FieldType.int)) ∈ m_ws := tb_2 65 rfl rfl
theorem q_375 : (Jvm.Cond.static ({ cls := "OneHandEach", name := "isClock", desc := "(I)Z" } : Jvm.MethodName)) ∈ m_ws := tb_2 67 rfl rfl
theorem q_376 : (Jvm.Cond.code ({ cls := "OneHandEach", name := "isClock", desc := "(I)Z" } : Jvm.MethodName) prog_1_method_41_code (1 : Nat) (Option.some Jvm.ClassFile.FieldType.boolean)) ∈ m_ws := tb_2 68 rfl rfl
theorem q_377 : (Jvm.Cond.methodLink "OneHandEach" (81 : Nat) ({ cls := "OneHandEach$Town", name := "allows", desc := "(II)Z" } : Jvm.MethodName)) ∈ m_ws := tb_2 69 rfl rfl
theorem q_378 : (Jvm.Cond.instanceMethod ({ cls := "OneHandEach$Town", name := "allows", desc := "(II)Z" } : Jvm.MethodName)) ∈ m_ws := tb_2 70 rfl rfl
theorem q_379 : (Jvm.Cond.selects "OneHandEach$Town" ({ cls := "OneHandEach$Town", name := "allows", desc := "(II)Z" } : Jvm.MethodName) ({ cls := "OneHandEach$Town", name := "allows", desc := "(II)Z" } : Jvm.MethodName)) ∈ m_ws := tb_2 71 rfl rfl
theorem q_380 : (Jvm.Cond.code ({ cls := "OneHandEach$Town", name := "allows", desc := "(II)Z" } : Jvm.MethodName) prog_12_method_3_code (3 : Nat) (Option.some Jvm.ClassFile.FieldType.boolean)) ∈ m_ws := tb_2 72 rfl rfl
theorem q_381 : (Jvm.Cond.constant "OneHandEach" (85 : Nat) (-2000000000 : Int32)) ∈ m_ws := tb_2 73 rfl rfl
theorem q_382 : (Jvm.Cond.methodLink "OneHandEach" (90 : Nat) ({ cls := "OneHandEach$Changes", name := "add", desc := "(III)V" } : Jvm.MethodName)) ∈ m_ws := tb_2 74 rfl rfl
theorem q_383 : (Jvm.Cond.instanceMethod ({ cls := "OneHandEach$Changes", name := "add", desc := "(III)V" } : Jvm.MethodName)) ∈ m_ws := tb_2 75 rfl rfl
theorem q_384 : (Jvm.Cond.selects "OneHandEach$Changes" ({ cls := "OneHandEach$Changes", name := "add", desc := "(III)V" } : Jvm.MethodName) ({ cls := "OneHandEach$Changes", name := "add", desc := "(III)V" } : Jvm.MethodName)) ∈ m_ws := tb_2 76 rfl rfl
theorem q_385 : (Jvm.Cond.code ({ cls := "OneHandEach$Changes", name := "add", desc := "(III)V" } : Jvm.MethodName) prog_3_method_2_code (4 : Nat) (Option.none : Option Jvm.ClassFile.FieldType)) ∈ m_ws := tb_2 77 rfl rfl
theorem q_386 : (Jvm.Cond.methodLink "OneHandEach$Changes" (25 : Nat) ({ cls := "OneHandEach$Changes", name := "dropEldest", desc := "()V" } : Jvm.MethodName)) ∈ m_ws := tb_2 78 rfl rfl
theorem q_388 : (Jvm.Cond.instanceMethod ({ cls := "OneHandEach$Changes", name := "dropEldest", desc := "()V" } : Jvm.MethodName)) ∈ m_ws := tb_2 80 rfl rfl
theorem q_389 : (Jvm.Cond.code ({ cls := "OneHandEach$Changes", name := "dropEldest", desc := "()V" } : Jvm.MethodName) prog_3_method_3_code (2 : Nat) (Option.none : Option Jvm.ClassFile.FieldType)) ∈ m_ws := tb_2 81 rfl rfl
theorem q_390 : (Jvm.Cond.methodLink "OneHandEachLaw" (18 : Nat) ({ cls := "OneHandEach", name := "of", desc := "(II)I" } : Jvm.MethodName)) ∈ m_ws := tb_2 82 rfl rfl
theorem q_391 : (Jvm.Cond.instanceMethod ({ cls := "OneHandEach", name := "of", desc := "(II)I" } : Jvm.MethodName)) ∈ m_ws := tb_2 83 rfl rfl
theorem q_392 : (Jvm.Cond.selects "OneHandEach" ({ cls := "OneHandEach", name := "of", desc := "(II)I" } : Jvm.MethodName) ({ cls := "OneHandEach", name := "of", desc := "(II)I" } : Jvm.MethodName)) ∈ m_ws := tb_2 84 rfl rfl
theorem q_393 : (Jvm.Cond.code ({ cls := "OneHandEach", name := "of", desc := "(II)I" } : Jvm.MethodName) prog_1_method_3_code (4 : Nat) (Option.some Jvm.ClassFile.FieldType.int)) ∈ m_ws := tb_2 85 rfl rfl
theorem q_394 : (Jvm.Cond.methodLink "OneHandEach" (94 : Nat) ({ cls := "OneHandEach$Entries", name := "told", desc := "(II)I" } : Jvm.MethodName)) ∈ m_ws := tb_2 86 rfl rfl
theorem q_395 : (Jvm.Cond.instanceMethod ({ cls := "OneHandEach$Entries", name := "told", desc := "(II)I" } : Jvm.MethodName)) ∈ m_ws := tb_2 87 rfl rfl
theorem q_396 : (Jvm.Cond.selects "OneHandEach$Entries" ({ cls := "OneHandEach$Entries", name := "told", desc := "(II)I" } : Jvm.MethodName) ({ cls := "OneHandEach$Entries", name := "told", desc := "(II)I" } : Jvm.MethodName)) ∈ m_ws := tb_2 88 rfl rfl
theorem q_397 : (Jvm.Cond.code ({ cls := "OneHandEach$Entries", name := "told", desc := "(II)I" } : Jvm.MethodName) prog_4_method_5_code (3 : Nat) (Option.some Jvm.ClassFile.FieldType.int)) ∈ m_ws := tb_2 89 rfl rfl
theorem q_399 : (Jvm.Cond.static ({ cls := "OneHandEach", name := "isOneOf", desc := "(II)Z" } : Jvm.MethodName)) ∈ m_ws := tb_2 91 rfl rfl
theorem q_400 : (Jvm.Cond.code ({ cls := "OneHandEach", name := "isOneOf", desc := "(II)Z" } : Jvm.MethodName) prog_1_method_40_code (2 : Nat) (Option.some Jvm.ClassFile.FieldType.boolean)) ∈ m_ws := tb_2 92 rfl rfl
theorem q_401 : (Jvm.Cond.constant "OneHandEach$Entries" (37 : Nat) (-2000000000 : Int32)) ∈ m_ws := tb_2 93 rfl rfl
theorem q_402 : (Jvm.Cond.methodLink "OneHandEachLaw" (23 : Nat) ({ cls := "OneHandEach", name := "shown", desc := "(III)I" } : Jvm.MethodName)) ∈ m_ws := tb_2 94 rfl rfl
theorem q_403 : (Jvm.Cond.instanceMethod ({ cls := "OneHandEach", name := "shown", desc := "(III)I" } : Jvm.MethodName)) ∈ m_ws := tb_2 95 rfl rfl
theorem q_404 : (Jvm.Cond.selects "OneHandEach" ({ cls := "OneHandEach", name := "shown", desc := "(III)I" } : Jvm.MethodName) ({ cls := "OneHandEach", name := "shown", desc := "(III)I" } : Jvm.MethodName)) ∈ m_ws := tb_2 96 rfl rfl
theorem q_405 : (Jvm.Cond.code ({ cls := "OneHandEach", name := "shown", desc := "(III)I" } : Jvm.MethodName) prog_1_method_4_code (4 : Nat) (Option.some Jvm.ClassFile.FieldType.int)) ∈ m_ws := tb_2 97 rfl rfl
theorem q_406 : (Jvm.Cond.methodLink "OneHandEach" (97 : Nat) ({ cls := "OneHandEach", name := "isClock", desc := "(I)Z" } : Jvm.MethodName)) ∈ m_ws := tb_2 98 rfl rfl
theorem q_407 : (Jvm.Cond.methodLink "OneHandEach" (101 : Nat) ({ cls := "OneHandEach", name := "isMinute", desc := "(I)Z" } : Jvm.MethodName)) ∈ m_ws := tb_2 99 rfl rfl
theorem q_408 : (Jvm.Cond.static ({ cls := "OneHandEach", name := "isMinute", desc := "(I)Z" } : Jvm.MethodName)) ∈ m_ws := tb_2 100 rfl rfl
theorem q_409 : (Jvm.Cond.code ({ cls := "OneHandEach", name := "isMinute", desc := "(I)Z" } : Jvm.MethodName) prog_1_method_42_code (1 : Nat) (Option.some Jvm.ClassFile.FieldType.boolean)) ∈ m_ws := tb_2 101 rfl rfl
theorem q_410 : (Jvm.Cond.constant "OneHandEach" (313 : Nat) (99999 : Int32)) ∈ m_ws := tb_2 102 rfl rfl
theorem q_411 : (Jvm.Cond.methodLink "OneHandEach" (104 : Nat) ({ cls := "OneHandEach", name := "isOneOf", desc := "(II)Z" } : Jvm.MethodName)) ∈ m_ws := tb_2 103 rfl rfl
theorem q_412 : (Jvm.Cond.methodLink "OneHandEach" (107 : Nat) ({ cls := "OneHandEach$Town", name := "timeAt", desc := "(II)I" } : Jvm.MethodName)) ∈ m_ws := tb_2 104 rfl rfl
theorem q_413 : (Jvm.Cond.instanceMethod ({ cls := "OneHandEach$Town", name := "timeAt", desc := "(II)I" } : Jvm.MethodName)) ∈ m_ws := tb_2 105 rfl rfl
theorem q_414 : (Jvm.Cond.selects "OneHandEach$Town" ({ cls := "OneHandEach$Town", name := "timeAt", desc := "(II)I" } : Jvm.MethodName) ({ cls := "OneHandEach$Town", name := "timeAt", desc := "(II)I" } : Jvm.MethodName)) ∈ m_ws := tb_2 106 rfl rfl
theorem q_415 : (Jvm.Cond.code ({ cls := "OneHandEach$Town", name := "timeAt", desc := "(II)I" } : Jvm.MethodName) prog_12_method_9_code (3 : Nat) (Option.some Jvm.ClassFile.FieldType.int)) ∈ m_ws := tb_2 107 rfl rfl
theorem q_416 : (Jvm.Cond.methodLink "OneHandEach$Town" (31 : Nat) ({ cls := "OneHandEach$Town", name := "off", desc := "(I)I" } : Jvm.MethodName)) ∈ m_ws := tb_2 108 rfl rfl
theorem q_417 : (Jvm.Cond.instanceMethod ({ cls := "OneHandEach$Town", name := "off", desc := "(I)I" } : Jvm.MethodName)) ∈ m_ws := tb_2 109 rfl rfl
theorem q_418 : (Jvm.Cond.selects "OneHandEach$Town" ({ cls := "OneHandEach$Town", name := "off", desc := "(I)I" } : Jvm.MethodName) ({ cls := "OneHandEach$Town", name := "off", desc := "(I)I" } : Jvm.MethodName)) ∈ m_ws := tb_2 110 rfl rfl
theorem q_419 : (Jvm.Cond.code ({ cls := "OneHandEach$Town", name := "off", desc := "(I)I" } : Jvm.MethodName) prog_12_method_4_code (2 : Nat) (Option.some Jvm.ClassFile.FieldType.int)) ∈ m_ws := tb_2 111 rfl rfl
theorem q_420 : (Jvm.Cond.methodLink "OneHandEach$Town" (35 : Nat) ({ cls := "OneHandEach$Town", name := "gain", desc := "(I)I" } : Jvm.MethodName)) ∈ m_ws := tb_2 112 rfl rfl
theorem q_421 : (Jvm.Cond.instanceMethod ({ cls := "OneHandEach$Town", name := "gain", desc := "(I)I" } : Jvm.MethodName)) ∈ m_ws := tb_2 113 rfl rfl
theorem q_422 : (Jvm.Cond.selects "OneHandEach$Town" ({ cls := "OneHandEach$Town", name := "gain", desc := "(I)I" } : Jvm.MethodName) ({ cls := "OneHandEach$Town", name := "gain", desc := "(I)I" } : Jvm.MethodName)) ∈ m_ws := tb_2 114 rfl rfl
theorem q_423 : (Jvm.Cond.code ({ cls := "OneHandEach$Town", name := "gain", desc := "(I)I" } : Jvm.MethodName) prog_12_method_5_code (2 : Nat) (Option.some Jvm.ClassFile.FieldType.int)) ∈ m_ws := tb_2 115 rfl rfl
theorem q_424 : (Jvm.Cond.methodLink "OneHandEach$Town" (38 : Nat) ({ cls := "OneHandEach$Town", name := "timeBy", desc := "(III)I" } : Jvm.MethodName)) ∈ m_ws := tb_2 116 rfl rfl
theorem q_425 : (Jvm.Cond.static ({ cls := "OneHandEach$Town", name := "timeBy", desc := "(III)I" } : Jvm.MethodName)) ∈ m_ws := tb_2 117 rfl rfl
theorem q_426 : (Jvm.Cond.code ({ cls := "OneHandEach$Town", name := "timeBy", desc := "(III)I" } : Jvm.MethodName) prog_12_method_7_code (3 : Nat) (Option.some Jvm.ClassFile.FieldType.int)) ∈ m_ws := tb_2 118 rfl rfl
theorem q_427 : (Jvm.Cond.methodLink "OneHandEach$Town" (25 : Nat) ({ cls := "java/lang/Math", name := "floorMod", desc := "(II)I" } : Jvm.MethodName)) ∈ m_ws := tb_2 119 rfl rfl
theorem q_428 : (Jvm.Cond.static ({ cls := "java/lang/Math", name := "floorMod", desc := "(II)I" } : Jvm.MethodName)) ∈ m_ws := tb_2 120 rfl rfl
theorem q_429 : (Jvm.Cond.code ({ cls := "java/lang/Math", name := "floorMod", desc := "(II)I" } : Jvm.MethodName) prog_16_method_50_code (3 : Nat) (Option.some Jvm.ClassFile.FieldType.int)) ∈ m_ws := tb_2 121 rfl rfl
theorem q_430 : (Jvm.Cond.methodLink "OneHandEach" (110 : Nat) ({ cls := "OneHandEach$Town", name := "partAt", desc := "(II)I" } : Jvm.MethodName)) ∈ m_ws := tb_2 122 rfl rfl
theorem q_431 : (Jvm.Cond.instanceMethod ({ cls := "OneHandEach$Town", name := "partAt", desc := "(II)I" } : Jvm.MethodName)) ∈ m_ws := tb_2 123 rfl rfl
theorem q_432 : (Jvm.Cond.selects "OneHandEach$Town" ({ cls := "OneHandEach$Town", name := "partAt", desc := "(II)I" } : Jvm.MethodName) ({ cls := "OneHandEach$Town", name := "partAt", desc := "(II)I" } : Jvm.MethodName)) ∈ m_ws := tb_2 124 rfl rfl
theorem q_433 : (Jvm.Cond.code ({ cls := "OneHandEach$Town", name := "partAt", desc := "(II)I" } : Jvm.MethodName) prog_12_method_10_code (3 : Nat) (Option.some Jvm.ClassFile.FieldType.int)) ∈ m_ws := tb_2 125 rfl rfl
theorem q_434 : (Jvm.Cond.methodLink "OneHandEach$Town" (42 : Nat) ({ cls := "OneHandEach$Town", name := "timeAt", desc := "(II)I" } : Jvm.MethodName)) ∈ m_ws := tb_2 126 rfl rfl
theorem q_435 : (Jvm.Cond.methodLink "OneHandEach$Town" (45 : Nat) ({ cls := "OneHandEach$Town", name := "partOf", desc := "(II)I" } : Jvm.MethodName)) ∈ m_ws := tb_2 127 rfl rfl
theorem q_436 : (Jvm.Cond.static ({ cls := "OneHandEach$Town", name := "partOf", desc := "(II)I" } : Jvm.MethodName)) ∈ m_ws := tb_2 128 rfl rfl
theorem q_437 : (Jvm.Cond.code ({ cls := "OneHandEach$Town", name := "partOf", desc := "(II)I" } : Jvm.MethodName) prog_12_method_8_code (2 : Nat) (Option.some Jvm.ClassFile.FieldType.int)) ∈ m_ws := tb_2 129 rfl rfl
theorem q_438 : (Jvm.Cond.methodLink "OneHandEachLaw" (27 : Nat) ({ cls := "OneHandEach", name := "feed", desc := "(I)I" } : Jvm.MethodName)) ∈ m_ws := tb_2 130 rfl rfl
theorem q_439 : (Jvm.Cond.instanceMethod ({ cls := "OneHandEach", name := "feed", desc := "(I)I" } : Jvm.MethodName)) ∈ m_ws := tb_2 131 rfl rfl
theorem q_440 : (Jvm.Cond.selects "OneHandEach" ({ cls := "OneHandEach", name := "feed", desc := "(I)I" } : Jvm.MethodName) ({ cls := "OneHandEach", name := "feed", desc := "(I)I" } : Jvm.MethodName)) ∈ m_ws := tb_2 132 rfl rfl
theorem q_441 : (Jvm.Cond.code ({ cls := "OneHandEach", name := "feed", desc := "(I)I" } : Jvm.MethodName) prog_1_method_5_code (2 : Nat) (Option.some Jvm.ClassFile.FieldType.int)) ∈ m_ws := tb_2 133 rfl rfl
theorem q_442 : (Jvm.Cond.methodLink "OneHandEach" (113 : Nat) ({ cls := "OneHandEach$Law", name := "takeByte", desc := "(I)I" } : Jvm.MethodName)) ∈ m_ws := tb_2 134 rfl rfl
theorem q_443 : (Jvm.Cond.instanceMethod ({ cls := "OneHandEach$Law", name := "takeByte", desc := "(I)I" } : Jvm.MethodName)) ∈ m_ws := tb_2 135 rfl rfl
theorem q_444 : (Jvm.Cond.selects "OneHandEach$Law" ({ cls := "OneHandEach$Law", name := "takeByte", desc := "(I)I" } : Jvm.MethodName) ({ cls := "OneHandEach$Law", name := "takeByte", desc := "(I)I" } : Jvm.MethodName)) ∈ m_ws := tb_2 136 rfl rfl
theorem q_445 : (Jvm.Cond.code ({ cls := "OneHandEach$Law", name := "takeByte", desc := "(I)I" } : Jvm.MethodName) prog_8_method_2_code (2 : Nat) (Option.some Jvm.ClassFile.FieldType.int)) ∈ m_ws := tb_2 137 rfl rfl
theorem q_446 : (Jvm.Cond.methodLink "OneHandEach$Law" (27 : Nat) ({ cls := "OneHandEach$Reader", name := "takeByte", desc := "(I)I" } : Jvm.MethodName)) ∈ m_ws := tb_2 138 rfl rfl
theorem q_447 : (Jvm.Cond.instanceMethod ({ cls := "OneHandEach$Reader", name := "takeByte", desc := "(I)I" } : Jvm.MethodName)) ∈ m_ws := tb_2 139 rfl rfl
theorem q_448 : (Jvm.Cond.selects "OneHandEach$Reader" ({ cls := "OneHandEach$Reader", name := "takeByte", desc := "(I)I" } : Jvm.MethodName) ({ cls := "OneHandEach$Reader", name := "takeByte", desc := "(I)I" } : Jvm.MethodName)) ∈ m_ws := tb_2 140 rfl rfl
theorem q_449 : (Jvm.Cond.code ({ cls := "OneHandEach$Reader", name := "takeByte", desc := "(I)I" } : Jvm.MethodName) prog_10_method_2_code (2 : Nat) (Option.some Jvm.ClassFile.FieldType.int)) ∈ m_ws := tb_2 141 rfl rfl
theorem q_450 : (Jvm.Cond.methodLink "OneHandEachLaw" (32 : Nat) ({ cls := "OneHandEach", name := "law", desc := "()I" } : Jvm.MethodName)) ∈ m_ws := tb_2 142 rfl rfl
theorem q_451 : (Jvm.Cond.instanceMethod ({ cls := "OneHandEach", name := "law", desc := "()I" } : Jvm.MethodName)) ∈ m_ws := tb_2 143 rfl rfl
theorem q_452 : (Jvm.Cond.selects "OneHandEach" ({ cls := "OneHandEach", name := "law", desc := "()I" } : Jvm.MethodName) ({ cls := "OneHandEach", name := "law", desc := "()I" } : Jvm.MethodName)) ∈ m_ws := tb_2 144 rfl rfl
theorem q_453 : (Jvm.Cond.code ({ cls := "OneHandEach", name := "law", desc := "()I" } : Jvm.MethodName) prog_1_method_6_code (2 : Nat) (Option.some Jvm.ClassFile.FieldType.int)) ∈ m_ws := tb_2 145 rfl rfl
theorem q_454 : (Jvm.Cond.methodLink "OneHandEach" (117 : Nat) ({ cls := "OneHandEach$Law", name := "readTape", desc := "()I" } : Jvm.MethodName)) ∈ m_ws := tb_2 146 rfl rfl
theorem q_455 : (Jvm.Cond.instanceMethod ({ cls := "OneHandEach$Law", name := "readTape", desc := "()I" } : Jvm.MethodName)) ∈ m_ws := tb_2 147 rfl rfl
theorem q_456 : (Jvm.Cond.selects "OneHandEach$Law" ({ cls := "OneHandEach$Law", name := "readTape", desc := "()I" } : Jvm.MethodName) ({ cls := "OneHandEach$Law", name := "readTape", desc := "()I" } : Jvm.MethodName)) ∈ m_ws := tb_2 148 rfl rfl
theorem q_457 : (Jvm.Cond.code ({ cls := "OneHandEach$Law", name := "readTape", desc := "()I" } : Jvm.MethodName) prog_8_method_4_code (3 : Nat) (Option.some Jvm.ClassFile.FieldType.int)) ∈ m_ws := tb_2 149 rfl rfl
theorem q_458 : (Jvm.Cond.methodLink "OneHandEach$Law" (35 : Nat) ({ cls := "OneHandEach$Reader", name := "read", desc := "()I" } : Jvm.MethodName)) ∈ m_ws := tb_2 150 rfl rfl
theorem q_459 : (Jvm.Cond.instanceMethod ({ cls := "OneHandEach$Reader", name := "read", desc := "()I" } : Jvm.MethodName)) ∈ m_ws := tb_2 151 rfl rfl
theorem q_460 : (Jvm.Cond.selects "OneHandEach$Reader" ({ cls := "OneHandEach$Reader", name := "read", desc := "()I" } : Jvm.MethodName) ({ cls := "OneHandEach$Reader", name := "read", desc := "()I" } : Jvm.MethodName)) ∈ m_ws := tb_2 152 rfl rfl
theorem q_461 : (Jvm.Cond.code ({ cls := "OneHandEach$Reader", name := "read", desc := "()I" } : Jvm.MethodName) prog_10_method_3_code (2 : Nat) (Option.some Jvm.ClassFile.FieldType.int)) ∈ m_ws := tb_2 153 rfl rfl
theorem q_462 : (Jvm.Cond.methodLink "OneHandEach$Reader" (33 : Nat) ({ cls := "OneHandEach$Reader", name := "line", desc := "()V" } : Jvm.MethodName)) ∈ m_ws := tb_2 154 rfl rfl
theorem q_464 : (Jvm.Cond.instanceMethod ({ cls := "OneHandEach$Reader", name := "line", desc := "()V" } : Jvm.MethodName)) ∈ m_ws := tb_2 156 rfl rfl
theorem q_465 : (Jvm.Cond.code ({ cls := "OneHandEach$Reader", name := "line", desc := "()V" } : Jvm.MethodName) prog_10_method_6_code (1 : Nat) (Option.none : Option Jvm.ClassFile.FieldType)) ∈ m_ws := tb_2 157 rfl rfl
theorem q_466 : (Jvm.Cond.methodLink "OneHandEach$Reader" (44 : Nat) ({ cls := "OneHandEach$Reader", name := "joined", desc := "(II)V" } : Jvm.MethodName)) ∈ m_ws := tb_2 158 rfl rfl
theorem q_468 : (Jvm.Cond.instanceMethod ({ cls := "OneHandEach$Reader", name := "joined", desc := "(II)V" } : Jvm.MethodName)) ∈ m_ws := tb_2 160 rfl rfl
theorem q_469 : (Jvm.Cond.code ({ cls := "OneHandEach$Reader", name := "joined", desc := "(II)V" } : Jvm.MethodName) prog_10_method_7_code (5 : Nat) (Option.none : Option Jvm.ClassFile.FieldType)) ∈ m_ws := tb_2 161 rfl rfl
theorem q_470 : (Jvm.Cond.methodLink "OneHandEach$Reader" (51 : Nat) ({ cls := "OneHandEach$Reader", name := "operand", desc := "(I)V" } : Jvm.MethodName)) ∈ m_ws := tb_2 162 rfl rfl
theorem q_472 : (Jvm.Cond.instanceMethod ({ cls := "OneHandEach$Reader", name := "operand", desc := "(I)V" } : Jvm.MethodName)) ∈ m_ws := tb_2 164 rfl rfl
theorem q_473 : (Jvm.Cond.code ({ cls := "OneHandEach$Reader", name := "operand", desc := "(I)V" } : Jvm.MethodName) prog_10_method_9_code (3 : Nat) (Option.none : Option Jvm.ClassFile.FieldType)) ∈ m_ws := tb_2 165 rfl rfl
theorem q_474 : (Jvm.Cond.methodLink "OneHandEach$Reader" (40 : Nat) ({ cls := "OneHandEach$Reader", name := "here", desc := "()I" } : Jvm.MethodName)) ∈ m_ws := tb_2 166 rfl rfl
theorem q_476 : (Jvm.Cond.instanceMethod ({ cls := "OneHandEach$Reader", name := "here", desc := "()I" } : Jvm.MethodName)) ∈ m_ws := tb_2 168 rfl rfl
theorem q_477 : (Jvm.Cond.code ({ cls := "OneHandEach$Reader", name := "here", desc := "()I" } : Jvm.MethodName) prog_10_method_4_code (1 : Nat) (Option.some Jvm.ClassFile.FieldType.int)) ∈ m_ws := tb_2 169 rfl rfl
theorem q_478 : (Jvm.Cond.methodLink "OneHandEach$Reader" (59 : Nat) ({ cls := "OneHandEach$Reader", name := "number", desc := "()V" } : Jvm.MethodName)) ∈ m_ws := tb_2 170 rfl rfl
theorem q_480 : (Jvm.Cond.instanceMethod ({ cls := "OneHandEach$Reader", name := "number", desc := "()V" } : Jvm.MethodName)) ∈ m_ws := tb_2 172 rfl rfl
theorem q_481 : (Jvm.Cond.code ({ cls := "OneHandEach$Reader", name := "number", desc := "()V" } : Jvm.MethodName) prog_10_method_11_code (3 : Nat) (Option.none : Option Jvm.ClassFile.FieldType)) ∈ m_ws := tb_2 173 rfl rfl
theorem q_482 : (Jvm.Cond.methodLink "OneHandEach$Reader" (48 : Nat) ({ cls := "OneHandEach$Program", name := "add", desc := "(II)V" } : Jvm.MethodName)) ∈ m_ws := tb_2 174 rfl rfl
theorem q_483 : (Jvm.Cond.instanceMethod ({ cls := "OneHandEach$Program", name := "add", desc := "(II)V" } : Jvm.MethodName)) ∈ m_ws := tb_2 175 rfl rfl
theorem q_484 : (Jvm.Cond.selects "OneHandEach$Program" ({ cls := "OneHandEach$Program", name := "add", desc := "(II)V" } : Jvm.MethodName) ({ cls := "OneHandEach$Program", name := "add", desc := "(II)V" } : Jvm.MethodName)) ∈ m_ws := tb_2 176 rfl rfl
theorem q_485 : (Jvm.Cond.code ({ cls := "OneHandEach$Program", name := "add", desc := "(II)V" } : Jvm.MethodName) prog_9_method_2_code (3 : Nat) (Option.none : Option Jvm.ClassFile.FieldType)) ∈ m_ws := tb_2 177 rfl rfl
theorem q_486 : (Jvm.Cond.methodLink "OneHandEach$Reader" (62 : Nat) ({ cls := "OneHandEach$Reader", name := "close", desc := "()V" } : Jvm.MethodName)) ∈ m_ws := tb_2 178 rfl rfl
theorem q_488 : (Jvm.Cond.instanceMethod ({ cls := "OneHandEach$Reader", name := "close", desc := "()V" } : Jvm.MethodName)) ∈ m_ws := tb_2 180 rfl rfl
theorem q_489 : (Jvm.Cond.code ({ cls := "OneHandEach$Reader", name := "close", desc := "()V" } : Jvm.MethodName) prog_10_method_10_code (1 : Nat) (Option.none : Option Jvm.ClassFile.FieldType)) ∈ m_ws := tb_2 181 rfl rfl
theorem q_490 : (Jvm.Cond.methodLink "OneHandEach$Reader" (36 : Nat) ({ cls := "OneHandEach$Reader", name := "takes", desc := "(I)Z" } : Jvm.MethodName)) ∈ m_ws := tb_2 182 rfl rfl
theorem q_492 : (Jvm.Cond.instanceMethod ({ cls := "OneHandEach$Reader", name := "takes", desc := "(I)Z" } : Jvm.MethodName)) ∈ m_ws := tb_2 184 rfl rfl
theorem q_493 : (Jvm.Cond.code ({ cls := "OneHandEach$Reader", name := "takes", desc := "(I)Z" } : Jvm.MethodName) prog_10_method_5_code (2 : Nat) (Option.some Jvm.ClassFile.FieldType.boolean)) ∈ m_ws := tb_2 185 rfl rfl
theorem q_494 : (Jvm.Cond.methodLink "OneHandEach$Reader" (55 : Nat) ({ cls := "OneHandEach$Reader", name := "rankOf", desc := "(I)I" } : Jvm.MethodName)) ∈ m_ws := tb_2 186 rfl rfl
theorem q_495 : (Jvm.Cond.static ({ cls := "OneHandEach$Reader", name := "rankOf", desc := "(I)I" } : Jvm.MethodName)) ∈ m_ws := tb_2 187 rfl rfl
theorem q_496 : (Jvm.Cond.code ({ cls := "OneHandEach$Reader", name := "rankOf", desc := "(I)I" } : Jvm.MethodName) prog_10_method_8_code (1 : Nat) (Option.some Jvm.ClassFile.FieldType.int)) ∈ m_ws := tb_2 188 rfl rfl
theorem q_497 : (Jvm.Cond.methodLink "OneHandEachLaw" (37 : Nat) ({ cls := "OneHandEach", name := "weight", desc := "(I)I" } : Jvm.MethodName)) ∈ m_ws := tb_2 189 rfl rfl
theorem q_498 : (Jvm.Cond.instanceMethod ({ cls := "OneHandEach", name := "weight", desc := "(I)I" } : Jvm.MethodName)) ∈ m_ws := tb_2 190 rfl rfl
theorem q_499 : (Jvm.Cond.selects "OneHandEach" ({ cls := "OneHandEach", name := "weight", desc := "(I)I" } : Jvm.MethodName) ({ cls := "OneHandEach", name := "weight", desc := "(I)I" } : Jvm.MethodName)) ∈ m_ws := tb_2 191 rfl rfl
theorem q_500 : (Jvm.Cond.code ({ cls := "OneHandEach", name := "weight", desc := "(I)I" } : Jvm.MethodName) prog_1_method_7_code (2 : Nat) (Option.some Jvm.ClassFile.FieldType.int)) ∈ m_ws := tb_2 192 rfl rfl
theorem q_501 : (Jvm.Cond.methodLink "OneHandEach" (121 : Nat) ({ cls := "OneHandEach", name := "isTime", desc := "(I)Z" } : Jvm.MethodName)) ∈ m_ws := tb_2 193 rfl rfl
theorem q_502 : (Jvm.Cond.static ({ cls := "OneHandEach", name := "isTime", desc := "(I)Z" } : Jvm.MethodName)) ∈ m_ws := tb_2 194 rfl rfl
theorem q_503 : (Jvm.Cond.code ({ cls := "OneHandEach", name := "isTime", desc := "(I)Z" } : Jvm.MethodName) prog_1_method_43_code (1 : Nat) (Option.some Jvm.ClassFile.FieldType.boolean)) ∈ m_ws := tb_2 195 rfl rfl
theorem q_504 : (Jvm.Cond.methodLink "OneHandEach" (124 : Nat) ({ cls := "OneHandEach", name := "weightOf", desc := "(I)I" } : Jvm.MethodName)) ∈ m_ws := tb_2 196 rfl rfl
theorem q_506 : (Jvm.Cond.instanceMethod ({ cls := "OneHandEach", name := "weightOf", desc := "(I)I" } : Jvm.MethodName)) ∈ m_ws := tb_2 198 rfl rfl
theorem q_507 : (Jvm.Cond.code ({ cls := "OneHandEach", name := "weightOf", desc := "(I)I" } : Jvm.MethodName) prog_1_method_50_code (2 : Nat) (Option.some Jvm.ClassFile.FieldType.int)) ∈ m_ws := tb_2 199 rfl rfl
theorem q_508 : (Jvm.Cond.methodLink "OneHandEach" (315 : Nat) ({ cls := "OneHandEach$Town", name := "err", desc := "()I" } : Jvm.MethodName)) ∈ m_ws := tb_2 200 rfl rfl
theorem q_509 : (Jvm.Cond.instanceMethod ({ cls := "OneHandEach$Town", name := "err", desc := "()I" } : Jvm.MethodName)) ∈ m_ws := tb_2 201 rfl rfl
theorem q_510 : (Jvm.Cond.selects "OneHandEach$Town" ({ cls := "OneHandEach$Town", name := "err", desc := "()I" } : Jvm.MethodName) ({ cls := "OneHandEach$Town", name := "err", desc := "()I" } : Jvm.MethodName)) ∈ m_ws := tb_2 202 rfl rfl
theorem q_511 : (Jvm.Cond.code ({ cls := "OneHandEach$Town", name := "err", desc := "()I" } : Jvm.MethodName) prog_12_method_6_code (1 : Nat) (Option.some Jvm.ClassFile.FieldType.int)) ∈ m_ws := tb_2 203 rfl rfl
theorem q_512 : (Jvm.Cond.methodLink "OneHandEach" (318 : Nat) ({ cls := "OneHandEach$Law", name := "weightOf", desc := "(III)I" } : Jvm.MethodName)) ∈ m_ws := tb_2 204 rfl rfl
theorem q_513 : (Jvm.Cond.instanceMethod ({ cls := "OneHandEach$Law", name := "weightOf", desc := "(III)I" } : Jvm.MethodName)) ∈ m_ws := tb_2 205 rfl rfl
theorem q_514 : (Jvm.Cond.selects "OneHandEach$Law" ({ cls := "OneHandEach$Law", name := "weightOf", desc := "(III)I" } : Jvm.MethodName) ({ cls := "OneHandEach$Law", name := "weightOf", desc := "(III)I" } : Jvm.MethodName)) ∈ m_ws := tb_2 206 rfl rfl
theorem q_515 : (Jvm.Cond.code ({ cls := "OneHandEach$Law", name := "weightOf", desc := "(III)I" } : Jvm.MethodName) prog_8_method_5_code (4 : Nat) (Option.some Jvm.ClassFile.FieldType.int)) ∈ m_ws := tb_2 207 rfl rfl
theorem q_516 : (Jvm.Cond.methodLink "OneHandEach$Law" (46 : Nat) ({ cls := "OneHandEach$Law", name := "valueOf", desc := "(III)I" } : Jvm.MethodName)) ∈ m_ws := tb_2 208 rfl rfl
theorem q_518 : (Jvm.Cond.instanceMethod ({ cls := "OneHandEach$Law", name := "valueOf", desc := "(III)I" } : Jvm.MethodName)) ∈ m_ws := tb_2 210 rfl rfl
theorem q_519 : (Jvm.Cond.code ({ cls := "OneHandEach$Law", name := "valueOf", desc := "(III)I" } : Jvm.MethodName) prog_8_method_6_code (8 : Nat) (Option.some Jvm.ClassFile.FieldType.int)) ∈ m_ws := tb_2 211 rfl rfl
theorem q_520 : (Jvm.Cond.methodLink "OneHandEach$Law" (56 : Nat) ({ cls := "java/lang/Math", name := "max", desc := "(II)I" } : Jvm.MethodName)) ∈ m_ws := tb_2 212 rfl rfl
theorem q_521 : (Jvm.Cond.static ({ cls := "java/lang/Math", name := "max", desc := "(II)I" } : Jvm.MethodName)) ∈ m_ws := tb_2 213 rfl rfl
theorem q_522 : (Jvm.Cond.code ({ cls := "java/lang/Math", name := "max", desc := "(II)I" } : Jvm.MethodName) prog_16_method_65_code (2 : Nat) (Option.some Jvm.ClassFile.FieldType.int)) ∈ m_ws := tb_2 214 rfl rfl
theorem q_523 : (Jvm.Cond.methodLink "OneHandEach$Law" (63 : Nat) ({ cls := "OneHandEach$Law", name := "isName", desc := "(I)Z" } : Jvm.MethodName)) ∈ m_ws := tb_2 215 rfl rfl
theorem q_524 : (Jvm.Cond.static ({ cls := "OneHandEach$Law", name := "isName", desc := "(I)Z" } : Jvm.MethodName)) ∈ m_ws := tb_2 216 rfl rfl
theorem q_525 : (Jvm.Cond.code ({ cls := "OneHandEach$Law", name := "isName", desc := "(I)Z" } : Jvm.MethodName) prog_8_method_7_code (1 : Nat) (Option.some Jvm.ClassFile.FieldType.boolean)) ∈ m_ws := tb_2 217 rfl rfl
theorem q_526 : (Jvm.Cond.methodLink "OneHandEach$Law" (67 : Nat) ({ cls := "OneHandEach$Law", name := "named", desc := "(IIII)I" } : Jvm.MethodName)) ∈ m_ws := tb_2 218 rfl rfl
theorem q_527 : (Jvm.Cond.static ({ cls := "OneHandEach$Law", name := "named", desc := "(IIII)I" } : Jvm.MethodName)) ∈ m_ws := tb_2 219 rfl rfl
theorem q_528 : (Jvm.Cond.code ({ cls := "OneHandEach$Law", name := "named", desc := "(IIII)I" } : Jvm.MethodName) prog_8_method_8_code (4 : Nat) (Option.some Jvm.ClassFile.FieldType.int)) ∈ m_ws := tb_2 220 rfl rfl
theorem q_529 : (Jvm.Cond.methodLink "OneHandEach$Law" (71 : Nat) ({ cls := "OneHandEach$Law", name := "push", desc := "(II)I" } : Jvm.MethodName)) ∈ m_ws := tb_2 221 rfl rfl
theorem q_531 : (Jvm.Cond.instanceMethod ({ cls := "OneHandEach$Law", name := "push", desc := "(II)I" } : Jvm.MethodName)) ∈ m_ws := tb_2 223 rfl rfl
theorem q_532 : (Jvm.Cond.code ({ cls := "OneHandEach$Law", name := "push", desc := "(II)I" } : Jvm.MethodName) prog_8_method_9_code (3 : Nat) (Option.some Jvm.ClassFile.FieldType.int)) ∈ m_ws := tb_2 224 rfl rfl
theorem q_533 : (Jvm.Cond.methodLink "OneHandEach$Law" (77 : Nat) ({ cls := "OneHandEach$Law", name := "workOut", desc := "(II)I" } : Jvm.MethodName)) ∈ m_ws := tb_2 225 rfl rfl
theorem q_535 : (Jvm.Cond.instanceMethod ({ cls := "OneHandEach$Law", name := "workOut", desc := "(II)I" } : Jvm.MethodName)) ∈ m_ws := tb_2 227 rfl rfl
theorem q_536 : (Jvm.Cond.code ({ cls := "OneHandEach$Law", name := "workOut", desc := "(II)I" } : Jvm.MethodName) prog_8_method_10_code (4 : Nat) (Option.some Jvm.ClassFile.FieldType.int)) ∈ m_ws := tb_2 228 rfl rfl
theorem q_537 : (Jvm.Cond.methodLink "OneHandEach$Law" (80 : Nat) ({ cls := "OneHandEach$Law", name := "joined", desc := "(III)I" } : Jvm.MethodName)) ∈ m_ws := tb_2 229 rfl rfl
theorem q_538 : (Jvm.Cond.static ({ cls := "OneHandEach$Law", name := "joined", desc := "(III)I" } : Jvm.MethodName)) ∈ m_ws := tb_2 230 rfl rfl
theorem q_539 : (Jvm.Cond.code ({ cls := "OneHandEach$Law", name := "joined", desc := "(III)I" } : Jvm.MethodName) prog_8_method_11_code (3 : Nat) (Option.some Jvm.ClassFile.FieldType.int)) ∈ m_ws := tb_2 231 rfl rfl
theorem q_540 : (Jvm.Cond.methodLink "OneHandEach$Law" (50 : Nat) ({ cls := "java/lang/Math", name := "min", desc := "(II)I" } : Jvm.MethodName)) ∈ m_ws := tb_2 232 rfl rfl
theorem q_541 : (Jvm.Cond.static ({ cls := "java/lang/Math", name := "min", desc := "(II)I" } : Jvm.MethodName)) ∈ m_ws := tb_2 233 rfl rfl
theorem q_542 : (Jvm.Cond.code ({ cls := "java/lang/Math", name := "min", desc := "(II)I" } : Jvm.MethodName) prog_16_method_69_code (2 : Nat) (Option.some Jvm.ClassFile.FieldType.int)) ∈ m_ws := tb_2 234 rfl rfl
theorem q_543 : (Jvm.Cond.methodLink "OneHandEachLaw" (41 : Nat) ({ cls := "OneHandEach", name := "sight", desc := "(II)I" } : Jvm.MethodName)) ∈ m_ws := tb_2 235 rfl rfl
theorem q_544 : (Jvm.Cond.instanceMethod ({ cls := "OneHandEach", name := "sight", desc := "(II)I" } : Jvm.MethodName)) ∈ m_ws := tb_2 236 rfl rfl
theorem q_545 : (Jvm.Cond.selects "OneHandEach" ({ cls := "OneHandEach", name := "sight", desc := "(II)I" } : Jvm.MethodName) ({ cls := "OneHandEach", name := "sight", desc := "(II)I" } : Jvm.MethodName)) ∈ m_ws := tb_2 237 rfl rfl
theorem q_546 : (Jvm.Cond.code ({ cls := "OneHandEach", name := "sight", desc := "(II)I" } : Jvm.MethodName) prog_1_method_8_code (3 : Nat) (Option.some Jvm.ClassFile.FieldType.int)) ∈ m_ws := tb_2 238 rfl rfl
theorem q_547 : (Jvm.Cond.methodLink "OneHandEach" (127 : Nat) ({ cls := "OneHandEach", name := "isSight", desc := "(IIII)Z" } : Jvm.MethodName)) ∈ m_ws := tb_2 239 rfl rfl
theorem q_548 : (Jvm.Cond.static ({ cls := "OneHandEach", name := "isSight", desc := "(IIII)Z" } : Jvm.MethodName)) ∈ m_ws := tb_3 0 rfl rfl
theorem q_549 : (Jvm.Cond.code ({ cls := "OneHandEach", name := "isSight", desc := "(IIII)Z" } : Jvm.MethodName) prog_1_method_47_code (4 : Nat) (Option.some Jvm.ClassFile.FieldType.boolean)) ∈ m_ws := tb_3 1 rfl rfl
theorem q_550 : (Jvm.Cond.methodLink "OneHandEach" (193 : Nat) ({ cls := "OneHandEach", name := "isPart", desc := "(I)Z" } : Jvm.MethodName)) ∈ m_ws := tb_3 2 rfl rfl
theorem q_551 : (Jvm.Cond.static ({ cls := "OneHandEach", name := "isPart", desc := "(I)Z" } : Jvm.MethodName)) ∈ m_ws := tb_3 3 rfl rfl
theorem q_552 : (Jvm.Cond.code ({ cls := "OneHandEach", name := "isPart", desc := "(I)Z" } : Jvm.MethodName) prog_1_method_44_code (1 : Nat) (Option.some Jvm.ClassFile.FieldType.boolean)) ∈ m_ws := tb_3 4 rfl rfl
theorem q_553 : (Jvm.Cond.methodLink "OneHandEach" (131 : Nat) ({ cls := "OneHandEach$Entries", name := "isFull", desc := "()Z" } : Jvm.MethodName)) ∈ m_ws := tb_3 5 rfl rfl
theorem q_554 : (Jvm.Cond.instanceMethod ({ cls := "OneHandEach$Entries", name := "isFull", desc := "()Z" } : Jvm.MethodName)) ∈ m_ws := tb_3 6 rfl rfl
theorem q_555 : (Jvm.Cond.selects "OneHandEach$Entries" ({ cls := "OneHandEach$Entries", name := "isFull", desc := "()Z" } : Jvm.MethodName) ({ cls := "OneHandEach$Entries", name := "isFull", desc := "()Z" } : Jvm.MethodName)) ∈ m_ws := tb_3 7 rfl rfl
theorem q_556 : (Jvm.Cond.code ({ cls := "OneHandEach$Entries", name := "isFull", desc := "()Z" } : Jvm.MethodName) prog_4_method_2_code (1 : Nat) (Option.some Jvm.ClassFile.FieldType.boolean)) ∈ m_ws := tb_3 8 rfl rfl
theorem q_557 : (Jvm.Cond.methodLink "OneHandEach" (135 : Nat) ({ cls := "OneHandEach$Entries", name := "add", desc := "(IIII)I" } : Jvm.MethodName)) ∈ m_ws := tb_3 9 rfl rfl
theorem q_558 : (Jvm.Cond.instanceMethod ({ cls := "OneHandEach$Entries", name := "add", desc := "(IIII)I" } : Jvm.MethodName)) ∈ m_ws := tb_3 10 rfl rfl
theorem q_559 : (Jvm.Cond.selects "OneHandEach$Entries" ({ cls := "OneHandEach$Entries", name := "add", desc := "(IIII)I" } : Jvm.MethodName) ({ cls := "OneHandEach$Entries", name := "add", desc := "(IIII)I" } : Jvm.MethodName)) ∈ m_ws := tb_3 11 rfl rfl
theorem q_560 : (Jvm.Cond.code ({ cls := "OneHandEach$Entries", name := "add", desc := "(IIII)I" } : Jvm.MethodName) prog_4_method_3_code (5 : Nat) (Option.some Jvm.ClassFile.FieldType.int)) ∈ m_ws := tb_3 12 rfl rfl
theorem q_561 : (Jvm.Cond.methodLink "OneHandEach$Entries" (25 : Nat) ({ cls := "OneHandEach$Entries", name := "isFull", desc := "()Z" } : Jvm.MethodName)) ∈ m_ws := tb_3 13 rfl rfl
theorem q_562 : (Jvm.Cond.methodLink "OneHandEach$Entries" (29 : Nat) ({ cls := "OneHandEach$Entries", name := "lay", desc := "(II)V" } : Jvm.MethodName)) ∈ m_ws := tb_3 14 rfl rfl
theorem q_564 : (Jvm.Cond.instanceMethod ({ cls := "OneHandEach$Entries", name := "lay", desc := "(II)V" } : Jvm.MethodName)) ∈ m_ws := tb_3 16 rfl rfl
theorem q_565 : (Jvm.Cond.code ({ cls := "OneHandEach$Entries", name := "lay", desc := "(II)V" } : Jvm.MethodName) prog_4_method_4_code (3 : Nat) (Option.none : Option Jvm.ClassFile.FieldType)) ∈ m_ws := tb_3 17 rfl rfl
theorem q_566 : (Jvm.Cond.methodLink "OneHandEachLaw" (45 : Nat) ({ cls := "OneHandEach", name := "sights", desc := "(III)I" } : Jvm.MethodName)) ∈ m_ws := tb_3 18 rfl rfl
theorem q_567 : (Jvm.Cond.instanceMethod ({ cls := "OneHandEach", name := "sights", desc := "(III)I" } : Jvm.MethodName)) ∈ m_ws := tb_3 19 rfl rfl
theorem q_568 : (Jvm.Cond.selects "OneHandEach" ({ cls := "OneHandEach", name := "sights", desc := "(III)I" } : Jvm.MethodName) ({ cls := "OneHandEach", name := "sights", desc := "(III)I" } : Jvm.MethodName)) ∈ m_ws := tb_3 20 rfl rfl
theorem q_569 : (Jvm.Cond.code ({ cls := "OneHandEach", name := "sights", desc := "(III)I" } : Jvm.MethodName) prog_1_method_9_code (5 : Nat) (Option.some Jvm.ClassFile.FieldType.int)) ∈ m_ws := tb_3 21 rfl rfl
theorem q_570 : (Jvm.Cond.methodLink "OneHandEach" (138 : Nat) ({ cls := "OneHandEach", name := "isShelf", desc := "(I)Z" } : Jvm.MethodName)) ∈ m_ws := tb_3 22 rfl rfl
theorem q_571 : (Jvm.Cond.static ({ cls := "OneHandEach", name := "isShelf", desc := "(I)Z" } : Jvm.MethodName)) ∈ m_ws := tb_3 23 rfl rfl
theorem q_572 : (Jvm.Cond.code ({ cls := "OneHandEach", name := "isShelf", desc := "(I)Z" } : Jvm.MethodName) prog_1_method_45_code (1 : Nat) (Option.some Jvm.ClassFile.FieldType.boolean)) ∈ m_ws := tb_3 24 rfl rfl
theorem q_573 : (Jvm.Cond.methodLink "OneHandEach" (145 : Nat) ({ cls := "OneHandEach$Shelf", name := "holdsRow", desc := "(I)Z" } : Jvm.MethodName)) ∈ m_ws := tb_3 25 rfl rfl
theorem q_574 : (Jvm.Cond.instanceMethod ({ cls := "OneHandEach$Shelf", name := "holdsRow", desc := "(I)Z" } : Jvm.MethodName)) ∈ m_ws := tb_3 26 rfl rfl
theorem q_575 : (Jvm.Cond.selects "OneHandEach$Shelf" ({ cls := "OneHandEach$Shelf", name := "holdsRow", desc := "(I)Z" } : Jvm.MethodName) ({ cls := "OneHandEach$Shelf", name := "holdsRow", desc := "(I)Z" } : Jvm.MethodName)) ∈ m_ws := tb_3 27 rfl rfl
theorem q_576 : (Jvm.Cond.code ({ cls := "OneHandEach$Shelf", name := "holdsRow", desc := "(I)Z" } : Jvm.MethodName) prog_11_method_2_code (2 : Nat) (Option.some Jvm.ClassFile.FieldType.boolean)) ∈ m_ws := tb_3 28 rfl rfl
theorem q_577 : (Jvm.Cond.methodLink "OneHandEach" (148 : Nat) ({ cls := "OneHandEach", name := "sightsFrom", desc := "(LOneHandEach$Shelf;II)I" } : Jvm.MethodName)) ∈ m_ws := tb_3 29 rfl rfl
theorem q_579 : (Jvm.Cond.instanceMethod ({ cls := "OneHandEach", name := "sightsFrom", desc := "(LOneHandEach$Shelf;II)I" } : Jvm.MethodName)) ∈ m_ws := tb_3 31 rfl rfl
theorem q_580 : (Jvm.Cond.code ({ cls := "OneHandEach", name := "sightsFrom", desc := "(LOneHandEach$Shelf;II)I" } : Jvm.MethodName) prog_1_method_52_code (10 : Nat) (Option.some Jvm.ClassFile.FieldType.int)) ∈ m_ws := tb_3 32 rfl rfl
theorem q_581 : (Jvm.Cond.methodLink "OneHandEachLaw" (49 : Nat) ({ cls := "OneHandEach", name := "forget", desc := "()I" } : Jvm.MethodName)) ∈ m_ws := tb_3 33 rfl rfl
theorem q_582 : (Jvm.Cond.instanceMethod ({ cls := "OneHandEach", name := "forget", desc := "()I" } : Jvm.MethodName)) ∈ m_ws := tb_3 34 rfl rfl
theorem q_583 : (Jvm.Cond.selects "OneHandEach" ({ cls := "OneHandEach", name := "forget", desc := "()I" } : Jvm.MethodName) ({ cls := "OneHandEach", name := "forget", desc := "()I" } : Jvm.MethodName)) ∈ m_ws := tb_3 35 rfl rfl
theorem q_584 : (Jvm.Cond.code ({ cls := "OneHandEach", name := "forget", desc := "()I" } : Jvm.MethodName) prog_1_method_10_code (1 : Nat) (Option.some Jvm.ClassFile.FieldType.int)) ∈ m_ws := tb_3 36 rfl rfl
theorem q_585 : (Jvm.Cond.methodLink "OneHandEachLaw" (53 : Nat) ({ cls := "OneHandEach", name := "fits", desc := "(I)I" } : Jvm.MethodName)) ∈ m_ws := tb_3 37 rfl rfl
theorem q_586 : (Jvm.Cond.instanceMethod ({ cls := "OneHandEach", name := "fits", desc := "(I)I" } : Jvm.MethodName)) ∈ m_ws := tb_3 38 rfl rfl
theorem q_587 : (Jvm.Cond.selects "OneHandEach" ({ cls := "OneHandEach", name := "fits", desc := "(I)I" } : Jvm.MethodName) ({ cls := "OneHandEach", name := "fits", desc := "(I)I" } : Jvm.MethodName)) ∈ m_ws := tb_3 39 rfl rfl
theorem q_588 : (Jvm.Cond.code ({ cls := "OneHandEach", name := "fits", desc := "(I)I" } : Jvm.MethodName) prog_1_method_11_code (2 : Nat) (Option.some Jvm.ClassFile.FieldType.int)) ∈ m_ws := tb_3 40 rfl rfl
theorem q_589 : (Jvm.Cond.methodLink "OneHandEach" (155 : Nat) ({ cls := "OneHandEach$Fitting", name := "findAll", desc := "(LOneHandEach$Town;LOneHandEach$Entries;I)V" } : Jvm.MethodName)) ∈ m_ws := tb_3 41 rfl rfl
theorem q_590 : (Jvm.Cond.instanceMethod ({ cls := "OneHandEach$Fitting", name := "findAll", desc := "(LOneHandEach$Town;LOneHandEach$Entries;I)V" } : Jvm.MethodName)) ∈ m_ws := tb_3 42 rfl rfl
theorem q_591 : (Jvm.Cond.selects "OneHandEach$Fitting" ({ cls := "OneHandEach$Fitting", name := "findAll", desc := "(LOneHandEach$Town;LOneHandEach$Entries;I)V" } : Jvm.MethodName) ({ cls := "OneHandEach$Fitting", name := "findAll", desc := "(LOneHandEach$Town;LOneHandEach$Entries;I)V" } : Jvm.MethodName)) ∈ m_ws := tb_3 43 rfl rfl
theorem q_592 : (Jvm.Cond.code ({ cls := "OneHandEach$Fitting", name := "findAll", desc := "(LOneHandEach$Town;LOneHandEach$Entries;I)V" } : Jvm.MethodName) prog_5_method_2_code (5 : Nat) (Option.none : Option Jvm.ClassFile.FieldType)) ∈ m_ws := tb_3 44 rfl rfl
theorem q_593 : (Jvm.Cond.methodLink "OneHandEach$Fitting" (22 : Nat) ({ cls := "OneHandEach$Fitting", name := "startAnew", desc := "()V" } : Jvm.MethodName)) ∈ m_ws := tb_3 45 rfl rfl
theorem q_595 : (Jvm.Cond.instanceMethod ({ cls := "OneHandEach$Fitting", name := "startAnew", desc := "()V" } : Jvm.MethodName)) ∈ m_ws := tb_3 47 rfl rfl
theorem q_596 : (Jvm.Cond.code ({ cls := "OneHandEach$Fitting", name := "startAnew", desc := "()V" } : Jvm.MethodName) prog_5_method_4_code (2 : Nat) (Option.none : Option Jvm.ClassFile.FieldType)) ∈ m_ws := tb_3 48 rfl rfl
theorem q_597 : (Jvm.Cond.methodLink "OneHandEach$Fitting" (31 : Nat) ({ cls := "OneHandEach$Entries", name := "told", desc := "(II)I" } : Jvm.MethodName)) ∈ m_ws := tb_3 49 rfl rfl
theorem q_598 : (Jvm.Cond.methodLink "OneHandEach$Fitting" (35 : Nat) ({ cls := "OneHandEach$Fitting", name := "strike", desc := "(LOneHandEach$Town;IIII)V" } : Jvm.MethodName)) ∈ m_ws := tb_3 50 rfl rfl
theorem q_600 : (Jvm.Cond.instanceMethod ({ cls := "OneHandEach$Fitting", name := "strike", desc := "(LOneHandEach$Town;IIII)V" } : Jvm.MethodName)) ∈ m_ws := tb_3 52 rfl rfl
theorem q_601 : (Jvm.Cond.code ({ cls := "OneHandEach$Fitting", name := "strike", desc := "(LOneHandEach$Town;IIII)V" } : Jvm.MethodName) prog_5_method_5_code (8 : Nat) (Option.none : Option Jvm.ClassFile.FieldType)) ∈ m_ws := tb_3 53 rfl rfl
theorem q_603 : (Jvm.Cond.methodLink "OneHandEach$Fitting" (39 : Nat) ({ cls := "OneHandEach$Town", name := "partAt", desc := "(II)I" } : Jvm.MethodName)) ∈ m_ws := tb_3 55 rfl rfl
theorem q_604 : (Jvm.Cond.methodLink "OneHandEach$Fitting" (55 : Nat) ({ cls := "OneHandEach$Town", name := "isNear", desc := "(II)Z" } : Jvm.MethodName)) ∈ m_ws := tb_3 56 rfl rfl
theorem q_605 : (Jvm.Cond.instanceMethod ({ cls := "OneHandEach$Town", name := "isNear", desc := "(II)Z" } : Jvm.MethodName)) ∈ m_ws := tb_3 57 rfl rfl
theorem q_606 : (Jvm.Cond.selects "OneHandEach$Town" ({ cls := "OneHandEach$Town", name := "isNear", desc := "(II)Z" } : Jvm.MethodName) ({ cls := "OneHandEach$Town", name := "isNear", desc := "(II)Z" } : Jvm.MethodName)) ∈ m_ws := tb_3 58 rfl rfl
theorem q_607 : (Jvm.Cond.code ({ cls := "OneHandEach$Town", name := "isNear", desc := "(II)Z" } : Jvm.MethodName) prog_12_method_11_code (4 : Nat) (Option.some Jvm.ClassFile.FieldType.boolean)) ∈ m_ws := tb_3 59 rfl rfl
theorem q_608 : (Jvm.Cond.methodLink "OneHandEach$Town" (48 : Nat) ({ cls := "java/lang/Math", name := "abs", desc := "(I)I" } : Jvm.MethodName)) ∈ m_ws := tb_3 60 rfl rfl
theorem q_609 : (Jvm.Cond.static ({ cls := "java/lang/Math", name := "abs", desc := "(I)I" } : Jvm.MethodName)) ∈ m_ws := tb_3 61 rfl rfl
theorem q_610 : (Jvm.Cond.code ({ cls := "java/lang/Math", name := "abs", desc := "(I)I" } : Jvm.MethodName) prog_16_method_59_code (1 : Nat) (Option.some Jvm.ClassFile.FieldType.int)) ∈ m_ws := tb_3 62 rfl rfl
theorem q_611 : (Jvm.Cond.methodLink "OneHandEach$Town" (51 : Nat) ({ cls := "java/lang/Math", name := "min", desc := "(II)I" } : Jvm.MethodName)) ∈ m_ws := tb_3 63 rfl rfl
theorem q_612 : (Jvm.Cond.methodLink "OneHandEach" (159 : Nat) ({ cls := "OneHandEach$Fitting", name := "howMany", desc := "()I" } : Jvm.MethodName)) ∈ m_ws := tb_3 64 rfl rfl
theorem q_613 : (Jvm.Cond.instanceMethod ({ cls := "OneHandEach$Fitting", name := "howMany", desc := "()I" } : Jvm.MethodName)) ∈ m_ws := tb_3 65 rfl rfl
theorem q_614 : (Jvm.Cond.selects "OneHandEach$Fitting" ({ cls := "OneHandEach$Fitting", name := "howMany", desc := "()I" } : Jvm.MethodName) ({ cls := "OneHandEach$Fitting", name := "howMany", desc := "()I" } : Jvm.MethodName)) ∈ m_ws := tb_3 66 rfl rfl
theorem q_615 : (Jvm.Cond.code ({ cls := "OneHandEach$Fitting", name := "howMany", desc := "()I" } : Jvm.MethodName) prog_5_method_6_code (3 : Nat) (Option.some Jvm.ClassFile.FieldType.int)) ∈ m_ws := tb_3 67 rfl rfl
theorem q_616 : (Jvm.Cond.methodLink "OneHandEach" (162 : Nat) ({ cls := "OneHandEach$Fitting", name := "timeOf", desc := "(I)I" } : Jvm.MethodName)) ∈ m_ws := tb_3 68 rfl rfl
theorem q_617 : (Jvm.Cond.instanceMethod ({ cls := "OneHandEach$Fitting", name := "timeOf", desc := "(I)I" } : Jvm.MethodName)) ∈ m_ws := tb_3 69 rfl rfl
theorem q_618 : (Jvm.Cond.selects "OneHandEach$Fitting" ({ cls := "OneHandEach$Fitting", name := "timeOf", desc := "(I)I" } : Jvm.MethodName) ({ cls := "OneHandEach$Fitting", name := "timeOf", desc := "(I)I" } : Jvm.MethodName)) ∈ m_ws := tb_3 70 rfl rfl
theorem q_619 : (Jvm.Cond.code ({ cls := "OneHandEach$Fitting", name := "timeOf", desc := "(I)I" } : Jvm.MethodName) prog_5_method_7_code (4 : Nat) (Option.some Jvm.ClassFile.FieldType.int)) ∈ m_ws := tb_3 71 rfl rfl
theorem q_620 : (Jvm.Cond.methodLink "OneHandEachLaw" (57 : Nat) ({ cls := "OneHandEach", name := "chance", desc := "(II)I" } : Jvm.MethodName)) ∈ m_ws := tb_3 72 rfl rfl
theorem q_621 : (Jvm.Cond.instanceMethod ({ cls := "OneHandEach", name := "chance", desc := "(II)I" } : Jvm.MethodName)) ∈ m_ws := tb_3 73 rfl rfl
theorem q_622 : (Jvm.Cond.selects "OneHandEach" ({ cls := "OneHandEach", name := "chance", desc := "(II)I" } : Jvm.MethodName) ({ cls := "OneHandEach", name := "chance", desc := "(II)I" } : Jvm.MethodName)) ∈ m_ws := tb_3 74 rfl rfl
theorem q_623 : (Jvm.Cond.code ({ cls := "OneHandEach", name := "chance", desc := "(II)I" } : Jvm.MethodName) prog_1_method_12_code (8 : Nat) (Option.some Jvm.ClassFile.FieldType.int)) ∈ m_ws := tb_3 75 rfl rfl
theorem q_624 : (Jvm.Cond.methodLink "OneHandEach" (165 : Nat) ({ cls := "OneHandEach", name := "weightOfFits", desc := "(II)I" } : Jvm.MethodName)) ∈ m_ws := tb_3 76 rfl rfl
theorem q_626 : (Jvm.Cond.instanceMethod ({ cls := "OneHandEach", name := "weightOfFits", desc := "(II)I" } : Jvm.MethodName)) ∈ m_ws := tb_3 78 rfl rfl
theorem q_627 : (Jvm.Cond.code ({ cls := "OneHandEach", name := "weightOfFits", desc := "(II)I" } : Jvm.MethodName) prog_1_method_51_code (5 : Nat) (Option.some Jvm.ClassFile.FieldType.int)) ∈ m_ws := tb_3 79 rfl rfl
theorem q_628 : (Jvm.Cond.methodLink "OneHandEach" (168 : Nat) ({ cls := "OneHandEach", name := "commonMeasure", desc := "(II)I" } : Jvm.MethodName)) ∈ m_ws := tb_3 80 rfl rfl
theorem q_629 : (Jvm.Cond.static ({ cls := "OneHandEach", name := "commonMeasure", desc := "(II)I" } : Jvm.MethodName)) ∈ m_ws := tb_3 81 rfl rfl
theorem q_630 : (Jvm.Cond.code ({ cls := "OneHandEach", name := "commonMeasure", desc := "(II)I" } : Jvm.MethodName) prog_1_method_49_code (6 : Nat) (Option.some Jvm.ClassFile.FieldType.int)) ∈ m_ws := tb_3 82 rfl rfl
theorem q_631 : (Jvm.Cond.methodLink "OneHandEachLaw" (61 : Nat) ({ cls := "OneHandEach", name := "likely", desc := "()I" } : Jvm.MethodName)) ∈ m_ws := tb_3 83 rfl rfl
theorem q_632 : (Jvm.Cond.instanceMethod ({ cls := "OneHandEach", name := "likely", desc := "()I" } : Jvm.MethodName)) ∈ m_ws := tb_3 84 rfl rfl
theorem q_633 : (Jvm.Cond.selects "OneHandEach" ({ cls := "OneHandEach", name := "likely", desc := "()I" } : Jvm.MethodName) ({ cls := "OneHandEach", name := "likely", desc := "()I" } : Jvm.MethodName)) ∈ m_ws := tb_3 85 rfl rfl
theorem q_634 : (Jvm.Cond.code ({ cls := "OneHandEach", name := "likely", desc := "()I" } : Jvm.MethodName) prog_1_method_13_code (5 : Nat) (Option.some Jvm.ClassFile.FieldType.int)) ∈ m_ws := tb_3 86 rfl rfl
theorem q_635 : (Jvm.Cond.methodLink "OneHandEachLaw" (65 : Nat) ({ cls := "OneHandEach", name := "tells", desc := "(I)I" } : Jvm.MethodName)) ∈ m_ws := tb_3 87 rfl rfl
theorem q_636 : (Jvm.Cond.instanceMethod ({ cls := "OneHandEach", name := "tells", desc := "(I)I" } : Jvm.MethodName)) ∈ m_ws := tb_3 88 rfl rfl
theorem q_637 : (Jvm.Cond.selects "OneHandEach" ({ cls := "OneHandEach", name := "tells", desc := "(I)I" } : Jvm.MethodName) ({ cls := "OneHandEach", name := "tells", desc := "(I)I" } : Jvm.MethodName)) ∈ m_ws := tb_3 89 rfl rfl
theorem q_638 : (Jvm.Cond.code ({ cls := "OneHandEach", name := "tells", desc := "(I)I" } : Jvm.MethodName) prog_1_method_14_code (3 : Nat) (Option.some Jvm.ClassFile.FieldType.int)) ∈ m_ws := tb_3 90 rfl rfl
theorem q_639 : (Jvm.Cond.methodLink "OneHandEachLaw" (69 : Nat) ({ cls := "OneHandEach", name := "next", desc := "(II)I" } : Jvm.MethodName)) ∈ m_ws := tb_3 91 rfl rfl
theorem q_640 : (Jvm.Cond.instanceMethod ({ cls := "OneHandEach", name := "next", desc := "(II)I" } : Jvm.MethodName)) ∈ m_ws := tb_3 92 rfl rfl
theorem q_641 : (Jvm.Cond.selects "OneHandEach" ({ cls := "OneHandEach", name := "next", desc := "(II)I" } : Jvm.MethodName) ({ cls := "OneHandEach", name := "next", desc := "(II)I" } : Jvm.MethodName)) ∈ m_ws := tb_3 93 rfl rfl
theorem q_642 : (Jvm.Cond.code ({ cls := "OneHandEach", name := "next", desc := "(II)I" } : Jvm.MethodName) prog_1_method_15_code (6 : Nat) (Option.some Jvm.ClassFile.FieldType.int)) ∈ m_ws := tb_3 94 rfl rfl
theorem q_643 : (Jvm.Cond.methodLink "OneHandEach" (175 : Nat) ({ cls := "OneHandEach$Fitting", name := "mostAlike", desc := "(LOneHandEach$Town;II)I" } : Jvm.MethodName)) ∈ m_ws := tb_3 95 rfl rfl
theorem q_644 : (Jvm.Cond.instanceMethod ({ cls := "OneHandEach$Fitting", name := "mostAlike", desc := "(LOneHandEach$Town;II)I" } : Jvm.MethodName)) ∈ m_ws := tb_3 96 rfl rfl
theorem q_645 : (Jvm.Cond.selects "OneHandEach$Fitting" ({ cls := "OneHandEach$Fitting", name := "mostAlike", desc := "(LOneHandEach$Town;II)I" } : Jvm.MethodName) ({ cls := "OneHandEach$Fitting", name := "mostAlike", desc := "(LOneHandEach$Town;II)I" } : Jvm.MethodName)) ∈ m_ws := tb_3 97 rfl rfl
theorem q_646 : (Jvm.Cond.code ({ cls := "OneHandEach$Fitting", name := "mostAlike", desc := "(LOneHandEach$Town;II)I" } : Jvm.MethodName) prog_5_method_8_code (7 : Nat) (Option.some Jvm.ClassFile.FieldType.int)) ∈ m_ws := tb_3 98 rfl rfl
theorem q_648 : (Jvm.Cond.methodLink "OneHandEach$Fitting" (63 : Nat) ({ cls := "java/lang/Math", name := "max", desc := "(II)I" } : Jvm.MethodName)) ∈ m_ws := tb_3 100 rfl rfl
theorem q_649 : (Jvm.Cond.methodLink "OneHandEach" (179 : Nat) ({ cls := "java/lang/Math", name := "min", desc := "(II)I" } : Jvm.MethodName)) ∈ m_ws := tb_3 101 rfl rfl
theorem q_650 : (Jvm.Cond.methodLink "OneHandEachLaw" (73 : Nat) ({ cls := "OneHandEach", name := "lot", desc := "(III)I" } : Jvm.MethodName)) ∈ m_ws := tb_3 102 rfl rfl
theorem q_651 : (Jvm.Cond.instanceMethod ({ cls := "OneHandEach", name := "lot", desc := "(III)I" } : Jvm.MethodName)) ∈ m_ws := tb_3 103 rfl rfl
theorem q_652 : (Jvm.Cond.selects "OneHandEach" ({ cls := "OneHandEach", name := "lot", desc := "(III)I" } : Jvm.MethodName) ({ cls := "OneHandEach", name := "lot", desc := "(III)I" } : Jvm.MethodName)) ∈ m_ws := tb_3 104 rfl rfl
theorem q_653 : (Jvm.Cond.code ({ cls := "OneHandEach", name := "lot", desc := "(III)I" } : Jvm.MethodName) prog_1_method_16_code (10 : Nat) (Option.some Jvm.ClassFile.FieldType.int)) ∈ m_ws := tb_3 105 rfl rfl
theorem q_654 : (Jvm.Cond.methodLink "OneHandEach" (184 : Nat) ({ cls := "OneHandEach", name := "drawn", desc := "(I)I" } : Jvm.MethodName)) ∈ m_ws := tb_3 106 rfl rfl
theorem q_655 : (Jvm.Cond.static ({ cls := "OneHandEach", name := "drawn", desc := "(I)I" } : Jvm.MethodName)) ∈ m_ws := tb_3 107 rfl rfl
theorem q_656 : (Jvm.Cond.code ({ cls := "OneHandEach", name := "drawn", desc := "(I)I" } : Jvm.MethodName) prog_1_method_48_code (1 : Nat) (Option.some Jvm.ClassFile.FieldType.int)) ∈ m_ws := tb_3 108 rfl rfl
theorem q_657 : (Jvm.Cond.constant "OneHandEach" (314 : Nat) (1103515245 : Int32)) ∈ m_ws := tb_3 109 rfl rfl
theorem q_658 : (Jvm.Cond.methodLink "OneHandEach" (187 : Nat) ({ cls := "OneHandEach$Town", name := "walkOf", desc := "(I)I" } : Jvm.MethodName)) ∈ m_ws := tb_3 110 rfl rfl
theorem q_659 : (Jvm.Cond.instanceMethod ({ cls := "OneHandEach$Town", name := "walkOf", desc := "(I)I" } : Jvm.MethodName)) ∈ m_ws := tb_3 111 rfl rfl
theorem q_660 : (Jvm.Cond.selects "OneHandEach$Town" ({ cls := "OneHandEach$Town", name := "walkOf", desc := "(I)I" } : Jvm.MethodName) ({ cls := "OneHandEach$Town", name := "walkOf", desc := "(I)I" } : Jvm.MethodName)) ∈ m_ws := tb_3 112 rfl rfl
theorem q_661 : (Jvm.Cond.code ({ cls := "OneHandEach$Town", name := "walkOf", desc := "(I)I" } : Jvm.MethodName) prog_12_method_14_code (3 : Nat) (Option.some Jvm.ClassFile.FieldType.int)) ∈ m_ws := tb_3 113 rfl rfl
theorem q_662 : (Jvm.Cond.methodLink "OneHandEach" (190 : Nat) ({ cls := "OneHandEach$Fitting", name := "fitsOfWalker", desc := "(LOneHandEach$Town;II)I" } : Jvm.MethodName)) ∈ m_ws := tb_3 114 rfl rfl
theorem q_663 : (Jvm.Cond.instanceMethod ({ cls := "OneHandEach$Fitting", name := "fitsOfWalker", desc := "(LOneHandEach$Town;II)I" } : Jvm.MethodName)) ∈ m_ws := tb_3 115 rfl rfl
theorem q_664 : (Jvm.Cond.selects "OneHandEach$Fitting" ({ cls := "OneHandEach$Fitting", name := "fitsOfWalker", desc := "(LOneHandEach$Town;II)I" } : Jvm.MethodName) ({ cls := "OneHandEach$Fitting", name := "fitsOfWalker", desc := "(LOneHandEach$Town;II)I" } : Jvm.MethodName)) ∈ m_ws := tb_3 116 rfl rfl
theorem q_665 : (Jvm.Cond.code ({ cls := "OneHandEach$Fitting", name := "fitsOfWalker", desc := "(LOneHandEach$Town;II)I" } : Jvm.MethodName) prog_5_method_3_code (4 : Nat) (Option.some Jvm.ClassFile.FieldType.int)) ∈ m_ws := tb_3 117 rfl rfl
theorem q_666 : (Jvm.Cond.methodLink "OneHandEach$Fitting" (47 : Nat) ({ cls := "OneHandEach$Fitting", name := "howMany", desc := "()I" } : Jvm.MethodName)) ∈ m_ws := tb_3 118 rfl rfl
theorem q_667 : (Jvm.Cond.methodLink "OneHandEachLaw" (77 : Nat) ({ cls := "OneHandEach", name := "gun", desc := "(II)I" } : Jvm.MethodName)) ∈ m_ws := tb_3 119 rfl rfl
theorem q_668 : (Jvm.Cond.instanceMethod ({ cls := "OneHandEach", name := "gun", desc := "(II)I" } : Jvm.MethodName)) ∈ m_ws := tb_3 120 rfl rfl
theorem q_669 : (Jvm.Cond.selects "OneHandEach" ({ cls := "OneHandEach", name := "gun", desc := "(II)I" } : Jvm.MethodName) ({ cls := "OneHandEach", name := "gun", desc := "(II)I" } : Jvm.MethodName)) ∈ m_ws := tb_3 121 rfl rfl
theorem q_670 : (Jvm.Cond.code ({ cls := "OneHandEach", name := "gun", desc := "(II)I" } : Jvm.MethodName) prog_1_method_17_code (3 : Nat) (Option.some Jvm.ClassFile.FieldType.int)) ∈ m_ws := tb_3 122 rfl rfl
theorem q_671 : (Jvm.Cond.methodLink "OneHandEachLaw" (81 : Nat) ({ cls := "OneHandEach", name := "guess", desc := "(II)I" } : Jvm.MethodName)) ∈ m_ws := tb_3 123 rfl rfl
theorem q_672 : (Jvm.Cond.instanceMethod ({ cls := "OneHandEach", name := "guess", desc := "(II)I" } : Jvm.MethodName)) ∈ m_ws := tb_3 124 rfl rfl
theorem q_673 : (Jvm.Cond.selects "OneHandEach" ({ cls := "OneHandEach", name := "guess", desc := "(II)I" } : Jvm.MethodName) ({ cls := "OneHandEach", name := "guess", desc := "(II)I" } : Jvm.MethodName)) ∈ m_ws := tb_3 125 rfl rfl
theorem q_674 : (Jvm.Cond.code ({ cls := "OneHandEach", name := "guess", desc := "(II)I" } : Jvm.MethodName) prog_1_method_18_code (3 : Nat) (Option.some Jvm.ClassFile.FieldType.int)) ∈ m_ws := tb_3 126 rfl rfl
theorem q_675 : (Jvm.Cond.methodLink "OneHandEach" (196 : Nat) ({ cls := "OneHandEach$Guesses", name := "find", desc := "(LOneHandEach$Town;LOneHandEach$Entries;I)V" } : Jvm.MethodName)) ∈ m_ws := tb_3 127 rfl rfl
theorem q_676 : (Jvm.Cond.instanceMethod ({ cls := "OneHandEach$Guesses", name := "find", desc := "(LOneHandEach$Town;LOneHandEach$Entries;I)V" } : Jvm.MethodName)) ∈ m_ws := tb_3 128 rfl rfl
theorem q_677 : (Jvm.Cond.selects "OneHandEach$Guesses" ({ cls := "OneHandEach$Guesses", name := "find", desc := "(LOneHandEach$Town;LOneHandEach$Entries;I)V" } : Jvm.MethodName) ({ cls := "OneHandEach$Guesses", name := "find", desc := "(LOneHandEach$Town;LOneHandEach$Entries;I)V" } : Jvm.MethodName)) ∈ m_ws := tb_3 129 rfl rfl
theorem q_678 : (Jvm.Cond.code ({ cls := "OneHandEach$Guesses", name := "find", desc := "(LOneHandEach$Town;LOneHandEach$Entries;I)V" } : Jvm.MethodName) prog_6_method_2_code (6 : Nat) (Option.none : Option Jvm.ClassFile.FieldType)) ∈ m_ws := tb_3 130 rfl rfl
theorem q_679 : (Jvm.Cond.methodLink "OneHandEach$Guesses" (15 : Nat) ({ cls := "OneHandEach$Guesses", name := "wrongBy", desc := "(LOneHandEach$Town;LOneHandEach$Entries;III)I" } : Jvm.MethodName)) ∈ m_ws := tb_3 131 rfl rfl
theorem q_680 : (Jvm.Cond.static ({ cls := "OneHandEach$Guesses", name := "wrongBy", desc := "(LOneHandEach$Town;LOneHandEach$Entries;III)I" } : Jvm.MethodName)) ∈ m_ws := tb_3 132 rfl rfl
theorem q_681 : (Jvm.Cond.code ({ cls := "OneHandEach$Guesses", name := "wrongBy", desc := "(LOneHandEach$Town;LOneHandEach$Entries;III)I" } : Jvm.MethodName) prog_6_method_5_code (8 : Nat) (Option.some Jvm.ClassFile.FieldType.int)) ∈ m_ws := tb_3 133 rfl rfl
theorem q_682 : (Jvm.Cond.methodLink "OneHandEach$Guesses" (44 : Nat) ({ cls := "OneHandEach$Entries", name := "told", desc := "(II)I" } : Jvm.MethodName)) ∈ m_ws := tb_3 134 rfl rfl
theorem q_683 : (Jvm.Cond.methodLink "OneHandEach$Guesses" (46 : Nat) ({ cls := "OneHandEach$Town", name := "timeBy", desc := "(III)I" } : Jvm.MethodName)) ∈ m_ws := tb_3 135 rfl rfl
theorem q_684 : (Jvm.Cond.methodLink "OneHandEach$Guesses" (52 : Nat) ({ cls := "OneHandEach$Town", name := "partOf", desc := "(II)I" } : Jvm.MethodName)) ∈ m_ws := tb_3 136 rfl rfl
theorem q_685 : (Jvm.Cond.methodLink "OneHandEach$Guesses" (55 : Nat) ({ cls := "OneHandEach$Town", name := "isNear", desc := "(II)Z" } : Jvm.MethodName)) ∈ m_ws := tb_3 137 rfl rfl
theorem q_686 : (Jvm.Cond.methodLink "OneHandEach$Guesses" (19 : Nat) ({ cls := "OneHandEach$Guesses", name := "note", desc := "(II)V" } : Jvm.MethodName)) ∈ m_ws := tb_3 138 rfl rfl
theorem q_688 : (Jvm.Cond.instanceMethod ({ cls := "OneHandEach$Guesses", name := "note", desc := "(II)V" } : Jvm.MethodName)) ∈ m_ws := tb_3 140 rfl rfl
theorem q_689 : (Jvm.Cond.code ({ cls := "OneHandEach$Guesses", name := "note", desc := "(II)V" } : Jvm.MethodName) prog_6_method_3_code (4 : Nat) (Option.none : Option Jvm.ClassFile.FieldType)) ∈ m_ws := tb_3 141 rfl rfl
theorem q_690 : (Jvm.Cond.methodLink "OneHandEach$Guesses" (23 : Nat) ({ cls := "java/lang/Math", name := "min", desc := "(II)I" } : Jvm.MethodName)) ∈ m_ws := tb_3 142 rfl rfl
theorem q_691 : (Jvm.Cond.methodLink "OneHandEach$Guesses" (29 : Nat) ({ cls := "java/lang/Math", name := "max", desc := "(II)I" } : Jvm.MethodName)) ∈ m_ws := tb_3 143 rfl rfl
theorem q_692 : (Jvm.Cond.methodLink "OneHandEachLaw" (85 : Nat) ({ cls := "OneHandEach", name := "liars", desc := "(I)I" } : Jvm.MethodName)) ∈ m_ws := tb_3 144 rfl rfl
theorem q_693 : (Jvm.Cond.instanceMethod ({ cls := "OneHandEach", name := "liars", desc := "(I)I" } : Jvm.MethodName)) ∈ m_ws := tb_3 145 rfl rfl
theorem q_694 : (Jvm.Cond.selects "OneHandEach" ({ cls := "OneHandEach", name := "liars", desc := "(I)I" } : Jvm.MethodName) ({ cls := "OneHandEach", name := "liars", desc := "(I)I" } : Jvm.MethodName)) ∈ m_ws := tb_3 146 rfl rfl
theorem q_695 : (Jvm.Cond.code ({ cls := "OneHandEach", name := "liars", desc := "(I)I" } : Jvm.MethodName) prog_1_method_19_code (2 : Nat) (Option.some Jvm.ClassFile.FieldType.int)) ∈ m_ws := tb_3 147 rfl rfl
theorem q_696 : (Jvm.Cond.methodLink "OneHandEach" (201 : Nat) ({ cls := "OneHandEach$Guesses", name := "fewestWrong", desc := "(LOneHandEach$Town;LOneHandEach$Entries;I)I" } : Jvm.MethodName)) ∈ m_ws := tb_3 148 rfl rfl
theorem q_697 : (Jvm.Cond.static ({ cls := "OneHandEach$Guesses", name := "fewestWrong", desc := "(LOneHandEach$Town;LOneHandEach$Entries;I)I" } : Jvm.MethodName)) ∈ m_ws := tb_3 149 rfl rfl
theorem q_698 : (Jvm.Cond.code ({ cls := "OneHandEach$Guesses", name := "fewestWrong", desc := "(LOneHandEach$Town;LOneHandEach$Entries;I)I" } : Jvm.MethodName) prog_6_method_4_code (8 : Nat) (Option.some Jvm.ClassFile.FieldType.int)) ∈ m_ws := tb_3 150 rfl rfl
theorem q_699 : (Jvm.Cond.methodLink "OneHandEach$Guesses" (32 : Nat) ({ cls := "java/lang/Integer", name := "bitCount", desc := "(I)I" } : Jvm.MethodName)) ∈ m_ws := tb_3 151 rfl rfl
theorem q_700 : (Jvm.Cond.static ({ cls := "java/lang/Integer", name := "bitCount", desc := "(I)I" } : Jvm.MethodName)) ∈ m_ws := tb_3 152 rfl rfl
theorem q_701 : (Jvm.Cond.code ({ cls := "java/lang/Integer", name := "bitCount", desc := "(I)I" } : Jvm.MethodName) prog_15_method_49_code (1 : Nat) (Option.some Jvm.ClassFile.FieldType.int)) ∈ m_ws := tb_3 153 rfl rfl
theorem q_702 : (Jvm.Cond.constant "java/lang/Integer" (265 : Nat) (1431655765 : Int32)) ∈ m_ws := tb_3 154 rfl rfl
theorem q_703 : (Jvm.Cond.constant "java/lang/Integer" (266 : Nat) (858993459 : Int32)) ∈ m_ws := tb_3 155 rfl rfl
theorem q_704 : (Jvm.Cond.constant "java/lang/Integer" (267 : Nat) (252645135 : Int32)) ∈ m_ws := tb_3 156 rfl rfl
theorem q_705 : (Jvm.Cond.methodLink "OneHandEachLaw" (89 : Nat) ({ cls := "OneHandEach", name := "agree", desc := "(III)I" } : Jvm.MethodName)) ∈ m_ws := tb_3 157 rfl rfl
theorem q_706 : (Jvm.Cond.instanceMethod ({ cls := "OneHandEach", name := "agree", desc := "(III)I" } : Jvm.MethodName)) ∈ m_ws := tb_3 158 rfl rfl
theorem q_707 : (Jvm.Cond.selects "OneHandEach" ({ cls := "OneHandEach", name := "agree", desc := "(III)I" } : Jvm.MethodName) ({ cls := "OneHandEach", name := "agree", desc := "(III)I" } : Jvm.MethodName)) ∈ m_ws := tb_3 159 rfl rfl
theorem q_708 : (Jvm.Cond.code ({ cls := "OneHandEach", name := "agree", desc := "(III)I" } : Jvm.MethodName) prog_1_method_20_code (7 : Nat) (Option.some Jvm.ClassFile.FieldType.int)) ∈ m_ws := tb_3 160 rfl rfl
theorem q_709 : (Jvm.Cond.methodLink "OneHandEachLaw" (93 : Nat) ({ cls := "OneHandEach", name := "meet", desc := "(III)I" } : Jvm.MethodName)) ∈ m_ws := tb_3 161 rfl rfl
theorem q_710 : (Jvm.Cond.instanceMethod ({ cls := "OneHandEach", name := "meet", desc := "(III)I" } : Jvm.MethodName)) ∈ m_ws := tb_3 162 rfl rfl
theorem q_711 : (Jvm.Cond.selects "OneHandEach" ({ cls := "OneHandEach", name := "meet", desc := "(III)I" } : Jvm.MethodName) ({ cls := "OneHandEach", name := "meet", desc := "(III)I" } : Jvm.MethodName)) ∈ m_ws := tb_3 163 rfl rfl
theorem q_712 : (Jvm.Cond.code ({ cls := "OneHandEach", name := "meet", desc := "(III)I" } : Jvm.MethodName) prog_1_method_21_code (6 : Nat) (Option.some Jvm.ClassFile.FieldType.int)) ∈ m_ws := tb_3 164 rfl rfl
theorem q_713 : (Jvm.Cond.methodLink "OneHandEach" (205 : Nat) ({ cls := "OneHandEach$Town", name := "firstMinute", desc := "(III)I" } : Jvm.MethodName)) ∈ m_ws := tb_3 165 rfl rfl
theorem q_714 : (Jvm.Cond.instanceMethod ({ cls := "OneHandEach$Town", name := "firstMinute", desc := "(III)I" } : Jvm.MethodName)) ∈ m_ws := tb_3 166 rfl rfl
theorem q_715 : (Jvm.Cond.selects "OneHandEach$Town" ({ cls := "OneHandEach$Town", name := "firstMinute", desc := "(III)I" } : Jvm.MethodName) ({ cls := "OneHandEach$Town", name := "firstMinute", desc := "(III)I" } : Jvm.MethodName)) ∈ m_ws := tb_3 167 rfl rfl
theorem q_716 : (Jvm.Cond.code ({ cls := "OneHandEach$Town", name := "firstMinute", desc := "(III)I" } : Jvm.MethodName) prog_12_method_13_code (5 : Nat) (Option.some Jvm.ClassFile.FieldType.int)) ∈ m_ws := tb_3 168 rfl rfl
theorem q_717 : (Jvm.Cond.methodLink "OneHandEach$Town" (54 : Nat) ({ cls := "OneHandEach$Town", name := "partAt", desc := "(II)I" } : Jvm.MethodName)) ∈ m_ws := tb_3 169 rfl rfl
theorem q_718 : (Jvm.Cond.methodLink "OneHandEach" (209 : Nat) ({ cls := "java/lang/Math", name := "abs", desc := "(I)I" } : Jvm.MethodName)) ∈ m_ws := tb_3 170 rfl rfl
theorem q_719 : (Jvm.Cond.methodLink "OneHandEachLaw" (97 : Nat) ({ cls := "OneHandEach", name := "round", desc := "(II)I" } : Jvm.MethodName)) ∈ m_ws := tb_3 171 rfl rfl
theorem q_720 : (Jvm.Cond.instanceMethod ({ cls := "OneHandEach", name := "round", desc := "(II)I" } : Jvm.MethodName)) ∈ m_ws := tb_3 172 rfl rfl
theorem q_721 : (Jvm.Cond.selects "OneHandEach" ({ cls := "OneHandEach", name := "round", desc := "(II)I" } : Jvm.MethodName) ({ cls := "OneHandEach", name := "round", desc := "(II)I" } : Jvm.MethodName)) ∈ m_ws := tb_3 173 rfl rfl
theorem q_722 : (Jvm.Cond.code ({ cls := "OneHandEach", name := "round", desc := "(II)I" } : Jvm.MethodName) prog_1_method_22_code (5 : Nat) (Option.some Jvm.ClassFile.FieldType.int)) ∈ m_ws := tb_3 174 rfl rfl
theorem q_723 : (Jvm.Cond.methodLink "OneHandEach" (212 : Nat) ({ cls := "OneHandEach$Town", name := "gain", desc := "(I)I" } : Jvm.MethodName)) ∈ m_ws := tb_3 175 rfl rfl
theorem q_724 : (Jvm.Cond.methodLink "OneHandEachLaw" (101 : Nat) ({ cls := "OneHandEach", name := "set", desc := "(II)I" } : Jvm.MethodName)) ∈ m_ws := tb_3 176 rfl rfl
theorem q_725 : (Jvm.Cond.instanceMethod ({ cls := "OneHandEach", name := "set", desc := "(II)I" } : Jvm.MethodName)) ∈ m_ws := tb_3 177 rfl rfl
theorem q_726 : (Jvm.Cond.selects "OneHandEach" ({ cls := "OneHandEach", name := "set", desc := "(II)I" } : Jvm.MethodName) ({ cls := "OneHandEach", name := "set", desc := "(II)I" } : Jvm.MethodName)) ∈ m_ws := tb_3 178 rfl rfl
theorem q_727 : (Jvm.Cond.code ({ cls := "OneHandEach", name := "set", desc := "(II)I" } : Jvm.MethodName) prog_1_method_23_code (4 : Nat) (Option.some Jvm.ClassFile.FieldType.int)) ∈ m_ws := tb_3 179 rfl rfl
theorem q_728 : (Jvm.Cond.methodLink "OneHandEach" (215 : Nat) ({ cls := "OneHandEach$Town", name := "offToShow", desc := "(III)I" } : Jvm.MethodName)) ∈ m_ws := tb_3 180 rfl rfl
theorem q_729 : (Jvm.Cond.instanceMethod ({ cls := "OneHandEach$Town", name := "offToShow", desc := "(III)I" } : Jvm.MethodName)) ∈ m_ws := tb_3 181 rfl rfl
theorem q_730 : (Jvm.Cond.selects "OneHandEach$Town" ({ cls := "OneHandEach$Town", name := "offToShow", desc := "(III)I" } : Jvm.MethodName) ({ cls := "OneHandEach$Town", name := "offToShow", desc := "(III)I" } : Jvm.MethodName)) ∈ m_ws := tb_3 182 rfl rfl
theorem q_731 : (Jvm.Cond.code ({ cls := "OneHandEach$Town", name := "offToShow", desc := "(III)I" } : Jvm.MethodName) prog_12_method_12_code (5 : Nat) (Option.some Jvm.ClassFile.FieldType.int)) ∈ m_ws := tb_3 183 rfl rfl
theorem q_732 : (Jvm.Cond.methodLink "OneHandEachLaw" (105 : Nat) ({ cls := "OneHandEach", name := "led", desc := "(II)I" } : Jvm.MethodName)) ∈ m_ws := tb_3 184 rfl rfl
theorem q_733 : (Jvm.Cond.instanceMethod ({ cls := "OneHandEach", name := "led", desc := "(II)I" } : Jvm.MethodName)) ∈ m_ws := tb_3 185 rfl rfl
theorem q_734 : (Jvm.Cond.selects "OneHandEach" ({ cls := "OneHandEach", name := "led", desc := "(II)I" } : Jvm.MethodName) ({ cls := "OneHandEach", name := "led", desc := "(II)I" } : Jvm.MethodName)) ∈ m_ws := tb_3 186 rfl rfl
theorem q_735 : (Jvm.Cond.code ({ cls := "OneHandEach", name := "led", desc := "(II)I" } : Jvm.MethodName) prog_1_method_24_code (3 : Nat) (Option.some Jvm.ClassFile.FieldType.int)) ∈ m_ws := tb_3 187 rfl rfl
theorem q_736 : (Jvm.Cond.methodLink "OneHandEachLaw" (109 : Nat) ({ cls := "OneHandEach", name := "judge", desc := "(I)I" } : Jvm.MethodName)) ∈ m_ws := tb_3 188 rfl rfl
theorem q_737 : (Jvm.Cond.instanceMethod ({ cls := "OneHandEach", name := "judge", desc := "(I)I" } : Jvm.MethodName)) ∈ m_ws := tb_3 189 rfl rfl
theorem q_738 : (Jvm.Cond.selects "OneHandEach" ({ cls := "OneHandEach", name := "judge", desc := "(I)I" } : Jvm.MethodName) ({ cls := "OneHandEach", name := "judge", desc := "(I)I" } : Jvm.MethodName)) ∈ m_ws := tb_3 190 rfl rfl
theorem q_739 : (Jvm.Cond.code ({ cls := "OneHandEach", name := "judge", desc := "(I)I" } : Jvm.MethodName) prog_1_method_25_code (5 : Nat) (Option.some Jvm.ClassFile.FieldType.int)) ∈ m_ws := tb_3 191 rfl rfl
theorem q_740 : (Jvm.Cond.methodLink "OneHandEach" (224 : Nat) ({ cls := "OneHandEach", name := "refusalOfRow", desc := "(I)I" } : Jvm.MethodName)) ∈ m_ws := tb_3 192 rfl rfl
theorem q_742 : (Jvm.Cond.instanceMethod ({ cls := "OneHandEach", name := "refusalOfRow", desc := "(I)I" } : Jvm.MethodName)) ∈ m_ws := tb_3 194 rfl rfl
theorem q_743 : (Jvm.Cond.code ({ cls := "OneHandEach", name := "refusalOfRow", desc := "(I)I" } : Jvm.MethodName) prog_1_method_54_code (3 : Nat) (Option.some Jvm.ClassFile.FieldType.int)) ∈ m_ws := tb_3 195 rfl rfl
theorem q_744 : (Jvm.Cond.methodLink "OneHandEach" (230 : Nat) ({ cls := "OneHandEach", name := "isSo", desc := "(LOneHandEach$Shelf;I)Z" } : Jvm.MethodName)) ∈ m_ws := tb_3 196 rfl rfl
theorem q_746 : (Jvm.Cond.instanceMethod ({ cls := "OneHandEach", name := "isSo", desc := "(LOneHandEach$Shelf;I)Z" } : Jvm.MethodName)) ∈ m_ws := tb_3 198 rfl rfl
theorem q_747 : (Jvm.Cond.code ({ cls := "OneHandEach", name := "isSo", desc := "(LOneHandEach$Shelf;I)Z" } : Jvm.MethodName) prog_1_method_53_code (5 : Nat) (Option.some Jvm.ClassFile.FieldType.boolean)) ∈ m_ws := tb_3 199 rfl rfl
theorem q_748 : (Jvm.Cond.methodLink "OneHandEachLaw" (113 : Nat) ({ cls := "OneHandEach", name := "image", desc := "()I" } : Jvm.MethodName)) ∈ m_ws := tb_3 200 rfl rfl
theorem q_749 : (Jvm.Cond.instanceMethod ({ cls := "OneHandEach", name := "image", desc := "()I" } : Jvm.MethodName)) ∈ m_ws := tb_3 201 rfl rfl
theorem q_750 : (Jvm.Cond.selects "OneHandEach" ({ cls := "OneHandEach", name := "image", desc := "()I" } : Jvm.MethodName) ({ cls := "OneHandEach", name := "image", desc := "()I" } : Jvm.MethodName)) ∈ m_ws := tb_3 202 rfl rfl
theorem q_751 : (Jvm.Cond.code ({ cls := "OneHandEach", name := "image", desc := "()I" } : Jvm.MethodName) prog_1_method_26_code (2 : Nat) (Option.some Jvm.ClassFile.FieldType.int)) ∈ m_ws := tb_3 203 rfl rfl
theorem q_752 : (Jvm.Cond.methodLink "OneHandEach" (239 : Nat) ({ cls := "OneHandEach$Entries", name := "become", desc := "(LOneHandEach$Entries;)V" } : Jvm.MethodName)) ∈ m_ws := tb_3 204 rfl rfl
theorem q_753 : (Jvm.Cond.instanceMethod ({ cls := "OneHandEach$Entries", name := "become", desc := "(LOneHandEach$Entries;)V" } : Jvm.MethodName)) ∈ m_ws := tb_3 205 rfl rfl
theorem q_754 : (Jvm.Cond.selects "OneHandEach$Entries" ({ cls := "OneHandEach$Entries", name := "become", desc := "(LOneHandEach$Entries;)V" } : Jvm.MethodName) ({ cls := "OneHandEach$Entries", name := "become", desc := "(LOneHandEach$Entries;)V" } : Jvm.MethodName)) ∈ m_ws := tb_3 206 rfl rfl
theorem q_755 : (Jvm.Cond.code ({ cls := "OneHandEach$Entries", name := "become", desc := "(LOneHandEach$Entries;)V" } : Jvm.MethodName) prog_4_method_6_code (2 : Nat) (Option.none : Option Jvm.ClassFile.FieldType)) ∈ m_ws := tb_3 207 rfl rfl
theorem q_756 : (Jvm.Cond.methodLink "OneHandEach$Entries" (38 : Nat) ({ cls := "java/lang/System", name := "arraycopy", desc := "(Ljava/lang/Object;ILjava/lang/Object;II)V" } : Jvm.MethodName)) ∈ m_ws := tb_3 208 rfl rfl
theorem q_757 : (Jvm.Cond.static ({ cls := "java/lang/System", name := "arraycopy", desc := "(Ljava/lang/Object;ILjava/lang/Object;II)V" } : Jvm.MethodName)) ∈ m_ws := tb_3 209 rfl rfl
theorem q_758 : (Jvm.Cond.native ({ cls := "java/lang/System", name := "arraycopy", desc := "(Ljava/lang/Object;ILjava/lang/Object;II)V" } : Jvm.MethodName)) ∈ m_ws := tb_3 210 rfl rfl
theorem q_759 : (Jvm.Cond.methodLink "OneHandEach" (247 : Nat) ({ cls := "OneHandEach$Town", name := "off", desc := "(I)I" } : Jvm.MethodName)) ∈ m_ws := tb_3 211 rfl rfl
theorem q_760 : (Jvm.Cond.methodLink "OneHandEachLaw" (117 : Nat) ({ cls := "OneHandEach", name := "back", desc := "()I" } : Jvm.MethodName)) ∈ m_ws := tb_3 212 rfl rfl
theorem q_761 : (Jvm.Cond.instanceMethod ({ cls := "OneHandEach", name := "back", desc := "()I" } : Jvm.MethodName)) ∈ m_ws := tb_3 213 rfl rfl
theorem q_762 : (Jvm.Cond.selects "OneHandEach" ({ cls := "OneHandEach", name := "back", desc := "()I" } : Jvm.MethodName) ({ cls := "OneHandEach", name := "back", desc := "()I" } : Jvm.MethodName)) ∈ m_ws := tb_3 214 rfl rfl
theorem q_763 : (Jvm.Cond.code ({ cls := "OneHandEach", name := "back", desc := "()I" } : Jvm.MethodName) prog_1_method_27_code (2 : Nat) (Option.some Jvm.ClassFile.FieldType.int)) ∈ m_ws := tb_3 215 rfl rfl
theorem q_764 : (Jvm.Cond.methodLink "OneHandEachLaw" (121 : Nat) ({ cls := "OneHandEach", name := "undo", desc := "()I" } : Jvm.MethodName)) ∈ m_ws := tb_3 216 rfl rfl
theorem q_765 : (Jvm.Cond.instanceMethod ({ cls := "OneHandEach", name := "undo", desc := "()I" } : Jvm.MethodName)) ∈ m_ws := tb_3 217 rfl rfl
theorem q_766 : (Jvm.Cond.selects "OneHandEach" ({ cls := "OneHandEach", name := "undo", desc := "()I" } : Jvm.MethodName) ({ cls := "OneHandEach", name := "undo", desc := "()I" } : Jvm.MethodName)) ∈ m_ws := tb_3 218 rfl rfl
theorem q_767 : (Jvm.Cond.code ({ cls := "OneHandEach", name := "undo", desc := "()I" } : Jvm.MethodName) prog_1_method_28_code (1 : Nat) (Option.some Jvm.ClassFile.FieldType.int)) ∈ m_ws := tb_3 219 rfl rfl
theorem q_768 : (Jvm.Cond.methodLink "OneHandEach" (251 : Nat) ({ cls := "OneHandEach$Changes", name := "undoIn", desc := "(LOneHandEach$Town;)I" } : Jvm.MethodName)) ∈ m_ws := tb_3 220 rfl rfl
theorem q_769 : (Jvm.Cond.instanceMethod ({ cls := "OneHandEach$Changes", name := "undoIn", desc := "(LOneHandEach$Town;)I" } : Jvm.MethodName)) ∈ m_ws := tb_3 221 rfl rfl
theorem q_770 : (Jvm.Cond.selects "OneHandEach$Changes" ({ cls := "OneHandEach$Changes", name := "undoIn", desc := "(LOneHandEach$Town;)I" } : Jvm.MethodName) ({ cls := "OneHandEach$Changes", name := "undoIn", desc := "(LOneHandEach$Town;)I" } : Jvm.MethodName)) ∈ m_ws := tb_3 222 rfl rfl
theorem q_771 : (Jvm.Cond.code ({ cls := "OneHandEach$Changes", name := "undoIn", desc := "(LOneHandEach$Town;)I" } : Jvm.MethodName) prog_3_method_4_code (2 : Nat) (Option.some Jvm.ClassFile.FieldType.int)) ∈ m_ws := tb_3 223 rfl rfl
theorem q_772 : (Jvm.Cond.methodLink "OneHandEachLaw" (125 : Nat) ({ cls := "OneHandEach", name := "redo", desc := "()I" } : Jvm.MethodName)) ∈ m_ws := tb_3 224 rfl rfl
theorem q_773 : (Jvm.Cond.instanceMethod ({ cls := "OneHandEach", name := "redo", desc := "()I" } : Jvm.MethodName)) ∈ m_ws := tb_3 225 rfl rfl
theorem q_774 : (Jvm.Cond.selects "OneHandEach" ({ cls := "OneHandEach", name := "redo", desc := "()I" } : Jvm.MethodName) ({ cls := "OneHandEach", name := "redo", desc := "()I" } : Jvm.MethodName)) ∈ m_ws := tb_3 226 rfl rfl
theorem q_775 : (Jvm.Cond.code ({ cls := "OneHandEach", name := "redo", desc := "()I" } : Jvm.MethodName) prog_1_method_29_code (1 : Nat) (Option.some Jvm.ClassFile.FieldType.int)) ∈ m_ws := tb_3 227 rfl rfl
theorem q_776 : (Jvm.Cond.methodLink "OneHandEach" (255 : Nat) ({ cls := "OneHandEach$Changes", name := "redoIn", desc := "(LOneHandEach$Town;)I" } : Jvm.MethodName)) ∈ m_ws := tb_3 228 rfl rfl
theorem q_777 : (Jvm.Cond.instanceMethod ({ cls := "OneHandEach$Changes", name := "redoIn", desc := "(LOneHandEach$Town;)I" } : Jvm.MethodName)) ∈ m_ws := tb_3 229 rfl rfl
theorem q_778 : (Jvm.Cond.selects "OneHandEach$Changes" ({ cls := "OneHandEach$Changes", name := "redoIn", desc := "(LOneHandEach$Town;)I" } : Jvm.MethodName) ({ cls := "OneHandEach$Changes", name := "redoIn", desc := "(LOneHandEach$Town;)I" } : Jvm.MethodName)) ∈ m_ws := tb_3 230 rfl rfl
theorem q_779 : (Jvm.Cond.code ({ cls := "OneHandEach$Changes", name := "redoIn", desc := "(LOneHandEach$Town;)I" } : Jvm.MethodName) prog_3_method_5_code (2 : Nat) (Option.some Jvm.ClassFile.FieldType.int)) ∈ m_ws := tb_3 231 rfl rfl
theorem q_780 : (Jvm.Cond.methodLink "OneHandEachLaw" (129 : Nat) ({ cls := "OneHandEach", name := "body", desc := "(I)I" } : Jvm.MethodName)) ∈ m_ws := tb_3 232 rfl rfl
theorem q_781 : (Jvm.Cond.instanceMethod ({ cls := "OneHandEach", name := "body", desc := "(I)I" } : Jvm.MethodName)) ∈ m_ws := tb_3 233 rfl rfl
theorem q_782 : (Jvm.Cond.selects "OneHandEach" ({ cls := "OneHandEach", name := "body", desc := "(I)I" } : Jvm.MethodName) ({ cls := "OneHandEach", name := "body", desc := "(I)I" } : Jvm.MethodName)) ∈ m_ws := tb_3 234 rfl rfl
theorem q_783 : (Jvm.Cond.code ({ cls := "OneHandEach", name := "body", desc := "(I)I" } : Jvm.MethodName) prog_1_method_30_code (2 : Nat) (Option.some Jvm.ClassFile.FieldType.int)) ∈ m_ws := tb_3 235 rfl rfl
theorem q_784 : (Jvm.Cond.methodLink "OneHandEach" (258 : Nat) ({ cls := "OneHandEach", name := "isKind", desc := "(I)Z" } : Jvm.MethodName)) ∈ m_ws := tb_3 236 rfl rfl
theorem q_785 : (Jvm.Cond.static ({ cls := "OneHandEach", name := "isKind", desc := "(I)Z" } : Jvm.MethodName)) ∈ m_ws := tb_3 237 rfl rfl
theorem q_786 : (Jvm.Cond.code ({ cls := "OneHandEach", name := "isKind", desc := "(I)Z" } : Jvm.MethodName) prog_1_method_46_code (1 : Nat) (Option.some Jvm.ClassFile.FieldType.boolean)) ∈ m_ws := tb_3 238 rfl rfl
theorem q_787 : (Jvm.Cond.methodLink "OneHandEach" (261 : Nat) ({ cls := "OneHandEach$Bodies", name := "add", desc := "(I)I" } : Jvm.MethodName)) ∈ m_ws := tb_3 239 rfl rfl
theorem q_788 : (Jvm.Cond.instanceMethod ({ cls := "OneHandEach$Bodies", name := "add", desc := "(I)I" } : Jvm.MethodName)) ∈ m_ws := tb_4 0 rfl rfl
theorem q_789 : (Jvm.Cond.selects "OneHandEach$Bodies" ({ cls := "OneHandEach$Bodies", name := "add", desc := "(I)I" } : Jvm.MethodName) ({ cls := "OneHandEach$Bodies", name := "add", desc := "(I)I" } : Jvm.MethodName)) ∈ m_ws := tb_4 1 rfl rfl
theorem q_790 : (Jvm.Cond.code ({ cls := "OneHandEach$Bodies", name := "add", desc := "(I)I" } : Jvm.MethodName) prog_2_method_2_code (2 : Nat) (Option.some Jvm.ClassFile.FieldType.int)) ∈ m_ws := tb_4 2 rfl rfl
theorem q_791 : (Jvm.Cond.methodLink "OneHandEachLaw" (133 : Nat) ({ cls := "OneHandEach", name := "act", desc := "(III)I" } : Jvm.MethodName)) ∈ m_ws := tb_4 3 rfl rfl
theorem q_792 : (Jvm.Cond.instanceMethod ({ cls := "OneHandEach", name := "act", desc := "(III)I" } : Jvm.MethodName)) ∈ m_ws := tb_4 4 rfl rfl
theorem q_793 : (Jvm.Cond.selects "OneHandEach" ({ cls := "OneHandEach", name := "act", desc := "(III)I" } : Jvm.MethodName) ({ cls := "OneHandEach", name := "act", desc := "(III)I" } : Jvm.MethodName)) ∈ m_ws := tb_4 5 rfl rfl
theorem q_794 : (Jvm.Cond.code ({ cls := "OneHandEach", name := "act", desc := "(III)I" } : Jvm.MethodName) prog_1_method_31_code (4 : Nat) (Option.some Jvm.ClassFile.FieldType.int)) ∈ m_ws := tb_4 6 rfl rfl
theorem q_795 : (Jvm.Cond.methodLink "OneHandEach" (263 : Nat) ({ cls := "OneHandEach$Bodies", name := "actOf", desc := "(III)I" } : Jvm.MethodName)) ∈ m_ws := tb_4 7 rfl rfl
theorem q_796 : (Jvm.Cond.instanceMethod ({ cls := "OneHandEach$Bodies", name := "actOf", desc := "(III)I" } : Jvm.MethodName)) ∈ m_ws := tb_4 8 rfl rfl
theorem q_797 : (Jvm.Cond.selects "OneHandEach$Bodies" ({ cls := "OneHandEach$Bodies", name := "actOf", desc := "(III)I" } : Jvm.MethodName) ({ cls := "OneHandEach$Bodies", name := "actOf", desc := "(III)I" } : Jvm.MethodName)) ∈ m_ws := tb_4 9 rfl rfl
theorem q_798 : (Jvm.Cond.code ({ cls := "OneHandEach$Bodies", name := "actOf", desc := "(III)I" } : Jvm.MethodName) prog_2_method_5_code (4 : Nat) (Option.some Jvm.ClassFile.FieldType.int)) ∈ m_ws := tb_4 10 rfl rfl
theorem q_800 : (Jvm.Cond.methodLink "OneHandEach$Bodies" (32 : Nat) ({ cls := "OneHandEach$Bodies", name := "own", desc := "(IIII)I" } : Jvm.MethodName)) ∈ m_ws := tb_4 12 rfl rfl
theorem q_802 : (Jvm.Cond.instanceMethod ({ cls := "OneHandEach$Bodies", name := "own", desc := "(IIII)I" } : Jvm.MethodName)) ∈ m_ws := tb_4 14 rfl rfl
theorem q_803 : (Jvm.Cond.code ({ cls := "OneHandEach$Bodies", name := "own", desc := "(IIII)I" } : Jvm.MethodName) prog_2_method_6_code (5 : Nat) (Option.some Jvm.ClassFile.FieldType.int)) ∈ m_ws := tb_4 15 rfl rfl
theorem q_804 : (Jvm.Cond.methodLink "OneHandEach$Bodies" (36 : Nat) ({ cls := "OneHandEach$Bodies", name := "kindOf", desc := "(I)I" } : Jvm.MethodName)) ∈ m_ws := tb_4 16 rfl rfl
theorem q_805 : (Jvm.Cond.instanceMethod ({ cls := "OneHandEach$Bodies", name := "kindOf", desc := "(I)I" } : Jvm.MethodName)) ∈ m_ws := tb_4 17 rfl rfl
theorem q_806 : (Jvm.Cond.selects "OneHandEach$Bodies" ({ cls := "OneHandEach$Bodies", name := "kindOf", desc := "(I)I" } : Jvm.MethodName) ({ cls := "OneHandEach$Bodies", name := "kindOf", desc := "(I)I" } : Jvm.MethodName)) ∈ m_ws := tb_4 18 rfl rfl
theorem q_807 : (Jvm.Cond.code ({ cls := "OneHandEach$Bodies", name := "kindOf", desc := "(I)I" } : Jvm.MethodName) prog_2_method_3_code (2 : Nat) (Option.some Jvm.ClassFile.FieldType.int)) ∈ m_ws := tb_4 19 rfl rfl
theorem q_808 : (Jvm.Cond.methodLink "OneHandEach$Bodies" (40 : Nat) ({ cls := "OneHandEach$Bodies", name := "from", desc := "(IIIII)I" } : Jvm.MethodName)) ∈ m_ws := tb_4 20 rfl rfl
theorem q_810 : (Jvm.Cond.instanceMethod ({ cls := "OneHandEach$Bodies", name := "from", desc := "(IIIII)I" } : Jvm.MethodName)) ∈ m_ws := tb_4 22 rfl rfl
theorem q_811 : (Jvm.Cond.code ({ cls := "OneHandEach$Bodies", name := "from", desc := "(IIIII)I" } : Jvm.MethodName) prog_2_method_7_code (9 : Nat) (Option.some Jvm.ClassFile.FieldType.int)) ∈ m_ws := tb_4 23 rfl rfl
theorem q_812 : (Jvm.Cond.fieldLink "OneHandEach$Bodies" (44 : Nat) "OneHandEach$Bodies" "OWN" "[I") ∈ m_ws := tb_4 24 rfl rfl
theorem q_814 : (Jvm.Cond.fieldLink "OneHandEach$Bodies" (26 : Nat) "OneHandEach$Bodies" "ABOVE" "[I") ∈ m_ws := tb_4 26 rfl rfl
theorem q_816 : (Jvm.Cond.methodLink "OneHandEach$Bodies" (47 : Nat) ({ cls := "OneHandEach$Bodies", name := "run", desc := "(IIIII)I" } : Jvm.MethodName)) ∈ m_ws := tb_4 28 rfl rfl
theorem q_818 : (Jvm.Cond.instanceMethod ({ cls := "OneHandEach$Bodies", name := "run", desc := "(IIIII)I" } : Jvm.MethodName)) ∈ m_ws := tb_4 30 rfl rfl
theorem q_819 : (Jvm.Cond.code ({ cls := "OneHandEach$Bodies", name := "run", desc := "(IIIII)I" } : Jvm.MethodName) prog_2_method_8_code (6 : Nat) (Option.some Jvm.ClassFile.FieldType.int)) ∈ m_ws := tb_4 31 rfl rfl
theorem q_820 : (Jvm.Cond.methodLink "OneHandEachLaw" (137 : Nat) ({ cls := "OneHandEach", name := "trace", desc := "(I)I" } : Jvm.MethodName)) ∈ m_ws := tb_4 32 rfl rfl
theorem q_821 : (Jvm.Cond.instanceMethod ({ cls := "OneHandEach", name := "trace", desc := "(I)I" } : Jvm.MethodName)) ∈ m_ws := tb_4 33 rfl rfl
theorem q_822 : (Jvm.Cond.selects "OneHandEach" ({ cls := "OneHandEach", name := "trace", desc := "(I)I" } : Jvm.MethodName) ({ cls := "OneHandEach", name := "trace", desc := "(I)I" } : Jvm.MethodName)) ∈ m_ws := tb_4 34 rfl rfl
theorem q_823 : (Jvm.Cond.code ({ cls := "OneHandEach", name := "trace", desc := "(I)I" } : Jvm.MethodName) prog_1_method_32_code (2 : Nat) (Option.some Jvm.ClassFile.FieldType.int)) ∈ m_ws := tb_4 35 rfl rfl
theorem q_824 : (Jvm.Cond.methodLink "OneHandEachLaw" (141 : Nat) ({ cls := "OneHandEach", name := "keep", desc := "(II)I" } : Jvm.MethodName)) ∈ m_ws := tb_4 36 rfl rfl
theorem q_825 : (Jvm.Cond.instanceMethod ({ cls := "OneHandEach", name := "keep", desc := "(II)I" } : Jvm.MethodName)) ∈ m_ws := tb_4 37 rfl rfl
theorem q_826 : (Jvm.Cond.selects "OneHandEach" ({ cls := "OneHandEach", name := "keep", desc := "(II)I" } : Jvm.MethodName) ({ cls := "OneHandEach", name := "keep", desc := "(II)I" } : Jvm.MethodName)) ∈ m_ws := tb_4 38 rfl rfl
theorem q_827 : (Jvm.Cond.code ({ cls := "OneHandEach", name := "keep", desc := "(II)I" } : Jvm.MethodName) prog_1_method_33_code (4 : Nat) (Option.some Jvm.ClassFile.FieldType.int)) ∈ m_ws := tb_4 39 rfl rfl
theorem q_828 : (Jvm.Cond.methodLink "OneHandEachLaw" (145 : Nat) ({ cls := "OneHandEach", name := "row", desc := "(III)I" } : Jvm.MethodName)) ∈ m_ws := tb_4 40 rfl rfl
theorem q_829 : (Jvm.Cond.instanceMethod ({ cls := "OneHandEach", name := "row", desc := "(III)I" } : Jvm.MethodName)) ∈ m_ws := tb_4 41 rfl rfl
theorem q_830 : (Jvm.Cond.selects "OneHandEach" ({ cls := "OneHandEach", name := "row", desc := "(III)I" } : Jvm.MethodName) ({ cls := "OneHandEach", name := "row", desc := "(III)I" } : Jvm.MethodName)) ∈ m_ws := tb_4 42 rfl rfl
theorem q_831 : (Jvm.Cond.code ({ cls := "OneHandEach", name := "row", desc := "(III)I" } : Jvm.MethodName) prog_1_method_34_code (4 : Nat) (Option.some Jvm.ClassFile.FieldType.int)) ∈ m_ws := tb_4 43 rfl rfl
theorem q_832 : (Jvm.Cond.methodLink "OneHandEach" (276 : Nat) ({ cls := "OneHandEach$Shelf", name := "becomeRow", desc := "(II)V" } : Jvm.MethodName)) ∈ m_ws := tb_4 44 rfl rfl
theorem q_833 : (Jvm.Cond.instanceMethod ({ cls := "OneHandEach$Shelf", name := "becomeRow", desc := "(II)V" } : Jvm.MethodName)) ∈ m_ws := tb_4 45 rfl rfl
theorem q_834 : (Jvm.Cond.selects "OneHandEach$Shelf" ({ cls := "OneHandEach$Shelf", name := "becomeRow", desc := "(II)V" } : Jvm.MethodName) ({ cls := "OneHandEach$Shelf", name := "becomeRow", desc := "(II)V" } : Jvm.MethodName)) ∈ m_ws := tb_4 46 rfl rfl
theorem q_835 : (Jvm.Cond.code ({ cls := "OneHandEach$Shelf", name := "becomeRow", desc := "(II)V" } : Jvm.MethodName) prog_11_method_3_code (4 : Nat) (Option.none : Option Jvm.ClassFile.FieldType)) ∈ m_ws := tb_4 47 rfl rfl
theorem q_836 : (Jvm.Cond.methodLink "OneHandEachLaw" (151 : Nat) ({ cls := "OneHandEach", name := "put", desc := "(IIJ)I" } : Jvm.MethodName)) ∈ m_ws := tb_4 48 rfl rfl
theorem q_837 : (Jvm.Cond.instanceMethod ({ cls := "OneHandEach", name := "put", desc := "(IIJ)I" } : Jvm.MethodName)) ∈ m_ws := tb_4 49 rfl rfl
theorem q_838 : (Jvm.Cond.selects "OneHandEach" ({ cls := "OneHandEach", name := "put", desc := "(IIJ)I" } : Jvm.MethodName) ({ cls := "OneHandEach", name := "put", desc := "(IIJ)I" } : Jvm.MethodName)) ∈ m_ws := tb_4 50 rfl rfl
theorem q_839 : (Jvm.Cond.code ({ cls := "OneHandEach", name := "put", desc := "(IIJ)I" } : Jvm.MethodName) prog_1_method_35_code (6 : Nat) (Option.some Jvm.ClassFile.FieldType.int)) ∈ m_ws := tb_4 51 rfl rfl
theorem q_840 : (Jvm.Cond.methodLink "OneHandEach" (279 : Nat) ({ cls := "OneHandEach", name := "refusalOfPlace", desc := "(II)I" } : Jvm.MethodName)) ∈ m_ws := tb_4 52 rfl rfl
theorem q_842 : (Jvm.Cond.instanceMethod ({ cls := "OneHandEach", name := "refusalOfPlace", desc := "(II)I" } : Jvm.MethodName)) ∈ m_ws := tb_4 54 rfl rfl
theorem q_843 : (Jvm.Cond.code ({ cls := "OneHandEach", name := "refusalOfPlace", desc := "(II)I" } : Jvm.MethodName) prog_1_method_55_code (4 : Nat) (Option.some Jvm.ClassFile.FieldType.int)) ∈ m_ws := tb_4 55 rfl rfl
theorem q_844 : (Jvm.Cond.methodLink "OneHandEach" (286 : Nat) ({ cls := "OneHandEach$Shelf", name := "keptOf", desc := "(J)J" } : Jvm.MethodName)) ∈ m_ws := tb_4 56 rfl rfl
theorem q_845 : (Jvm.Cond.instanceMethod ({ cls := "OneHandEach$Shelf", name := "keptOf", desc := "(J)J" } : Jvm.MethodName)) ∈ m_ws := tb_4 57 rfl rfl
theorem q_846 : (Jvm.Cond.selects "OneHandEach$Shelf" ({ cls := "OneHandEach$Shelf", name := "keptOf", desc := "(J)J" } : Jvm.MethodName) ({ cls := "OneHandEach$Shelf", name := "keptOf", desc := "(J)J" } : Jvm.MethodName)) ∈ m_ws := tb_4 58 rfl rfl
theorem q_847 : (Jvm.Cond.code ({ cls := "OneHandEach$Shelf", name := "keptOf", desc := "(J)J" } : Jvm.MethodName) prog_11_method_4_code (3 : Nat) (Option.some Jvm.ClassFile.FieldType.long)) ∈ m_ws := tb_4 59 rfl rfl
theorem q_848 : (Jvm.Cond.methodLink "OneHandEachLaw" (156 : Nat) ({ cls := "OneHandEach", name := "element", desc := "(II)J" } : Jvm.MethodName)) ∈ m_ws := tb_4 60 rfl rfl
theorem q_849 : (Jvm.Cond.instanceMethod ({ cls := "OneHandEach", name := "element", desc := "(II)J" } : Jvm.MethodName)) ∈ m_ws := tb_4 61 rfl rfl
theorem q_850 : (Jvm.Cond.selects "OneHandEach" ({ cls := "OneHandEach", name := "element", desc := "(II)J" } : Jvm.MethodName) ({ cls := "OneHandEach", name := "element", desc := "(II)J" } : Jvm.MethodName)) ∈ m_ws := tb_4 62 rfl rfl
theorem q_851 : (Jvm.Cond.code ({ cls := "OneHandEach", name := "element", desc := "(II)J" } : Jvm.MethodName) prog_1_method_36_code (3 : Nat) (Option.some Jvm.ClassFile.FieldType.long)) ∈ m_ws := tb_4 63 rfl rfl
theorem q_852 : (Jvm.Cond.constantLong "OneHandEach" (290 : Nat) (-9223372036854775808 : Int64)) ∈ m_ws := tb_4 64 rfl rfl
theorem q_853 : (Jvm.Cond.methodLink "OneHandEachLaw" (161 : Nat) ({ cls := "OneHandEach", name := "shift", desc := "(IIIII)I" } : Jvm.MethodName)) ∈ m_ws := tb_4 65 rfl rfl
theorem q_854 : (Jvm.Cond.instanceMethod ({ cls := "OneHandEach", name := "shift", desc := "(IIIII)I" } : Jvm.MethodName)) ∈ m_ws := tb_4 66 rfl rfl
theorem q_855 : (Jvm.Cond.selects "OneHandEach" ({ cls := "OneHandEach", name := "shift", desc := "(IIIII)I" } : Jvm.MethodName) ({ cls := "OneHandEach", name := "shift", desc := "(IIIII)I" } : Jvm.MethodName)) ∈ m_ws := tb_4 67 rfl rfl
theorem q_856 : (Jvm.Cond.code ({ cls := "OneHandEach", name := "shift", desc := "(IIIII)I" } : Jvm.MethodName) prog_1_method_37_code (8 : Nat) (Option.some Jvm.ClassFile.FieldType.int)) ∈ m_ws := tb_4 68 rfl rfl
theorem q_857 : (Jvm.Cond.methodLink "OneHandEach" (295 : Nat) ({ cls := "java/lang/System", name := "arraycopy", desc := "(Ljava/lang/Object;ILjava/lang/Object;II)V" } : Jvm.MethodName)) ∈ m_ws := tb_4 69 rfl rfl
theorem q_858 : (Jvm.Cond.methodLink "OneHandEachLaw" (166 : Nat) ({ cls := "OneHandEach", name := "taken", desc := "(II)I" } : Jvm.MethodName)) ∈ m_ws := tb_4 70 rfl rfl
theorem q_859 : (Jvm.Cond.instanceMethod ({ cls := "OneHandEach", name := "taken", desc := "(II)I" } : Jvm.MethodName)) ∈ m_ws := tb_4 71 rfl rfl
theorem q_860 : (Jvm.Cond.selects "OneHandEach" ({ cls := "OneHandEach", name := "taken", desc := "(II)I" } : Jvm.MethodName) ({ cls := "OneHandEach", name := "taken", desc := "(II)I" } : Jvm.MethodName)) ∈ m_ws := tb_4 72 rfl rfl
theorem q_861 : (Jvm.Cond.code ({ cls := "OneHandEach", name := "taken", desc := "(II)I" } : Jvm.MethodName) prog_1_method_38_code (5 : Nat) (Option.some Jvm.ClassFile.FieldType.int)) ∈ m_ws := tb_4 73 rfl rfl
theorem q_862 : (Jvm.Cond.methodLink "OneHandEach" (301 : Nat) ({ cls := "OneHandEach$Bodies", name := "kindOf", desc := "(I)I" } : Jvm.MethodName)) ∈ m_ws := tb_4 74 rfl rfl
theorem q_863 : (Jvm.Cond.methodLink "OneHandEach" (304 : Nat) ({ cls := "OneHandEach$Bodies", name := "isUnder", desc := "(II)Z" } : Jvm.MethodName)) ∈ m_ws := tb_4 75 rfl rfl
theorem q_864 : (Jvm.Cond.static ({ cls := "OneHandEach$Bodies", name := "isUnder", desc := "(II)Z" } : Jvm.MethodName)) ∈ m_ws := tb_4 76 rfl rfl
theorem q_865 : (Jvm.Cond.code ({ cls := "OneHandEach$Bodies", name := "isUnder", desc := "(II)Z" } : Jvm.MethodName) prog_2_method_4_code (4 : Nat) (Option.some Jvm.ClassFile.FieldType.boolean)) ∈ m_ws := tb_4 77 rfl rfl
theorem q_866 : (Jvm.Cond.methodLink "OneHandEachLaw" (170 : Nat) ({ cls := "OneHandEach", name := "count", desc := "(I)I" } : Jvm.MethodName)) ∈ m_ws := tb_4 78 rfl rfl
theorem q_867 : (Jvm.Cond.instanceMethod ({ cls := "OneHandEach", name := "count", desc := "(I)I" } : Jvm.MethodName)) ∈ m_ws := tb_4 79 rfl rfl
theorem q_868 : (Jvm.Cond.selects "OneHandEach" ({ cls := "OneHandEach", name := "count", desc := "(I)I" } : Jvm.MethodName) ({ cls := "OneHandEach", name := "count", desc := "(I)I" } : Jvm.MethodName)) ∈ m_ws := tb_4 80 rfl rfl
theorem q_869 : (Jvm.Cond.code ({ cls := "OneHandEach", name := "count", desc := "(I)I" } : Jvm.MethodName) prog_1_method_39_code (2 : Nat) (Option.some Jvm.ClassFile.FieldType.int)) ∈ m_ws := tb_4 81 rfl rfl
theorem q_870 : (Jvm.Cond.methodLink "OneHandEach" (307 : Nat) ({ cls := "OneHandEach$Law", name := "bytesOnTape", desc := "()I" } : Jvm.MethodName)) ∈ m_ws := tb_4 82 rfl rfl
theorem q_871 : (Jvm.Cond.instanceMethod ({ cls := "OneHandEach$Law", name := "bytesOnTape", desc := "()I" } : Jvm.MethodName)) ∈ m_ws := tb_4 83 rfl rfl
theorem q_872 : (Jvm.Cond.selects "OneHandEach$Law" ({ cls := "OneHandEach$Law", name := "bytesOnTape", desc := "()I" } : Jvm.MethodName) ({ cls := "OneHandEach$Law", name := "bytesOnTape", desc := "()I" } : Jvm.MethodName)) ∈ m_ws := tb_4 84 rfl rfl
theorem q_873 : (Jvm.Cond.code ({ cls := "OneHandEach$Law", name := "bytesOnTape", desc := "()I" } : Jvm.MethodName) prog_8_method_3_code (1 : Nat) (Option.some Jvm.ClassFile.FieldType.int)) ∈ m_ws := tb_4 85 rfl rfl
theorem q_874 : (Jvm.Cond.classLink "OneHandEachLaw" (10 : Nat) "OneHandEachModel") ∈ m_ws := tb_4 86 rfl rfl
theorem q_875 : (Jvm.Cond.instantiable "OneHandEachModel" (57 : Nat)) ∈ m_ws := tb_4 87 rfl rfl
theorem q_876 : (Jvm.Cond.methodLink "OneHandEachLaw" (12 : Nat) ({ cls := "OneHandEachModel", name := "<init>", desc := "()V" } : Jvm.MethodName)) ∈ m_ws := tb_4 88 rfl rfl
theorem q_877 : (Jvm.Cond.instanceMethod ({ cls := "OneHandEachModel", name := "<init>", desc := "()V" } : Jvm.MethodName)) ∈ m_ws := tb_4 89 rfl rfl
theorem q_878 : (Jvm.Cond.code ({ cls := "OneHandEachModel", name := "<init>", desc := "()V" } : Jvm.MethodName) prog_14_method_1_code (1 : Nat) (Option.none : Option Jvm.ClassFile.FieldType)) ∈ m_ws := tb_4 90 rfl rfl
theorem q_879 : (Jvm.Cond.methodLink "OneHandEachModel" (1 : Nat) ({ cls := "java/lang/Object", name := "<init>", desc := "()V" } : Jvm.MethodName)) ∈ m_ws := tb_4 91 rfl rfl
theorem q_880 : (Jvm.Cond.fieldLink "OneHandEachModel" (7 : Nat) "OneHandEachModel" "off" "[I") ∈ m_ws := tb_4 92 rfl rfl
theorem q_881 : (Jvm.Cond.fieldLink "OneHandEachModel" (13 : Nat) "OneHandEachModel" "gain" "[I") ∈ m_ws := tb_4 93 rfl rfl
theorem q_882 : (Jvm.Cond.fieldLink "OneHandEachModel" (148 : Nat) "OneHandEachModel" "err" "I") ∈ m_ws := tb_4 94 rfl rfl
theorem q_883 : (Jvm.Cond.fieldLink "OneHandEachModel" (16 : Nat) "OneHandEachModel" "walkFrom" "I") ∈ m_ws := tb_4 95 rfl rfl
theorem q_884 : (Jvm.Cond.fieldLink "OneHandEachModel" (20 : Nat) "OneHandEachModel" "walkTo" "I") ∈ m_ws := tb_4 96 rfl rfl
theorem q_885 : (Jvm.Cond.fieldLink "OneHandEachModel" (23 : Nat) "OneHandEachModel" "setOften" "[I") ∈ m_ws := tb_4 97 rfl rfl
theorem q_886 : (Jvm.Cond.fieldLink "OneHandEachModel" (26 : Nat) "OneHandEachModel" "setLatest" "[I") ∈ m_ws := tb_4 98 rfl rfl
theorem q_887 : (Jvm.Cond.fieldLink "OneHandEachModel" (167 : Nat) "OneHandEachModel" "doneMany" "I") ∈ m_ws := tb_4 99 rfl rfl
theorem q_888 : (Jvm.Cond.fieldLink "OneHandEachModel" (164 : Nat) "OneHandEachModel" "undoneMany" "I") ∈ m_ws := tb_4 100 rfl rfl
theorem q_889 : (Jvm.Cond.fieldLink "OneHandEachModel" (29 : Nat) "OneHandEachModel" "changeOf" "[I") ∈ m_ws := tb_4 101 rfl rfl
theorem q_890 : (Jvm.Cond.fieldLink "OneHandEachModel" (32 : Nat) "OneHandEachModel" "changeAt" "[I") ∈ m_ws := tb_4 102 rfl rfl
theorem q_891 : (Jvm.Cond.fieldLink "OneHandEachModel" (35 : Nat) "OneHandEachModel" "before" "[I") ∈ m_ws := tb_4 103 rfl rfl
theorem q_892 : (Jvm.Cond.fieldLink "OneHandEachModel" (38 : Nat) "OneHandEachModel" "behind" "[I") ∈ m_ws := tb_4 104 rfl rfl
theorem q_893 : (Jvm.Cond.fieldLink "OneHandEachModel" (178 : Nat) "OneHandEachModel" "sights" "I") ∈ m_ws := tb_4 105 rfl rfl
theorem q_894 : (Jvm.Cond.fieldLink "OneHandEachModel" (41 : Nat) "OneHandEachModel" "seenClock" "[I") ∈ m_ws := tb_4 106 rfl rfl
theorem q_895 : (Jvm.Cond.fieldLink "OneHandEachModel" (44 : Nat) "OneHandEachModel" "seenPart" "[I") ∈ m_ws := tb_4 107 rfl rfl
theorem q_896 : (Jvm.Cond.fieldLink "OneHandEachModel" (47 : Nat) "OneHandEachModel" "seenFrom" "[I") ∈ m_ws := tb_4 108 rfl rfl
theorem q_897 : (Jvm.Cond.fieldLink "OneHandEachModel" (50 : Nat) "OneHandEachModel" "seenTo" "[I") ∈ m_ws := tb_4 109 rfl rfl
theorem q_898 : (Jvm.Cond.fieldLink "OneHandEachModel" (181 : Nat) "OneHandEachModel" "guns" "I") ∈ m_ws := tb_4 110 rfl rfl
theorem q_899 : (Jvm.Cond.fieldLink "OneHandEachModel" (53 : Nat) "OneHandEachModel" "gunClock" "[I") ∈ m_ws := tb_4 111 rfl rfl
theorem q_900 : (Jvm.Cond.fieldLink "OneHandEachModel" (56 : Nat) "OneHandEachModel" "gunDay" "[I") ∈ m_ws := tb_4 112 rfl rfl
theorem q_901 : (Jvm.Cond.fieldLink "OneHandEachModel" (59 : Nat) "OneHandEachModel" "gunPart" "[I") ∈ m_ws := tb_4 113 rfl rfl
theorem q_902 : (Jvm.Cond.fieldLink "OneHandEachModel" (62 : Nat) "OneHandEachModel" "tape" "[B") ∈ m_ws := tb_4 114 rfl rfl
theorem q_903 : (Jvm.Cond.fieldLink "OneHandEachModel" (197 : Nat) "OneHandEachModel" "taped" "I") ∈ m_ws := tb_4 115 rfl rfl
theorem q_904 : (Jvm.Cond.fieldLink "OneHandEachModel" (200 : Nat) "OneHandEachModel" "here" "I") ∈ m_ws := tb_4 116 rfl rfl
theorem q_905 : (Jvm.Cond.fieldLink "OneHandEachModel" (203 : Nat) "OneHandEachModel" "fault" "I") ∈ m_ws := tb_4 117 rfl rfl
theorem q_906 : (Jvm.Cond.fieldLink "OneHandEachModel" (209 : Nat) "OneHandEachModel" "open" "I") ∈ m_ws := tb_4 118 rfl rfl
theorem q_907 : (Jvm.Cond.fieldLink "OneHandEachModel" (206 : Nat) "OneHandEachModel" "laid" "I") ∈ m_ws := tb_4 119 rfl rfl
theorem q_908 : (Jvm.Cond.fieldLink "OneHandEachModel" (66 : Nat) "OneHandEachModel" "act" "[B") ∈ m_ws := tb_4 120 rfl rfl
theorem q_909 : (Jvm.Cond.fieldLink "OneHandEachModel" (69 : Nat) "OneHandEachModel" "with" "[I") ∈ m_ws := tb_4 121 rfl rfl
theorem q_910 : (Jvm.Cond.fieldLink "OneHandEachModel" (72 : Nat) "OneHandEachModel" "lineMany" "[I") ∈ m_ws := tb_4 122 rfl rfl
theorem q_911 : (Jvm.Cond.fieldLink "OneHandEachModel" (75 : Nat) "OneHandEachModel" "testEnd" "[S") ∈ m_ws := tb_4 123 rfl rfl
theorem q_912 : (Jvm.Cond.fieldLink "OneHandEachModel" (79 : Nat) "OneHandEachModel" "lineEnd" "[S") ∈ m_ws := tb_4 124 rfl rfl
theorem q_913 : (Jvm.Cond.fieldLink "OneHandEachModel" (82 : Nat) "OneHandEachModel" "facts" "[I") ∈ m_ws := tb_4 125 rfl rfl
theorem q_914 : (Jvm.Cond.fieldLink "OneHandEachModel" (85 : Nat) "OneHandEachModel" "pile" "[I") ∈ m_ws := tb_4 126 rfl rfl
theorem q_915 : (Jvm.Cond.fieldLink "OneHandEachModel" (264 : Nat) "OneHandEachModel" "hasLaw" "Z") ∈ m_ws := tb_4 127 rfl rfl
theorem q_916 : (Jvm.Cond.fieldLink "OneHandEachModel" (88 : Nat) "OneHandEachModel" "fit" "[Z") ∈ m_ws := tb_4 128 rfl rfl
theorem q_917 : (Jvm.Cond.fieldLink "OneHandEachModel" (278 : Nat) "OneHandEachModel" "fitMany" "I") ∈ m_ws := tb_4 129 rfl rfl
theorem q_918 : (Jvm.Cond.fieldLink "OneHandEachModel" (92 : Nat) "OneHandEachModel" "parts" "[I") ∈ m_ws := tb_4 130 rfl rfl
theorem q_919 : (Jvm.Cond.fieldLink "OneHandEachModel" (294 : Nat) "OneHandEachModel" "drawn" "I") ∈ m_ws := tb_4 131 rfl rfl
theorem q_920 : (Jvm.Cond.fieldLink "OneHandEachModel" (313 : Nat) "OneHandEachModel" "hasImage" "Z") ∈ m_ws := tb_4 132 rfl rfl
theorem q_921 : (Jvm.Cond.fieldLink "OneHandEachModel" (316 : Nat) "OneHandEachModel" "keptSights" "I") ∈ m_ws := tb_4 133 rfl rfl
theorem q_922 : (Jvm.Cond.fieldLink "OneHandEachModel" (319 : Nat) "OneHandEachModel" "keptGuns" "I") ∈ m_ws := tb_4 134 rfl rfl
theorem q_923 : (Jvm.Cond.fieldLink "OneHandEachModel" (95 : Nat) "OneHandEachModel" "keptOff" "[I") ∈ m_ws := tb_4 135 rfl rfl
theorem q_924 : (Jvm.Cond.fieldLink "OneHandEachModel" (98 : Nat) "OneHandEachModel" "keptOften" "[I") ∈ m_ws := tb_4 136 rfl rfl
theorem q_925 : (Jvm.Cond.fieldLink "OneHandEachModel" (101 : Nat) "OneHandEachModel" "keptLatest" "[I") ∈ m_ws := tb_4 137 rfl rfl
theorem q_926 : (Jvm.Cond.fieldLink "OneHandEachModel" (104 : Nat) "OneHandEachModel" "keptSeen" "[I") ∈ m_ws := tb_4 138 rfl rfl
theorem q_927 : (Jvm.Cond.fieldLink "OneHandEachModel" (107 : Nat) "OneHandEachModel" "keptGun" "[I") ∈ m_ws := tb_4 139 rfl rfl
theorem q_928 : (Jvm.Cond.fieldLink "OneHandEachModel" (322 : Nat) "OneHandEachModel" "bodies" "I") ∈ m_ws := tb_4 140 rfl rfl
theorem q_929 : (Jvm.Cond.fieldLink "OneHandEachModel" (110 : Nat) "OneHandEachModel" "kind" "[I") ∈ m_ws := tb_4 141 rfl rfl
theorem q_930 : (Jvm.Cond.fieldLink "OneHandEachModel" (325 : Nat) "OneHandEachModel" "traces" "I") ∈ m_ws := tb_4 142 rfl rfl
theorem q_931 : (Jvm.Cond.fieldLink "OneHandEachModel" (113 : Nat) "OneHandEachModel" "traced" "[I") ∈ m_ws := tb_4 143 rfl rfl
theorem q_932 : (Jvm.Cond.fieldLink "OneHandEachModel" (116 : Nat) "OneHandEachModel" "holds" "[I") ∈ m_ws := tb_4 144 rfl rfl
theorem q_933 : (Jvm.Cond.fieldLink "OneHandEachModel" (119 : Nat) "OneHandEachModel" "size" "[I") ∈ m_ws := tb_4 145 rfl rfl
theorem q_934 : (Jvm.Cond.fieldLink "OneHandEachModel" (122 : Nat) "OneHandEachModel" "elements" "[J") ∈ m_ws := tb_4 146 rfl rfl
theorem q_935 : (Jvm.Cond.fieldLink "OneHandEachModel" (126 : Nat) "OneHandEachModel" "shifted" "[J") ∈ m_ws := tb_4 147 rfl rfl
theorem q_1051 : (Jvm.Cond.arrayClass Jvm.ClassFile.FieldType.byte) ∈ m_ws := tb_5 23 rfl rfl
theorem q_1052 : (Jvm.Cond.arrayClass Jvm.ClassFile.FieldType.short) ∈ m_ws := tb_5 24 rfl rfl
theorem q_1053 : (Jvm.Cond.methodLink "OneHandEachLaw" (26 : Nat) ({ cls := "OneHandEachModel", name := "shown", desc := "(III)I" } : Jvm.MethodName)) ∈ m_ws := tb_5 25 rfl rfl
theorem q_1054 : (Jvm.Cond.instanceMethod ({ cls := "OneHandEachModel", name := "shown", desc := "(III)I" } : Jvm.MethodName)) ∈ m_ws := tb_5 26 rfl rfl
theorem q_1055 : (Jvm.Cond.selects "OneHandEachModel" ({ cls := "OneHandEachModel", name := "shown", desc := "(III)I" } : Jvm.MethodName) ({ cls := "OneHandEachModel", name := "shown", desc := "(III)I" } : Jvm.MethodName)) ∈ m_ws := tb_5 27 rfl rfl
theorem q_1056 : (Jvm.Cond.code ({ cls := "OneHandEachModel", name := "shown", desc := "(III)I" } : Jvm.MethodName) prog_14_method_12_code (4 : Nat) (Option.some Jvm.ClassFile.FieldType.int)) ∈ m_ws := tb_5 28 rfl rfl
theorem q_1057 : (Jvm.Cond.methodLink "OneHandEachModel" (151 : Nat) ({ cls := "OneHandEachModel", name := "isClock", desc := "(I)Z" } : Jvm.MethodName)) ∈ m_ws := tb_5 29 rfl rfl
theorem q_1058 : (Jvm.Cond.static ({ cls := "OneHandEachModel", name := "isClock", desc := "(I)Z" } : Jvm.MethodName)) ∈ m_ws := tb_5 30 rfl rfl
theorem q_1059 : (Jvm.Cond.code ({ cls := "OneHandEachModel", name := "isClock", desc := "(I)Z" } : Jvm.MethodName) prog_14_method_5_code (1 : Nat) (Option.some Jvm.ClassFile.FieldType.boolean)) ∈ m_ws := tb_5 31 rfl rfl
theorem q_1060 : (Jvm.Cond.methodLink "OneHandEachModel" (132 : Nat) ({ cls := "OneHandEachModel", name := "in", desc := "(III)Z" } : Jvm.MethodName)) ∈ m_ws := tb_5 32 rfl rfl
theorem q_1061 : (Jvm.Cond.static ({ cls := "OneHandEachModel", name := "in", desc := "(III)Z" } : Jvm.MethodName)) ∈ m_ws := tb_5 33 rfl rfl
theorem q_1062 : (Jvm.Cond.code ({ cls := "OneHandEachModel", name := "in", desc := "(III)Z" } : Jvm.MethodName) prog_14_method_3_code (3 : Nat) (Option.some Jvm.ClassFile.FieldType.boolean)) ∈ m_ws := tb_5 34 rfl rfl
theorem q_1063 : (Jvm.Cond.methodLink "OneHandEachModel" (155 : Nat) ({ cls := "OneHandEachModel", name := "isMinute", desc := "(I)Z" } : Jvm.MethodName)) ∈ m_ws := tb_5 35 rfl rfl
theorem q_1064 : (Jvm.Cond.static ({ cls := "OneHandEachModel", name := "isMinute", desc := "(I)Z" } : Jvm.MethodName)) ∈ m_ws := tb_5 36 rfl rfl
theorem q_1065 : (Jvm.Cond.code ({ cls := "OneHandEachModel", name := "isMinute", desc := "(I)Z" } : Jvm.MethodName) prog_14_method_6_code (1 : Nat) (Option.some Jvm.ClassFile.FieldType.boolean)) ∈ m_ws := tb_5 37 rfl rfl
theorem q_1066 : (Jvm.Cond.constant "OneHandEachModel" (136 : Nat) (99999 : Int32)) ∈ m_ws := tb_5 38 rfl rfl
theorem q_1067 : (Jvm.Cond.methodLink "OneHandEachModel" (141 : Nat) ({ cls := "OneHandEachModel", name := "show", desc := "(II)I" } : Jvm.MethodName)) ∈ m_ws := tb_5 39 rfl rfl
theorem q_1069 : (Jvm.Cond.instanceMethod ({ cls := "OneHandEachModel", name := "show", desc := "(II)I" } : Jvm.MethodName)) ∈ m_ws := tb_5 41 rfl rfl
theorem q_1070 : (Jvm.Cond.code ({ cls := "OneHandEachModel", name := "show", desc := "(II)I" } : Jvm.MethodName) prog_14_method_8_code (3 : Nat) (Option.some Jvm.ClassFile.FieldType.int)) ∈ m_ws := tb_5 42 rfl rfl
theorem q_1071 : (Jvm.Cond.methodLink "OneHandEachModel" (137 : Nat) ({ cls := "OneHandEachModel", name := "showBy", desc := "(III)I" } : Jvm.MethodName)) ∈ m_ws := tb_5 43 rfl rfl
theorem q_1072 : (Jvm.Cond.static ({ cls := "OneHandEachModel", name := "showBy", desc := "(III)I" } : Jvm.MethodName)) ∈ m_ws := tb_5 44 rfl rfl
theorem q_1073 : (Jvm.Cond.code ({ cls := "OneHandEachModel", name := "showBy", desc := "(III)I" } : Jvm.MethodName) prog_14_method_7_code (4 : Nat) (Option.some Jvm.ClassFile.FieldType.int)) ∈ m_ws := tb_5 45 rfl rfl
theorem q_1074 : (Jvm.Cond.methodLink "OneHandEachModel" (158 : Nat) ({ cls := "OneHandEachModel", name := "partAt", desc := "(II)I" } : Jvm.MethodName)) ∈ m_ws := tb_5 46 rfl rfl
theorem q_1076 : (Jvm.Cond.instanceMethod ({ cls := "OneHandEachModel", name := "partAt", desc := "(II)I" } : Jvm.MethodName)) ∈ m_ws := tb_5 48 rfl rfl
theorem q_1077 : (Jvm.Cond.code ({ cls := "OneHandEachModel", name := "partAt", desc := "(II)I" } : Jvm.MethodName) prog_14_method_10_code (3 : Nat) (Option.some Jvm.ClassFile.FieldType.int)) ∈ m_ws := tb_5 49 rfl rfl
theorem q_1078 : (Jvm.Cond.methodLink "OneHandEachModel" (145 : Nat) ({ cls := "OneHandEachModel", name := "partOf", desc := "(II)I" } : Jvm.MethodName)) ∈ m_ws := tb_5 50 rfl rfl
theorem q_1079 : (Jvm.Cond.static ({ cls := "OneHandEachModel", name := "partOf", desc := "(II)I" } : Jvm.MethodName)) ∈ m_ws := tb_5 51 rfl rfl
theorem q_1080 : (Jvm.Cond.code ({ cls := "OneHandEachModel", name := "partOf", desc := "(II)I" } : Jvm.MethodName) prog_14_method_9_code (2 : Nat) (Option.some Jvm.ClassFile.FieldType.int)) ∈ m_ws := tb_5 52 rfl rfl
theorem q_1081 : (Jvm.Cond.methodLink "OneHandEachLaw" (124 : Nat) ({ cls := "OneHandEachModel", name := "undo", desc := "()I" } : Jvm.MethodName)) ∈ m_ws := tb_5 53 rfl rfl
theorem q_1082 : (Jvm.Cond.instanceMethod ({ cls := "OneHandEachModel", name := "undo", desc := "()I" } : Jvm.MethodName)) ∈ m_ws := tb_5 54 rfl rfl
theorem q_1083 : (Jvm.Cond.selects "OneHandEachModel" ({ cls := "OneHandEachModel", name := "undo", desc := "()I" } : Jvm.MethodName) ({ cls := "OneHandEachModel", name := "undo", desc := "()I" } : Jvm.MethodName)) ∈ m_ws := tb_5 55 rfl rfl
theorem q_1084 : (Jvm.Cond.code ({ cls := "OneHandEachModel", name := "undo", desc := "()I" } : Jvm.MethodName) prog_14_method_16_code (1 : Nat) (Option.some Jvm.ClassFile.FieldType.int)) ∈ m_ws := tb_5 56 rfl rfl
theorem q_1085 : (Jvm.Cond.methodLink "OneHandEachModel" (170 : Nat) ({ cls := "OneHandEachModel", name := "lays", desc := "(III)V" } : Jvm.MethodName)) ∈ m_ws := tb_5 57 rfl rfl
theorem q_1087 : (Jvm.Cond.instanceMethod ({ cls := "OneHandEachModel", name := "lays", desc := "(III)V" } : Jvm.MethodName)) ∈ m_ws := tb_5 59 rfl rfl
theorem q_1088 : (Jvm.Cond.code ({ cls := "OneHandEachModel", name := "lays", desc := "(III)V" } : Jvm.MethodName) prog_14_method_14_code (4 : Nat) (Option.none : Option Jvm.ClassFile.FieldType)) ∈ m_ws := tb_5 60 rfl rfl
theorem q_1089 : (Jvm.Cond.methodLink "OneHandEachLaw" (128 : Nat) ({ cls := "OneHandEachModel", name := "redo", desc := "()I" } : Jvm.MethodName)) ∈ m_ws := tb_5 61 rfl rfl
theorem q_1090 : (Jvm.Cond.instanceMethod ({ cls := "OneHandEachModel", name := "redo", desc := "()I" } : Jvm.MethodName)) ∈ m_ws := tb_5 62 rfl rfl
theorem q_1091 : (Jvm.Cond.selects "OneHandEachModel" ({ cls := "OneHandEachModel", name := "redo", desc := "()I" } : Jvm.MethodName) ({ cls := "OneHandEachModel", name := "redo", desc := "()I" } : Jvm.MethodName)) ∈ m_ws := tb_5 63 rfl rfl
theorem q_1092 : (Jvm.Cond.code ({ cls := "OneHandEachModel", name := "redo", desc := "()I" } : Jvm.MethodName) prog_14_method_17_code (1 : Nat) (Option.some Jvm.ClassFile.FieldType.int)) ∈ m_ws := tb_5 64 rfl rfl
theorem q_1093 : (Jvm.Cond.methodLink "OneHandEachLaw" (17 : Nat) ({ cls := "OneHandEachModel", name := "mend", desc := "(III)I" } : Jvm.MethodName)) ∈ m_ws := tb_5 65 rfl rfl
theorem q_1094 : (Jvm.Cond.instanceMethod ({ cls := "OneHandEachModel", name := "mend", desc := "(III)I" } : Jvm.MethodName)) ∈ m_ws := tb_5 66 rfl rfl
theorem q_1095 : (Jvm.Cond.selects "OneHandEachModel" ({ cls := "OneHandEachModel", name := "mend", desc := "(III)I" } : Jvm.MethodName) ({ cls := "OneHandEachModel", name := "mend", desc := "(III)I" } : Jvm.MethodName)) ∈ m_ws := tb_5 67 rfl rfl
theorem q_1096 : (Jvm.Cond.code ({ cls := "OneHandEachModel", name := "mend", desc := "(III)I" } : Jvm.MethodName) prog_14_method_18_code (4 : Nat) (Option.some Jvm.ClassFile.FieldType.int)) ∈ m_ws := tb_5 68 rfl rfl
theorem q_1097 : (Jvm.Cond.methodLink "OneHandEachModel" (174 : Nat) ({ cls := "OneHandEachModel", name := "changes", desc := "(III)I" } : Jvm.MethodName)) ∈ m_ws := tb_5 69 rfl rfl
theorem q_1099 : (Jvm.Cond.instanceMethod ({ cls := "OneHandEachModel", name := "changes", desc := "(III)I" } : Jvm.MethodName)) ∈ m_ws := tb_5 71 rfl rfl
theorem q_1100 : (Jvm.Cond.code ({ cls := "OneHandEachModel", name := "changes", desc := "(III)I" } : Jvm.MethodName) prog_14_method_15_code (6 : Nat) (Option.some Jvm.ClassFile.FieldType.int)) ∈ m_ws := tb_5 72 rfl rfl
theorem q_1101 : (Jvm.Cond.methodLink "OneHandEachModel" (161 : Nat) ({ cls := "OneHandEachModel", name := "valueAt", desc := "(II)I" } : Jvm.MethodName)) ∈ m_ws := tb_5 73 rfl rfl
theorem q_1103 : (Jvm.Cond.instanceMethod ({ cls := "OneHandEachModel", name := "valueAt", desc := "(II)I" } : Jvm.MethodName)) ∈ m_ws := tb_5 75 rfl rfl
theorem q_1104 : (Jvm.Cond.code ({ cls := "OneHandEachModel", name := "valueAt", desc := "(II)I" } : Jvm.MethodName) prog_14_method_13_code (3 : Nat) (Option.some Jvm.ClassFile.FieldType.int)) ∈ m_ws := tb_5 76 rfl rfl
theorem q_1105 : (Jvm.Cond.constant "OneHandEachModel" (177 : Nat) (-2000000000 : Int32)) ∈ m_ws := tb_5 77 rfl rfl
theorem q_1106 : (Jvm.Cond.methodLink "OneHandEachLaw" (22 : Nat) ({ cls := "OneHandEachModel", name := "of", desc := "(II)I" } : Jvm.MethodName)) ∈ m_ws := tb_5 78 rfl rfl
theorem q_1107 : (Jvm.Cond.instanceMethod ({ cls := "OneHandEachModel", name := "of", desc := "(II)I" } : Jvm.MethodName)) ∈ m_ws := tb_5 79 rfl rfl
theorem q_1108 : (Jvm.Cond.selects "OneHandEachModel" ({ cls := "OneHandEachModel", name := "of", desc := "(II)I" } : Jvm.MethodName) ({ cls := "OneHandEachModel", name := "of", desc := "(II)I" } : Jvm.MethodName)) ∈ m_ws := tb_5 80 rfl rfl
theorem q_1109 : (Jvm.Cond.code ({ cls := "OneHandEachModel", name := "of", desc := "(II)I" } : Jvm.MethodName) prog_14_method_19_code (3 : Nat) (Option.some Jvm.ClassFile.FieldType.int)) ∈ m_ws := tb_5 81 rfl rfl
theorem q_1110 : (Jvm.Cond.methodLink "OneHandEachLaw" (44 : Nat) ({ cls := "OneHandEachModel", name := "sight", desc := "(II)I" } : Jvm.MethodName)) ∈ m_ws := tb_5 82 rfl rfl
theorem q_1111 : (Jvm.Cond.instanceMethod ({ cls := "OneHandEachModel", name := "sight", desc := "(II)I" } : Jvm.MethodName)) ∈ m_ws := tb_5 83 rfl rfl
theorem q_1112 : (Jvm.Cond.selects "OneHandEachModel" ({ cls := "OneHandEachModel", name := "sight", desc := "(II)I" } : Jvm.MethodName) ({ cls := "OneHandEachModel", name := "sight", desc := "(II)I" } : Jvm.MethodName)) ∈ m_ws := tb_5 84 rfl rfl
theorem q_1113 : (Jvm.Cond.code ({ cls := "OneHandEachModel", name := "sight", desc := "(II)I" } : Jvm.MethodName) prog_14_method_22_code (3 : Nat) (Option.some Jvm.ClassFile.FieldType.int)) ∈ m_ws := tb_5 85 rfl rfl
theorem q_1114 : (Jvm.Cond.methodLink "OneHandEachModel" (184 : Nat) ({ cls := "OneHandEachModel", name := "isSight", desc := "(IIII)Z" } : Jvm.MethodName)) ∈ m_ws := tb_5 86 rfl rfl
theorem q_1115 : (Jvm.Cond.static ({ cls := "OneHandEachModel", name := "isSight", desc := "(IIII)Z" } : Jvm.MethodName)) ∈ m_ws := tb_5 87 rfl rfl
theorem q_1116 : (Jvm.Cond.code ({ cls := "OneHandEachModel", name := "isSight", desc := "(IIII)Z" } : Jvm.MethodName) prog_14_method_20_code (4 : Nat) (Option.some Jvm.ClassFile.FieldType.boolean)) ∈ m_ws := tb_5 88 rfl rfl
theorem q_1117 : (Jvm.Cond.methodLink "OneHandEachModel" (188 : Nat) ({ cls := "OneHandEachModel", name := "addSight", desc := "(IIII)I" } : Jvm.MethodName)) ∈ m_ws := tb_5 89 rfl rfl
theorem q_1119 : (Jvm.Cond.instanceMethod ({ cls := "OneHandEachModel", name := "addSight", desc := "(IIII)I" } : Jvm.MethodName)) ∈ m_ws := tb_5 91 rfl rfl
theorem q_1120 : (Jvm.Cond.code ({ cls := "OneHandEachModel", name := "addSight", desc := "(IIII)I" } : Jvm.MethodName) prog_14_method_21_code (5 : Nat) (Option.some Jvm.ClassFile.FieldType.int)) ∈ m_ws := tb_5 92 rfl rfl
theorem q_1121 : (Jvm.Cond.methodLink "OneHandEachLaw" (48 : Nat) ({ cls := "OneHandEachModel", name := "sights", desc := "(III)I" } : Jvm.MethodName)) ∈ m_ws := tb_5 93 rfl rfl
theorem q_1122 : (Jvm.Cond.instanceMethod ({ cls := "OneHandEachModel", name := "sights", desc := "(III)I" } : Jvm.MethodName)) ∈ m_ws := tb_5 94 rfl rfl
theorem q_1123 : (Jvm.Cond.selects "OneHandEachModel" ({ cls := "OneHandEachModel", name := "sights", desc := "(III)I" } : Jvm.MethodName) ({ cls := "OneHandEachModel", name := "sights", desc := "(III)I" } : Jvm.MethodName)) ∈ m_ws := tb_5 95 rfl rfl
theorem q_1124 : (Jvm.Cond.code ({ cls := "OneHandEachModel", name := "sights", desc := "(III)I" } : Jvm.MethodName) prog_14_method_23_code (8 : Nat) (Option.some Jvm.ClassFile.FieldType.int)) ∈ m_ws := tb_5 96 rfl rfl
theorem q_1125 : (Jvm.Cond.methodLink "OneHandEachModel" (192 : Nat) ({ cls := "OneHandEachModel", name := "isShelf", desc := "(I)Z" } : Jvm.MethodName)) ∈ m_ws := tb_5 97 rfl rfl
theorem q_1126 : (Jvm.Cond.static ({ cls := "OneHandEachModel", name := "isShelf", desc := "(I)Z" } : Jvm.MethodName)) ∈ m_ws := tb_5 98 rfl rfl
theorem q_1127 : (Jvm.Cond.code ({ cls := "OneHandEachModel", name := "isShelf", desc := "(I)Z" } : Jvm.MethodName) prog_14_method_89_code (1 : Nat) (Option.some Jvm.ClassFile.FieldType.boolean)) ∈ m_ws := tb_5 99 rfl rfl
theorem q_1128 : (Jvm.Cond.constantLong "OneHandEachModel" (195 : Nat) (3 : Int64)) ∈ m_ws := tb_5 100 rfl rfl
theorem q_1129 : (Jvm.Cond.methodLink "OneHandEachLaw" (52 : Nat) ({ cls := "OneHandEachModel", name := "forget", desc := "()I" } : Jvm.MethodName)) ∈ m_ws := tb_5 101 rfl rfl
theorem q_1130 : (Jvm.Cond.instanceMethod ({ cls := "OneHandEachModel", name := "forget", desc := "()I" } : Jvm.MethodName)) ∈ m_ws := tb_5 102 rfl rfl
theorem q_1131 : (Jvm.Cond.selects "OneHandEachModel" ({ cls := "OneHandEachModel", name := "forget", desc := "()I" } : Jvm.MethodName) ({ cls := "OneHandEachModel", name := "forget", desc := "()I" } : Jvm.MethodName)) ∈ m_ws := tb_5 103 rfl rfl
theorem q_1132 : (Jvm.Cond.code ({ cls := "OneHandEachModel", name := "forget", desc := "()I" } : Jvm.MethodName) prog_14_method_24_code (1 : Nat) (Option.some Jvm.ClassFile.FieldType.int)) ∈ m_ws := tb_5 104 rfl rfl
theorem q_1133 : (Jvm.Cond.methodLink "OneHandEachLaw" (80 : Nat) ({ cls := "OneHandEachModel", name := "gun", desc := "(II)I" } : Jvm.MethodName)) ∈ m_ws := tb_5 105 rfl rfl
theorem q_1134 : (Jvm.Cond.instanceMethod ({ cls := "OneHandEachModel", name := "gun", desc := "(II)I" } : Jvm.MethodName)) ∈ m_ws := tb_5 106 rfl rfl
theorem q_1135 : (Jvm.Cond.selects "OneHandEachModel" ({ cls := "OneHandEachModel", name := "gun", desc := "(II)I" } : Jvm.MethodName) ({ cls := "OneHandEachModel", name := "gun", desc := "(II)I" } : Jvm.MethodName)) ∈ m_ws := tb_5 107 rfl rfl
theorem q_1136 : (Jvm.Cond.code ({ cls := "OneHandEachModel", name := "gun", desc := "(II)I" } : Jvm.MethodName) prog_14_method_25_code (3 : Nat) (Option.some Jvm.ClassFile.FieldType.int)) ∈ m_ws := tb_5 108 rfl rfl
theorem q_1137 : (Jvm.Cond.methodLink "OneHandEachLaw" (31 : Nat) ({ cls := "OneHandEachModel", name := "feed", desc := "(I)I" } : Jvm.MethodName)) ∈ m_ws := tb_5 109 rfl rfl
theorem q_1138 : (Jvm.Cond.instanceMethod ({ cls := "OneHandEachModel", name := "feed", desc := "(I)I" } : Jvm.MethodName)) ∈ m_ws := tb_5 110 rfl rfl
theorem q_1139 : (Jvm.Cond.selects "OneHandEachModel" ({ cls := "OneHandEachModel", name := "feed", desc := "(I)I" } : Jvm.MethodName) ({ cls := "OneHandEachModel", name := "feed", desc := "(I)I" } : Jvm.MethodName)) ∈ m_ws := tb_5 111 rfl rfl
theorem q_1140 : (Jvm.Cond.code ({ cls := "OneHandEachModel", name := "feed", desc := "(I)I" } : Jvm.MethodName) prog_14_method_26_code (2 : Nat) (Option.some Jvm.ClassFile.FieldType.int)) ∈ m_ws := tb_5 112 rfl rfl
theorem q_1141 : (Jvm.Cond.methodLink "OneHandEachLaw" (36 : Nat) ({ cls := "OneHandEachModel", name := "law", desc := "()I" } : Jvm.MethodName)) ∈ m_ws := tb_5 113 rfl rfl
theorem q_1142 : (Jvm.Cond.instanceMethod ({ cls := "OneHandEachModel", name := "law", desc := "()I" } : Jvm.MethodName)) ∈ m_ws := tb_5 114 rfl rfl
theorem q_1143 : (Jvm.Cond.selects "OneHandEachModel" ({ cls := "OneHandEachModel", name := "law", desc := "()I" } : Jvm.MethodName) ({ cls := "OneHandEachModel", name := "law", desc := "()I" } : Jvm.MethodName)) ∈ m_ws := tb_5 115 rfl rfl
theorem q_1144 : (Jvm.Cond.code ({ cls := "OneHandEachModel", name := "law", desc := "()I" } : Jvm.MethodName) prog_14_method_44_code (2 : Nat) (Option.some Jvm.ClassFile.FieldType.int)) ∈ m_ws := tb_5 116 rfl rfl
theorem q_1145 : (Jvm.Cond.methodLink "OneHandEachModel" (261 : Nat) ({ cls := "OneHandEachModel", name := "readText", desc := "(I)I" } : Jvm.MethodName)) ∈ m_ws := tb_5 117 rfl rfl
theorem q_1147 : (Jvm.Cond.instanceMethod ({ cls := "OneHandEachModel", name := "readText", desc := "(I)I" } : Jvm.MethodName)) ∈ m_ws := tb_5 119 rfl rfl
theorem q_1148 : (Jvm.Cond.code ({ cls := "OneHandEachModel", name := "readText", desc := "(I)I" } : Jvm.MethodName) prog_14_method_40_code (3 : Nat) (Option.some Jvm.ClassFile.FieldType.int)) ∈ m_ws := tb_5 120 rfl rfl
theorem q_1149 : (Jvm.Cond.methodLink "OneHandEachModel" (252 : Nat) ({ cls := "OneHandEachModel", name := "line", desc := "()V" } : Jvm.MethodName)) ∈ m_ws := tb_5 121 rfl rfl
theorem q_1151 : (Jvm.Cond.instanceMethod ({ cls := "OneHandEachModel", name := "line", desc := "()V" } : Jvm.MethodName)) ∈ m_ws := tb_5 123 rfl rfl
theorem q_1152 : (Jvm.Cond.code ({ cls := "OneHandEachModel", name := "line", desc := "()V" } : Jvm.MethodName) prog_14_method_39_code (2 : Nat) (Option.none : Option Jvm.ClassFile.FieldType)) ∈ m_ws := tb_5 124 rfl rfl
theorem q_1153 : (Jvm.Cond.methodLink "OneHandEachModel" (234 : Nat) ({ cls := "OneHandEachModel", name := "either", desc := "()V" } : Jvm.MethodName)) ∈ m_ws := tb_5 125 rfl rfl
theorem q_1155 : (Jvm.Cond.instanceMethod ({ cls := "OneHandEachModel", name := "either", desc := "()V" } : Jvm.MethodName)) ∈ m_ws := tb_5 127 rfl rfl
theorem q_1156 : (Jvm.Cond.code ({ cls := "OneHandEachModel", name := "either", desc := "()V" } : Jvm.MethodName) prog_14_method_38_code (1 : Nat) (Option.none : Option Jvm.ClassFile.FieldType)) ∈ m_ws := tb_5 128 rfl rfl
theorem q_1157 : (Jvm.Cond.methodLink "OneHandEachModel" (249 : Nat) ({ cls := "OneHandEachModel", name := "both", desc := "()V" } : Jvm.MethodName)) ∈ m_ws := tb_5 129 rfl rfl
theorem q_1159 : (Jvm.Cond.instanceMethod ({ cls := "OneHandEachModel", name := "both", desc := "()V" } : Jvm.MethodName)) ∈ m_ws := tb_5 131 rfl rfl
theorem q_1160 : (Jvm.Cond.code ({ cls := "OneHandEachModel", name := "both", desc := "()V" } : Jvm.MethodName) prog_14_method_37_code (1 : Nat) (Option.none : Option Jvm.ClassFile.FieldType)) ∈ m_ws := tb_5 132 rfl rfl
theorem q_1161 : (Jvm.Cond.methodLink "OneHandEachModel" (246 : Nat) ({ cls := "OneHandEachModel", name := "compared", desc := "()V" } : Jvm.MethodName)) ∈ m_ws := tb_5 133 rfl rfl
theorem q_1163 : (Jvm.Cond.instanceMethod ({ cls := "OneHandEachModel", name := "compared", desc := "()V" } : Jvm.MethodName)) ∈ m_ws := tb_5 135 rfl rfl
theorem q_1164 : (Jvm.Cond.code ({ cls := "OneHandEachModel", name := "compared", desc := "()V" } : Jvm.MethodName) prog_14_method_36_code (2 : Nat) (Option.none : Option Jvm.ClassFile.FieldType)) ∈ m_ws := tb_5 136 rfl rfl
theorem q_1165 : (Jvm.Cond.methodLink "OneHandEachModel" (243 : Nat) ({ cls := "OneHandEachModel", name := "sum", desc := "()V" } : Jvm.MethodName)) ∈ m_ws := tb_5 137 rfl rfl
theorem q_1167 : (Jvm.Cond.instanceMethod ({ cls := "OneHandEachModel", name := "sum", desc := "()V" } : Jvm.MethodName)) ∈ m_ws := tb_5 139 rfl rfl
theorem q_1168 : (Jvm.Cond.code ({ cls := "OneHandEachModel", name := "sum", desc := "()V" } : Jvm.MethodName) prog_14_method_35_code (2 : Nat) (Option.none : Option Jvm.ClassFile.FieldType)) ∈ m_ws := tb_5 140 rfl rfl
theorem q_1169 : (Jvm.Cond.methodLink "OneHandEachModel" (240 : Nat) ({ cls := "OneHandEachModel", name := "product", desc := "()V" } : Jvm.MethodName)) ∈ m_ws := tb_5 141 rfl rfl
theorem q_1171 : (Jvm.Cond.instanceMethod ({ cls := "OneHandEachModel", name := "product", desc := "()V" } : Jvm.MethodName)) ∈ m_ws := tb_5 143 rfl rfl
theorem q_1172 : (Jvm.Cond.code ({ cls := "OneHandEachModel", name := "product", desc := "()V" } : Jvm.MethodName) prog_14_method_34_code (2 : Nat) (Option.none : Option Jvm.ClassFile.FieldType)) ∈ m_ws := tb_5 144 rfl rfl
theorem q_1173 : (Jvm.Cond.methodLink "OneHandEachModel" (231 : Nat) ({ cls := "OneHandEachModel", name := "operand", desc := "()V" } : Jvm.MethodName)) ∈ m_ws := tb_5 145 rfl rfl
theorem q_1175 : (Jvm.Cond.instanceMethod ({ cls := "OneHandEachModel", name := "operand", desc := "()V" } : Jvm.MethodName)) ∈ m_ws := tb_5 147 rfl rfl
theorem q_1176 : (Jvm.Cond.code ({ cls := "OneHandEachModel", name := "operand", desc := "()V" } : Jvm.MethodName) prog_14_method_33_code (2 : Nat) (Option.none : Option Jvm.ClassFile.FieldType)) ∈ m_ws := tb_5 148 rfl rfl
theorem q_1177 : (Jvm.Cond.methodLink "OneHandEachModel" (215 : Nat) ({ cls := "OneHandEachModel", name := "look", desc := "()I" } : Jvm.MethodName)) ∈ m_ws := tb_5 149 rfl rfl
theorem q_1179 : (Jvm.Cond.instanceMethod ({ cls := "OneHandEachModel", name := "look", desc := "()I" } : Jvm.MethodName)) ∈ m_ws := tb_5 151 rfl rfl
theorem q_1180 : (Jvm.Cond.code ({ cls := "OneHandEachModel", name := "look", desc := "()I" } : Jvm.MethodName) prog_14_method_27_code (1 : Nat) (Option.some Jvm.ClassFile.FieldType.int)) ∈ m_ws := tb_5 152 rfl rfl
theorem q_1181 : (Jvm.Cond.methodLink "OneHandEachModel" (223 : Nat) ({ cls := "OneHandEachModel", name := "nameOf", desc := "(I)I" } : Jvm.MethodName)) ∈ m_ws := tb_5 153 rfl rfl
theorem q_1182 : (Jvm.Cond.static ({ cls := "OneHandEachModel", name := "nameOf", desc := "(I)I" } : Jvm.MethodName)) ∈ m_ws := tb_5 154 rfl rfl
theorem q_1183 : (Jvm.Cond.code ({ cls := "OneHandEachModel", name := "nameOf", desc := "(I)I" } : Jvm.MethodName) prog_14_method_30_code (1 : Nat) (Option.some Jvm.ClassFile.FieldType.int)) ∈ m_ws := tb_5 155 rfl rfl
theorem q_1184 : (Jvm.Cond.methodLink "OneHandEachModel" (219 : Nat) ({ cls := "OneHandEachModel", name := "addStep", desc := "(II)V" } : Jvm.MethodName)) ∈ m_ws := tb_5 156 rfl rfl
theorem q_1186 : (Jvm.Cond.instanceMethod ({ cls := "OneHandEachModel", name := "addStep", desc := "(II)V" } : Jvm.MethodName)) ∈ m_ws := tb_5 158 rfl rfl
theorem q_1187 : (Jvm.Cond.code ({ cls := "OneHandEachModel", name := "addStep", desc := "(II)V" } : Jvm.MethodName) prog_14_method_29_code (3 : Nat) (Option.none : Option Jvm.ClassFile.FieldType)) ∈ m_ws := tb_5 159 rfl rfl
theorem q_1188 : (Jvm.Cond.methodLink "OneHandEachModel" (227 : Nat) ({ cls := "OneHandEachModel", name := "opens", desc := "()Z" } : Jvm.MethodName)) ∈ m_ws := tb_5 160 rfl rfl
theorem q_1190 : (Jvm.Cond.instanceMethod ({ cls := "OneHandEachModel", name := "opens", desc := "()Z" } : Jvm.MethodName)) ∈ m_ws := tb_5 162 rfl rfl
theorem q_1191 : (Jvm.Cond.code ({ cls := "OneHandEachModel", name := "opens", desc := "()Z" } : Jvm.MethodName) prog_14_method_31_code (1 : Nat) (Option.some Jvm.ClassFile.FieldType.boolean)) ∈ m_ws := tb_5 163 rfl rfl
theorem q_1192 : (Jvm.Cond.methodLink "OneHandEachModel" (212 : Nat) ({ cls := "OneHandEachModel", name := "faulty", desc := "()V" } : Jvm.MethodName)) ∈ m_ws := tb_5 164 rfl rfl
theorem q_1194 : (Jvm.Cond.instanceMethod ({ cls := "OneHandEachModel", name := "faulty", desc := "()V" } : Jvm.MethodName)) ∈ m_ws := tb_5 166 rfl rfl
theorem q_1195 : (Jvm.Cond.code ({ cls := "OneHandEachModel", name := "faulty", desc := "()V" } : Jvm.MethodName) prog_14_method_28_code (1 : Nat) (Option.none : Option Jvm.ClassFile.FieldType)) ∈ m_ws := tb_5 167 rfl rfl
theorem q_1196 : (Jvm.Cond.methodLink "OneHandEachModel" (237 : Nat) ({ cls := "OneHandEachModel", name := "figure", desc := "()V" } : Jvm.MethodName)) ∈ m_ws := tb_5 168 rfl rfl
theorem q_1198 : (Jvm.Cond.instanceMethod ({ cls := "OneHandEachModel", name := "figure", desc := "()V" } : Jvm.MethodName)) ∈ m_ws := tb_5 170 rfl rfl
theorem q_1199 : (Jvm.Cond.code ({ cls := "OneHandEachModel", name := "figure", desc := "()V" } : Jvm.MethodName) prog_14_method_32_code (3 : Nat) (Option.none : Option Jvm.ClassFile.FieldType)) ∈ m_ws := tb_5 171 rfl rfl
theorem q_1200 : (Jvm.Cond.methodLink "OneHandEachLaw" (40 : Nat) ({ cls := "OneHandEachModel", name := "weight", desc := "(I)I" } : Jvm.MethodName)) ∈ m_ws := tb_5 172 rfl rfl
theorem q_1201 : (Jvm.Cond.instanceMethod ({ cls := "OneHandEachModel", name := "weight", desc := "(I)I" } : Jvm.MethodName)) ∈ m_ws := tb_5 173 rfl rfl
theorem q_1202 : (Jvm.Cond.selects "OneHandEachModel" ({ cls := "OneHandEachModel", name := "weight", desc := "(I)I" } : Jvm.MethodName) ({ cls := "OneHandEachModel", name := "weight", desc := "(I)I" } : Jvm.MethodName)) ∈ m_ws := tb_5 174 rfl rfl
theorem q_1203 : (Jvm.Cond.code ({ cls := "OneHandEachModel", name := "weight", desc := "(I)I" } : Jvm.MethodName) prog_14_method_46_code (2 : Nat) (Option.some Jvm.ClassFile.FieldType.int)) ∈ m_ws := tb_5 175 rfl rfl
theorem q_1204 : (Jvm.Cond.methodLink "OneHandEachModel" (271 : Nat) ({ cls := "OneHandEachModel", name := "weightOf", desc := "(I)I" } : Jvm.MethodName)) ∈ m_ws := tb_5 176 rfl rfl
theorem q_1206 : (Jvm.Cond.instanceMethod ({ cls := "OneHandEachModel", name := "weightOf", desc := "(I)I" } : Jvm.MethodName)) ∈ m_ws := tb_5 178 rfl rfl
theorem q_1207 : (Jvm.Cond.code ({ cls := "OneHandEachModel", name := "weightOf", desc := "(I)I" } : Jvm.MethodName) prog_14_method_45_code (3 : Nat) (Option.some Jvm.ClassFile.FieldType.int)) ∈ m_ws := tb_5 179 rfl rfl
theorem q_1208 : (Jvm.Cond.methodLink "OneHandEachModel" (268 : Nat) ({ cls := "OneHandEachModel", name := "gives", desc := "(I)I" } : Jvm.MethodName)) ∈ m_ws := tb_5 180 rfl rfl
theorem q_1210 : (Jvm.Cond.instanceMethod ({ cls := "OneHandEachModel", name := "gives", desc := "(I)I" } : Jvm.MethodName)) ∈ m_ws := tb_5 182 rfl rfl
theorem q_1211 : (Jvm.Cond.code ({ cls := "OneHandEachModel", name := "gives", desc := "(I)I" } : Jvm.MethodName) prog_14_method_43_code (4 : Nat) (Option.some Jvm.ClassFile.FieldType.int)) ∈ m_ws := tb_5 183 rfl rfl
theorem q_1212 : (Jvm.Cond.methodLink "OneHandEachModel" (258 : Nat) ({ cls := "OneHandEachModel", name := "worked", desc := "(III)I" } : Jvm.MethodName)) ∈ m_ws := tb_5 184 rfl rfl
theorem q_1214 : (Jvm.Cond.instanceMethod ({ cls := "OneHandEachModel", name := "worked", desc := "(III)I" } : Jvm.MethodName)) ∈ m_ws := tb_5 186 rfl rfl
theorem q_1215 : (Jvm.Cond.code ({ cls := "OneHandEachModel", name := "worked", desc := "(III)I" } : Jvm.MethodName) prog_14_method_42_code (7 : Nat) (Option.some Jvm.ClassFile.FieldType.int)) ∈ m_ws := tb_5 187 rfl rfl
theorem q_1216 : (Jvm.Cond.methodLink "OneHandEachModel" (255 : Nat) ({ cls := "OneHandEachModel", name := "twoOf", desc := "(III)I" } : Jvm.MethodName)) ∈ m_ws := tb_5 188 rfl rfl
theorem q_1217 : (Jvm.Cond.static ({ cls := "OneHandEachModel", name := "twoOf", desc := "(III)I" } : Jvm.MethodName)) ∈ m_ws := tb_5 189 rfl rfl
theorem q_1218 : (Jvm.Cond.code ({ cls := "OneHandEachModel", name := "twoOf", desc := "(III)I" } : Jvm.MethodName) prog_14_method_41_code (3 : Nat) (Option.some Jvm.ClassFile.FieldType.int)) ∈ m_ws := tb_5 190 rfl rfl
theorem q_1219 : (Jvm.Cond.methodLink "OneHandEachLaw" (56 : Nat) ({ cls := "OneHandEachModel", name := "fits", desc := "(I)I" } : Jvm.MethodName)) ∈ m_ws := tb_5 191 rfl rfl
theorem q_1220 : (Jvm.Cond.instanceMethod ({ cls := "OneHandEachModel", name := "fits", desc := "(I)I" } : Jvm.MethodName)) ∈ m_ws := tb_5 192 rfl rfl
theorem q_1221 : (Jvm.Cond.selects "OneHandEachModel" ({ cls := "OneHandEachModel", name := "fits", desc := "(I)I" } : Jvm.MethodName) ({ cls := "OneHandEachModel", name := "fits", desc := "(I)I" } : Jvm.MethodName)) ∈ m_ws := tb_5 193 rfl rfl
theorem q_1222 : (Jvm.Cond.code ({ cls := "OneHandEachModel", name := "fits", desc := "(I)I" } : Jvm.MethodName) prog_14_method_49_code (4 : Nat) (Option.some Jvm.ClassFile.FieldType.int)) ∈ m_ws := tb_5 194 rfl rfl
theorem q_1223 : (Jvm.Cond.methodLink "OneHandEachModel" (284 : Nat) ({ cls := "OneHandEachModel", name := "findFits", desc := "(I)V" } : Jvm.MethodName)) ∈ m_ws := tb_5 195 rfl rfl
theorem q_1225 : (Jvm.Cond.instanceMethod ({ cls := "OneHandEachModel", name := "findFits", desc := "(I)V" } : Jvm.MethodName)) ∈ m_ws := tb_5 197 rfl rfl
theorem q_1226 : (Jvm.Cond.code ({ cls := "OneHandEachModel", name := "findFits", desc := "(I)V" } : Jvm.MethodName) prog_14_method_48_code (5 : Nat) (Option.none : Option Jvm.ClassFile.FieldType)) ∈ m_ws := tb_5 198 rfl rfl
theorem q_1227 : (Jvm.Cond.methodLink "OneHandEachModel" (281 : Nat) ({ cls := "OneHandEachModel", name := "isSeen", desc := "(II)Z" } : Jvm.MethodName)) ∈ m_ws := tb_5 199 rfl rfl
theorem q_1229 : (Jvm.Cond.instanceMethod ({ cls := "OneHandEachModel", name := "isSeen", desc := "(II)Z" } : Jvm.MethodName)) ∈ m_ws := tb_5 201 rfl rfl
theorem q_1230 : (Jvm.Cond.code ({ cls := "OneHandEachModel", name := "isSeen", desc := "(II)Z" } : Jvm.MethodName) prog_14_method_47_code (4 : Nat) (Option.some Jvm.ClassFile.FieldType.boolean)) ∈ m_ws := tb_5 202 rfl rfl
theorem q_1231 : (Jvm.Cond.methodLink "OneHandEachModel" (274 : Nat) ({ cls := "OneHandEachModel", name := "isNear", desc := "(II)Z" } : Jvm.MethodName)) ∈ m_ws := tb_5 203 rfl rfl
theorem q_1233 : (Jvm.Cond.instanceMethod ({ cls := "OneHandEachModel", name := "isNear", desc := "(II)Z" } : Jvm.MethodName)) ∈ m_ws := tb_5 205 rfl rfl
theorem q_1234 : (Jvm.Cond.code ({ cls := "OneHandEachModel", name := "isNear", desc := "(II)Z" } : Jvm.MethodName) prog_14_method_11_code (4 : Nat) (Option.some Jvm.ClassFile.FieldType.boolean)) ∈ m_ws := tb_5 206 rfl rfl
theorem q_1235 : (Jvm.Cond.methodLink "OneHandEachLaw" (60 : Nat) ({ cls := "OneHandEachModel", name := "chance", desc := "(II)I" } : Jvm.MethodName)) ∈ m_ws := tb_5 207 rfl rfl
theorem q_1236 : (Jvm.Cond.instanceMethod ({ cls := "OneHandEachModel", name := "chance", desc := "(II)I" } : Jvm.MethodName)) ∈ m_ws := tb_5 208 rfl rfl
theorem q_1237 : (Jvm.Cond.selects "OneHandEachModel" ({ cls := "OneHandEachModel", name := "chance", desc := "(II)I" } : Jvm.MethodName) ({ cls := "OneHandEachModel", name := "chance", desc := "(II)I" } : Jvm.MethodName)) ∈ m_ws := tb_5 209 rfl rfl
theorem q_1238 : (Jvm.Cond.code ({ cls := "OneHandEachModel", name := "chance", desc := "(II)I" } : Jvm.MethodName) prog_14_method_51_code (7 : Nat) (Option.some Jvm.ClassFile.FieldType.int)) ∈ m_ws := tb_5 210 rfl rfl
theorem q_1239 : (Jvm.Cond.methodLink "OneHandEachModel" (288 : Nat) ({ cls := "OneHandEachModel", name := "common", desc := "(II)I" } : Jvm.MethodName)) ∈ m_ws := tb_5 211 rfl rfl
theorem q_1240 : (Jvm.Cond.static ({ cls := "OneHandEachModel", name := "common", desc := "(II)I" } : Jvm.MethodName)) ∈ m_ws := tb_5 212 rfl rfl
theorem q_1241 : (Jvm.Cond.code ({ cls := "OneHandEachModel", name := "common", desc := "(II)I" } : Jvm.MethodName) prog_14_method_50_code (5 : Nat) (Option.some Jvm.ClassFile.FieldType.int)) ∈ m_ws := tb_5 213 rfl rfl
theorem q_1242 : (Jvm.Cond.methodLink "OneHandEachLaw" (64 : Nat) ({ cls := "OneHandEachModel", name := "likely", desc := "()I" } : Jvm.MethodName)) ∈ m_ws := tb_5 214 rfl rfl
theorem q_1243 : (Jvm.Cond.instanceMethod ({ cls := "OneHandEachModel", name := "likely", desc := "()I" } : Jvm.MethodName)) ∈ m_ws := tb_5 215 rfl rfl
theorem q_1244 : (Jvm.Cond.selects "OneHandEachModel" ({ cls := "OneHandEachModel", name := "likely", desc := "()I" } : Jvm.MethodName) ({ cls := "OneHandEachModel", name := "likely", desc := "()I" } : Jvm.MethodName)) ∈ m_ws := tb_5 216 rfl rfl
theorem q_1245 : (Jvm.Cond.code ({ cls := "OneHandEachModel", name := "likely", desc := "()I" } : Jvm.MethodName) prog_14_method_52_code (4 : Nat) (Option.some Jvm.ClassFile.FieldType.int)) ∈ m_ws := tb_5 217 rfl rfl
theorem q_1246 : (Jvm.Cond.methodLink "OneHandEachLaw" (68 : Nat) ({ cls := "OneHandEachModel", name := "tells", desc := "(I)I" } : Jvm.MethodName)) ∈ m_ws := tb_5 218 rfl rfl
theorem q_1247 : (Jvm.Cond.instanceMethod ({ cls := "OneHandEachModel", name := "tells", desc := "(I)I" } : Jvm.MethodName)) ∈ m_ws := tb_5 219 rfl rfl
theorem q_1248 : (Jvm.Cond.selects "OneHandEachModel" ({ cls := "OneHandEachModel", name := "tells", desc := "(I)I" } : Jvm.MethodName) ({ cls := "OneHandEachModel", name := "tells", desc := "(I)I" } : Jvm.MethodName)) ∈ m_ws := tb_5 220 rfl rfl
theorem q_1249 : (Jvm.Cond.code ({ cls := "OneHandEachModel", name := "tells", desc := "(I)I" } : Jvm.MethodName) prog_14_method_53_code (3 : Nat) (Option.some Jvm.ClassFile.FieldType.int)) ∈ m_ws := tb_5 221 rfl rfl
theorem q_1250 : (Jvm.Cond.methodLink "OneHandEachLaw" (72 : Nat) ({ cls := "OneHandEachModel", name := "next", desc := "(II)I" } : Jvm.MethodName)) ∈ m_ws := tb_5 222 rfl rfl
theorem q_1251 : (Jvm.Cond.instanceMethod ({ cls := "OneHandEachModel", name := "next", desc := "(II)I" } : Jvm.MethodName)) ∈ m_ws := tb_5 223 rfl rfl
theorem q_1252 : (Jvm.Cond.selects "OneHandEachModel" ({ cls := "OneHandEachModel", name := "next", desc := "(II)I" } : Jvm.MethodName) ({ cls := "OneHandEachModel", name := "next", desc := "(II)I" } : Jvm.MethodName)) ∈ m_ws := tb_5 224 rfl rfl
theorem q_1253 : (Jvm.Cond.code ({ cls := "OneHandEachModel", name := "next", desc := "(II)I" } : Jvm.MethodName) prog_14_method_55_code (5 : Nat) (Option.some Jvm.ClassFile.FieldType.int)) ∈ m_ws := tb_5 225 rfl rfl
theorem q_1254 : (Jvm.Cond.methodLink "OneHandEachModel" (291 : Nat) ({ cls := "OneHandEachModel", name := "mostAlike", desc := "(II)I" } : Jvm.MethodName)) ∈ m_ws := tb_5 226 rfl rfl
theorem q_1256 : (Jvm.Cond.instanceMethod ({ cls := "OneHandEachModel", name := "mostAlike", desc := "(II)I" } : Jvm.MethodName)) ∈ m_ws := tb_5 228 rfl rfl
theorem q_1257 : (Jvm.Cond.code ({ cls := "OneHandEachModel", name := "mostAlike", desc := "(II)I" } : Jvm.MethodName) prog_14_method_54_code (6 : Nat) (Option.some Jvm.ClassFile.FieldType.int)) ∈ m_ws := tb_5 229 rfl rfl
theorem q_1258 : (Jvm.Cond.methodLink "OneHandEachLaw" (76 : Nat) ({ cls := "OneHandEachModel", name := "lot", desc := "(III)I" } : Jvm.MethodName)) ∈ m_ws := tb_5 230 rfl rfl
theorem q_1259 : (Jvm.Cond.instanceMethod ({ cls := "OneHandEachModel", name := "lot", desc := "(III)I" } : Jvm.MethodName)) ∈ m_ws := tb_5 231 rfl rfl
theorem q_1260 : (Jvm.Cond.selects "OneHandEachModel" ({ cls := "OneHandEachModel", name := "lot", desc := "(III)I" } : Jvm.MethodName) ({ cls := "OneHandEachModel", name := "lot", desc := "(III)I" } : Jvm.MethodName)) ∈ m_ws := tb_5 232 rfl rfl
theorem q_1261 : (Jvm.Cond.code ({ cls := "OneHandEachModel", name := "lot", desc := "(III)I" } : Jvm.MethodName) prog_14_method_58_code (13 : Nat) (Option.some Jvm.ClassFile.FieldType.int)) ∈ m_ws := tb_5 233 rfl rfl
theorem q_1262 : (Jvm.Cond.methodLink "OneHandEachModel" (298 : Nat) ({ cls := "OneHandEachModel", name := "draw", desc := "(I)I" } : Jvm.MethodName)) ∈ m_ws := tb_5 234 rfl rfl
theorem q_1264 : (Jvm.Cond.instanceMethod ({ cls := "OneHandEachModel", name := "draw", desc := "(I)I" } : Jvm.MethodName)) ∈ m_ws := tb_5 236 rfl rfl
theorem q_1265 : (Jvm.Cond.code ({ cls := "OneHandEachModel", name := "draw", desc := "(I)I" } : Jvm.MethodName) prog_14_method_56_code (2 : Nat) (Option.some Jvm.ClassFile.FieldType.int)) ∈ m_ws := tb_5 237 rfl rfl
theorem q_1266 : (Jvm.Cond.constant "OneHandEachModel" (297 : Nat) (1103515245 : Int32)) ∈ m_ws := tb_5 238 rfl rfl
theorem q_1267 : (Jvm.Cond.methodLink "OneHandEachModel" (301 : Nat) ({ cls := "OneHandEachModel", name := "walksSo", desc := "(III)Z" } : Jvm.MethodName)) ∈ m_ws := tb_5 239 rfl rfl
theorem q_1269 : (Jvm.Cond.instanceMethod ({ cls := "OneHandEachModel", name := "walksSo", desc := "(III)Z" } : Jvm.MethodName)) ∈ m_ws := tb_6 1 rfl rfl
theorem q_1270 : (Jvm.Cond.code ({ cls := "OneHandEachModel", name := "walksSo", desc := "(III)Z" } : Jvm.MethodName) prog_14_method_57_code (5 : Nat) (Option.some Jvm.ClassFile.FieldType.boolean)) ∈ m_ws := tb_6 2 rfl rfl
theorem q_1271 : (Jvm.Cond.methodLink "OneHandEachLaw" (84 : Nat) ({ cls := "OneHandEachModel", name := "guess", desc := "(II)I" } : Jvm.MethodName)) ∈ m_ws := tb_6 3 rfl rfl
theorem q_1272 : (Jvm.Cond.instanceMethod ({ cls := "OneHandEachModel", name := "guess", desc := "(II)I" } : Jvm.MethodName)) ∈ m_ws := tb_6 4 rfl rfl
theorem q_1273 : (Jvm.Cond.selects "OneHandEachModel" ({ cls := "OneHandEachModel", name := "guess", desc := "(II)I" } : Jvm.MethodName) ({ cls := "OneHandEachModel", name := "guess", desc := "(II)I" } : Jvm.MethodName)) ∈ m_ws := tb_6 5 rfl rfl
theorem q_1274 : (Jvm.Cond.code ({ cls := "OneHandEachModel", name := "guess", desc := "(II)I" } : Jvm.MethodName) prog_14_method_60_code (12 : Nat) (Option.some Jvm.ClassFile.FieldType.int)) ∈ m_ws := tb_6 6 rfl rfl
theorem q_1275 : (Jvm.Cond.methodLink "OneHandEachModel" (304 : Nat) ({ cls := "OneHandEachModel", name := "wrongBy", desc := "(III)I" } : Jvm.MethodName)) ∈ m_ws := tb_6 7 rfl rfl
theorem q_1277 : (Jvm.Cond.instanceMethod ({ cls := "OneHandEachModel", name := "wrongBy", desc := "(III)I" } : Jvm.MethodName)) ∈ m_ws := tb_6 9 rfl rfl
theorem q_1278 : (Jvm.Cond.code ({ cls := "OneHandEachModel", name := "wrongBy", desc := "(III)I" } : Jvm.MethodName) prog_14_method_59_code (6 : Nat) (Option.some Jvm.ClassFile.FieldType.int)) ∈ m_ws := tb_6 10 rfl rfl
theorem q_1279 : (Jvm.Cond.methodLink "OneHandEachLaw" (88 : Nat) ({ cls := "OneHandEachModel", name := "liars", desc := "(I)I" } : Jvm.MethodName)) ∈ m_ws := tb_6 11 rfl rfl
theorem q_1280 : (Jvm.Cond.instanceMethod ({ cls := "OneHandEachModel", name := "liars", desc := "(I)I" } : Jvm.MethodName)) ∈ m_ws := tb_6 12 rfl rfl
theorem q_1281 : (Jvm.Cond.selects "OneHandEachModel" ({ cls := "OneHandEachModel", name := "liars", desc := "(I)I" } : Jvm.MethodName) ({ cls := "OneHandEachModel", name := "liars", desc := "(I)I" } : Jvm.MethodName)) ∈ m_ws := tb_6 13 rfl rfl
theorem q_1282 : (Jvm.Cond.code ({ cls := "OneHandEachModel", name := "liars", desc := "(I)I" } : Jvm.MethodName) prog_14_method_61_code (6 : Nat) (Option.some Jvm.ClassFile.FieldType.int)) ∈ m_ws := tb_6 14 rfl rfl
theorem q_1283 : (Jvm.Cond.methodLink "OneHandEachModel" (307 : Nat) ({ cls := "OneHandEachModel", name := "bitsOf", desc := "(I)I" } : Jvm.MethodName)) ∈ m_ws := tb_6 15 rfl rfl
theorem q_1284 : (Jvm.Cond.static ({ cls := "OneHandEachModel", name := "bitsOf", desc := "(I)I" } : Jvm.MethodName)) ∈ m_ws := tb_6 16 rfl rfl
theorem q_1285 : (Jvm.Cond.code ({ cls := "OneHandEachModel", name := "bitsOf", desc := "(I)I" } : Jvm.MethodName) prog_14_method_4_code (3 : Nat) (Option.some Jvm.ClassFile.FieldType.int)) ∈ m_ws := tb_6 17 rfl rfl
theorem q_1286 : (Jvm.Cond.methodLink "OneHandEachLaw" (92 : Nat) ({ cls := "OneHandEachModel", name := "agree", desc := "(III)I" } : Jvm.MethodName)) ∈ m_ws := tb_6 18 rfl rfl
theorem q_1287 : (Jvm.Cond.instanceMethod ({ cls := "OneHandEachModel", name := "agree", desc := "(III)I" } : Jvm.MethodName)) ∈ m_ws := tb_6 19 rfl rfl
theorem q_1288 : (Jvm.Cond.selects "OneHandEachModel" ({ cls := "OneHandEachModel", name := "agree", desc := "(III)I" } : Jvm.MethodName) ({ cls := "OneHandEachModel", name := "agree", desc := "(III)I" } : Jvm.MethodName)) ∈ m_ws := tb_6 20 rfl rfl
theorem q_1289 : (Jvm.Cond.code ({ cls := "OneHandEachModel", name := "agree", desc := "(III)I" } : Jvm.MethodName) prog_14_method_62_code (7 : Nat) (Option.some Jvm.ClassFile.FieldType.int)) ∈ m_ws := tb_6 21 rfl rfl
theorem q_1290 : (Jvm.Cond.methodLink "OneHandEachLaw" (96 : Nat) ({ cls := "OneHandEachModel", name := "meet", desc := "(III)I" } : Jvm.MethodName)) ∈ m_ws := tb_6 22 rfl rfl
theorem q_1291 : (Jvm.Cond.instanceMethod ({ cls := "OneHandEachModel", name := "meet", desc := "(III)I" } : Jvm.MethodName)) ∈ m_ws := tb_6 23 rfl rfl
theorem q_1292 : (Jvm.Cond.selects "OneHandEachModel" ({ cls := "OneHandEachModel", name := "meet", desc := "(III)I" } : Jvm.MethodName) ({ cls := "OneHandEachModel", name := "meet", desc := "(III)I" } : Jvm.MethodName)) ∈ m_ws := tb_6 24 rfl rfl
theorem q_1293 : (Jvm.Cond.code ({ cls := "OneHandEachModel", name := "meet", desc := "(III)I" } : Jvm.MethodName) prog_14_method_64_code (6 : Nat) (Option.some Jvm.ClassFile.FieldType.int)) ∈ m_ws := tb_6 25 rfl rfl
theorem q_1294 : (Jvm.Cond.methodLink "OneHandEachModel" (310 : Nat) ({ cls := "OneHandEachModel", name := "meets", desc := "(III)I" } : Jvm.MethodName)) ∈ m_ws := tb_6 26 rfl rfl
theorem q_1296 : (Jvm.Cond.instanceMethod ({ cls := "OneHandEachModel", name := "meets", desc := "(III)I" } : Jvm.MethodName)) ∈ m_ws := tb_6 28 rfl rfl
theorem q_1297 : (Jvm.Cond.code ({ cls := "OneHandEachModel", name := "meets", desc := "(III)I" } : Jvm.MethodName) prog_14_method_63_code (5 : Nat) (Option.some Jvm.ClassFile.FieldType.int)) ∈ m_ws := tb_6 29 rfl rfl
theorem q_1298 : (Jvm.Cond.methodLink "OneHandEachLaw" (100 : Nat) ({ cls := "OneHandEachModel", name := "round", desc := "(II)I" } : Jvm.MethodName)) ∈ m_ws := tb_6 30 rfl rfl
theorem q_1299 : (Jvm.Cond.instanceMethod ({ cls := "OneHandEachModel", name := "round", desc := "(II)I" } : Jvm.MethodName)) ∈ m_ws := tb_6 31 rfl rfl
theorem q_1300 : (Jvm.Cond.selects "OneHandEachModel" ({ cls := "OneHandEachModel", name := "round", desc := "(II)I" } : Jvm.MethodName) ({ cls := "OneHandEachModel", name := "round", desc := "(II)I" } : Jvm.MethodName)) ∈ m_ws := tb_6 32 rfl rfl
theorem q_1301 : (Jvm.Cond.code ({ cls := "OneHandEachModel", name := "round", desc := "(II)I" } : Jvm.MethodName) prog_14_method_65_code (6 : Nat) (Option.some Jvm.ClassFile.FieldType.int)) ∈ m_ws := tb_6 33 rfl rfl
theorem q_1302 : (Jvm.Cond.methodLink "OneHandEachLaw" (104 : Nat) ({ cls := "OneHandEachModel", name := "set", desc := "(II)I" } : Jvm.MethodName)) ∈ m_ws := tb_6 34 rfl rfl
theorem q_1303 : (Jvm.Cond.instanceMethod ({ cls := "OneHandEachModel", name := "set", desc := "(II)I" } : Jvm.MethodName)) ∈ m_ws := tb_6 35 rfl rfl
theorem q_1304 : (Jvm.Cond.selects "OneHandEachModel" ({ cls := "OneHandEachModel", name := "set", desc := "(II)I" } : Jvm.MethodName) ({ cls := "OneHandEachModel", name := "set", desc := "(II)I" } : Jvm.MethodName)) ∈ m_ws := tb_6 36 rfl rfl
theorem q_1305 : (Jvm.Cond.code ({ cls := "OneHandEachModel", name := "set", desc := "(II)I" } : Jvm.MethodName) prog_14_method_66_code (4 : Nat) (Option.some Jvm.ClassFile.FieldType.int)) ∈ m_ws := tb_6 37 rfl rfl
theorem q_1306 : (Jvm.Cond.methodLink "OneHandEachLaw" (108 : Nat) ({ cls := "OneHandEachModel", name := "led", desc := "(II)I" } : Jvm.MethodName)) ∈ m_ws := tb_6 38 rfl rfl
theorem q_1307 : (Jvm.Cond.instanceMethod ({ cls := "OneHandEachModel", name := "led", desc := "(II)I" } : Jvm.MethodName)) ∈ m_ws := tb_6 39 rfl rfl
theorem q_1308 : (Jvm.Cond.selects "OneHandEachModel" ({ cls := "OneHandEachModel", name := "led", desc := "(II)I" } : Jvm.MethodName) ({ cls := "OneHandEachModel", name := "led", desc := "(II)I" } : Jvm.MethodName)) ∈ m_ws := tb_6 40 rfl rfl
theorem q_1309 : (Jvm.Cond.code ({ cls := "OneHandEachModel", name := "led", desc := "(II)I" } : Jvm.MethodName) prog_14_method_67_code (3 : Nat) (Option.some Jvm.ClassFile.FieldType.int)) ∈ m_ws := tb_6 41 rfl rfl
theorem q_1310 : (Jvm.Cond.methodLink "OneHandEachLaw" (112 : Nat) ({ cls := "OneHandEachModel", name := "judge", desc := "(I)I" } : Jvm.MethodName)) ∈ m_ws := tb_6 42 rfl rfl
theorem q_1311 : (Jvm.Cond.instanceMethod ({ cls := "OneHandEachModel", name := "judge", desc := "(I)I" } : Jvm.MethodName)) ∈ m_ws := tb_6 43 rfl rfl
theorem q_1312 : (Jvm.Cond.selects "OneHandEachModel" ({ cls := "OneHandEachModel", name := "judge", desc := "(I)I" } : Jvm.MethodName) ({ cls := "OneHandEachModel", name := "judge", desc := "(I)I" } : Jvm.MethodName)) ∈ m_ws := tb_6 44 rfl rfl
theorem q_1313 : (Jvm.Cond.code ({ cls := "OneHandEachModel", name := "judge", desc := "(I)I" } : Jvm.MethodName) prog_14_method_68_code (6 : Nat) (Option.some Jvm.ClassFile.FieldType.int)) ∈ m_ws := tb_6 45 rfl rfl
theorem q_1314 : (Jvm.Cond.methodLink "OneHandEachLaw" (116 : Nat) ({ cls := "OneHandEachModel", name := "image", desc := "()I" } : Jvm.MethodName)) ∈ m_ws := tb_6 46 rfl rfl
theorem q_1315 : (Jvm.Cond.instanceMethod ({ cls := "OneHandEachModel", name := "image", desc := "()I" } : Jvm.MethodName)) ∈ m_ws := tb_6 47 rfl rfl
theorem q_1316 : (Jvm.Cond.selects "OneHandEachModel" ({ cls := "OneHandEachModel", name := "image", desc := "()I" } : Jvm.MethodName) ({ cls := "OneHandEachModel", name := "image", desc := "()I" } : Jvm.MethodName)) ∈ m_ws := tb_6 48 rfl rfl
theorem q_1317 : (Jvm.Cond.code ({ cls := "OneHandEachModel", name := "image", desc := "()I" } : Jvm.MethodName) prog_14_method_69_code (2 : Nat) (Option.some Jvm.ClassFile.FieldType.int)) ∈ m_ws := tb_6 49 rfl rfl
theorem q_1318 : (Jvm.Cond.methodLink "OneHandEachLaw" (120 : Nat) ({ cls := "OneHandEachModel", name := "back", desc := "()I" } : Jvm.MethodName)) ∈ m_ws := tb_6 50 rfl rfl
theorem q_1319 : (Jvm.Cond.instanceMethod ({ cls := "OneHandEachModel", name := "back", desc := "()I" } : Jvm.MethodName)) ∈ m_ws := tb_6 51 rfl rfl
theorem q_1320 : (Jvm.Cond.selects "OneHandEachModel" ({ cls := "OneHandEachModel", name := "back", desc := "()I" } : Jvm.MethodName) ({ cls := "OneHandEachModel", name := "back", desc := "()I" } : Jvm.MethodName)) ∈ m_ws := tb_6 52 rfl rfl
theorem q_1321 : (Jvm.Cond.code ({ cls := "OneHandEachModel", name := "back", desc := "()I" } : Jvm.MethodName) prog_14_method_70_code (2 : Nat) (Option.some Jvm.ClassFile.FieldType.int)) ∈ m_ws := tb_6 53 rfl rfl
theorem q_1322 : (Jvm.Cond.methodLink "OneHandEachLaw" (140 : Nat) ({ cls := "OneHandEachModel", name := "trace", desc := "(I)I" } : Jvm.MethodName)) ∈ m_ws := tb_6 54 rfl rfl
theorem q_1323 : (Jvm.Cond.instanceMethod ({ cls := "OneHandEachModel", name := "trace", desc := "(I)I" } : Jvm.MethodName)) ∈ m_ws := tb_6 55 rfl rfl
theorem q_1324 : (Jvm.Cond.selects "OneHandEachModel" ({ cls := "OneHandEachModel", name := "trace", desc := "(I)I" } : Jvm.MethodName) ({ cls := "OneHandEachModel", name := "trace", desc := "(I)I" } : Jvm.MethodName)) ∈ m_ws := tb_6 56 rfl rfl
theorem q_1325 : (Jvm.Cond.code ({ cls := "OneHandEachModel", name := "trace", desc := "(I)I" } : Jvm.MethodName) prog_14_method_73_code (2 : Nat) (Option.some Jvm.ClassFile.FieldType.int)) ∈ m_ws := tb_6 57 rfl rfl
theorem q_1326 : (Jvm.Cond.methodLink "OneHandEachLaw" (132 : Nat) ({ cls := "OneHandEachModel", name := "body", desc := "(I)I" } : Jvm.MethodName)) ∈ m_ws := tb_6 58 rfl rfl
theorem q_1327 : (Jvm.Cond.instanceMethod ({ cls := "OneHandEachModel", name := "body", desc := "(I)I" } : Jvm.MethodName)) ∈ m_ws := tb_6 59 rfl rfl
theorem q_1328 : (Jvm.Cond.selects "OneHandEachModel" ({ cls := "OneHandEachModel", name := "body", desc := "(I)I" } : Jvm.MethodName) ({ cls := "OneHandEachModel", name := "body", desc := "(I)I" } : Jvm.MethodName)) ∈ m_ws := tb_6 60 rfl rfl
theorem q_1329 : (Jvm.Cond.code ({ cls := "OneHandEachModel", name := "body", desc := "(I)I" } : Jvm.MethodName) prog_14_method_74_code (2 : Nat) (Option.some Jvm.ClassFile.FieldType.int)) ∈ m_ws := tb_6 61 rfl rfl
theorem q_1330 : (Jvm.Cond.methodLink "OneHandEachLaw" (136 : Nat) ({ cls := "OneHandEachModel", name := "act", desc := "(III)I" } : Jvm.MethodName)) ∈ m_ws := tb_6 62 rfl rfl
theorem q_1331 : (Jvm.Cond.instanceMethod ({ cls := "OneHandEachModel", name := "act", desc := "(III)I" } : Jvm.MethodName)) ∈ m_ws := tb_6 63 rfl rfl
theorem q_1332 : (Jvm.Cond.selects "OneHandEachModel" ({ cls := "OneHandEachModel", name := "act", desc := "(III)I" } : Jvm.MethodName) ({ cls := "OneHandEachModel", name := "act", desc := "(III)I" } : Jvm.MethodName)) ∈ m_ws := tb_6 64 rfl rfl
theorem q_1333 : (Jvm.Cond.code ({ cls := "OneHandEachModel", name := "act", desc := "(III)I" } : Jvm.MethodName) prog_14_method_87_code (4 : Nat) (Option.some Jvm.ClassFile.FieldType.int)) ∈ m_ws := tb_6 65 rfl rfl
theorem q_1334 : (Jvm.Cond.methodLink "OneHandEachModel" (364 : Nat) ({ cls := "OneHandEachModel", name := "isBody", desc := "(I)Z" } : Jvm.MethodName)) ∈ m_ws := tb_6 66 rfl rfl
theorem q_1336 : (Jvm.Cond.instanceMethod ({ cls := "OneHandEachModel", name := "isBody", desc := "(I)Z" } : Jvm.MethodName)) ∈ m_ws := tb_6 68 rfl rfl
theorem q_1337 : (Jvm.Cond.code ({ cls := "OneHandEachModel", name := "isBody", desc := "(I)Z" } : Jvm.MethodName) prog_14_method_71_code (2 : Nat) (Option.some Jvm.ClassFile.FieldType.boolean)) ∈ m_ws := tb_6 69 rfl rfl
theorem q_1338 : (Jvm.Cond.methodLink "OneHandEachModel" (340 : Nat) ({ cls := "OneHandEachModel", name := "showing", desc := "(II)I" } : Jvm.MethodName)) ∈ m_ws := tb_6 70 rfl rfl
theorem q_1340 : (Jvm.Cond.instanceMethod ({ cls := "OneHandEachModel", name := "showing", desc := "(II)I" } : Jvm.MethodName)) ∈ m_ws := tb_6 72 rfl rfl
theorem q_1341 : (Jvm.Cond.code ({ cls := "OneHandEachModel", name := "showing", desc := "(II)I" } : Jvm.MethodName) prog_14_method_78_code (3 : Nat) (Option.some Jvm.ClassFile.FieldType.int)) ∈ m_ws := tb_6 73 rfl rfl
theorem q_1342 : (Jvm.Cond.methodLink "OneHandEachModel" (334 : Nat) ({ cls := "OneHandEachModel", name := "isUnder", desc := "(II)Z" } : Jvm.MethodName)) ∈ m_ws := tb_6 74 rfl rfl
theorem q_1343 : (Jvm.Cond.static ({ cls := "OneHandEachModel", name := "isUnder", desc := "(II)Z" } : Jvm.MethodName)) ∈ m_ws := tb_6 75 rfl rfl
theorem q_1344 : (Jvm.Cond.code ({ cls := "OneHandEachModel", name := "isUnder", desc := "(II)Z" } : Jvm.MethodName) prog_14_method_75_code (2 : Nat) (Option.some Jvm.ClassFile.FieldType.boolean)) ∈ m_ws := tb_6 76 rfl rfl
theorem q_1345 : (Jvm.Cond.methodLink "OneHandEachModel" (328 : Nat) ({ cls := "OneHandEachModel", name := "ran", desc := "(I)V" } : Jvm.MethodName)) ∈ m_ws := tb_6 77 rfl rfl
theorem q_1347 : (Jvm.Cond.instanceMethod ({ cls := "OneHandEachModel", name := "ran", desc := "(I)V" } : Jvm.MethodName)) ∈ m_ws := tb_6 79 rfl rfl
theorem q_1348 : (Jvm.Cond.code ({ cls := "OneHandEachModel", name := "ran", desc := "(I)V" } : Jvm.MethodName) prog_14_method_72_code (2 : Nat) (Option.none : Option Jvm.ClassFile.FieldType)) ∈ m_ws := tb_6 80 rfl rfl
theorem q_1349 : (Jvm.Cond.methodLink "OneHandEachModel" (331 : Nat) ({ cls := "OneHandEachModel", name := "plainShows", desc := "(II)I" } : Jvm.MethodName)) ∈ m_ws := tb_6 81 rfl rfl
theorem q_1351 : (Jvm.Cond.instanceMethod ({ cls := "OneHandEachModel", name := "plainShows", desc := "(II)I" } : Jvm.MethodName)) ∈ m_ws := tb_6 83 rfl rfl
theorem q_1352 : (Jvm.Cond.code ({ cls := "OneHandEachModel", name := "plainShows", desc := "(II)I" } : Jvm.MethodName) prog_14_method_76_code (3 : Nat) (Option.some Jvm.ClassFile.FieldType.int)) ∈ m_ws := tb_6 84 rfl rfl
theorem q_1353 : (Jvm.Cond.methodLink "OneHandEachModel" (337 : Nat) ({ cls := "OneHandEachModel", name := "boyShows", desc := "(II)I" } : Jvm.MethodName)) ∈ m_ws := tb_6 85 rfl rfl
theorem q_1355 : (Jvm.Cond.instanceMethod ({ cls := "OneHandEachModel", name := "boyShows", desc := "(II)I" } : Jvm.MethodName)) ∈ m_ws := tb_6 87 rfl rfl
theorem q_1356 : (Jvm.Cond.code ({ cls := "OneHandEachModel", name := "boyShows", desc := "(II)I" } : Jvm.MethodName) prog_14_method_77_code (3 : Nat) (Option.some Jvm.ClassFile.FieldType.int)) ∈ m_ws := tb_6 88 rfl rfl
theorem q_1357 : (Jvm.Cond.methodLink "OneHandEachModel" (358 : Nat) ({ cls := "OneHandEachModel", name := "parting", desc := "(II)I" } : Jvm.MethodName)) ∈ m_ws := tb_6 89 rfl rfl
theorem q_1359 : (Jvm.Cond.instanceMethod ({ cls := "OneHandEachModel", name := "parting", desc := "(II)I" } : Jvm.MethodName)) ∈ m_ws := tb_6 91 rfl rfl
theorem q_1360 : (Jvm.Cond.code ({ cls := "OneHandEachModel", name := "parting", desc := "(II)I" } : Jvm.MethodName) prog_14_method_81_code (4 : Nat) (Option.some Jvm.ClassFile.FieldType.int)) ∈ m_ws := tb_6 92 rfl rfl
theorem q_1361 : (Jvm.Cond.methodLink "OneHandEachModel" (346 : Nat) ({ cls := "OneHandEachModel", name := "hillParts", desc := "(II)I" } : Jvm.MethodName)) ∈ m_ws := tb_6 93 rfl rfl
theorem q_1363 : (Jvm.Cond.instanceMethod ({ cls := "OneHandEachModel", name := "hillParts", desc := "(II)I" } : Jvm.MethodName)) ∈ m_ws := tb_6 95 rfl rfl
theorem q_1364 : (Jvm.Cond.code ({ cls := "OneHandEachModel", name := "hillParts", desc := "(II)I" } : Jvm.MethodName) prog_14_method_80_code (3 : Nat) (Option.some Jvm.ClassFile.FieldType.int)) ∈ m_ws := tb_6 96 rfl rfl
theorem q_1365 : (Jvm.Cond.methodLink "OneHandEachModel" (343 : Nat) ({ cls := "OneHandEachModel", name := "plainParts", desc := "(II)I" } : Jvm.MethodName)) ∈ m_ws := tb_6 97 rfl rfl
theorem q_1367 : (Jvm.Cond.instanceMethod ({ cls := "OneHandEachModel", name := "plainParts", desc := "(II)I" } : Jvm.MethodName)) ∈ m_ws := tb_6 99 rfl rfl
theorem q_1368 : (Jvm.Cond.code ({ cls := "OneHandEachModel", name := "plainParts", desc := "(II)I" } : Jvm.MethodName) prog_14_method_79_code (3 : Nat) (Option.some Jvm.ClassFile.FieldType.int)) ∈ m_ws := tb_6 100 rfl rfl
theorem q_1369 : (Jvm.Cond.methodLink "OneHandEachModel" (349 : Nat) ({ cls := "OneHandEachModel", name := "walking", desc := "(II)I" } : Jvm.MethodName)) ∈ m_ws := tb_6 101 rfl rfl
theorem q_1371 : (Jvm.Cond.instanceMethod ({ cls := "OneHandEachModel", name := "walking", desc := "(II)I" } : Jvm.MethodName)) ∈ m_ws := tb_6 103 rfl rfl
theorem q_1372 : (Jvm.Cond.code ({ cls := "OneHandEachModel", name := "walking", desc := "(II)I" } : Jvm.MethodName) prog_14_method_84_code (4 : Nat) (Option.some Jvm.ClassFile.FieldType.int)) ∈ m_ws := tb_6 104 rfl rfl
theorem q_1373 : (Jvm.Cond.methodLink "OneHandEachModel" (355 : Nat) ({ cls := "OneHandEachModel", name := "fogWalks", desc := "(II)I" } : Jvm.MethodName)) ∈ m_ws := tb_6 105 rfl rfl
theorem q_1375 : (Jvm.Cond.instanceMethod ({ cls := "OneHandEachModel", name := "fogWalks", desc := "(II)I" } : Jvm.MethodName)) ∈ m_ws := tb_6 107 rfl rfl
theorem q_1376 : (Jvm.Cond.code ({ cls := "OneHandEachModel", name := "fogWalks", desc := "(II)I" } : Jvm.MethodName) prog_14_method_83_code (3 : Nat) (Option.some Jvm.ClassFile.FieldType.int)) ∈ m_ws := tb_6 108 rfl rfl
theorem q_1377 : (Jvm.Cond.methodLink "OneHandEachModel" (352 : Nat) ({ cls := "OneHandEachModel", name := "plainWalks", desc := "(II)I" } : Jvm.MethodName)) ∈ m_ws := tb_6 109 rfl rfl
theorem q_1379 : (Jvm.Cond.instanceMethod ({ cls := "OneHandEachModel", name := "plainWalks", desc := "(II)I" } : Jvm.MethodName)) ∈ m_ws := tb_6 111 rfl rfl
theorem q_1380 : (Jvm.Cond.code ({ cls := "OneHandEachModel", name := "plainWalks", desc := "(II)I" } : Jvm.MethodName) prog_14_method_82_code (3 : Nat) (Option.some Jvm.ClassFile.FieldType.int)) ∈ m_ws := tb_6 112 rfl rfl
theorem q_1381 : (Jvm.Cond.methodLink "OneHandEachModel" (367 : Nat) ({ cls := "OneHandEachModel", name := "telling", desc := "(II)I" } : Jvm.MethodName)) ∈ m_ws := tb_6 113 rfl rfl
theorem q_1383 : (Jvm.Cond.instanceMethod ({ cls := "OneHandEachModel", name := "telling", desc := "(II)I" } : Jvm.MethodName)) ∈ m_ws := tb_6 115 rfl rfl
theorem q_1384 : (Jvm.Cond.code ({ cls := "OneHandEachModel", name := "telling", desc := "(II)I" } : Jvm.MethodName) prog_14_method_86_code (3 : Nat) (Option.some Jvm.ClassFile.FieldType.int)) ∈ m_ws := tb_6 116 rfl rfl
theorem q_1385 : (Jvm.Cond.methodLink "OneHandEachModel" (361 : Nat) ({ cls := "OneHandEachModel", name := "plainTells", desc := "(II)I" } : Jvm.MethodName)) ∈ m_ws := tb_6 117 rfl rfl
theorem q_1387 : (Jvm.Cond.instanceMethod ({ cls := "OneHandEachModel", name := "plainTells", desc := "(II)I" } : Jvm.MethodName)) ∈ m_ws := tb_6 119 rfl rfl
theorem q_1388 : (Jvm.Cond.code ({ cls := "OneHandEachModel", name := "plainTells", desc := "(II)I" } : Jvm.MethodName) prog_14_method_85_code (4 : Nat) (Option.some Jvm.ClassFile.FieldType.int)) ∈ m_ws := tb_6 120 rfl rfl
theorem q_1389 : (Jvm.Cond.methodLink "OneHandEachLaw" (173 : Nat) ({ cls := "OneHandEachModel", name := "count", desc := "(I)I" } : Jvm.MethodName)) ∈ m_ws := tb_6 121 rfl rfl
theorem q_1390 : (Jvm.Cond.instanceMethod ({ cls := "OneHandEachModel", name := "count", desc := "(I)I" } : Jvm.MethodName)) ∈ m_ws := tb_6 122 rfl rfl
theorem q_1391 : (Jvm.Cond.selects "OneHandEachModel" ({ cls := "OneHandEachModel", name := "count", desc := "(I)I" } : Jvm.MethodName) ({ cls := "OneHandEachModel", name := "count", desc := "(I)I" } : Jvm.MethodName)) ∈ m_ws := tb_6 123 rfl rfl
theorem q_1392 : (Jvm.Cond.code ({ cls := "OneHandEachModel", name := "count", desc := "(I)I" } : Jvm.MethodName) prog_14_method_88_code (2 : Nat) (Option.some Jvm.ClassFile.FieldType.int)) ∈ m_ws := tb_6 124 rfl rfl
theorem q_1393 : (Jvm.Cond.methodLink "OneHandEachLaw" (144 : Nat) ({ cls := "OneHandEachModel", name := "keep", desc := "(II)I" } : Jvm.MethodName)) ∈ m_ws := tb_6 125 rfl rfl
theorem q_1394 : (Jvm.Cond.instanceMethod ({ cls := "OneHandEachModel", name := "keep", desc := "(II)I" } : Jvm.MethodName)) ∈ m_ws := tb_6 126 rfl rfl
theorem q_1395 : (Jvm.Cond.selects "OneHandEachModel" ({ cls := "OneHandEachModel", name := "keep", desc := "(II)I" } : Jvm.MethodName) ({ cls := "OneHandEachModel", name := "keep", desc := "(II)I" } : Jvm.MethodName)) ∈ m_ws := tb_6 127 rfl rfl
theorem q_1396 : (Jvm.Cond.code ({ cls := "OneHandEachModel", name := "keep", desc := "(II)I" } : Jvm.MethodName) prog_14_method_90_code (3 : Nat) (Option.some Jvm.ClassFile.FieldType.int)) ∈ m_ws := tb_6 128 rfl rfl
theorem q_1397 : (Jvm.Cond.methodLink "OneHandEachLaw" (148 : Nat) ({ cls := "OneHandEachModel", name := "row", desc := "(III)I" } : Jvm.MethodName)) ∈ m_ws := tb_6 129 rfl rfl
theorem q_1398 : (Jvm.Cond.instanceMethod ({ cls := "OneHandEachModel", name := "row", desc := "(III)I" } : Jvm.MethodName)) ∈ m_ws := tb_6 130 rfl rfl
theorem q_1399 : (Jvm.Cond.selects "OneHandEachModel" ({ cls := "OneHandEachModel", name := "row", desc := "(III)I" } : Jvm.MethodName) ({ cls := "OneHandEachModel", name := "row", desc := "(III)I" } : Jvm.MethodName)) ∈ m_ws := tb_6 131 rfl rfl
theorem q_1400 : (Jvm.Cond.code ({ cls := "OneHandEachModel", name := "row", desc := "(III)I" } : Jvm.MethodName) prog_14_method_91_code (5 : Nat) (Option.some Jvm.ClassFile.FieldType.int)) ∈ m_ws := tb_6 132 rfl rfl
theorem q_1401 : (Jvm.Cond.methodLink "OneHandEachLaw" (155 : Nat) ({ cls := "OneHandEachModel", name := "put", desc := "(IIJ)I" } : Jvm.MethodName)) ∈ m_ws := tb_6 133 rfl rfl
theorem q_1402 : (Jvm.Cond.instanceMethod ({ cls := "OneHandEachModel", name := "put", desc := "(IIJ)I" } : Jvm.MethodName)) ∈ m_ws := tb_6 134 rfl rfl
theorem q_1403 : (Jvm.Cond.selects "OneHandEachModel" ({ cls := "OneHandEachModel", name := "put", desc := "(IIJ)I" } : Jvm.MethodName) ({ cls := "OneHandEachModel", name := "put", desc := "(IIJ)I" } : Jvm.MethodName)) ∈ m_ws := tb_6 135 rfl rfl
theorem q_1404 : (Jvm.Cond.code ({ cls := "OneHandEachModel", name := "put", desc := "(IIJ)I" } : Jvm.MethodName) prog_14_method_93_code (7 : Nat) (Option.some Jvm.ClassFile.FieldType.int)) ∈ m_ws := tb_6 136 rfl rfl
theorem q_1405 : (Jvm.Cond.methodLink "OneHandEachModel" (370 : Nat) ({ cls := "OneHandEachModel", name := "whyNoPlace", desc := "(II)I" } : Jvm.MethodName)) ∈ m_ws := tb_6 137 rfl rfl
theorem q_1407 : (Jvm.Cond.instanceMethod ({ cls := "OneHandEachModel", name := "whyNoPlace", desc := "(II)I" } : Jvm.MethodName)) ∈ m_ws := tb_6 139 rfl rfl
theorem q_1408 : (Jvm.Cond.code ({ cls := "OneHandEachModel", name := "whyNoPlace", desc := "(II)I" } : Jvm.MethodName) prog_14_method_92_code (3 : Nat) (Option.some Jvm.ClassFile.FieldType.int)) ∈ m_ws := tb_6 140 rfl rfl
theorem q_1409 : (Jvm.Cond.methodLink "OneHandEachLaw" (160 : Nat) ({ cls := "OneHandEachModel", name := "element", desc := "(II)J" } : Jvm.MethodName)) ∈ m_ws := tb_6 141 rfl rfl
theorem q_1410 : (Jvm.Cond.instanceMethod ({ cls := "OneHandEachModel", name := "element", desc := "(II)J" } : Jvm.MethodName)) ∈ m_ws := tb_6 142 rfl rfl
theorem q_1411 : (Jvm.Cond.selects "OneHandEachModel" ({ cls := "OneHandEachModel", name := "element", desc := "(II)J" } : Jvm.MethodName) ({ cls := "OneHandEachModel", name := "element", desc := "(II)J" } : Jvm.MethodName)) ∈ m_ws := tb_6 143 rfl rfl
theorem q_1412 : (Jvm.Cond.code ({ cls := "OneHandEachModel", name := "element", desc := "(II)J" } : Jvm.MethodName) prog_14_method_94_code (3 : Nat) (Option.some Jvm.ClassFile.FieldType.long)) ∈ m_ws := tb_6 144 rfl rfl
theorem q_1413 : (Jvm.Cond.constantLong "OneHandEachModel" (375 : Nat) (-9223372036854775808 : Int64)) ∈ m_ws := tb_6 145 rfl rfl
theorem q_1414 : (Jvm.Cond.methodLink "OneHandEachLaw" (165 : Nat) ({ cls := "OneHandEachModel", name := "shift", desc := "(IIIII)I" } : Jvm.MethodName)) ∈ m_ws := tb_6 146 rfl rfl
theorem q_1415 : (Jvm.Cond.instanceMethod ({ cls := "OneHandEachModel", name := "shift", desc := "(IIIII)I" } : Jvm.MethodName)) ∈ m_ws := tb_6 147 rfl rfl
theorem q_1416 : (Jvm.Cond.selects "OneHandEachModel" ({ cls := "OneHandEachModel", name := "shift", desc := "(IIIII)I" } : Jvm.MethodName) ({ cls := "OneHandEachModel", name := "shift", desc := "(IIIII)I" } : Jvm.MethodName)) ∈ m_ws := tb_6 148 rfl rfl
theorem q_1417 : (Jvm.Cond.code ({ cls := "OneHandEachModel", name := "shift", desc := "(IIIII)I" } : Jvm.MethodName) prog_14_method_95_code (7 : Nat) (Option.some Jvm.ClassFile.FieldType.int)) ∈ m_ws := tb_6 149 rfl rfl
theorem q_1418 : (Jvm.Cond.methodLink "OneHandEachLaw" (169 : Nat) ({ cls := "OneHandEachModel", name := "taken", desc := "(II)I" } : Jvm.MethodName)) ∈ m_ws := tb_6 150 rfl rfl
theorem q_1419 : (Jvm.Cond.instanceMethod ({ cls := "OneHandEachModel", name := "taken", desc := "(II)I" } : Jvm.MethodName)) ∈ m_ws := tb_6 151 rfl rfl
theorem q_1420 : (Jvm.Cond.selects "OneHandEachModel" ({ cls := "OneHandEachModel", name := "taken", desc := "(II)I" } : Jvm.MethodName) ({ cls := "OneHandEachModel", name := "taken", desc := "(II)I" } : Jvm.MethodName)) ∈ m_ws := tb_6 152 rfl rfl
theorem q_1421 : (Jvm.Cond.code ({ cls := "OneHandEachModel", name := "taken", desc := "(II)I" } : Jvm.MethodName) prog_14_method_96_code (3 : Nat) (Option.some Jvm.ClassFile.FieldType.int)) ∈ m_ws := tb_6 153 rfl rfl
theorem q_1422 : (Jvm.Cond.constantLong "OneHandEachLaw" (149 : Nat) (4294967295 : Int64)) ∈ m_ws := tb_6 154 rfl rfl
theorem q_0 : Cond.selects "OneHandEach$Changes" ⟨"OneHandEach$Changes", "dropEldest", "()V"⟩ ⟨"OneHandEach$Changes", "dropEldest", "()V"⟩ ∈ m_ws := m_at 0 rfl rfl
theorem q_1 : Cond.selects "OneHandEach$Reader" ⟨"OneHandEach$Reader", "line", "()V"⟩ ⟨"OneHandEach$Reader", "line", "()V"⟩ ∈ m_ws := m_at 1 rfl rfl
theorem q_2 : Cond.selects "OneHandEach$Reader" ⟨"OneHandEach$Reader", "joined", "(II)V"⟩ ⟨"OneHandEach$Reader", "joined", "(II)V"⟩ ∈ m_ws := m_at 2 rfl rfl
theorem q_3 : Cond.selects "OneHandEach$Reader" ⟨"OneHandEach$Reader", "operand", "(I)V"⟩ ⟨"OneHandEach$Reader", "operand", "(I)V"⟩ ∈ m_ws := m_at 3 rfl rfl
theorem q_4 : Cond.selects "OneHandEach$Reader" ⟨"OneHandEach$Reader", "here", "()I"⟩ ⟨"OneHandEach$Reader", "here", "()I"⟩ ∈ m_ws := m_at 4 rfl rfl
theorem q_5 : Cond.selects "OneHandEach$Reader" ⟨"OneHandEach$Reader", "number", "()V"⟩ ⟨"OneHandEach$Reader", "number", "()V"⟩ ∈ m_ws := m_at 5 rfl rfl
theorem q_6 : Cond.selects "OneHandEach$Reader" ⟨"OneHandEach$Reader", "close", "()V"⟩ ⟨"OneHandEach$Reader", "close", "()V"⟩ ∈ m_ws := m_at 6 rfl rfl
theorem q_7 : Cond.selects "OneHandEach$Reader" ⟨"OneHandEach$Reader", "takes", "(I)Z"⟩ ⟨"OneHandEach$Reader", "takes", "(I)Z"⟩ ∈ m_ws := m_at 7 rfl rfl
theorem q_8 : Cond.selects "OneHandEach" ⟨"OneHandEach", "weightOf", "(I)I"⟩ ⟨"OneHandEach", "weightOf", "(I)I"⟩ ∈ m_ws := m_at 8 rfl rfl
theorem q_9 : Cond.selects "OneHandEach$Law" ⟨"OneHandEach$Law", "valueOf", "(III)I"⟩ ⟨"OneHandEach$Law", "valueOf", "(III)I"⟩ ∈ m_ws := m_at 9 rfl rfl
theorem q_10 : Cond.selects "OneHandEach$Law" ⟨"OneHandEach$Law", "push", "(II)I"⟩ ⟨"OneHandEach$Law", "push", "(II)I"⟩ ∈ m_ws := m_at 10 rfl rfl
theorem q_11 : Cond.selects "OneHandEach$Law" ⟨"OneHandEach$Law", "workOut", "(II)I"⟩ ⟨"OneHandEach$Law", "workOut", "(II)I"⟩ ∈ m_ws := m_at 11 rfl rfl
theorem q_12 : Cond.selects "OneHandEach$Entries" ⟨"OneHandEach$Entries", "lay", "(II)V"⟩ ⟨"OneHandEach$Entries", "lay", "(II)V"⟩ ∈ m_ws := m_at 12 rfl rfl
theorem q_13 : Cond.selects "OneHandEach" ⟨"OneHandEach", "sightsFrom", "(LOneHandEach$Shelf;II)I"⟩ ⟨"OneHandEach", "sightsFrom", "(LOneHandEach$Shelf;II)I"⟩ ∈ m_ws := m_at 13 rfl rfl
theorem q_14 : Cond.selects "OneHandEach$Fitting" ⟨"OneHandEach$Fitting", "startAnew", "()V"⟩ ⟨"OneHandEach$Fitting", "startAnew", "()V"⟩ ∈ m_ws := m_at 14 rfl rfl
theorem q_15 : Cond.selects "OneHandEach$Fitting" ⟨"OneHandEach$Fitting", "strike", "(LOneHandEach$Town;IIII)V"⟩ ⟨"OneHandEach$Fitting", "strike", "(LOneHandEach$Town;IIII)V"⟩ ∈ m_ws := m_at 15 rfl rfl
theorem q_16 : Cond.selects "OneHandEach" ⟨"OneHandEach", "weightOfFits", "(II)I"⟩ ⟨"OneHandEach", "weightOfFits", "(II)I"⟩ ∈ m_ws := m_at 16 rfl rfl
theorem q_17 : Cond.selects "OneHandEach$Guesses" ⟨"OneHandEach$Guesses", "note", "(II)V"⟩ ⟨"OneHandEach$Guesses", "note", "(II)V"⟩ ∈ m_ws := m_at 17 rfl rfl
theorem q_18 : Cond.selects "OneHandEach" ⟨"OneHandEach", "refusalOfRow", "(I)I"⟩ ⟨"OneHandEach", "refusalOfRow", "(I)I"⟩ ∈ m_ws := m_at 18 rfl rfl
theorem q_19 : Cond.selects "OneHandEach" ⟨"OneHandEach", "isSo", "(LOneHandEach$Shelf;I)Z"⟩ ⟨"OneHandEach", "isSo", "(LOneHandEach$Shelf;I)Z"⟩ ∈ m_ws := m_at 19 rfl rfl
theorem q_20 : Cond.selects "OneHandEach$Bodies" ⟨"OneHandEach$Bodies", "own", "(IIII)I"⟩ ⟨"OneHandEach$Bodies", "own", "(IIII)I"⟩ ∈ m_ws := m_at 20 rfl rfl
theorem q_21 : Cond.selects "OneHandEach$Bodies" ⟨"OneHandEach$Bodies", "from", "(IIIII)I"⟩ ⟨"OneHandEach$Bodies", "from", "(IIIII)I"⟩ ∈ m_ws := m_at 21 rfl rfl
theorem q_22 : Cond.selects "OneHandEach$Bodies" ⟨"OneHandEach$Bodies", "run", "(IIIII)I"⟩ ⟨"OneHandEach$Bodies", "run", "(IIIII)I"⟩ ∈ m_ws := m_at 22 rfl rfl
theorem q_23 : Cond.selects "OneHandEach" ⟨"OneHandEach", "refusalOfPlace", "(II)I"⟩ ⟨"OneHandEach", "refusalOfPlace", "(II)I"⟩ ∈ m_ws := m_at 23 rfl rfl
theorem q_24 : Cond.selects "OneHandEachModel" ⟨"OneHandEachModel", "show", "(II)I"⟩ ⟨"OneHandEachModel", "show", "(II)I"⟩ ∈ m_ws := m_at 24 rfl rfl
theorem q_25 : Cond.selects "OneHandEachModel" ⟨"OneHandEachModel", "partAt", "(II)I"⟩ ⟨"OneHandEachModel", "partAt", "(II)I"⟩ ∈ m_ws := m_at 25 rfl rfl
theorem q_26 : Cond.selects "OneHandEachModel" ⟨"OneHandEachModel", "lays", "(III)V"⟩ ⟨"OneHandEachModel", "lays", "(III)V"⟩ ∈ m_ws := m_at 26 rfl rfl
theorem q_27 : Cond.selects "OneHandEachModel" ⟨"OneHandEachModel", "changes", "(III)I"⟩ ⟨"OneHandEachModel", "changes", "(III)I"⟩ ∈ m_ws := m_at 27 rfl rfl
theorem q_28 : Cond.selects "OneHandEachModel" ⟨"OneHandEachModel", "valueAt", "(II)I"⟩ ⟨"OneHandEachModel", "valueAt", "(II)I"⟩ ∈ m_ws := m_at 28 rfl rfl
theorem q_29 : Cond.selects "OneHandEachModel" ⟨"OneHandEachModel", "addSight", "(IIII)I"⟩ ⟨"OneHandEachModel", "addSight", "(IIII)I"⟩ ∈ m_ws := m_at 29 rfl rfl
theorem q_30 : Cond.selects "OneHandEachModel" ⟨"OneHandEachModel", "readText", "(I)I"⟩ ⟨"OneHandEachModel", "readText", "(I)I"⟩ ∈ m_ws := m_at 30 rfl rfl
theorem q_31 : Cond.selects "OneHandEachModel" ⟨"OneHandEachModel", "line", "()V"⟩ ⟨"OneHandEachModel", "line", "()V"⟩ ∈ m_ws := m_at 31 rfl rfl
theorem q_32 : Cond.selects "OneHandEachModel" ⟨"OneHandEachModel", "either", "()V"⟩ ⟨"OneHandEachModel", "either", "()V"⟩ ∈ m_ws := m_at 32 rfl rfl
theorem q_33 : Cond.selects "OneHandEachModel" ⟨"OneHandEachModel", "both", "()V"⟩ ⟨"OneHandEachModel", "both", "()V"⟩ ∈ m_ws := m_at 33 rfl rfl
theorem q_34 : Cond.selects "OneHandEachModel" ⟨"OneHandEachModel", "compared", "()V"⟩ ⟨"OneHandEachModel", "compared", "()V"⟩ ∈ m_ws := m_at 34 rfl rfl
theorem q_35 : Cond.selects "OneHandEachModel" ⟨"OneHandEachModel", "sum", "()V"⟩ ⟨"OneHandEachModel", "sum", "()V"⟩ ∈ m_ws := m_at 35 rfl rfl
theorem q_36 : Cond.selects "OneHandEachModel" ⟨"OneHandEachModel", "product", "()V"⟩ ⟨"OneHandEachModel", "product", "()V"⟩ ∈ m_ws := m_at 36 rfl rfl
theorem q_37 : Cond.selects "OneHandEachModel" ⟨"OneHandEachModel", "operand", "()V"⟩ ⟨"OneHandEachModel", "operand", "()V"⟩ ∈ m_ws := m_at 37 rfl rfl
theorem q_38 : Cond.selects "OneHandEachModel" ⟨"OneHandEachModel", "look", "()I"⟩ ⟨"OneHandEachModel", "look", "()I"⟩ ∈ m_ws := m_at 38 rfl rfl
theorem q_39 : Cond.selects "OneHandEachModel" ⟨"OneHandEachModel", "addStep", "(II)V"⟩ ⟨"OneHandEachModel", "addStep", "(II)V"⟩ ∈ m_ws := m_at 39 rfl rfl
theorem q_40 : Cond.selects "OneHandEachModel" ⟨"OneHandEachModel", "opens", "()Z"⟩ ⟨"OneHandEachModel", "opens", "()Z"⟩ ∈ m_ws := m_at 40 rfl rfl
theorem q_41 : Cond.selects "OneHandEachModel" ⟨"OneHandEachModel", "faulty", "()V"⟩ ⟨"OneHandEachModel", "faulty", "()V"⟩ ∈ m_ws := m_at 41 rfl rfl
theorem q_42 : Cond.selects "OneHandEachModel" ⟨"OneHandEachModel", "figure", "()V"⟩ ⟨"OneHandEachModel", "figure", "()V"⟩ ∈ m_ws := m_at 42 rfl rfl
theorem q_43 : Cond.selects "OneHandEachModel" ⟨"OneHandEachModel", "weightOf", "(I)I"⟩ ⟨"OneHandEachModel", "weightOf", "(I)I"⟩ ∈ m_ws := m_at 43 rfl rfl
theorem q_44 : Cond.selects "OneHandEachModel" ⟨"OneHandEachModel", "gives", "(I)I"⟩ ⟨"OneHandEachModel", "gives", "(I)I"⟩ ∈ m_ws := m_at 44 rfl rfl
theorem q_45 : Cond.selects "OneHandEachModel" ⟨"OneHandEachModel", "worked", "(III)I"⟩ ⟨"OneHandEachModel", "worked", "(III)I"⟩ ∈ m_ws := m_at 45 rfl rfl
theorem q_46 : Cond.selects "OneHandEachModel" ⟨"OneHandEachModel", "findFits", "(I)V"⟩ ⟨"OneHandEachModel", "findFits", "(I)V"⟩ ∈ m_ws := m_at 46 rfl rfl
theorem q_47 : Cond.selects "OneHandEachModel" ⟨"OneHandEachModel", "isSeen", "(II)Z"⟩ ⟨"OneHandEachModel", "isSeen", "(II)Z"⟩ ∈ m_ws := m_at 47 rfl rfl
theorem q_48 : Cond.selects "OneHandEachModel" ⟨"OneHandEachModel", "isNear", "(II)Z"⟩ ⟨"OneHandEachModel", "isNear", "(II)Z"⟩ ∈ m_ws := m_at 48 rfl rfl
theorem q_49 : Cond.selects "OneHandEachModel" ⟨"OneHandEachModel", "mostAlike", "(II)I"⟩ ⟨"OneHandEachModel", "mostAlike", "(II)I"⟩ ∈ m_ws := m_at 49 rfl rfl
theorem q_50 : Cond.selects "OneHandEachModel" ⟨"OneHandEachModel", "draw", "(I)I"⟩ ⟨"OneHandEachModel", "draw", "(I)I"⟩ ∈ m_ws := m_at 50 rfl rfl
theorem q_51 : Cond.selects "OneHandEachModel" ⟨"OneHandEachModel", "walksSo", "(III)Z"⟩ ⟨"OneHandEachModel", "walksSo", "(III)Z"⟩ ∈ m_ws := m_at 51 rfl rfl
theorem q_52 : Cond.selects "OneHandEachModel" ⟨"OneHandEachModel", "wrongBy", "(III)I"⟩ ⟨"OneHandEachModel", "wrongBy", "(III)I"⟩ ∈ m_ws := m_at 52 rfl rfl
theorem q_53 : Cond.selects "OneHandEachModel" ⟨"OneHandEachModel", "meets", "(III)I"⟩ ⟨"OneHandEachModel", "meets", "(III)I"⟩ ∈ m_ws := m_at 53 rfl rfl
theorem q_54 : Cond.selects "OneHandEachModel" ⟨"OneHandEachModel", "isBody", "(I)Z"⟩ ⟨"OneHandEachModel", "isBody", "(I)Z"⟩ ∈ m_ws := m_at 54 rfl rfl
theorem q_55 : Cond.selects "OneHandEachModel" ⟨"OneHandEachModel", "showing", "(II)I"⟩ ⟨"OneHandEachModel", "showing", "(II)I"⟩ ∈ m_ws := m_at 55 rfl rfl
theorem q_56 : Cond.selects "OneHandEachModel" ⟨"OneHandEachModel", "ran", "(I)V"⟩ ⟨"OneHandEachModel", "ran", "(I)V"⟩ ∈ m_ws := m_at 56 rfl rfl
theorem q_57 : Cond.selects "OneHandEachModel" ⟨"OneHandEachModel", "plainShows", "(II)I"⟩ ⟨"OneHandEachModel", "plainShows", "(II)I"⟩ ∈ m_ws := m_at 57 rfl rfl
theorem q_58 : Cond.selects "OneHandEachModel" ⟨"OneHandEachModel", "boyShows", "(II)I"⟩ ⟨"OneHandEachModel", "boyShows", "(II)I"⟩ ∈ m_ws := m_at 58 rfl rfl
theorem q_59 : Cond.selects "OneHandEachModel" ⟨"OneHandEachModel", "parting", "(II)I"⟩ ⟨"OneHandEachModel", "parting", "(II)I"⟩ ∈ m_ws := m_at 59 rfl rfl
theorem q_60 : Cond.selects "OneHandEachModel" ⟨"OneHandEachModel", "hillParts", "(II)I"⟩ ⟨"OneHandEachModel", "hillParts", "(II)I"⟩ ∈ m_ws := m_at 60 rfl rfl
theorem q_61 : Cond.selects "OneHandEachModel" ⟨"OneHandEachModel", "plainParts", "(II)I"⟩ ⟨"OneHandEachModel", "plainParts", "(II)I"⟩ ∈ m_ws := m_at 61 rfl rfl
theorem q_62 : Cond.selects "OneHandEachModel" ⟨"OneHandEachModel", "walking", "(II)I"⟩ ⟨"OneHandEachModel", "walking", "(II)I"⟩ ∈ m_ws := m_at 62 rfl rfl
theorem q_63 : Cond.selects "OneHandEachModel" ⟨"OneHandEachModel", "fogWalks", "(II)I"⟩ ⟨"OneHandEachModel", "fogWalks", "(II)I"⟩ ∈ m_ws := m_at 63 rfl rfl
theorem q_64 : Cond.selects "OneHandEachModel" ⟨"OneHandEachModel", "plainWalks", "(II)I"⟩ ⟨"OneHandEachModel", "plainWalks", "(II)I"⟩ ∈ m_ws := m_at 64 rfl rfl
theorem q_65 : Cond.selects "OneHandEachModel" ⟨"OneHandEachModel", "telling", "(II)I"⟩ ⟨"OneHandEachModel", "telling", "(II)I"⟩ ∈ m_ws := m_at 65 rfl rfl
theorem q_66 : Cond.selects "OneHandEachModel" ⟨"OneHandEachModel", "plainTells", "(II)I"⟩ ⟨"OneHandEachModel", "plainTells", "(II)I"⟩ ∈ m_ws := m_at 66 rfl rfl
theorem q_67 : Cond.selects "OneHandEachModel" ⟨"OneHandEachModel", "whyNoPlace", "(II)I"⟩ ⟨"OneHandEachModel", "whyNoPlace", "(II)I"⟩ ∈ m_ws := m_at 67 rfl rfl
theorem q_171 : (Jvm.Cond.fieldLinkNest "OneHandEach$Law" (31 : Nat) "OneHandEach$Reader" "length" "I" "OneHandEach") ∈ m_nw := m_nwat 0 (by decide +kernel)
theorem q_374 : (Jvm.Cond.methodLinkNest "OneHandEach$Town" (21 : Nat) ({ cls := "OneHandEach", name := "isClock", desc := "(I)Z" } : Jvm.MethodName) "OneHandEach") ∈ m_nw := m_nwat 1 (by decide +kernel)
theorem q_398 : (Jvm.Cond.methodLinkNest "OneHandEach$Entries" (33 : Nat) ({ cls := "OneHandEach", name := "isOneOf", desc := "(II)Z" } : Jvm.MethodName) "OneHandEach") ∈ m_nw := m_nwat 2 (by decide +kernel)
theorem q_602 : (Jvm.Cond.methodLinkNest "OneHandEach$Fitting" (51 : Nat) ({ cls := "OneHandEach", name := "isSight", desc := "(IIII)Z" } : Jvm.MethodName) "OneHandEach") ∈ m_nw := m_nwat 3 (by decide +kernel)
theorem q_647 : (Jvm.Cond.methodLinkNest "OneHandEach$Fitting" (59 : Nat) ({ cls := "OneHandEach", name := "isPart", desc := "(I)Z" } : Jvm.MethodName) "OneHandEach") ∈ m_nw := m_nwat 4 (by decide +kernel)
theorem q_799 : (Jvm.Cond.methodLinkNest "OneHandEach$Bodies" (22 : Nat) ({ cls := "OneHandEach", name := "isOneOf", desc := "(II)Z" } : Jvm.MethodName) "OneHandEach") ∈ m_nw := m_nwat 5 (by decide +kernel)
end
