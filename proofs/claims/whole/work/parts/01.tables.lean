-- ===== PART A: goes FIRST, ahead of the names: the tables' words, and 'selects' of the private methods out of them =====
/-- a private method of a class that the tables say can be made, by its rows of tables_1 -/
def lw_okq (q : MethodName × Nat) : Prop := (q.1.cls ≠ "java/lang/invoke/MethodHandle" ∧ q.1.cls ≠ "java/lang/invoke/VarHandle") ∧ Cond.instantiable q.1.cls q.2 ∈ tables_1 ∧ Cond.privateMethod q.1 ∈ tables_1 ∧ Cond.instanceMethod q.1 ∈ tables_1
theorem lw_p0 : lw_okq (⟨"ZigzagTablets", "startAgain", "()V"⟩, 17) := ⟨⟨by decide +kernel, by decide +kernel⟩, List.mem_of_getElem? (i := 22) (by decide +kernel), List.mem_of_getElem? (i := 417) (by decide +kernel), List.mem_of_getElem? (i := 418) (by decide +kernel)⟩
theorem lw_p1 : lw_okq (⟨"ZigzagTablets$Course", "store", "()V"⟩, 5) := ⟨⟨by decide +kernel, by decide +kernel⟩, List.mem_of_getElem? (i := 78) (by decide +kernel), List.mem_of_getElem? (i := 494) (by decide +kernel), List.mem_of_getElem? (i := 495) (by decide +kernel)⟩
theorem lw_p2 : lw_okq (⟨"ZigzagTablets$Piece", "changed", "()V"⟩, 17) := ⟨⟨by decide +kernel, by decide +kernel⟩, List.mem_of_getElem? (i := 134) (by decide +kernel), List.mem_of_getElem? (i := 507) (by decide +kernel), List.mem_of_getElem? (i := 508) (by decide +kernel)⟩
theorem lw_p3 : lw_okq (⟨"ZigzagTablets", "none", "(I)I"⟩, 17) := ⟨⟨by decide +kernel, by decide +kernel⟩, List.mem_of_getElem? (i := 22) (by decide +kernel), List.mem_of_getElem? (i := 567) (by decide +kernel), List.mem_of_getElem? (i := 568) (by decide +kernel)⟩
theorem lw_p4 : lw_okq (⟨"ZigzagTablets", "refused", "(I)Z"⟩, 17) := ⟨⟨by decide +kernel, by decide +kernel⟩, List.mem_of_getElem? (i := 22) (by decide +kernel), List.mem_of_getElem? (i := 579) (by decide +kernel), List.mem_of_getElem? (i := 580) (by decide +kernel)⟩
theorem lw_p5 : lw_okq (⟨"ZigzagTablets$Reader", "start", "()V"⟩, 12) := ⟨⟨by decide +kernel, by decide +kernel⟩, List.mem_of_getElem? (i := 202) (by decide +kernel), List.mem_of_getElem? (i := 595) (by decide +kernel), List.mem_of_getElem? (i := 596) (by decide +kernel)⟩
theorem lw_p6 : lw_okq (⟨"ZigzagTablets$Reader", "advance", "()V"⟩, 12) := ⟨⟨by decide +kernel, by decide +kernel⟩, List.mem_of_getElem? (i := 202) (by decide +kernel), List.mem_of_getElem? (i := 599) (by decide +kernel), List.mem_of_getElem? (i := 600) (by decide +kernel)⟩
theorem lw_p7 : lw_okq (⟨"ZigzagTablets$Reader", "refuse", "(II)Z"⟩, 12) := ⟨⟨by decide +kernel, by decide +kernel⟩, List.mem_of_getElem? (i := 202) (by decide +kernel), List.mem_of_getElem? (i := 609) (by decide +kernel), List.mem_of_getElem? (i := 610) (by decide +kernel)⟩
theorem lw_p8 : lw_okq (⟨"ZigzagTablets$Reader", "statement", "()Z"⟩, 12) := ⟨⟨by decide +kernel, by decide +kernel⟩, List.mem_of_getElem? (i := 202) (by decide +kernel), List.mem_of_getElem? (i := 613) (by decide +kernel), List.mem_of_getElem? (i := 614) (by decide +kernel)⟩
theorem lw_p9 : lw_okq (⟨"ZigzagTablets$Reader", "tryWord", "(Ljava/lang/String;)Z"⟩, 12) := ⟨⟨by decide +kernel, by decide +kernel⟩, List.mem_of_getElem? (i := 202) (by decide +kernel), List.mem_of_getElem? (i := 618) (by decide +kernel), List.mem_of_getElem? (i := 619) (by decide +kernel)⟩
theorem lw_p10 : lw_okq (⟨"ZigzagTablets$Reader", "isWord", "(Ljava/lang/String;)Z"⟩, 12) := ⟨⟨by decide +kernel, by decide +kernel⟩, List.mem_of_getElem? (i := 202) (by decide +kernel), List.mem_of_getElem? (i := 622) (by decide +kernel), List.mem_of_getElem? (i := 623) (by decide +kernel)⟩
theorem lw_p11 : lw_okq (⟨"ZigzagTablets$Reader", "number", "(II)I"⟩, 12) := ⟨⟨by decide +kernel, by decide +kernel⟩, List.mem_of_getElem? (i := 202) (by decide +kernel), List.mem_of_getElem? (i := 674) (by decide +kernel), List.mem_of_getElem? (i := 675) (by decide +kernel)⟩
theorem lw_p12 : lw_okq (⟨"ZigzagTablets$Reader", "unfit", "()Z"⟩, 12) := ⟨⟨by decide +kernel, by decide +kernel⟩, List.mem_of_getElem? (i := 202) (by decide +kernel), List.mem_of_getElem? (i := 678) (by decide +kernel), List.mem_of_getElem? (i := 679) (by decide +kernel)⟩
theorem lw_p13 : lw_okq (⟨"ZigzagTablets$Reader", "test", "(I)Z"⟩, 12) := ⟨⟨by decide +kernel, by decide +kernel⟩, List.mem_of_getElem? (i := 202) (by decide +kernel), List.mem_of_getElem? (i := 683) (by decide +kernel), List.mem_of_getElem? (i := 684) (by decide +kernel)⟩
theorem lw_p14 : lw_okq (⟨"ZigzagTablets$Reader", "both", "(I)Z"⟩, 12) := ⟨⟨by decide +kernel, by decide +kernel⟩, List.mem_of_getElem? (i := 202) (by decide +kernel), List.mem_of_getElem? (i := 687) (by decide +kernel), List.mem_of_getElem? (i := 688) (by decide +kernel)⟩
theorem lw_p15 : lw_okq (⟨"ZigzagTablets$Reader", "fact", "(I)Z"⟩, 12) := ⟨⟨by decide +kernel, by decide +kernel⟩, List.mem_of_getElem? (i := 202) (by decide +kernel), List.mem_of_getElem? (i := 691) (by decide +kernel), List.mem_of_getElem? (i := 692) (by decide +kernel)⟩
def lw_privs_1 : List (MethodName × Nat) := [(⟨"ZigzagTablets", "startAgain", "()V"⟩, 17), (⟨"ZigzagTablets$Course", "store", "()V"⟩, 5), (⟨"ZigzagTablets$Piece", "changed", "()V"⟩, 17), (⟨"ZigzagTablets", "none", "(I)I"⟩, 17), (⟨"ZigzagTablets", "refused", "(I)Z"⟩, 17), (⟨"ZigzagTablets$Reader", "start", "()V"⟩, 12), (⟨"ZigzagTablets$Reader", "advance", "()V"⟩, 12), (⟨"ZigzagTablets$Reader", "refuse", "(II)Z"⟩, 12), (⟨"ZigzagTablets$Reader", "statement", "()Z"⟩, 12), (⟨"ZigzagTablets$Reader", "tryWord", "(Ljava/lang/String;)Z"⟩, 12), (⟨"ZigzagTablets$Reader", "isWord", "(Ljava/lang/String;)Z"⟩, 12), (⟨"ZigzagTablets$Reader", "number", "(II)I"⟩, 12), (⟨"ZigzagTablets$Reader", "unfit", "()Z"⟩, 12), (⟨"ZigzagTablets$Reader", "test", "(I)Z"⟩, 12), (⟨"ZigzagTablets$Reader", "both", "(I)Z"⟩, 12), (⟨"ZigzagTablets$Reader", "fact", "(I)Z"⟩, 12)]
theorem lw_r1 : ∀ q ∈ lw_privs_1, lw_okq q := List.forall_mem_cons.mpr ⟨lw_p0, List.forall_mem_cons.mpr ⟨lw_p1, List.forall_mem_cons.mpr ⟨lw_p2, List.forall_mem_cons.mpr ⟨lw_p3, List.forall_mem_cons.mpr ⟨lw_p4, List.forall_mem_cons.mpr ⟨lw_p5, List.forall_mem_cons.mpr ⟨lw_p6, List.forall_mem_cons.mpr ⟨lw_p7, List.forall_mem_cons.mpr ⟨lw_p8, List.forall_mem_cons.mpr ⟨lw_p9, List.forall_mem_cons.mpr ⟨lw_p10, List.forall_mem_cons.mpr ⟨lw_p11, List.forall_mem_cons.mpr ⟨lw_p12, List.forall_mem_cons.mpr ⟨lw_p13, List.forall_mem_cons.mpr ⟨lw_p14, List.forall_mem_cons.mpr ⟨lw_p15, fun _ h => absurd h List.not_mem_nil⟩⟩⟩⟩⟩⟩⟩⟩⟩⟩⟩⟩⟩⟩⟩⟩
theorem lw_p16 : lw_okq (⟨"ZigzagTablets$Reader", "isSign", "(C)Z"⟩, 12) := ⟨⟨by decide +kernel, by decide +kernel⟩, List.mem_of_getElem? (i := 202) (by decide +kernel), List.mem_of_getElem? (i := 700) (by decide +kernel), List.mem_of_getElem? (i := 701) (by decide +kernel)⟩
theorem lw_p17 : lw_okq (⟨"ZigzagTablets$Reader", "takeOpen", "(CI)Z"⟩, 12) := ⟨⟨by decide +kernel, by decide +kernel⟩, List.mem_of_getElem? (i := 202) (by decide +kernel), List.mem_of_getElem? (i := 704) (by decide +kernel), List.mem_of_getElem? (i := 705) (by decide +kernel)⟩
theorem lw_p18 : lw_okq (⟨"ZigzagTablets$Reader", "takeSign", "(C)Z"⟩, 12) := ⟨⟨by decide +kernel, by decide +kernel⟩, List.mem_of_getElem? (i := 202) (by decide +kernel), List.mem_of_getElem? (i := 708) (by decide +kernel), List.mem_of_getElem? (i := 709) (by decide +kernel)⟩
theorem lw_p19 : lw_okq (⟨"ZigzagTablets$Reader", "sum", "(I)Z"⟩, 12) := ⟨⟨by decide +kernel, by decide +kernel⟩, List.mem_of_getElem? (i := 202) (by decide +kernel), List.mem_of_getElem? (i := 713) (by decide +kernel), List.mem_of_getElem? (i := 714) (by decide +kernel)⟩
theorem lw_p20 : lw_okq (⟨"ZigzagTablets$Reader", "product", "(I)Z"⟩, 12) := ⟨⟨by decide +kernel, by decide +kernel⟩, List.mem_of_getElem? (i := 202) (by decide +kernel), List.mem_of_getElem? (i := 717) (by decide +kernel), List.mem_of_getElem? (i := 718) (by decide +kernel)⟩
theorem lw_p21 : lw_okq (⟨"ZigzagTablets$Reader", "part", "(I)Z"⟩, 12) := ⟨⟨by decide +kernel, by decide +kernel⟩, List.mem_of_getElem? (i := 202) (by decide +kernel), List.mem_of_getElem? (i := 721) (by decide +kernel), List.mem_of_getElem? (i := 722) (by decide +kernel)⟩
theorem lw_p22 : lw_okq (⟨"ZigzagTablets$Reader", "pair", "(II)Z"⟩, 12) := ⟨⟨by decide +kernel, by decide +kernel⟩, List.mem_of_getElem? (i := 202) (by decide +kernel), List.mem_of_getElem? (i := 726) (by decide +kernel), List.mem_of_getElem? (i := 727) (by decide +kernel)⟩
theorem lw_p23 : lw_okq (⟨"ZigzagTablets$Reader", "askedPart", "(I)Z"⟩, 12) := ⟨⟨by decide +kernel, by decide +kernel⟩, List.mem_of_getElem? (i := 202) (by decide +kernel), List.mem_of_getElem? (i := 733) (by decide +kernel), List.mem_of_getElem? (i := 734) (by decide +kernel)⟩
theorem lw_p24 : lw_okq (⟨"ZigzagTablets$Reader", "toldOfColumn", "()I"⟩, 12) := ⟨⟨by decide +kernel, by decide +kernel⟩, List.mem_of_getElem? (i := 202) (by decide +kernel), List.mem_of_getElem? (i := 737) (by decide +kernel), List.mem_of_getElem? (i := 738) (by decide +kernel)⟩
theorem lw_p25 : lw_okq (⟨"ZigzagTablets$Reader", "toldOfLine", "()I"⟩, 12) := ⟨⟨by decide +kernel, by decide +kernel⟩, List.mem_of_getElem? (i := 202) (by decide +kernel), List.mem_of_getElem? (i := 746) (by decide +kernel), List.mem_of_getElem? (i := 747) (by decide +kernel)⟩
theorem lw_p26 : lw_okq (⟨"ZigzagTablets$Reader", "columnHere", "()I"⟩, 12) := ⟨⟨by decide +kernel, by decide +kernel⟩, List.mem_of_getElem? (i := 202) (by decide +kernel), List.mem_of_getElem? (i := 751) (by decide +kernel), List.mem_of_getElem? (i := 752) (by decide +kernel)⟩
theorem lw_p27 : lw_okq (⟨"ZigzagTablets$Reader", "comparisonHere", "()I"⟩, 12) := ⟨⟨by decide +kernel, by decide +kernel⟩, List.mem_of_getElem? (i := 202) (by decide +kernel), List.mem_of_getElem? (i := 755) (by decide +kernel), List.mem_of_getElem? (i := 756) (by decide +kernel)⟩
theorem lw_p28 : lw_okq (⟨"ZigzagTablets$Reader", "sortHere", "()I"⟩, 12) := ⟨⟨by decide +kernel, by decide +kernel⟩, List.mem_of_getElem? (i := 202) (by decide +kernel), List.mem_of_getElem? (i := 761) (by decide +kernel), List.mem_of_getElem? (i := 762) (by decide +kernel)⟩
theorem lw_p29 : lw_okq (⟨"ZigzagTablets$Reader", "name", "(LZigzagTablets$Column;)Z"⟩, 12) := ⟨⟨by decide +kernel, by decide +kernel⟩, List.mem_of_getElem? (i := 202) (by decide +kernel), List.mem_of_getElem? (i := 773) (by decide +kernel), List.mem_of_getElem? (i := 774) (by decide +kernel)⟩
theorem lw_p30 : lw_okq (⟨"ZigzagTablets$Reader", "isOwnWord", "()Z"⟩, 12) := ⟨⟨by decide +kernel, by decide +kernel⟩, List.mem_of_getElem? (i := 202) (by decide +kernel), List.mem_of_getElem? (i := 777) (by decide +kernel), List.mem_of_getElem? (i := 778) (by decide +kernel)⟩
theorem lw_p31 : lw_okq (⟨"ZigzagTablets$Reader", "zig", "(LZigzagTablets$Column;)V"⟩, 12) := ⟨⟨by decide +kernel, by decide +kernel⟩, List.mem_of_getElem? (i := 202) (by decide +kernel), List.mem_of_getElem? (i := 782) (by decide +kernel), List.mem_of_getElem? (i := 783) (by decide +kernel)⟩
def lw_privs_2 : List (MethodName × Nat) := [(⟨"ZigzagTablets$Reader", "isSign", "(C)Z"⟩, 12), (⟨"ZigzagTablets$Reader", "takeOpen", "(CI)Z"⟩, 12), (⟨"ZigzagTablets$Reader", "takeSign", "(C)Z"⟩, 12), (⟨"ZigzagTablets$Reader", "sum", "(I)Z"⟩, 12), (⟨"ZigzagTablets$Reader", "product", "(I)Z"⟩, 12), (⟨"ZigzagTablets$Reader", "part", "(I)Z"⟩, 12), (⟨"ZigzagTablets$Reader", "pair", "(II)Z"⟩, 12), (⟨"ZigzagTablets$Reader", "askedPart", "(I)Z"⟩, 12), (⟨"ZigzagTablets$Reader", "toldOfColumn", "()I"⟩, 12), (⟨"ZigzagTablets$Reader", "toldOfLine", "()I"⟩, 12), (⟨"ZigzagTablets$Reader", "columnHere", "()I"⟩, 12), (⟨"ZigzagTablets$Reader", "comparisonHere", "()I"⟩, 12), (⟨"ZigzagTablets$Reader", "sortHere", "()I"⟩, 12), (⟨"ZigzagTablets$Reader", "name", "(LZigzagTablets$Column;)Z"⟩, 12), (⟨"ZigzagTablets$Reader", "isOwnWord", "()Z"⟩, 12), (⟨"ZigzagTablets$Reader", "zig", "(LZigzagTablets$Column;)V"⟩, 12)]
theorem lw_r2 : ∀ q ∈ lw_privs_2, lw_okq q := List.forall_mem_cons.mpr ⟨lw_p16, List.forall_mem_cons.mpr ⟨lw_p17, List.forall_mem_cons.mpr ⟨lw_p18, List.forall_mem_cons.mpr ⟨lw_p19, List.forall_mem_cons.mpr ⟨lw_p20, List.forall_mem_cons.mpr ⟨lw_p21, List.forall_mem_cons.mpr ⟨lw_p22, List.forall_mem_cons.mpr ⟨lw_p23, List.forall_mem_cons.mpr ⟨lw_p24, List.forall_mem_cons.mpr ⟨lw_p25, List.forall_mem_cons.mpr ⟨lw_p26, List.forall_mem_cons.mpr ⟨lw_p27, List.forall_mem_cons.mpr ⟨lw_p28, List.forall_mem_cons.mpr ⟨lw_p29, List.forall_mem_cons.mpr ⟨lw_p30, List.forall_mem_cons.mpr ⟨lw_p31, fun _ h => absurd h List.not_mem_nil⟩⟩⟩⟩⟩⟩⟩⟩⟩⟩⟩⟩⟩⟩⟩⟩
theorem lw_p32 : lw_okq (⟨"ZigzagTablets$Reader", "numberBehind", "(Ljava/lang/String;II)I"⟩, 12) := ⟨⟨by decide +kernel, by decide +kernel⟩, List.mem_of_getElem? (i := 202) (by decide +kernel), List.mem_of_getElem? (i := 787) (by decide +kernel), List.mem_of_getElem? (i := 788) (by decide +kernel)⟩
theorem lw_p33 : lw_okq (⟨"ZigzagTablets$Reader", "takeWord", "(Ljava/lang/String;)Z"⟩, 12) := ⟨⟨by decide +kernel, by decide +kernel⟩, List.mem_of_getElem? (i := 202) (by decide +kernel), List.mem_of_getElem? (i := 791) (by decide +kernel), List.mem_of_getElem? (i := 792) (by decide +kernel)⟩
theorem lw_p34 : lw_okq (⟨"ZigzagTablets$Reader", "arc", "(LZigzagTablets$Column;)V"⟩, 12) := ⟨⟨by decide +kernel, by decide +kernel⟩, List.mem_of_getElem? (i := 202) (by decide +kernel), List.mem_of_getElem? (i := 800) (by decide +kernel), List.mem_of_getElem? (i := 801) (by decide +kernel)⟩
theorem lw_p35 : lw_okq (⟨"ZigzagTablets$Reader", "ring", "(LZigzagTablets$Column;)V"⟩, 12) := ⟨⟨by decide +kernel, by decide +kernel⟩, List.mem_of_getElem? (i := 202) (by decide +kernel), List.mem_of_getElem? (i := 807) (by decide +kernel), List.mem_of_getElem? (i := 808) (by decide +kernel)⟩
theorem lw_p36 : lw_okq (⟨"ZigzagTablets$Reader", "sumOf", "(LZigzagTablets$Column;)Z"⟩, 12) := ⟨⟨by decide +kernel, by decide +kernel⟩, List.mem_of_getElem? (i := 202) (by decide +kernel), List.mem_of_getElem? (i := 812) (by decide +kernel), List.mem_of_getElem? (i := 813) (by decide +kernel)⟩
theorem lw_p37 : lw_okq (⟨"ZigzagTablets", "noteFault", "()V"⟩, 17) := ⟨⟨by decide +kernel, by decide +kernel⟩, List.mem_of_getElem? (i := 22) (by decide +kernel), List.mem_of_getElem? (i := 816) (by decide +kernel), List.mem_of_getElem? (i := 817) (by decide +kernel)⟩
theorem lw_p38 : lw_okq (⟨"ZigzagTablets", "untrueColumns", "()I"⟩, 17) := ⟨⟨by decide +kernel, by decide +kernel⟩, List.mem_of_getElem? (i := 22) (by decide +kernel), List.mem_of_getElem? (i := 833) (by decide +kernel), List.mem_of_getElem? (i := 834) (by decide +kernel)⟩
theorem lw_p39 : lw_okq (⟨"ZigzagTablets", "isColumn", "(I)Z"⟩, 17) := ⟨⟨by decide +kernel, by decide +kernel⟩, List.mem_of_getElem? (i := 22) (by decide +kernel), List.mem_of_getElem? (i := 847) (by decide +kernel), List.mem_of_getElem? (i := 848) (by decide +kernel)⟩
theorem lw_p40 : lw_okq (⟨"ZigzagTablets", "isAhead", "(III)Z"⟩, 17) := ⟨⟨by decide +kernel, by decide +kernel⟩, List.mem_of_getElem? (i := 22) (by decide +kernel), List.mem_of_getElem? (i := 881) (by decide +kernel), List.mem_of_getElem? (i := 882) (by decide +kernel)⟩
theorem lw_p41 : lw_okq (⟨"ZigzagTablets$Tablet", "moveZig", "(LZigzagTablets$Line;II)V"⟩, 10) := ⟨⟨by decide +kernel, by decide +kernel⟩, List.mem_of_getElem? (i := 293) (by decide +kernel), List.mem_of_getElem? (i := 897) (by decide +kernel), List.mem_of_getElem? (i := 898) (by decide +kernel)⟩
theorem lw_p42 : lw_okq (⟨"ZigzagTablets", "mostAhead", "()I"⟩, 17) := ⟨⟨by decide +kernel, by decide +kernel⟩, List.mem_of_getElem? (i := 22) (by decide +kernel), List.mem_of_getElem? (i := 923) (by decide +kernel), List.mem_of_getElem? (i := 924) (by decide +kernel)⟩
theorem lw_p43 : lw_okq (⟨"ZigzagTablets", "columnsAstray", "()I"⟩, 17) := ⟨⟨by decide +kernel, by decide +kernel⟩, List.mem_of_getElem? (i := 22) (by decide +kernel), List.mem_of_getElem? (i := 946) (by decide +kernel), List.mem_of_getElem? (i := 947) (by decide +kernel)⟩
theorem lw_p44 : lw_okq (⟨"ZigzagTablets", "heals", "(II)Z"⟩, 17) := ⟨⟨by decide +kernel, by decide +kernel⟩, List.mem_of_getElem? (i := 22) (by decide +kernel), List.mem_of_getElem? (i := 961) (by decide +kernel), List.mem_of_getElem? (i := 962) (by decide +kernel)⟩
theorem lw_p45 : lw_okq (⟨"ZigzagTablets$Piece", "fitsAt", "(I)Z"⟩, 17) := ⟨⟨by decide +kernel, by decide +kernel⟩, List.mem_of_getElem? (i := 134) (by decide +kernel), List.mem_of_getElem? (i := 1005) (by decide +kernel), List.mem_of_getElem? (i := 1006) (by decide +kernel)⟩
theorem lw_p46 : lw_okq (⟨"ZigzagTablets$Piece", "wouldFit", "(LZigzagTablets$Tablet;III)Z"⟩, 17) := ⟨⟨by decide +kernel, by decide +kernel⟩, List.mem_of_getElem? (i := 134) (by decide +kernel), List.mem_of_getElem? (i := 1019) (by decide +kernel), List.mem_of_getElem? (i := 1020) (by decide +kernel)⟩
theorem lw_p47 : lw_okq (⟨"ZigzagTablets$Piece", "mostAlike", "(II)I"⟩, 17) := ⟨⟨by decide +kernel, by decide +kernel⟩, List.mem_of_getElem? (i := 134) (by decide +kernel), List.mem_of_getElem? (i := 1033) (by decide +kernel), List.mem_of_getElem? (i := 1034) (by decide +kernel)⟩
def lw_privs_3 : List (MethodName × Nat) := [(⟨"ZigzagTablets$Reader", "numberBehind", "(Ljava/lang/String;II)I"⟩, 12), (⟨"ZigzagTablets$Reader", "takeWord", "(Ljava/lang/String;)Z"⟩, 12), (⟨"ZigzagTablets$Reader", "arc", "(LZigzagTablets$Column;)V"⟩, 12), (⟨"ZigzagTablets$Reader", "ring", "(LZigzagTablets$Column;)V"⟩, 12), (⟨"ZigzagTablets$Reader", "sumOf", "(LZigzagTablets$Column;)Z"⟩, 12), (⟨"ZigzagTablets", "noteFault", "()V"⟩, 17), (⟨"ZigzagTablets", "untrueColumns", "()I"⟩, 17), (⟨"ZigzagTablets", "isColumn", "(I)Z"⟩, 17), (⟨"ZigzagTablets", "isAhead", "(III)Z"⟩, 17), (⟨"ZigzagTablets$Tablet", "moveZig", "(LZigzagTablets$Line;II)V"⟩, 10), (⟨"ZigzagTablets", "mostAhead", "()I"⟩, 17), (⟨"ZigzagTablets", "columnsAstray", "()I"⟩, 17), (⟨"ZigzagTablets", "heals", "(II)Z"⟩, 17), (⟨"ZigzagTablets$Piece", "fitsAt", "(I)Z"⟩, 17), (⟨"ZigzagTablets$Piece", "wouldFit", "(LZigzagTablets$Tablet;III)Z"⟩, 17), (⟨"ZigzagTablets$Piece", "mostAlike", "(II)I"⟩, 17)]
theorem lw_r3 : ∀ q ∈ lw_privs_3, lw_okq q := List.forall_mem_cons.mpr ⟨lw_p32, List.forall_mem_cons.mpr ⟨lw_p33, List.forall_mem_cons.mpr ⟨lw_p34, List.forall_mem_cons.mpr ⟨lw_p35, List.forall_mem_cons.mpr ⟨lw_p36, List.forall_mem_cons.mpr ⟨lw_p37, List.forall_mem_cons.mpr ⟨lw_p38, List.forall_mem_cons.mpr ⟨lw_p39, List.forall_mem_cons.mpr ⟨lw_p40, List.forall_mem_cons.mpr ⟨lw_p41, List.forall_mem_cons.mpr ⟨lw_p42, List.forall_mem_cons.mpr ⟨lw_p43, List.forall_mem_cons.mpr ⟨lw_p44, List.forall_mem_cons.mpr ⟨lw_p45, List.forall_mem_cons.mpr ⟨lw_p46, List.forall_mem_cons.mpr ⟨lw_p47, fun _ h => absurd h List.not_mem_nil⟩⟩⟩⟩⟩⟩⟩⟩⟩⟩⟩⟩⟩⟩⟩⟩
theorem lw_p48 : lw_okq (⟨"ZigzagTablets", "keepIfMarked", "()Z"⟩, 17) := ⟨⟨by decide +kernel, by decide +kernel⟩, List.mem_of_getElem? (i := 22) (by decide +kernel), List.mem_of_getElem? (i := 1046) (by decide +kernel), List.mem_of_getElem? (i := 1047) (by decide +kernel)⟩
theorem lw_p49 : lw_okq (⟨"ZigzagTablets", "settle", "()V"⟩, 17) := ⟨⟨by decide +kernel, by decide +kernel⟩, List.mem_of_getElem? (i := 22) (by decide +kernel), List.mem_of_getElem? (i := 1054) (by decide +kernel), List.mem_of_getElem? (i := 1055) (by decide +kernel)⟩
theorem lw_p50 : lw_okq (⟨"ZigzagTablets", "slipByTheSeed", "()Z"⟩, 17) := ⟨⟨by decide +kernel, by decide +kernel⟩, List.mem_of_getElem? (i := 22) (by decide +kernel), List.mem_of_getElem? (i := 1071) (by decide +kernel), List.mem_of_getElem? (i := 1072) (by decide +kernel)⟩
theorem lw_p51 : lw_okq (⟨"ZigzagTablets", "draw", "(I)I"⟩, 17) := ⟨⟨by decide +kernel, by decide +kernel⟩, List.mem_of_getElem? (i := 22) (by decide +kernel), List.mem_of_getElem? (i := 1075) (by decide +kernel), List.mem_of_getElem? (i := 1076) (by decide +kernel)⟩
theorem lw_p52 : lw_okq (⟨"ZigzagTablets$Reader", "questionHere", "()I"⟩, 12) := ⟨⟨by decide +kernel, by decide +kernel⟩, List.mem_of_getElem? (i := 202) (by decide +kernel), List.mem_of_getElem? (i := 1103) (by decide +kernel), List.mem_of_getElem? (i := 1104) (by decide +kernel)⟩
theorem lw_p53 : lw_okq (⟨"ZigzagTablets$Question", "joined", "(IJI)J"⟩, 5) := ⟨⟨by decide +kernel, by decide +kernel⟩, List.mem_of_getElem? (i := 268) (by decide +kernel), List.mem_of_getElem? (i := 1119) (by decide +kernel), List.mem_of_getElem? (i := 1120) (by decide +kernel)⟩
theorem lw_p54 : lw_okq (⟨"ZigzagTablets", "readImage", "(LZigzagTablets$Line;)Z"⟩, 17) := ⟨⟨by decide +kernel, by decide +kernel⟩, List.mem_of_getElem? (i := 22) (by decide +kernel), List.mem_of_getElem? (i := 1141) (by decide +kernel), List.mem_of_getElem? (i := 1142) (by decide +kernel)⟩
theorem lw_p55 : lw_okq (⟨"ZigzagTabletsModel", "look", "()I"⟩, 101) := ⟨⟨by decide +kernel, by decide +kernel⟩, List.mem_of_getElem? (i := 1150) (by decide +kernel), List.mem_of_getElem? (i := 1475) (by decide +kernel), List.mem_of_getElem? (i := 1476) (by decide +kernel)⟩
theorem lw_p56 : lw_okq (⟨"ZigzagTabletsModel", "statementTold", "()V"⟩, 101) := ⟨⟨by decide +kernel, by decide +kernel⟩, List.mem_of_getElem? (i := 1150) (by decide +kernel), List.mem_of_getElem? (i := 1479) (by decide +kernel), List.mem_of_getElem? (i := 1480) (by decide +kernel)⟩
theorem lw_p57 : lw_okq (⟨"ZigzagTabletsModel", "fail", "(II)V"⟩, 101) := ⟨⟨by decide +kernel, by decide +kernel⟩, List.mem_of_getElem? (i := 1150) (by decide +kernel), List.mem_of_getElem? (i := 1483) (by decide +kernel), List.mem_of_getElem? (i := 1484) (by decide +kernel)⟩
theorem lw_p58 : lw_okq (⟨"ZigzagTabletsModel", "takes", "([C)Z"⟩, 101) := ⟨⟨by decide +kernel, by decide +kernel⟩, List.mem_of_getElem? (i := 1150) (by decide +kernel), List.mem_of_getElem? (i := 1487) (by decide +kernel), List.mem_of_getElem? (i := 1488) (by decide +kernel)⟩
theorem lw_p59 : lw_okq (⟨"ZigzagTabletsModel", "isHere", "([C)Z"⟩, 101) := ⟨⟨by decide +kernel, by decide +kernel⟩, List.mem_of_getElem? (i := 1150) (by decide +kernel), List.mem_of_getElem? (i := 1491) (by decide +kernel), List.mem_of_getElem? (i := 1492) (by decide +kernel)⟩
theorem lw_p60 : lw_okq (⟨"ZigzagTabletsModel", "columnTold", "(II)V"⟩, 101) := ⟨⟨by decide +kernel, by decide +kernel⟩, List.mem_of_getElem? (i := 1150) (by decide +kernel), List.mem_of_getElem? (i := 1498) (by decide +kernel), List.mem_of_getElem? (i := 1499) (by decide +kernel)⟩
theorem lw_p61 : lw_okq (⟨"ZigzagTabletsModel", "laid", "(II)V"⟩, 101) := ⟨⟨by decide +kernel, by decide +kernel⟩, List.mem_of_getElem? (i := 1150) (by decide +kernel), List.mem_of_getElem? (i := 1502) (by decide +kernel), List.mem_of_getElem? (i := 1503) (by decide +kernel)⟩
theorem lw_p62 : lw_okq (⟨"ZigzagTabletsModel", "newName", "()J"⟩, 101) := ⟨⟨by decide +kernel, by decide +kernel⟩, List.mem_of_getElem? (i := 1150) (by decide +kernel), List.mem_of_getElem? (i := 1506) (by decide +kernel), List.mem_of_getElem? (i := 1507) (by decide +kernel)⟩
theorem lw_p63 : lw_okq (⟨"ZigzagTabletsModel", "name", "()J"⟩, 101) := ⟨⟨by decide +kernel, by decide +kernel⟩, List.mem_of_getElem? (i := 1150) (by decide +kernel), List.mem_of_getElem? (i := 1510) (by decide +kernel), List.mem_of_getElem? (i := 1511) (by decide +kernel)⟩
def lw_privs_4 : List (MethodName × Nat) := [(⟨"ZigzagTablets", "keepIfMarked", "()Z"⟩, 17), (⟨"ZigzagTablets", "settle", "()V"⟩, 17), (⟨"ZigzagTablets", "slipByTheSeed", "()Z"⟩, 17), (⟨"ZigzagTablets", "draw", "(I)I"⟩, 17), (⟨"ZigzagTablets$Reader", "questionHere", "()I"⟩, 12), (⟨"ZigzagTablets$Question", "joined", "(IJI)J"⟩, 5), (⟨"ZigzagTablets", "readImage", "(LZigzagTablets$Line;)Z"⟩, 17), (⟨"ZigzagTabletsModel", "look", "()I"⟩, 101), (⟨"ZigzagTabletsModel", "statementTold", "()V"⟩, 101), (⟨"ZigzagTabletsModel", "fail", "(II)V"⟩, 101), (⟨"ZigzagTabletsModel", "takes", "([C)Z"⟩, 101), (⟨"ZigzagTabletsModel", "isHere", "([C)Z"⟩, 101), (⟨"ZigzagTabletsModel", "columnTold", "(II)V"⟩, 101), (⟨"ZigzagTabletsModel", "laid", "(II)V"⟩, 101), (⟨"ZigzagTabletsModel", "newName", "()J"⟩, 101), (⟨"ZigzagTabletsModel", "name", "()J"⟩, 101)]
theorem lw_r4 : ∀ q ∈ lw_privs_4, lw_okq q := List.forall_mem_cons.mpr ⟨lw_p48, List.forall_mem_cons.mpr ⟨lw_p49, List.forall_mem_cons.mpr ⟨lw_p50, List.forall_mem_cons.mpr ⟨lw_p51, List.forall_mem_cons.mpr ⟨lw_p52, List.forall_mem_cons.mpr ⟨lw_p53, List.forall_mem_cons.mpr ⟨lw_p54, List.forall_mem_cons.mpr ⟨lw_p55, List.forall_mem_cons.mpr ⟨lw_p56, List.forall_mem_cons.mpr ⟨lw_p57, List.forall_mem_cons.mpr ⟨lw_p58, List.forall_mem_cons.mpr ⟨lw_p59, List.forall_mem_cons.mpr ⟨lw_p60, List.forall_mem_cons.mpr ⟨lw_p61, List.forall_mem_cons.mpr ⟨lw_p62, List.forall_mem_cons.mpr ⟨lw_p63, fun _ h => absurd h List.not_mem_nil⟩⟩⟩⟩⟩⟩⟩⟩⟩⟩⟩⟩⟩⟩⟩⟩
theorem lw_p64 : lw_okq (⟨"ZigzagTabletsModel", "isOwnHere", "()Z"⟩, 101) := ⟨⟨by decide +kernel, by decide +kernel⟩, List.mem_of_getElem? (i := 1150) (by decide +kernel), List.mem_of_getElem? (i := 1514) (by decide +kernel), List.mem_of_getElem? (i := 1515) (by decide +kernel)⟩
theorem lw_p65 : lw_okq (⟨"ZigzagTabletsModel", "zigTold", "()V"⟩, 101) := ⟨⟨by decide +kernel, by decide +kernel⟩, List.mem_of_getElem? (i := 1150) (by decide +kernel), List.mem_of_getElem? (i := 1520) (by decide +kernel), List.mem_of_getElem? (i := 1521) (by decide +kernel)⟩
theorem lw_p66 : lw_okq (⟨"ZigzagTabletsModel", "told", "([CII)I"⟩, 101) := ⟨⟨by decide +kernel, by decide +kernel⟩, List.mem_of_getElem? (i := 1150) (by decide +kernel), List.mem_of_getElem? (i := 1524) (by decide +kernel), List.mem_of_getElem? (i := 1525) (by decide +kernel)⟩
theorem lw_p67 : lw_okq (⟨"ZigzagTabletsModel", "asks", "([C)V"⟩, 101) := ⟨⟨by decide +kernel, by decide +kernel⟩, List.mem_of_getElem? (i := 1150) (by decide +kernel), List.mem_of_getElem? (i := 1528) (by decide +kernel), List.mem_of_getElem? (i := 1529) (by decide +kernel)⟩
theorem lw_p68 : lw_okq (⟨"ZigzagTabletsModel", "number", "(II)I"⟩, 101) := ⟨⟨by decide +kernel, by decide +kernel⟩, List.mem_of_getElem? (i := 1150) (by decide +kernel), List.mem_of_getElem? (i := 1532) (by decide +kernel), List.mem_of_getElem? (i := 1533) (by decide +kernel)⟩
theorem lw_p69 : lw_okq (⟨"ZigzagTabletsModel", "arcTold", "()V"⟩, 101) := ⟨⟨by decide +kernel, by decide +kernel⟩, List.mem_of_getElem? (i := 1150) (by decide +kernel), List.mem_of_getElem? (i := 1542) (by decide +kernel), List.mem_of_getElem? (i := 1543) (by decide +kernel)⟩
theorem lw_p70 : lw_okq (⟨"ZigzagTabletsModel", "ringTold", "()V"⟩, 101) := ⟨⟨by decide +kernel, by decide +kernel⟩, List.mem_of_getElem? (i := 1150) (by decide +kernel), List.mem_of_getElem? (i := 1546) (by decide +kernel), List.mem_of_getElem? (i := 1547) (by decide +kernel)⟩
theorem lw_p71 : lw_okq (⟨"ZigzagTabletsModel", "reads", "(II)V"⟩, 101) := ⟨⟨by decide +kernel, by decide +kernel⟩, List.mem_of_getElem? (i := 1150) (by decide +kernel), List.mem_of_getElem? (i := 1550) (by decide +kernel), List.mem_of_getElem? (i := 1551) (by decide +kernel)⟩
theorem lw_p72 : lw_okq (⟨"ZigzagTabletsModel", "qTest", "()V"⟩, 101) := ⟨⟨by decide +kernel, by decide +kernel⟩, List.mem_of_getElem? (i := 1150) (by decide +kernel), List.mem_of_getElem? (i := 1554) (by decide +kernel), List.mem_of_getElem? (i := 1555) (by decide +kernel)⟩
theorem lw_p73 : lw_okq (⟨"ZigzagTabletsModel", "qOpens", "(II)V"⟩, 101) := ⟨⟨by decide +kernel, by decide +kernel⟩, List.mem_of_getElem? (i := 1150) (by decide +kernel), List.mem_of_getElem? (i := 1558) (by decide +kernel), List.mem_of_getElem? (i := 1559) (by decide +kernel)⟩
theorem lw_p74 : lw_okq (⟨"ZigzagTabletsModel", "qFact", "()V"⟩, 101) := ⟨⟨by decide +kernel, by decide +kernel⟩, List.mem_of_getElem? (i := 1150) (by decide +kernel), List.mem_of_getElem? (i := 1562) (by decide +kernel), List.mem_of_getElem? (i := 1563) (by decide +kernel)⟩
theorem lw_p75 : lw_okq (⟨"ZigzagTabletsModel", "qCode", "(I)V"⟩, 101) := ⟨⟨by decide +kernel, by decide +kernel⟩, List.mem_of_getElem? (i := 1150) (by decide +kernel), List.mem_of_getElem? (i := 1566) (by decide +kernel), List.mem_of_getElem? (i := 1567) (by decide +kernel)⟩
theorem lw_p76 : lw_okq (⟨"ZigzagTabletsModel", "qSums", "()V"⟩, 101) := ⟨⟨by decide +kernel, by decide +kernel⟩, List.mem_of_getElem? (i := 1150) (by decide +kernel), List.mem_of_getElem? (i := 1570) (by decide +kernel), List.mem_of_getElem? (i := 1571) (by decide +kernel)⟩
theorem lw_p77 : lw_okq (⟨"ZigzagTabletsModel", "qPartTold", "()V"⟩, 101) := ⟨⟨by decide +kernel, by decide +kernel⟩, List.mem_of_getElem? (i := 1150) (by decide +kernel), List.mem_of_getElem? (i := 1574) (by decide +kernel), List.mem_of_getElem? (i := 1575) (by decide +kernel)⟩
theorem lw_p78 : lw_okq (⟨"ZigzagTabletsModel", "qWordOf", "(II)I"⟩, 101) := ⟨⟨by decide +kernel, by decide +kernel⟩, List.mem_of_getElem? (i := 1150) (by decide +kernel), List.mem_of_getElem? (i := 1578) (by decide +kernel), List.mem_of_getElem? (i := 1579) (by decide +kernel)⟩
theorem lw_p79 : lw_okq (⟨"ZigzagTabletsModel", "qWordHere", "()I"⟩, 101) := ⟨⟨by decide +kernel, by decide +kernel⟩, List.mem_of_getElem? (i := 1150) (by decide +kernel), List.mem_of_getElem? (i := 1582) (by decide +kernel), List.mem_of_getElem? (i := 1583) (by decide +kernel)⟩
def lw_privs_5 : List (MethodName × Nat) := [(⟨"ZigzagTabletsModel", "isOwnHere", "()Z"⟩, 101), (⟨"ZigzagTabletsModel", "zigTold", "()V"⟩, 101), (⟨"ZigzagTabletsModel", "told", "([CII)I"⟩, 101), (⟨"ZigzagTabletsModel", "asks", "([C)V"⟩, 101), (⟨"ZigzagTabletsModel", "number", "(II)I"⟩, 101), (⟨"ZigzagTabletsModel", "arcTold", "()V"⟩, 101), (⟨"ZigzagTabletsModel", "ringTold", "()V"⟩, 101), (⟨"ZigzagTabletsModel", "reads", "(II)V"⟩, 101), (⟨"ZigzagTabletsModel", "qTest", "()V"⟩, 101), (⟨"ZigzagTabletsModel", "qOpens", "(II)V"⟩, 101), (⟨"ZigzagTabletsModel", "qFact", "()V"⟩, 101), (⟨"ZigzagTabletsModel", "qCode", "(I)V"⟩, 101), (⟨"ZigzagTabletsModel", "qSums", "()V"⟩, 101), (⟨"ZigzagTabletsModel", "qPartTold", "()V"⟩, 101), (⟨"ZigzagTabletsModel", "qWordOf", "(II)I"⟩, 101), (⟨"ZigzagTabletsModel", "qWordHere", "()I"⟩, 101)]
theorem lw_r5 : ∀ q ∈ lw_privs_5, lw_okq q := List.forall_mem_cons.mpr ⟨lw_p64, List.forall_mem_cons.mpr ⟨lw_p65, List.forall_mem_cons.mpr ⟨lw_p66, List.forall_mem_cons.mpr ⟨lw_p67, List.forall_mem_cons.mpr ⟨lw_p68, List.forall_mem_cons.mpr ⟨lw_p69, List.forall_mem_cons.mpr ⟨lw_p70, List.forall_mem_cons.mpr ⟨lw_p71, List.forall_mem_cons.mpr ⟨lw_p72, List.forall_mem_cons.mpr ⟨lw_p73, List.forall_mem_cons.mpr ⟨lw_p74, List.forall_mem_cons.mpr ⟨lw_p75, List.forall_mem_cons.mpr ⟨lw_p76, List.forall_mem_cons.mpr ⟨lw_p77, List.forall_mem_cons.mpr ⟨lw_p78, List.forall_mem_cons.mpr ⟨lw_p79, fun _ h => absurd h List.not_mem_nil⟩⟩⟩⟩⟩⟩⟩⟩⟩⟩⟩⟩⟩⟩⟩⟩
theorem lw_p80 : lw_okq (⟨"ZigzagTabletsModel", "isAllowed", "(I)Z"⟩, 101) := ⟨⟨by decide +kernel, by decide +kernel⟩, List.mem_of_getElem? (i := 1150) (by decide +kernel), List.mem_of_getElem? (i := 1586) (by decide +kernel), List.mem_of_getElem? (i := 1587) (by decide +kernel)⟩
theorem lw_p81 : lw_okq (⟨"ZigzagTabletsModel", "asksSign", "(I)V"⟩, 101) := ⟨⟨by decide +kernel, by decide +kernel⟩, List.mem_of_getElem? (i := 1150) (by decide +kernel), List.mem_of_getElem? (i := 1590) (by decide +kernel), List.mem_of_getElem? (i := 1591) (by decide +kernel)⟩
theorem lw_p82 : lw_okq (⟨"ZigzagTabletsModel", "takesSign", "(I)Z"⟩, 101) := ⟨⟨by decide +kernel, by decide +kernel⟩, List.mem_of_getElem? (i := 1150) (by decide +kernel), List.mem_of_getElem? (i := 1594) (by decide +kernel), List.mem_of_getElem? (i := 1595) (by decide +kernel)⟩
theorem lw_p83 : lw_okq (⟨"ZigzagTabletsModel", "qAsksWord", "(I)V"⟩, 101) := ⟨⟨by decide +kernel, by decide +kernel⟩, List.mem_of_getElem? (i := 1150) (by decide +kernel), List.mem_of_getElem? (i := 1598) (by decide +kernel), List.mem_of_getElem? (i := 1599) (by decide +kernel)⟩
theorem lw_p84 : lw_okq (⟨"ZigzagTabletsModel", "columnHere", "()I"⟩, 101) := ⟨⟨by decide +kernel, by decide +kernel⟩, List.mem_of_getElem? (i := 1150) (by decide +kernel), List.mem_of_getElem? (i := 1602) (by decide +kernel), List.mem_of_getElem? (i := 1603) (by decide +kernel)⟩
theorem lw_p85 : lw_okq (⟨"ZigzagTabletsModel", "qEndsPart", "()V"⟩, 101) := ⟨⟨by decide +kernel, by decide +kernel⟩, List.mem_of_getElem? (i := 1150) (by decide +kernel), List.mem_of_getElem? (i := 1606) (by decide +kernel), List.mem_of_getElem? (i := 1607) (by decide +kernel)⟩
theorem lw_p86 : lw_okq (⟨"ZigzagTabletsModel", "qDrops", "()V"⟩, 101) := ⟨⟨by decide +kernel, by decide +kernel⟩, List.mem_of_getElem? (i := 1150) (by decide +kernel), List.mem_of_getElem? (i := 1610) (by decide +kernel), List.mem_of_getElem? (i := 1611) (by decide +kernel)⟩
theorem lw_p87 : lw_okq (⟨"ZigzagTabletsModel", "qGoesOn", "()Z"⟩, 101) := ⟨⟨by decide +kernel, by decide +kernel⟩, List.mem_of_getElem? (i := 1150) (by decide +kernel), List.mem_of_getElem? (i := 1614) (by decide +kernel), List.mem_of_getElem? (i := 1615) (by decide +kernel)⟩
theorem lw_p88 : lw_okq (⟨"ZigzagTabletsModel", "qBracket", "()I"⟩, 101) := ⟨⟨by decide +kernel, by decide +kernel⟩, List.mem_of_getElem? (i := 1150) (by decide +kernel), List.mem_of_getElem? (i := 1618) (by decide +kernel), List.mem_of_getElem? (i := 1619) (by decide +kernel)⟩
theorem lw_p89 : lw_okq (⟨"ZigzagTabletsModel", "qDropsToBracket", "()V"⟩, 101) := ⟨⟨by decide +kernel, by decide +kernel⟩, List.mem_of_getElem? (i := 1150) (by decide +kernel), List.mem_of_getElem? (i := 1625) (by decide +kernel), List.mem_of_getElem? (i := 1626) (by decide +kernel)⟩
theorem lw_p90 : lw_okq (⟨"ZigzagTabletsModel", "qIsOn", "(I)Z"⟩, 101) := ⟨⟨by decide +kernel, by decide +kernel⟩, List.mem_of_getElem? (i := 1150) (by decide +kernel), List.mem_of_getElem? (i := 1629) (by decide +kernel), List.mem_of_getElem? (i := 1630) (by decide +kernel)⟩
theorem lw_p91 : lw_okq (⟨"ZigzagTabletsModel", "qDropsNots", "()V"⟩, 101) := ⟨⟨by decide +kernel, by decide +kernel⟩, List.mem_of_getElem? (i := 1150) (by decide +kernel), List.mem_of_getElem? (i := 1633) (by decide +kernel), List.mem_of_getElem? (i := 1634) (by decide +kernel)⟩
theorem lw_p92 : lw_okq (⟨"ZigzagTabletsModel", "qGoesOnTest", "()Z"⟩, 101) := ⟨⟨by decide +kernel, by decide +kernel⟩, List.mem_of_getElem? (i := 1150) (by decide +kernel), List.mem_of_getElem? (i := 1637) (by decide +kernel), List.mem_of_getElem? (i := 1638) (by decide +kernel)⟩
theorem lw_p93 : lw_okq (⟨"ZigzagTabletsModel", "qHasSquare", "()Z"⟩, 101) := ⟨⟨by decide +kernel, by decide +kernel⟩, List.mem_of_getElem? (i := 1150) (by decide +kernel), List.mem_of_getElem? (i := 1641) (by decide +kernel), List.mem_of_getElem? (i := 1642) (by decide +kernel)⟩
theorem lw_p94 : lw_okq (⟨"ZigzagTabletsModel", "refuses", "(I)I"⟩, 101) := ⟨⟨by decide +kernel, by decide +kernel⟩, List.mem_of_getElem? (i := 1150) (by decide +kernel), List.mem_of_getElem? (i := 1645) (by decide +kernel), List.mem_of_getElem? (i := 1646) (by decide +kernel)⟩
theorem lw_p95 : lw_okq (⟨"ZigzagTabletsModel", "stands", "()V"⟩, 101) := ⟨⟨by decide +kernel, by decide +kernel⟩, List.mem_of_getElem? (i := 1150) (by decide +kernel), List.mem_of_getElem? (i := 1649) (by decide +kernel), List.mem_of_getElem? (i := 1650) (by decide +kernel)⟩
def lw_privs_6 : List (MethodName × Nat) := [(⟨"ZigzagTabletsModel", "isAllowed", "(I)Z"⟩, 101), (⟨"ZigzagTabletsModel", "asksSign", "(I)V"⟩, 101), (⟨"ZigzagTabletsModel", "takesSign", "(I)Z"⟩, 101), (⟨"ZigzagTabletsModel", "qAsksWord", "(I)V"⟩, 101), (⟨"ZigzagTabletsModel", "columnHere", "()I"⟩, 101), (⟨"ZigzagTabletsModel", "qEndsPart", "()V"⟩, 101), (⟨"ZigzagTabletsModel", "qDrops", "()V"⟩, 101), (⟨"ZigzagTabletsModel", "qGoesOn", "()Z"⟩, 101), (⟨"ZigzagTabletsModel", "qBracket", "()I"⟩, 101), (⟨"ZigzagTabletsModel", "qDropsToBracket", "()V"⟩, 101), (⟨"ZigzagTabletsModel", "qIsOn", "(I)Z"⟩, 101), (⟨"ZigzagTabletsModel", "qDropsNots", "()V"⟩, 101), (⟨"ZigzagTabletsModel", "qGoesOnTest", "()Z"⟩, 101), (⟨"ZigzagTabletsModel", "qHasSquare", "()Z"⟩, 101), (⟨"ZigzagTabletsModel", "refuses", "(I)I"⟩, 101), (⟨"ZigzagTabletsModel", "stands", "()V"⟩, 101)]
theorem lw_r6 : ∀ q ∈ lw_privs_6, lw_okq q := List.forall_mem_cons.mpr ⟨lw_p80, List.forall_mem_cons.mpr ⟨lw_p81, List.forall_mem_cons.mpr ⟨lw_p82, List.forall_mem_cons.mpr ⟨lw_p83, List.forall_mem_cons.mpr ⟨lw_p84, List.forall_mem_cons.mpr ⟨lw_p85, List.forall_mem_cons.mpr ⟨lw_p86, List.forall_mem_cons.mpr ⟨lw_p87, List.forall_mem_cons.mpr ⟨lw_p88, List.forall_mem_cons.mpr ⟨lw_p89, List.forall_mem_cons.mpr ⟨lw_p90, List.forall_mem_cons.mpr ⟨lw_p91, List.forall_mem_cons.mpr ⟨lw_p92, List.forall_mem_cons.mpr ⟨lw_p93, List.forall_mem_cons.mpr ⟨lw_p94, List.forall_mem_cons.mpr ⟨lw_p95, fun _ h => absurd h List.not_mem_nil⟩⟩⟩⟩⟩⟩⟩⟩⟩⟩⟩⟩⟩⟩⟩⟩
theorem lw_p96 : lw_okq (⟨"ZigzagTabletsModel", "laysTrue", "()V"⟩, 101) := ⟨⟨by decide +kernel, by decide +kernel⟩, List.mem_of_getElem? (i := 1150) (by decide +kernel), List.mem_of_getElem? (i := 1653) (by decide +kernel), List.mem_of_getElem? (i := 1654) (by decide +kernel)⟩
theorem lw_p97 : lw_okq (⟨"ZigzagTabletsModel", "begins", "()V"⟩, 101) := ⟨⟨by decide +kernel, by decide +kernel⟩, List.mem_of_getElem? (i := 1150) (by decide +kernel), List.mem_of_getElem? (i := 1657) (by decide +kernel), List.mem_of_getElem? (i := 1658) (by decide +kernel)⟩
theorem lw_p98 : lw_okq (⟨"ZigzagTabletsModel", "columnMany", "()I"⟩, 101) := ⟨⟨by decide +kernel, by decide +kernel⟩, List.mem_of_getElem? (i := 1150) (by decide +kernel), List.mem_of_getElem? (i := 1661) (by decide +kernel), List.mem_of_getElem? (i := 1662) (by decide +kernel)⟩
theorem lw_p99 : lw_okq (⟨"ZigzagTabletsModel", "sortOf", "(I)I"⟩, 101) := ⟨⟨by decide +kernel, by decide +kernel⟩, List.mem_of_getElem? (i := 1150) (by decide +kernel), List.mem_of_getElem? (i := 1665) (by decide +kernel), List.mem_of_getElem? (i := 1666) (by decide +kernel)⟩
theorem lw_p100 : lw_okq (⟨"ZigzagTabletsModel", "fieldOf", "(II)I"⟩, 101) := ⟨⟨by decide +kernel, by decide +kernel⟩, List.mem_of_getElem? (i := 1150) (by decide +kernel), List.mem_of_getElem? (i := 1669) (by decide +kernel), List.mem_of_getElem? (i := 1670) (by decide +kernel)⟩
theorem lw_p101 : lw_okq (⟨"ZigzagTabletsModel", "summed", "(II)I"⟩, 101) := ⟨⟨by decide +kernel, by decide +kernel⟩, List.mem_of_getElem? (i := 1150) (by decide +kernel), List.mem_of_getElem? (i := 1673) (by decide +kernel), List.mem_of_getElem? (i := 1674) (by decide +kernel)⟩
theorem lw_p102 : lw_okq (⟨"ZigzagTabletsModel", "codesTell", "(I)J"⟩, 101) := ⟨⟨by decide +kernel, by decide +kernel⟩, List.mem_of_getElem? (i := 1150) (by decide +kernel), List.mem_of_getElem? (i := 1677) (by decide +kernel), List.mem_of_getElem? (i := 1678) (by decide +kernel)⟩
theorem lw_p103 : lw_okq (⟨"ZigzagTabletsModel", "qPuts", "(J)V"⟩, 101) := ⟨⟨by decide +kernel, by decide +kernel⟩, List.mem_of_getElem? (i := 1150) (by decide +kernel), List.mem_of_getElem? (i := 1681) (by decide +kernel), List.mem_of_getElem? (i := 1682) (by decide +kernel)⟩
theorem lw_p104 : lw_okq (⟨"ZigzagTabletsModel", "qPartOf", "(II)J"⟩, 101) := ⟨⟨by decide +kernel, by decide +kernel⟩, List.mem_of_getElem? (i := 1150) (by decide +kernel), List.mem_of_getElem? (i := 1685) (by decide +kernel), List.mem_of_getElem? (i := 1686) (by decide +kernel)⟩
theorem lw_p105 : lw_okq (⟨"ZigzagTabletsModel", "valueOf", "(I)I"⟩, 101) := ⟨⟨by decide +kernel, by decide +kernel⟩, List.mem_of_getElem? (i := 1150) (by decide +kernel), List.mem_of_getElem? (i := 1689) (by decide +kernel), List.mem_of_getElem? (i := 1690) (by decide +kernel)⟩
theorem lw_p106 : lw_okq (⟨"ZigzagTabletsModel", "trueOf", "(II)I"⟩, 101) := ⟨⟨by decide +kernel, by decide +kernel⟩, List.mem_of_getElem? (i := 1150) (by decide +kernel), List.mem_of_getElem? (i := 1693) (by decide +kernel), List.mem_of_getElem? (i := 1694) (by decide +kernel)⟩
theorem lw_p107 : lw_okq (⟨"ZigzagTabletsModel", "qJoins", "(I)V"⟩, 101) := ⟨⟨by decide +kernel, by decide +kernel⟩, List.mem_of_getElem? (i := 1150) (by decide +kernel), List.mem_of_getElem? (i := 1697) (by decide +kernel), List.mem_of_getElem? (i := 1698) (by decide +kernel)⟩
theorem lw_p108 : lw_okq (⟨"ZigzagTabletsModel", "lineGoes", "()V"⟩, 101) := ⟨⟨by decide +kernel, by decide +kernel⟩, List.mem_of_getElem? (i := 1150) (by decide +kernel), List.mem_of_getElem? (i := 1711) (by decide +kernel), List.mem_of_getElem? (i := 1712) (by decide +kernel)⟩
theorem lw_p109 : lw_okq (⟨"ZigzagTabletsModel", "goesOn", "(I)V"⟩, 101) := ⟨⟨by decide +kernel, by decide +kernel⟩, List.mem_of_getElem? (i := 1150) (by decide +kernel), List.mem_of_getElem? (i := 1715) (by decide +kernel), List.mem_of_getElem? (i := 1716) (by decide +kernel)⟩
theorem lw_p110 : lw_okq (⟨"ZigzagTabletsModel", "zigs", "(I)V"⟩, 101) := ⟨⟨by decide +kernel, by decide +kernel⟩, List.mem_of_getElem? (i := 1150) (by decide +kernel), List.mem_of_getElem? (i := 1719) (by decide +kernel), List.mem_of_getElem? (i := 1720) (by decide +kernel)⟩
theorem lw_p111 : lw_okq (⟨"ZigzagTabletsModel", "arcs", "(I)V"⟩, 101) := ⟨⟨by decide +kernel, by decide +kernel⟩, List.mem_of_getElem? (i := 1150) (by decide +kernel), List.mem_of_getElem? (i := 1723) (by decide +kernel), List.mem_of_getElem? (i := 1724) (by decide +kernel)⟩
def lw_privs_7 : List (MethodName × Nat) := [(⟨"ZigzagTabletsModel", "laysTrue", "()V"⟩, 101), (⟨"ZigzagTabletsModel", "begins", "()V"⟩, 101), (⟨"ZigzagTabletsModel", "columnMany", "()I"⟩, 101), (⟨"ZigzagTabletsModel", "sortOf", "(I)I"⟩, 101), (⟨"ZigzagTabletsModel", "fieldOf", "(II)I"⟩, 101), (⟨"ZigzagTabletsModel", "summed", "(II)I"⟩, 101), (⟨"ZigzagTabletsModel", "codesTell", "(I)J"⟩, 101), (⟨"ZigzagTabletsModel", "qPuts", "(J)V"⟩, 101), (⟨"ZigzagTabletsModel", "qPartOf", "(II)J"⟩, 101), (⟨"ZigzagTabletsModel", "valueOf", "(I)I"⟩, 101), (⟨"ZigzagTabletsModel", "trueOf", "(II)I"⟩, 101), (⟨"ZigzagTabletsModel", "qJoins", "(I)V"⟩, 101), (⟨"ZigzagTabletsModel", "lineGoes", "()V"⟩, 101), (⟨"ZigzagTabletsModel", "goesOn", "(I)V"⟩, 101), (⟨"ZigzagTabletsModel", "zigs", "(I)V"⟩, 101), (⟨"ZigzagTabletsModel", "arcs", "(I)V"⟩, 101)]
theorem lw_r7 : ∀ q ∈ lw_privs_7, lw_okq q := List.forall_mem_cons.mpr ⟨lw_p96, List.forall_mem_cons.mpr ⟨lw_p97, List.forall_mem_cons.mpr ⟨lw_p98, List.forall_mem_cons.mpr ⟨lw_p99, List.forall_mem_cons.mpr ⟨lw_p100, List.forall_mem_cons.mpr ⟨lw_p101, List.forall_mem_cons.mpr ⟨lw_p102, List.forall_mem_cons.mpr ⟨lw_p103, List.forall_mem_cons.mpr ⟨lw_p104, List.forall_mem_cons.mpr ⟨lw_p105, List.forall_mem_cons.mpr ⟨lw_p106, List.forall_mem_cons.mpr ⟨lw_p107, List.forall_mem_cons.mpr ⟨lw_p108, List.forall_mem_cons.mpr ⟨lw_p109, List.forall_mem_cons.mpr ⟨lw_p110, List.forall_mem_cons.mpr ⟨lw_p111, fun _ h => absurd h List.not_mem_nil⟩⟩⟩⟩⟩⟩⟩⟩⟩⟩⟩⟩⟩⟩⟩⟩
theorem lw_p112 : lw_okq (⟨"ZigzagTabletsModel", "isMarked", "()Z"⟩, 101) := ⟨⟨by decide +kernel, by decide +kernel⟩, List.mem_of_getElem? (i := 1150) (by decide +kernel), List.mem_of_getElem? (i := 1738) (by decide +kernel), List.mem_of_getElem? (i := 1739) (by decide +kernel)⟩
theorem lw_p113 : lw_okq (⟨"ZigzagTabletsModel", "wrongMany", "()I"⟩, 101) := ⟨⟨by decide +kernel, by decide +kernel⟩, List.mem_of_getElem? (i := 1150) (by decide +kernel), List.mem_of_getElem? (i := 1742) (by decide +kernel), List.mem_of_getElem? (i := 1743) (by decide +kernel)⟩
theorem lw_p114 : lw_okq (⟨"ZigzagTabletsModel", "isColumn", "(J)Z"⟩, 101) := ⟨⟨by decide +kernel, by decide +kernel⟩, List.mem_of_getElem? (i := 1150) (by decide +kernel), List.mem_of_getElem? (i := 1750) (by decide +kernel), List.mem_of_getElem? (i := 1751) (by decide +kernel)⟩
theorem lw_p115 : lw_okq (⟨"ZigzagTabletsModel", "leastOf", "(I)I"⟩, 101) := ⟨⟨by decide +kernel, by decide +kernel⟩, List.mem_of_getElem? (i := 1150) (by decide +kernel), List.mem_of_getElem? (i := 1759) (by decide +kernel), List.mem_of_getElem? (i := 1760) (by decide +kernel)⟩
theorem lw_p116 : lw_okq (⟨"ZigzagTabletsModel", "mostOf", "(I)I"⟩, 101) := ⟨⟨by decide +kernel, by decide +kernel⟩, List.mem_of_getElem? (i := 1150) (by decide +kernel), List.mem_of_getElem? (i := 1763) (by decide +kernel), List.mem_of_getElem? (i := 1764) (by decide +kernel)⟩
theorem lw_p117 : lw_okq (⟨"ZigzagTabletsModel", "isAhead", "(JII)Z"⟩, 101) := ⟨⟨by decide +kernel, by decide +kernel⟩, List.mem_of_getElem? (i := 1150) (by decide +kernel), List.mem_of_getElem? (i := 1780) (by decide +kernel), List.mem_of_getElem? (i := 1781) (by decide +kernel)⟩
theorem lw_p118 : lw_okq (⟨"ZigzagTabletsModel", "laysAhead", "()V"⟩, 101) := ⟨⟨by decide +kernel, by decide +kernel⟩, List.mem_of_getElem? (i := 1150) (by decide +kernel), List.mem_of_getElem? (i := 1785) (by decide +kernel), List.mem_of_getElem? (i := 1786) (by decide +kernel)⟩
theorem lw_p119 : lw_okq (⟨"ZigzagTabletsModel", "putsAside", "()V"⟩, 101) := ⟨⟨by decide +kernel, by decide +kernel⟩, List.mem_of_getElem? (i := 1150) (by decide +kernel), List.mem_of_getElem? (i := 1789) (by decide +kernel), List.mem_of_getElem? (i := 1790) (by decide +kernel)⟩
theorem lw_p120 : lw_okq (⟨"ZigzagTabletsModel", "takesBack", "()V"⟩, 101) := ⟨⟨by decide +kernel, by decide +kernel⟩, List.mem_of_getElem? (i := 1150) (by decide +kernel), List.mem_of_getElem? (i := 1793) (by decide +kernel), List.mem_of_getElem? (i := 1794) (by decide +kernel)⟩
theorem lw_p121 : lw_okq (⟨"ZigzagTabletsModel", "triesAnew", "()V"⟩, 101) := ⟨⟨by decide +kernel, by decide +kernel⟩, List.mem_of_getElem? (i := 1150) (by decide +kernel), List.mem_of_getElem? (i := 1797) (by decide +kernel), List.mem_of_getElem? (i := 1798) (by decide +kernel)⟩
theorem lw_p122 : lw_okq (⟨"ZigzagTabletsModel", "setsRight", "(I)V"⟩, 101) := ⟨⟨by decide +kernel, by decide +kernel⟩, List.mem_of_getElem? (i := 1150) (by decide +kernel), List.mem_of_getElem? (i := 1830) (by decide +kernel), List.mem_of_getElem? (i := 1831) (by decide +kernel)⟩
theorem lw_p123 : lw_okq (⟨"ZigzagTabletsModel", "areTrueFor", "(I)Z"⟩, 101) := ⟨⟨by decide +kernel, by decide +kernel⟩, List.mem_of_getElem? (i := 1150) (by decide +kernel), List.mem_of_getElem? (i := 1834) (by decide +kernel), List.mem_of_getElem? (i := 1835) (by decide +kernel)⟩
theorem lw_p124 : lw_okq (⟨"ZigzagTabletsModel", "isSlipped", "(II)Z"⟩, 101) := ⟨⟨by decide +kernel, by decide +kernel⟩, List.mem_of_getElem? (i := 1150) (by decide +kernel), List.mem_of_getElem? (i := 1842) (by decide +kernel), List.mem_of_getElem? (i := 1843) (by decide +kernel)⟩
theorem lw_p125 : lw_okq (⟨"ZigzagTabletsModel", "canTell", "(II)Z"⟩, 101) := ⟨⟨by decide +kernel, by decide +kernel⟩, List.mem_of_getElem? (i := 1150) (by decide +kernel), List.mem_of_getElem? (i := 1850) (by decide +kernel), List.mem_of_getElem? (i := 1851) (by decide +kernel)⟩
theorem lw_p126 : lw_okq (⟨"ZigzagTabletsModel", "doesFit", "(I)Z"⟩, 101) := ⟨⟨by decide +kernel, by decide +kernel⟩, List.mem_of_getElem? (i := 1150) (by decide +kernel), List.mem_of_getElem? (i := 1858) (by decide +kernel), List.mem_of_getElem? (i := 1859) (by decide +kernel)⟩
theorem lw_p127 : lw_okq (⟨"ZigzagTabletsModel", "fitsFirst", "()Z"⟩, 101) := ⟨⟨by decide +kernel, by decide +kernel⟩, List.mem_of_getElem? (i := 1150) (by decide +kernel), List.mem_of_getElem? (i := 1866) (by decide +kernel), List.mem_of_getElem? (i := 1867) (by decide +kernel)⟩
def lw_privs_8 : List (MethodName × Nat) := [(⟨"ZigzagTabletsModel", "isMarked", "()Z"⟩, 101), (⟨"ZigzagTabletsModel", "wrongMany", "()I"⟩, 101), (⟨"ZigzagTabletsModel", "isColumn", "(J)Z"⟩, 101), (⟨"ZigzagTabletsModel", "leastOf", "(I)I"⟩, 101), (⟨"ZigzagTabletsModel", "mostOf", "(I)I"⟩, 101), (⟨"ZigzagTabletsModel", "isAhead", "(JII)Z"⟩, 101), (⟨"ZigzagTabletsModel", "laysAhead", "()V"⟩, 101), (⟨"ZigzagTabletsModel", "putsAside", "()V"⟩, 101), (⟨"ZigzagTabletsModel", "takesBack", "()V"⟩, 101), (⟨"ZigzagTabletsModel", "triesAnew", "()V"⟩, 101), (⟨"ZigzagTabletsModel", "setsRight", "(I)V"⟩, 101), (⟨"ZigzagTabletsModel", "areTrueFor", "(I)Z"⟩, 101), (⟨"ZigzagTabletsModel", "isSlipped", "(II)Z"⟩, 101), (⟨"ZigzagTabletsModel", "canTell", "(II)Z"⟩, 101), (⟨"ZigzagTabletsModel", "doesFit", "(I)Z"⟩, 101), (⟨"ZigzagTabletsModel", "fitsFirst", "()Z"⟩, 101)]
theorem lw_r8 : ∀ q ∈ lw_privs_8, lw_okq q := List.forall_mem_cons.mpr ⟨lw_p112, List.forall_mem_cons.mpr ⟨lw_p113, List.forall_mem_cons.mpr ⟨lw_p114, List.forall_mem_cons.mpr ⟨lw_p115, List.forall_mem_cons.mpr ⟨lw_p116, List.forall_mem_cons.mpr ⟨lw_p117, List.forall_mem_cons.mpr ⟨lw_p118, List.forall_mem_cons.mpr ⟨lw_p119, List.forall_mem_cons.mpr ⟨lw_p120, List.forall_mem_cons.mpr ⟨lw_p121, List.forall_mem_cons.mpr ⟨lw_p122, List.forall_mem_cons.mpr ⟨lw_p123, List.forall_mem_cons.mpr ⟨lw_p124, List.forall_mem_cons.mpr ⟨lw_p125, List.forall_mem_cons.mpr ⟨lw_p126, List.forall_mem_cons.mpr ⟨lw_p127, fun _ h => absurd h List.not_mem_nil⟩⟩⟩⟩⟩⟩⟩⟩⟩⟩⟩⟩⟩⟩⟩⟩
theorem lw_p128 : lw_okq (⟨"ZigzagTabletsModel", "mostAlike", "(II)I"⟩, 101) := ⟨⟨by decide +kernel, by decide +kernel⟩, List.mem_of_getElem? (i := 1150) (by decide +kernel), List.mem_of_getElem? (i := 1874) (by decide +kernel), List.mem_of_getElem? (i := 1875) (by decide +kernel)⟩
theorem lw_p129 : lw_okq (⟨"ZigzagTabletsModel", "keeps", "()V"⟩, 101) := ⟨⟨by decide +kernel, by decide +kernel⟩, List.mem_of_getElem? (i := 1150) (by decide +kernel), List.mem_of_getElem? (i := 1886) (by decide +kernel), List.mem_of_getElem? (i := 1887) (by decide +kernel)⟩
theorem lw_p130 : lw_okq (⟨"ZigzagTabletsModel", "isKept", "()V"⟩, 101) := ⟨⟨by decide +kernel, by decide +kernel⟩, List.mem_of_getElem? (i := 1150) (by decide +kernel), List.mem_of_getElem? (i := 1890) (by decide +kernel), List.mem_of_getElem? (i := 1891) (by decide +kernel)⟩
theorem lw_p131 : lw_okq (⟨"ZigzagTabletsModel", "isRefused", "(I)Z"⟩, 101) := ⟨⟨by decide +kernel, by decide +kernel⟩, List.mem_of_getElem? (i := 1150) (by decide +kernel), List.mem_of_getElem? (i := 1898) (by decide +kernel), List.mem_of_getElem? (i := 1899) (by decide +kernel)⟩
theorem lw_p132 : lw_okq (⟨"ZigzagTabletsModel", "drawOf", "(I)I"⟩, 101) := ⟨⟨by decide +kernel, by decide +kernel⟩, List.mem_of_getElem? (i := 1150) (by decide +kernel), List.mem_of_getElem? (i := 1914) (by decide +kernel), List.mem_of_getElem? (i := 1915) (by decide +kernel)⟩
theorem lw_p133 : lw_okq (⟨"ZigzagTabletsModel", "qKind", "()I"⟩, 101) := ⟨⟨by decide +kernel, by decide +kernel⟩, List.mem_of_getElem? (i := 1150) (by decide +kernel), List.mem_of_getElem? (i := 1926) (by decide +kernel), List.mem_of_getElem? (i := 1927) (by decide +kernel)⟩
theorem lw_p134 : lw_okq (⟨"ZigzagTabletsModel", "qTold", "(I)J"⟩, 101) := ⟨⟨by decide +kernel, by decide +kernel⟩, List.mem_of_getElem? (i := 1150) (by decide +kernel), List.mem_of_getElem? (i := 1931) (by decide +kernel), List.mem_of_getElem? (i := 1932) (by decide +kernel)⟩
theorem lw_p135 : lw_okq (⟨"ZigzagTabletsModel", "qOf", "(IJI)J"⟩, 101) := ⟨⟨by decide +kernel, by decide +kernel⟩, List.mem_of_getElem? (i := 1150) (by decide +kernel), List.mem_of_getElem? (i := 1935) (by decide +kernel), List.mem_of_getElem? (i := 1936) (by decide +kernel)⟩
theorem lw_p136 : lw_okq (⟨"ZigzagTabletsModel", "qTakes", "(IJI)V"⟩, 101) := ⟨⟨by decide +kernel, by decide +kernel⟩, List.mem_of_getElem? (i := 1150) (by decide +kernel), List.mem_of_getElem? (i := 1939) (by decide +kernel), List.mem_of_getElem? (i := 1940) (by decide +kernel)⟩
theorem lw_p137 : lw_okq (⟨"ZigzagTabletsModel", "writesTwo", "(I)V"⟩, 101) := ⟨⟨by decide +kernel, by decide +kernel⟩, List.mem_of_getElem? (i := 1150) (by decide +kernel), List.mem_of_getElem? (i := 1955) (by decide +kernel), List.mem_of_getElem? (i := 1956) (by decide +kernel)⟩
theorem lw_p138 : lw_okq (⟨"ZigzagTabletsModel", "writes", "(I)V"⟩, 101) := ⟨⟨by decide +kernel, by decide +kernel⟩, List.mem_of_getElem? (i := 1150) (by decide +kernel), List.mem_of_getElem? (i := 1959) (by decide +kernel), List.mem_of_getElem? (i := 1960) (by decide +kernel)⟩
theorem lw_p139 : lw_okq (⟨"ZigzagTabletsModel", "isImage", "(I)Z"⟩, 101) := ⟨⟨by decide +kernel, by decide +kernel⟩, List.mem_of_getElem? (i := 1150) (by decide +kernel), List.mem_of_getElem? (i := 1971) (by decide +kernel), List.mem_of_getElem? (i := 1972) (by decide +kernel)⟩
theorem lw_p140 : lw_okq (⟨"ZigzagTabletsModel", "twoAt", "(I)I"⟩, 101) := ⟨⟨by decide +kernel, by decide +kernel⟩, List.mem_of_getElem? (i := 1150) (by decide +kernel), List.mem_of_getElem? (i := 1975) (by decide +kernel), List.mem_of_getElem? (i := 1976) (by decide +kernel)⟩
theorem lw_p141 : lw_okq (⟨"ZigzagTabletsModel", "valueAt", "(I)I"⟩, 101) := ⟨⟨by decide +kernel, by decide +kernel⟩, List.mem_of_getElem? (i := 1150) (by decide +kernel), List.mem_of_getElem? (i := 1979) (by decide +kernel), List.mem_of_getElem? (i := 1980) (by decide +kernel)⟩
def lw_privs_9 : List (MethodName × Nat) := [(⟨"ZigzagTabletsModel", "mostAlike", "(II)I"⟩, 101), (⟨"ZigzagTabletsModel", "keeps", "()V"⟩, 101), (⟨"ZigzagTabletsModel", "isKept", "()V"⟩, 101), (⟨"ZigzagTabletsModel", "isRefused", "(I)Z"⟩, 101), (⟨"ZigzagTabletsModel", "drawOf", "(I)I"⟩, 101), (⟨"ZigzagTabletsModel", "qKind", "()I"⟩, 101), (⟨"ZigzagTabletsModel", "qTold", "(I)J"⟩, 101), (⟨"ZigzagTabletsModel", "qOf", "(IJI)J"⟩, 101), (⟨"ZigzagTabletsModel", "qTakes", "(IJI)V"⟩, 101), (⟨"ZigzagTabletsModel", "writesTwo", "(I)V"⟩, 101), (⟨"ZigzagTabletsModel", "writes", "(I)V"⟩, 101), (⟨"ZigzagTabletsModel", "isImage", "(I)Z"⟩, 101), (⟨"ZigzagTabletsModel", "twoAt", "(I)I"⟩, 101), (⟨"ZigzagTabletsModel", "valueAt", "(I)I"⟩, 101)]
theorem lw_r9 : ∀ q ∈ lw_privs_9, lw_okq q := List.forall_mem_cons.mpr ⟨lw_p128, List.forall_mem_cons.mpr ⟨lw_p129, List.forall_mem_cons.mpr ⟨lw_p130, List.forall_mem_cons.mpr ⟨lw_p131, List.forall_mem_cons.mpr ⟨lw_p132, List.forall_mem_cons.mpr ⟨lw_p133, List.forall_mem_cons.mpr ⟨lw_p134, List.forall_mem_cons.mpr ⟨lw_p135, List.forall_mem_cons.mpr ⟨lw_p136, List.forall_mem_cons.mpr ⟨lw_p137, List.forall_mem_cons.mpr ⟨lw_p138, List.forall_mem_cons.mpr ⟨lw_p139, List.forall_mem_cons.mpr ⟨lw_p140, List.forall_mem_cons.mpr ⟨lw_p141, fun _ h => absurd h List.not_mem_nil⟩⟩⟩⟩⟩⟩⟩⟩⟩⟩⟩⟩⟩⟩
def lw_privs : List (MethodName × Nat) := lw_privs_1 ++ (lw_privs_2 ++ (lw_privs_3 ++ (lw_privs_4 ++ (lw_privs_5 ++ (lw_privs_6 ++ (lw_privs_7 ++ (lw_privs_8 ++ (lw_privs_9))))))))
def lw_tbl : List Cond := k2_sels lw_privs ++ tables_1
theorem lw_privs_ok : ∀ q ∈ lw_privs, lw_okq q := by
  show ∀ q ∈ lw_privs_1 ++ (lw_privs_2 ++ (lw_privs_3 ++ (lw_privs_4 ++ (lw_privs_5 ++ (lw_privs_6 ++ (lw_privs_7 ++ (lw_privs_8 ++ (lw_privs_9)))))))), lw_okq q
  exact List.forall_mem_append.mpr ⟨lw_r1, List.forall_mem_append.mpr ⟨lw_r2, List.forall_mem_append.mpr ⟨lw_r3, List.forall_mem_append.mpr ⟨lw_r4, List.forall_mem_append.mpr ⟨lw_r5, List.forall_mem_append.mpr ⟨lw_r6, List.forall_mem_append.mpr ⟨lw_r7, List.forall_mem_append.mpr ⟨lw_r8, lw_r9⟩⟩⟩⟩⟩⟩⟩⟩

/-! the classes whose objects the worlds hold; their fields in the order of the slots -/
def zT0 : u_T := fun k => match k with
  | 0 => ("ZigzagTablets$Code", "steps", "[I", true)
  | 1 => ("ZigzagTablets$Code", "stack", "[I", true)
  | _ => ("ZigzagTablets$Code", "size", "I", false)
def zY0 : Nat → FieldType := fun k => match k with
  | 0 => .array .int
  | 1 => .array .int
  | _ => .int
def zT1 : u_T := fun k => match k with
  | 0 => ("ZigzagTablets$Column", "name", "[I", true)
  | 1 => ("ZigzagTablets$Column", "sort", "I", false)
  | 2 => ("ZigzagTablets$Column", "least", "I", false)
  | 3 => ("ZigzagTablets$Column", "greatest", "I", false)
  | 4 => ("ZigzagTablets$Column", "start", "I", false)
  | 5 => ("ZigzagTablets$Column", "up", "Z", false)
  | 6 => ("ZigzagTablets$Column", "step", "I", false)
  | 7 => ("ZigzagTablets$Column", "slowStep", "I", false)
  | 8 => ("ZigzagTablets$Column", "quickPlaces", "I", false)
  | 9 => ("ZigzagTablets$Column", "codeFrom", "I", false)
  | _ => ("ZigzagTablets$Column", "codeTo", "I", false)
def zY1 : Nat → FieldType := fun k => match k with
  | 0 => .array .int
  | 1 => .int
  | 2 => .int
  | 3 => .int
  | 4 => .int
  | 5 => .boolean
  | 6 => .int
  | 7 => .int
  | 8 => .int
  | 9 => .int
  | _ => .int
def zT2 : u_T := fun k => match k with
  | 0 => ("ZigzagTablets$Course", "values", "[I", true)
  | 1 => ("ZigzagTablets$Course", "ups", "[I", true)
  | 2 => ("ZigzagTablets$Course", "latest", "LZigzagTablets$Line;", true)
  | 3 => ("ZigzagTablets$Course", "tablet", "LZigzagTablets$Tablet;", false)
  | _ => ("ZigzagTablets$Course", "reached", "I", false)
def zY2 : Nat → FieldType := fun k => match k with
  | 0 => .array .int
  | 1 => .array .int
  | 2 => .object "ZigzagTablets$Line"
  | 3 => .object "ZigzagTablets$Tablet"
  | _ => .int
def zT3 : u_T := fun k => match k with
  | 0 => ("ZigzagTablets$History", "keptLines", "[I", true)
  | 1 => ("ZigzagTablets$History", "keptUntrue", "[I", true)
  | 2 => ("ZigzagTablets$History", "past", "[LZigzagTablets$Line;", true)
  | 3 => ("ZigzagTablets$History", "pastKept", "[I", true)
  | 4 => ("ZigzagTablets$History", "keptCount", "I", false)
  | 5 => ("ZigzagTablets$History", "newest", "I", false)
  | _ => ("ZigzagTablets$History", "acts", "I", false)
def zY3 : Nat → FieldType := fun k => match k with
  | 0 => .array .int
  | 1 => .array .int
  | 2 => .array (.object "ZigzagTablets$Line")
  | 3 => .array .int
  | 4 => .int
  | 5 => .int
  | _ => .int
def zT4 : u_T := fun k => match k with
  | 0 => ("ZigzagTablets$Line", "values", "[I", true)
  | 1 => ("ZigzagTablets$Line", "number", "I", false)
  | _ => ("ZigzagTablets$Line", "ups", "I", false)
def zY4 : Nat → FieldType := fun k => match k with
  | 0 => .array .int
  | 1 => .int
  | _ => .int
def zT5 : u_T := fun k => match k with
  | 0 => ("ZigzagTablets$Piece", "truth", "LZigzagTablets$Course;", true)
  | 1 => ("ZigzagTablets$Piece", "trial", "LZigzagTablets$Line;", true)
  | 2 => ("ZigzagTablets$Piece", "downs", "[I", true)
  | 3 => ("ZigzagTablets$Piece", "columns", "[I", true)
  | 4 => ("ZigzagTablets$Piece", "values", "[I", true)
  | 5 => ("ZigzagTablets$Piece", "alike", "[I", true)
  | 6 => ("ZigzagTablets$Piece", "fitting", "[I", true)
  | 7 => ("ZigzagTablets$Piece", "differences", "[I", true)
  | 8 => ("ZigzagTablets$Piece", "rows", "I", false)
  | 9 => ("ZigzagTablets$Piece", "fits", "I", false)
  | 10 => ("ZigzagTablets$Piece", "differing", "I", false)
  | 11 => ("ZigzagTablets$Piece", "tellingDown", "I", false)
  | 12 => ("ZigzagTablets$Piece", "tellingColumn", "I", false)
  | 13 => ("ZigzagTablets$Piece", "tellingLeft", "I", false)
  | 14 => ("ZigzagTablets$Piece", "fitsListed", "Z", false)
  | 15 => ("ZigzagTablets$Piece", "weighed", "Z", false)
  | _ => ("ZigzagTablets$Piece", "listedColumn", "I", false)
def zY5 : Nat → FieldType := fun k => match k with
  | 0 => .object "ZigzagTablets$Course"
  | 1 => .object "ZigzagTablets$Line"
  | 2 => .array .int
  | 3 => .array .int
  | 4 => .array .int
  | 5 => .array .int
  | 6 => .array .int
  | 7 => .array .int
  | 8 => .int
  | 9 => .int
  | 10 => .int
  | 11 => .int
  | 12 => .int
  | 13 => .int
  | 14 => .boolean
  | 15 => .boolean
  | _ => .int
def zT6 : u_T := fun k => match k with
  | 0 => ("ZigzagTablets$Question", "now", "LZigzagTablets$Line;", true)
  | 1 => ("ZigzagTablets$Question", "truth", "LZigzagTablets$Course;", true)
  | 2 => ("ZigzagTablets$Question", "ahead", "LZigzagTablets$Course;", true)
  | 3 => ("ZigzagTablets$Question", "tablet", "LZigzagTablets$Tablet;", false)
  | _ => ("ZigzagTablets$Question", "column", "I", false)
def zY6 : Nat → FieldType := fun k => match k with
  | 0 => .object "ZigzagTablets$Line"
  | 1 => .object "ZigzagTablets$Course"
  | 2 => .object "ZigzagTablets$Course"
  | 3 => .object "ZigzagTablets$Tablet"
  | _ => .int
def zT7 : u_T := fun k => match k with
  | 0 => ("ZigzagTablets$Reader", "tape", "LZigzagTablets$Tape;", true)
  | 1 => ("ZigzagTablets$Reader", "questionCode", "LZigzagTablets$Code;", true)
  | 2 => ("ZigzagTablets$Reader", "questionSort", "I", false)
  | 3 => ("ZigzagTablets$Reader", "fault", "I", false)
  | 4 => ("ZigzagTablets$Reader", "faultPlace", "I", false)
  | 5 => ("ZigzagTablets$Reader", "tablet", "LZigzagTablets$Tablet;", false)
  | 6 => ("ZigzagTablets$Reader", "code", "LZigzagTablets$Code;", false)
  | 7 => ("ZigzagTablets$Reader", "asking", "Z", false)
  | 8 => ("ZigzagTablets$Reader", "previousKnown", "Z", false)
  | 9 => ("ZigzagTablets$Reader", "kind", "I", false)
  | 10 => ("ZigzagTablets$Reader", "from", "I", false)
  | _ => ("ZigzagTablets$Reader", "to", "I", false)
def zY7 : Nat → FieldType := fun k => match k with
  | 0 => .object "ZigzagTablets$Tape"
  | 1 => .object "ZigzagTablets$Code"
  | 2 => .int
  | 3 => .int
  | 4 => .int
  | 5 => .object "ZigzagTablets$Tablet"
  | 6 => .object "ZigzagTablets$Code"
  | 7 => .boolean
  | 8 => .boolean
  | 9 => .int
  | 10 => .int
  | _ => .int
def zT8 : u_T := fun k => match k with
  | 0 => ("ZigzagTablets$Tablet", "columns", "[LZigzagTablets$Column;", true)
  | 1 => ("ZigzagTablets$Tablet", "code", "LZigzagTablets$Code;", true)
  | 2 => ("ZigzagTablets$Tablet", "count", "I", false)
  | 3 => ("ZigzagTablets$Tablet", "statements", "I", false)
  | 4 => ("ZigzagTablets$Tablet", "slip", "I", false)
  | 5 => ("ZigzagTablets$Tablet", "hasMarks", "Z", false)
  | 6 => ("ZigzagTablets$Tablet", "marksFrom", "I", false)
  | 7 => ("ZigzagTablets$Tablet", "marksTo", "I", false)
  | 8 => ("ZigzagTablets$Tablet", "shown", "LZigzagTablets$Line;", false)
  | _ => ("ZigzagTablets$Tablet", "previous", "I", false)
def zY8 : Nat → FieldType := fun k => match k with
  | 0 => .array (.object "ZigzagTablets$Column")
  | 1 => .object "ZigzagTablets$Code"
  | 2 => .int
  | 3 => .int
  | 4 => .int
  | 5 => .boolean
  | 6 => .int
  | 7 => .int
  | 8 => .object "ZigzagTablets$Line"
  | _ => .int
def zT9 : u_T := fun k => match k with
  | 0 => ("ZigzagTablets$Tape", "bytes", "[I", true)
  | _ => ("ZigzagTablets$Tape", "length", "I", false)
def zY9 : Nat → FieldType := fun k => match k with
  | 0 => .array .int
  | _ => .int
def zT10 : u_T := fun k => match k with
  | 0 => ("ZigzagTablets", "tape", "LZigzagTablets$Tape;", true)
  | 1 => ("ZigzagTablets", "now", "LZigzagTablets$Line;", true)
  | 2 => ("ZigzagTablets", "trial", "LZigzagTablets$Line;", true)
  | 3 => ("ZigzagTablets", "truth", "LZigzagTablets$Course;", true)
  | 4 => ("ZigzagTablets", "ahead", "LZigzagTablets$Course;", true)
  | 5 => ("ZigzagTablets", "history", "LZigzagTablets$History;", true)
  | 6 => ("ZigzagTablets", "piece", "LZigzagTablets$Piece;", true)
  | 7 => ("ZigzagTablets", "reader", "LZigzagTablets$Reader;", true)
  | 8 => ("ZigzagTablets", "question", "LZigzagTablets$Question;", true)
  | 9 => ("ZigzagTablets", "picture", "[I", true)
  | 10 => ("ZigzagTablets", "refusals", "[I", true)
  | 11 => ("ZigzagTablets", "clock", "LZigzagTablets$Tablet;", false)
  | 12 => ("ZigzagTablets", "spare", "LZigzagTablets$Tablet;", false)
  | 13 => ("ZigzagTablets", "pictureLength", "I", false)
  | 14 => ("ZigzagTablets", "faultKind", "I", false)
  | 15 => ("ZigzagTablets", "faultPlace", "I", false)
  | _ => ("ZigzagTablets", "random", "J", false)
def zY10 : Nat → FieldType := fun k => match k with
  | 0 => .object "ZigzagTablets$Tape"
  | 1 => .object "ZigzagTablets$Line"
  | 2 => .object "ZigzagTablets$Line"
  | 3 => .object "ZigzagTablets$Course"
  | 4 => .object "ZigzagTablets$Course"
  | 5 => .object "ZigzagTablets$History"
  | 6 => .object "ZigzagTablets$Piece"
  | 7 => .object "ZigzagTablets$Reader"
  | 8 => .object "ZigzagTablets$Question"
  | 9 => .array .int
  | 10 => .array .int
  | 11 => .object "ZigzagTablets$Tablet"
  | 12 => .object "ZigzagTablets$Tablet"
  | 13 => .int
  | 14 => .int
  | 15 => .int
  | _ => .long
def zT11 : u_T := fun k => match k with
  | 0 => ("ZigzagTabletsModel", "tape", "[I", true)
  | 1 => ("ZigzagTabletsModel", "taped", "I", false)
  | 2 => ("ZigzagTabletsModel", "at", "I", false)
  | 3 => ("ZigzagTabletsModel", "end", "I", false)
  | 4 => ("ZigzagTabletsModel", "ended", "I", false)
  | 5 => ("ZigzagTabletsModel", "bad", "I", false)
  | 6 => ("ZigzagTabletsModel", "badPlace", "I", false)
  | 7 => ("ZigzagTabletsModel", "fault", "I", false)
  | 8 => ("ZigzagTabletsModel", "faultPlace", "I", false)
  | 9 => ("ZigzagTabletsModel", "refused", "[I", true)
  | 10 => ("ZigzagTabletsModel", "numberPlace", "I", false)
  | 11 => ("ZigzagTabletsModel", "zigWord", "[C", true)
  | 12 => ("ZigzagTabletsModel", "arcWord", "[C", true)
  | 13 => ("ZigzagTabletsModel", "ringWord", "[C", true)
  | 14 => ("ZigzagTabletsModel", "sumWord", "[C", true)
  | 15 => ("ZigzagTabletsModel", "fromWord", "[C", true)
  | 16 => ("ZigzagTabletsModel", "toWord", "[C", true)
  | 17 => ("ZigzagTabletsModel", "byWord", "[C", true)
  | 18 => ("ZigzagTabletsModel", "atWord", "[C", true)
  | 19 => ("ZigzagTabletsModel", "upWord", "[C", true)
  | 20 => ("ZigzagTabletsModel", "downWord", "[C", true)
  | 21 => ("ZigzagTabletsModel", "ofWord", "[C", true)
  | 22 => ("ZigzagTabletsModel", "fastWord", "[C", true)
  | 23 => ("ZigzagTabletsModel", "slowWord", "[C", true)
  | 24 => ("ZigzagTabletsModel", "isWord", "[C", true)
  | 25 => ("ZigzagTabletsModel", "marksWord", "[C", true)
  | 26 => ("ZigzagTabletsModel", "slipWord", "[C", true)
  | 27 => ("ZigzagTabletsModel", "lineWord", "[C", true)
  | 28 => ("ZigzagTabletsModel", "prevWord", "[C", true)
  | 29 => ("ZigzagTabletsModel", "numberWord", "[C", true)
  | 30 => ("ZigzagTabletsModel", "sortWord", "[C", true)
  | 31 => ("ZigzagTabletsModel", "valueWord", "[C", true)
  | 32 => ("ZigzagTabletsModel", "driftWord", "[C", true)
  | 33 => ("ZigzagTabletsModel", "aheadWord", "[C", true)
  | 34 => ("ZigzagTabletsModel", "colWord", "[C", true)
  | 35 => ("ZigzagTabletsModel", "orWord", "[C", true)
  | 36 => ("ZigzagTabletsModel", "andWord", "[C", true)
  | 37 => ("ZigzagTabletsModel", "notWord", "[C", true)
  | 38 => ("ZigzagTabletsModel", "allWord", "[C", true)
  | 39 => ("ZigzagTabletsModel", "minWord", "[C", true)
  | 40 => ("ZigzagTabletsModel", "maxWord", "[C", true)
  | 41 => ("ZigzagTabletsModel", "namePlace", "I", false)
  | 42 => ("ZigzagTabletsModel", "many", "[I", true)
  | 43 => ("ZigzagTabletsModel", "names", "[J", true)
  | 44 => ("ZigzagTabletsModel", "columns", "[I", true)
  | 45 => ("ZigzagTabletsModel", "codeFrom", "[I", true)
  | 46 => ("ZigzagTabletsModel", "codeEnd", "[I", true)
  | 47 => ("ZigzagTabletsModel", "codes", "[I", true)
  | 48 => ("ZigzagTabletsModel", "coded", "I", false)
  | 49 => ("ZigzagTabletsModel", "statements", "I", false)
  | 50 => ("ZigzagTabletsModel", "textKind", "I", false)
  | 51 => ("ZigzagTabletsModel", "now", "[I", true)
  | 52 => ("ZigzagTabletsModel", "isMarksTold", "Z", false)
  | 53 => ("ZigzagTabletsModel", "askColumn", "I", false)
  | 54 => ("ZigzagTabletsModel", "askPrev", "I", false)
  | 55 => ("ZigzagTabletsModel", "trues", "[I", true)
  | 56 => ("ZigzagTabletsModel", "ups", "[I", true)
  | 57 => ("ZigzagTabletsModel", "isThought", "Z", false)
  | 58 => ("ZigzagTabletsModel", "aside", "[I", true)
  | 59 => ("ZigzagTabletsModel", "told", "[I", true)
  | 60 => ("ZigzagTabletsModel", "isMark", "[Z", true)
  | 61 => ("ZigzagTabletsModel", "toldMany", "I", false)
  | 62 => ("ZigzagTabletsModel", "rowMany", "I", false)
  | 63 => ("ZigzagTabletsModel", "rows", "[I", true)
  | 64 => ("ZigzagTabletsModel", "like", "[I", true)
  | 65 => ("ZigzagTabletsModel", "kept0", "[I", true)
  | 66 => ("ZigzagTabletsModel", "undoable", "I", false)
  | 67 => ("ZigzagTabletsModel", "newest", "I", false)
  | 68 => ("ZigzagTabletsModel", "seeded", "J", false)
  | 69 => ("ZigzagTabletsModel", "firstAsked", "[C", true)
  | 70 => ("ZigzagTabletsModel", "lastAsked", "[C", true)
  | 71 => ("ZigzagTabletsModel", "oftenAsked", "[C", true)
  | 72 => ("ZigzagTabletsModel", "totalAsked", "[C", true)
  | 73 => ("ZigzagTabletsModel", "mostAsked", "[C", true)
  | 74 => ("ZigzagTabletsModel", "leastAsked", "[C", true)
  | 75 => ("ZigzagTabletsModel", "notAsked", "[C", true)
  | 76 => ("ZigzagTabletsModel", "andAsked", "[C", true)
  | 77 => ("ZigzagTabletsModel", "orAsked", "[C", true)
  | 78 => ("ZigzagTabletsModel", "allAsked", "[C", true)
  | 79 => ("ZigzagTabletsModel", "minAsked", "[C", true)
  | 80 => ("ZigzagTabletsModel", "maxAsked", "[C", true)
  | 81 => ("ZigzagTabletsModel", "lineAsked", "[C", true)
  | 82 => ("ZigzagTabletsModel", "prevAsked", "[C", true)
  | 83 => ("ZigzagTabletsModel", "numberAsked", "[C", true)
  | 84 => ("ZigzagTabletsModel", "sortAsked", "[C", true)
  | 85 => ("ZigzagTabletsModel", "valueAsked", "[C", true)
  | 86 => ("ZigzagTabletsModel", "driftAsked", "[C", true)
  | 87 => ("ZigzagTabletsModel", "aheadAsked", "[C", true)
  | 88 => ("ZigzagTabletsModel", "colAsked", "[C", true)
  | 89 => ("ZigzagTabletsModel", "qCodes", "[I", true)
  | 90 => ("ZigzagTabletsModel", "qCoded", "I", false)
  | 91 => ("ZigzagTabletsModel", "qWait", "[I", true)
  | 92 => ("ZigzagTabletsModel", "qWaits", "I", false)
  | 93 => ("ZigzagTabletsModel", "qOpened", "I", false)
  | 94 => ("ZigzagTabletsModel", "qBase", "I", false)
  | 95 => ("ZigzagTabletsModel", "qPile", "[J", true)
  | 96 => ("ZigzagTabletsModel", "qPiled", "I", false)
  | 97 => ("ZigzagTabletsModel", "qAnswer", "J", false)
  | 98 => ("ZigzagTabletsModel", "qIsNew", "Z", false)
  | 99 => ("ZigzagTabletsModel", "octet", "[I", true)
  | _ => ("ZigzagTabletsModel", "octets", "I", false)
def zY11 : Nat → FieldType := fun k => match k with
  | 0 => .array .int
  | 1 => .int
  | 2 => .int
  | 3 => .int
  | 4 => .int
  | 5 => .int
  | 6 => .int
  | 7 => .int
  | 8 => .int
  | 9 => .array .int
  | 10 => .int
  | 11 => .array .char
  | 12 => .array .char
  | 13 => .array .char
  | 14 => .array .char
  | 15 => .array .char
  | 16 => .array .char
  | 17 => .array .char
  | 18 => .array .char
  | 19 => .array .char
  | 20 => .array .char
  | 21 => .array .char
  | 22 => .array .char
  | 23 => .array .char
  | 24 => .array .char
  | 25 => .array .char
  | 26 => .array .char
  | 27 => .array .char
  | 28 => .array .char
  | 29 => .array .char
  | 30 => .array .char
  | 31 => .array .char
  | 32 => .array .char
  | 33 => .array .char
  | 34 => .array .char
  | 35 => .array .char
  | 36 => .array .char
  | 37 => .array .char
  | 38 => .array .char
  | 39 => .array .char
  | 40 => .array .char
  | 41 => .int
  | 42 => .array .int
  | 43 => .array .long
  | 44 => .array .int
  | 45 => .array .int
  | 46 => .array .int
  | 47 => .array .int
  | 48 => .int
  | 49 => .int
  | 50 => .int
  | 51 => .array .int
  | 52 => .boolean
  | 53 => .int
  | 54 => .int
  | 55 => .array .int
  | 56 => .array .int
  | 57 => .boolean
  | 58 => .array .int
  | 59 => .array .int
  | 60 => .array .boolean
  | 61 => .int
  | 62 => .int
  | 63 => .array .int
  | 64 => .array .int
  | 65 => .array .int
  | 66 => .int
  | 67 => .int
  | 68 => .long
  | 69 => .array .char
  | 70 => .array .char
  | 71 => .array .char
  | 72 => .array .char
  | 73 => .array .char
  | 74 => .array .char
  | 75 => .array .char
  | 76 => .array .char
  | 77 => .array .char
  | 78 => .array .char
  | 79 => .array .char
  | 80 => .array .char
  | 81 => .array .char
  | 82 => .array .char
  | 83 => .array .char
  | 84 => .array .char
  | 85 => .array .char
  | 86 => .array .char
  | 87 => .array .char
  | 88 => .array .char
  | 89 => .array .int
  | 90 => .int
  | 91 => .array .int
  | 92 => .int
  | 93 => .int
  | 94 => .int
  | 95 => .array .long
  | 96 => .int
  | 97 => .long
  | 98 => .boolean
  | 99 => .array .int
  | _ => .int
abbrev zcl : List vw_C := [("ZigzagTablets$Code", zT0, 3), ("ZigzagTablets$Column", zT1, 11), ("ZigzagTablets$Course", zT2, 5), ("ZigzagTablets$History", zT3, 7), ("ZigzagTablets$Line", zT4, 3), ("ZigzagTablets$Piece", zT5, 17), ("ZigzagTablets$Question", zT6, 5), ("ZigzagTablets$Reader", zT7, 12), ("ZigzagTablets$Tablet", zT8, 10), ("ZigzagTablets$Tape", zT9, 2), ("ZigzagTablets", zT10, 17), ("ZigzagTabletsModel", zT11, 101)]
/-- the tag of a field (0 int and smaller, 1 long, 2 a reference); whether it is a reference that stays as its object was made -/
def zftl : List (List Nat) := [[2, 2, 0], [2, 0, 0, 0, 0, 0, 0, 0, 0, 0, 0], [2, 2, 2, 2, 0], [2, 2, 2, 2, 0, 0, 0], [2, 0, 0], [2, 2, 2, 2, 2, 2, 2, 2, 0, 0, 0, 0, 0, 0, 0, 0, 0], [2, 2, 2, 2, 0], [2, 2, 0, 0, 0, 2, 2, 0, 0, 0, 0, 0], [2, 2, 0, 0, 0, 0, 0, 0, 2, 0], [2, 0], [2, 2, 2, 2, 2, 2, 2, 2, 2, 2, 2, 2, 2, 0, 0, 0, 1], [2, 0, 0, 0, 0, 0, 0, 0, 0, 2, 0, 2, 2, 2, 2, 2, 2, 2, 2, 2, 2, 2, 2, 2, 2, 2, 2, 2, 2, 2, 2, 2, 2, 2, 2, 2, 2, 2, 2, 2, 2, 0, 2, 2, 2, 2, 2, 2, 0, 0, 0, 2, 0, 0, 0, 2, 2, 0, 2, 2, 2, 0, 0, 2, 2, 2, 0, 0, 1, 2, 2, 2, 2, 2, 2, 2, 2, 2, 2, 2, 2, 2, 2, 2, 2, 2, 2, 2, 2, 2, 0, 2, 0, 0, 0, 2, 0, 1, 0, 2, 0]]
def zfnl : List (List Nat) := [[1, 1, 0], [1, 0, 0, 0, 0, 0, 0, 0, 0, 0, 0], [1, 1, 1, 0, 0], [1, 1, 1, 1, 0, 0, 0], [1, 0, 0], [1, 1, 1, 1, 1, 1, 1, 1, 0, 0, 0, 0, 0, 0, 0, 0, 0], [1, 1, 1, 0, 0], [1, 1, 0, 0, 0, 0, 0, 0, 0, 0, 0, 0], [1, 1, 0, 0, 0, 0, 0, 0, 0, 0], [1, 0], [1, 1, 1, 1, 1, 1, 1, 1, 1, 1, 1, 0, 0, 0, 0, 0, 0], [2, 0, 0, 0, 0, 0, 0, 0, 0, 2, 0, 2, 2, 2, 2, 2, 2, 2, 2, 2, 2, 2, 2, 2, 2, 2, 2, 2, 2, 2, 2, 2, 2, 2, 2, 2, 2, 2, 2, 2, 2, 0, 2, 2, 2, 2, 2, 2, 0, 0, 0, 2, 0, 0, 0, 2, 2, 0, 2, 2, 2, 0, 0, 2, 2, 2, 0, 0, 0, 2, 2, 2, 2, 2, 2, 2, 2, 2, 2, 2, 2, 2, 2, 2, 2, 2, 2, 2, 2, 2, 0, 2, 0, 0, 0, 2, 0, 0, 0, 2, 0]]
abbrev zaty : List FieldType := [.int, .long, .char, .boolean, .object "ZigzagTablets$Line", .object "ZigzagTablets$Column"]
/-- what each object is, in the order in which the two constructors make them (from 1 on): its class, or 100 + an array kind and its length; what stays in it -/
def zkl : List (Nat × Int) := [(10, 0), (9, 0), (100, 1600), (4, 0), (100, 8), (4, 0), (100, 8), (2, 0), (4, 0), (100, 8), (100, 8000), (100, 1000), (2, 0), (4, 0), (100, 8), (100, 1608), (100, 201), (3, 0), (100, 1000), (100, 1000), (104, 20), (100, 20), (4, 0), (100, 8), (4, 0), (100, 8), (4, 0), (100, 8), (4, 0), (100, 8), (4, 0), (100, 8), (4, 0), (100, 8), (4, 0), (100, 8), (4, 0), (100, 8), (4, 0), (100, 8), (4, 0), (100, 8), (4, 0), (100, 8), (4, 0), (100, 8), (4, 0), (100, 8), (4, 0), (100, 8), (4, 0), (100, 8), (4, 0), (100, 8), (4, 0), (100, 8), (4, 0), (100, 8), (4, 0), (100, 8), (4, 0), (100, 8), (5, 0), (4, 0), (100, 8), (100, 12), (100, 12), (100, 12), (100, 1000), (100, 400), (100, 1000), (7, 0), (0, 0), (100, 1600), (100, 64), (6, 0), (100, 35), (100, 6), (8, 0), (105, 8), (0, 0), (100, 1600), (100, 64), (4, 0), (100, 8), (1, 0), (100, 6), (1, 0), (100, 6), (1, 0), (100, 6), (1, 0), (100, 6), (1, 0), (100, 6), (1, 0), (100, 6), (1, 0), (100, 6), (1, 0), (100, 6), (8, 0), (105, 8), (0, 0), (100, 1600), (100, 64), (4, 0), (100, 8), (1, 0), (100, 6), (1, 0), (100, 6), (1, 0), (100, 6), (1, 0), (100, 6), (1, 0), (100, 6), (1, 0), (100, 6), (1, 0), (100, 6), (1, 0), (100, 6), (11, 0), (100, 1600), (100, 6), (102, 3), (102, 3), (102, 4), (102, 3), (102, 4), (102, 2), (102, 2), (102, 2), (102, 2), (102, 4), (102, 2), (102, 4), (102, 4), (102, 2), (102, 5), (102, 4), (102, 4), (102, 4), (102, 6), (102, 4), (102, 5), (102, 5), (102, 5), (102, 3), (102, 2), (102, 3), (102, 3), (102, 3), (102, 3), (102, 3), (100, 4), (101, 16), (100, 112), (100, 18), (100, 18), (100, 3200), (100, 98), (100, 8000), (100, 8000), (100, 17), (100, 1608), (103, 201), (100, 36), (100, 1000), (100, 1960), (102, 5), (102, 4), (102, 5), (102, 5), (102, 4), (102, 5), (102, 3), (102, 3), (102, 2), (102, 3), (102, 3), (102, 3), (102, 4), (102, 4), (102, 6), (102, 4), (102, 5), (102, 5), (102, 5), (102, 3), (100, 1700), (100, 1700), (101, 1700), (100, 35)]
def zfl : List (List Int) := [[2, 4, 6, 8, 13, 18, 63, 72, 76, 77, 78], [3], [], [5], [], [7], [], [11, 12, 9], [10], [], [], [], [16, 17, 14], [15], [], [], [], [19, 20, 21, 22], [], [], [23, 25, 27, 29, 31, 33, 35, 37, 39, 41, 43, 45, 47, 49, 51, 53, 55, 57, 59, 61], [], [24], [], [26], [], [28], [], [30], [], [32], [], [34], [], [36], [], [38], [], [40], [], [42], [], [44], [], [46], [], [48], [], [50], [], [52], [], [54], [], [56], [], [58], [], [60], [], [62], [], [8, 64, 66, 67, 68, 69, 70, 71], [65], [], [], [], [], [], [], [], [2, 73], [74, 75], [], [], [4, 8, 13], [], [], [80, 81], [86, 88, 90, 92, 94, 96, 98, 100], [82, 83], [], [], [85], [], [87], [], [89], [], [91], [], [93], [], [95], [], [97], [], [99], [], [101], [], [103, 104], [109, 111, 113, 115, 117, 119, 121, 123], [105, 106], [], [], [108], [], [110], [], [112], [], [114], [], [116], [], [118], [], [120], [], [122], [], [124], [], [126, 0, 0, 0, 0, 0, 0, 0, 0, 127, 0, 128, 129, 130, 131, 132, 133, 134, 135, 136, 137, 138, 139, 140, 141, 142, 143, 144, 145, 146, 147, 148, 149, 150, 151, 152, 153, 154, 155, 156, 157, 0, 158, 159, 160, 161, 162, 163, 0, 0, 0, 164, 0, 0, 0, 165, 166, 0, 167, 168, 169, 0, 0, 170, 171, 172, 0, 0, 0, 173, 174, 175, 176, 177, 178, 179, 180, 181, 182, 183, 184, 185, 186, 187, 188, 189, 190, 191, 192, 193, 0, 194, 0, 0, 0, 195, 0, 0, 0, 196], [], [], [122, 105, 103], [97, 114, 99], [114, 105, 110, 103], [115, 117, 109], [102, 114, 111, 109], [116, 111], [98, 121], [97, 116], [117, 112], [100, 111, 119, 110], [111, 102], [102, 97, 115, 116], [115, 108, 111, 119], [105, 115], [109, 97, 114, 107, 115], [115, 108, 105, 112], [108, 105, 110, 101], [112, 114, 101, 118], [110, 117, 109, 98, 101, 114], [115, 111, 114, 116], [118, 97, 108, 117, 101], [100, 114, 105, 102, 116], [97, 104, 101, 97, 100], [99, 111, 108], [111, 114], [97, 110, 100], [110, 111, 116], [97, 108, 108], [109, 105, 110], [109, 97, 120], [], [], [], [], [], [], [], [], [], [], [], [], [], [], [], [102, 105, 114, 115, 116], [108, 97, 115, 116], [111, 102, 116, 101, 110], [116, 111, 116, 97, 108], [109, 111, 115, 116], [108, 101, 97, 115, 116], [110, 111, 116], [97, 110, 100], [111, 114], [97, 108, 108], [109, 105, 110], [109, 97, 120], [108, 105, 110, 101], [112, 114, 101, 118], [110, 117, 109, 98, 101, 114], [115, 111, 114, 116], [118, 97, 108, 117, 101], [100, 114, 105, 102, 116], [97, 104, 101, 97, 100], [99, 111, 108], [], [], [], []]
/-- the constant texts, their lengths, their bytes -/
def zstr : List (String × Nat × String) := [("ZigzagTablets$Reader", 117, "slip"), ("ZigzagTablets$Reader", 125, "marks"), ("ZigzagTablets$Reader", 249, "not"), ("ZigzagTablets$Reader", 258, "all"), ("ZigzagTablets$Reader", 269, "min"), ("ZigzagTablets$Reader", 274, "max"), ("ZigzagTablets$Reader", 276, "ahead"), ("ZigzagTablets$Reader", 281, "col"), ("ZigzagTablets$Reader", 292, "number"), ("ZigzagTablets$Reader", 293, "sort"), ("ZigzagTablets$Reader", 295, "value"), ("ZigzagTablets$Reader", 297, "drift"), ("ZigzagTablets$Reader", 299, "line"), ("ZigzagTablets$Reader", 301, "prev"), ("ZigzagTablets$Reader", 247, "and"), ("ZigzagTablets$Reader", 238, "or"), ("ZigzagTablets$Reader", 173, "zig"), ("ZigzagTablets$Reader", 174, "arc"), ("ZigzagTablets$Reader", 175, "ring"), ("ZigzagTablets$Reader", 176, "sum"), ("ZigzagTablets$Reader", 312, "zig arc ring sum from to by at up down of fast slow is marks slip line prev number sort value drift ahead col or and not all min max "), ("ZigzagTablets$Reader", 177, "from"), ("ZigzagTablets$Reader", 184, "to"), ("ZigzagTablets$Reader", 188, "by"), ("ZigzagTablets$Reader", 193, "at"), ("ZigzagTablets$Reader", 197, "up"), ("ZigzagTablets$Reader", 201, "down"), ("ZigzagTablets$Reader", 203, "of"), ("ZigzagTablets$Reader", 208, "fast"), ("ZigzagTablets$Reader", 210, "slow"), ("ZigzagTablets$Reader", 165, "is"), ("ZigzagTablets$Reader", 101, "first"), ("ZigzagTablets$Reader", 107, "last"), ("ZigzagTablets$Reader", 109, "often"), ("ZigzagTablets$Reader", 111, "total"), ("ZigzagTablets$Reader", 113, "most"), ("ZigzagTablets$Reader", 115, "least")]
def zstL : List Nat := [4, 5, 3, 3, 3, 3, 5, 3, 6, 4, 5, 5, 4, 4, 3, 2, 3, 3, 4, 3, 133, 4, 2, 2, 2, 2, 4, 2, 4, 4, 2, 5, 4, 5, 5, 4, 5]
def zstB : List (List Int32) := [[115, 108, 105, 112], [109, 97, 114, 107, 115], [110, 111, 116], [97, 108, 108], [109, 105, 110], [109, 97, 120], [97, 104, 101, 97, 100], [99, 111, 108], [110, 117, 109, 98, 101, 114], [115, 111, 114, 116], [118, 97, 108, 117, 101], [100, 114, 105, 102, 116], [108, 105, 110, 101], [112, 114, 101, 118], [97, 110, 100], [111, 114], [122, 105, 103], [97, 114, 99], [114, 105, 110, 103], [115, 117, 109], [122, 105, 103, 32, 97, 114, 99, 32, 114, 105, 110, 103, 32, 115, 117, 109, 32, 102, 114, 111, 109, 32, 116, 111, 32, 98, 121, 32, 97, 116, 32, 117, 112, 32, 100, 111, 119, 110, 32, 111, 102, 32, 102, 97, 115, 116, 32, 115, 108, 111, 119, 32, 105, 115, 32, 109, 97, 114, 107, 115, 32, 115, 108, 105, 112, 32, 108, 105, 110, 101, 32, 112, 114, 101, 118, 32, 110, 117, 109, 98, 101, 114, 32, 115, 111, 114, 116, 32, 118, 97, 108, 117, 101, 32, 100, 114, 105, 102, 116, 32, 97, 104, 101, 97, 100, 32, 99, 111, 108, 32, 111, 114, 32, 97, 110, 100, 32, 110, 111, 116, 32, 97, 108, 108, 32, 109, 105, 110, 32, 109, 97, 120, 32], [102, 114, 111, 109], [116, 111], [98, 121], [97, 116], [117, 112], [100, 111, 119, 110], [111, 102], [102, 97, 115, 116], [115, 108, 111, 119], [105, 115], [102, 105, 114, 115, 116], [108, 97, 115, 116], [111, 102, 116, 101, 110], [116, 111, 116, 97, 108], [109, 111, 115, 116], [108, 101, 97, 115, 116]]
theorem goodIn_pl {big : List Cond} (ws : List Cond) (ps : List Nat) (hp : ws = ps.filterMap (fun i => big[i]?)) : ∀ w ∈ ws, w ∈ big := by
  intro w hw
  rw [hp] at hw
  obtain ⟨i, -, hi⟩ := List.mem_filterMap.mp hw
  exact List.mem_of_getElem? hi
theorem zpl {i : Nat} {w : Cond} (h : lw_tbl[i]? = some w) : w ∈ lw_tbl := List.mem_of_getElem? h
theorem zi0 : ∀ w ∈ u_ws "ZigzagTablets$Code" zT0 3, w ∈ lw_tbl := fun w hw => goodIn_pl (big := lw_tbl) (u_ws "ZigzagTablets$Code" zT0 3) [361, 363, 365] (by decide +kernel) w hw
theorem zn0 : ∀ a, a < 3 → ∀ b, b < 3 → a ≠ b → (zT0 a).2.1 ≠ (zT0 b).2.1 := by decide +kernel
theorem zy0 : ∀ k, k < 3 → parseFieldDescriptor (zT0 k).2.2.1 = some (zY0 k) := by decide +kernel
theorem zi1 : ∀ w ∈ u_ws "ZigzagTablets$Column" zT1 11, w ∈ lw_tbl := fun w hw => goodIn_pl (big := lw_tbl) (u_ws "ZigzagTablets$Column" zT1 11) [488, 490, 492, 494, 496, 498, 500, 502, 504, 506, 508] (by decide +kernel) w hw
theorem zn1 : ∀ a, a < 11 → ∀ b, b < 11 → a ≠ b → (zT1 a).2.1 ≠ (zT1 b).2.1 := by decide +kernel
theorem zy1 : ∀ k, k < 11 → parseFieldDescriptor (zT1 k).2.2.1 = some (zY1 k) := by decide +kernel
theorem zi2 : ∀ w ∈ u_ws "ZigzagTablets$Course" zT2 5, w ∈ lw_tbl := fun w hw => goodIn_pl (big := lw_tbl) (u_ws "ZigzagTablets$Course" zT2 5) [232, 234, 236, 238, 240] (by decide +kernel) w hw
theorem zn2 : ∀ a, a < 5 → ∀ b, b < 5 → a ≠ b → (zT2 a).2.1 ≠ (zT2 b).2.1 := by decide +kernel
theorem zy2 : ∀ k, k < 5 → parseFieldDescriptor (zT2 k).2.2.1 = some (zY2 k) := by decide +kernel
theorem zi3 : ∀ w ∈ u_ws "ZigzagTablets$History" zT3 7, w ∈ lw_tbl := fun w hw => goodIn_pl (big := lw_tbl) (u_ws "ZigzagTablets$History" zT3 7) [260, 262, 264, 266, 268, 270, 272] (by decide +kernel) w hw
theorem zn3 : ∀ a, a < 7 → ∀ b, b < 7 → a ≠ b → (zT3 a).2.1 ≠ (zT3 b).2.1 := by decide +kernel
theorem zy3 : ∀ k, k < 7 → parseFieldDescriptor (zT3 k).2.2.1 = some (zY3 k) := by decide +kernel
theorem zi4 : ∀ w ∈ u_ws "ZigzagTablets$Line" zT4 3, w ∈ lw_tbl := fun w hw => goodIn_pl (big := lw_tbl) (u_ws "ZigzagTablets$Line" zT4 3) [212, 214, 216] (by decide +kernel) w hw
theorem zn4 : ∀ a, a < 3 → ∀ b, b < 3 → a ≠ b → (zT4 a).2.1 ≠ (zT4 b).2.1 := by decide +kernel
theorem zy4 : ∀ k, k < 3 → parseFieldDescriptor (zT4 k).2.2.1 = some (zY4 k) := by decide +kernel
theorem zi5 : ∀ w ∈ u_ws "ZigzagTablets$Piece" zT5 17, w ∈ lw_tbl := fun w hw => goodIn_pl (big := lw_tbl) (u_ws "ZigzagTablets$Piece" zT5 17) [308, 310, 312, 314, 316, 318, 320, 322, 324, 326, 328, 330, 332, 334, 336, 338, 340] (by decide +kernel) w hw
theorem zn5 : ∀ a, a < 17 → ∀ b, b < 17 → a ≠ b → (zT5 a).2.1 ≠ (zT5 b).2.1 := by decide +kernel
theorem zy5 : ∀ k, k < 17 → parseFieldDescriptor (zT5 k).2.2.1 = some (zY5 k) := by decide +kernel
theorem zi6 : ∀ w ∈ u_ws "ZigzagTablets$Question" zT6 5, w ∈ lw_tbl := fun w hw => goodIn_pl (big := lw_tbl) (u_ws "ZigzagTablets$Question" zT6 5) [423, 425, 427, 429, 431] (by decide +kernel) w hw
theorem zn6 : ∀ a, a < 5 → ∀ b, b < 5 → a ≠ b → (zT6 a).2.1 ≠ (zT6 b).2.1 := by decide +kernel
theorem zy6 : ∀ k, k < 5 → parseFieldDescriptor (zT6 k).2.2.1 = some (zY6 k) := by decide +kernel
theorem zi7 : ∀ w ∈ u_ws "ZigzagTablets$Reader" zT7 12, w ∈ lw_tbl := fun w hw => goodIn_pl (big := lw_tbl) (u_ws "ZigzagTablets$Reader" zT7 12) [384, 386, 388, 390, 392, 394, 396, 398, 400, 402, 404, 406] (by decide +kernel) w hw
theorem zn7 : ∀ a, a < 12 → ∀ b, b < 12 → a ≠ b → (zT7 a).2.1 ≠ (zT7 b).2.1 := by decide +kernel
theorem zy7 : ∀ k, k < 12 → parseFieldDescriptor (zT7 k).2.2.1 = some (zY7 k) := by decide +kernel
theorem zi8 : ∀ w ∈ u_ws "ZigzagTablets$Tablet" zT8 10, w ∈ lw_tbl := fun w hw => goodIn_pl (big := lw_tbl) (u_ws "ZigzagTablets$Tablet" zT8 10) [537, 539, 541, 543, 545, 547, 549, 551, 553, 555] (by decide +kernel) w hw
theorem zn8 : ∀ a, a < 10 → ∀ b, b < 10 → a ≠ b → (zT8 a).2.1 ≠ (zT8 b).2.1 := by decide +kernel
theorem zy8 : ∀ k, k < 10 → parseFieldDescriptor (zT8 k).2.2.1 = some (zY8 k) := by decide +kernel
theorem zi9 : ∀ w ∈ u_ws "ZigzagTablets$Tape" zT9 2, w ∈ lw_tbl := fun w hw => goodIn_pl (big := lw_tbl) (u_ws "ZigzagTablets$Tape" zT9 2) [185, 187] (by decide +kernel) w hw
theorem zn9 : ∀ a, a < 2 → ∀ b, b < 2 → a ≠ b → (zT9 a).2.1 ≠ (zT9 b).2.1 := by decide +kernel
theorem zy9 : ∀ k, k < 2 → parseFieldDescriptor (zT9 k).2.2.1 = some (zY9 k) := by decide +kernel
theorem zi10 : ∀ w ∈ u_ws "ZigzagTablets" zT10 17, w ∈ lw_tbl := fun w hw => goodIn_pl (big := lw_tbl) (u_ws "ZigzagTablets" zT10 17) [669, 671, 673, 675, 677, 679, 681, 683, 685, 687, 689, 691, 693, 695, 697, 699, 701] (by decide +kernel) w hw
theorem zn10 : ∀ a, a < 17 → ∀ b, b < 17 → a ≠ b → (zT10 a).2.1 ≠ (zT10 b).2.1 := by decide +kernel
theorem zy10 : ∀ k, k < 17 → parseFieldDescriptor (zT10 k).2.2.1 = some (zY10 k) := by decide +kernel
theorem zi11 : ∀ w ∈ u_ws "ZigzagTabletsModel" zT11 101, w ∈ lw_tbl := fun w hw => goodIn_pl (big := lw_tbl) (u_ws "ZigzagTabletsModel" zT11 101) [1398, 1400, 1402, 1404, 1406, 1408, 1410, 1412, 1414, 1416, 1418, 1420, 1422, 1424, 1426, 1428, 1430, 1432, 1434, 1436, 1438, 1440, 1442, 1444, 1446, 1448, 1450, 1452, 1454, 1456, 1458, 1460, 1462, 1464, 1466, 1468, 1470, 1472, 1474, 1476, 1478, 1480, 1482, 1484, 1486, 1488, 1490, 1492, 1494, 1496, 1498, 1500, 1502, 1504, 1506, 1508, 1510, 1512, 1514, 1516, 1518, 1520, 1522, 1524, 1526, 1528, 1530, 1532, 1534, 1536, 1538, 1540, 1542, 1544, 1546, 1548, 1550, 1552, 1554, 1556, 1558, 1560, 1562, 1564, 1566, 1568, 1570, 1572, 1574, 1576, 1578, 1580, 1582, 1584, 1586, 1588, 1590, 1592, 1594, 1596, 1598] (by decide +kernel) w hw
theorem zn11 : ∀ a, a < 101 → ∀ b, b < 101 → a ≠ b → (zT11 a).2.1 ≠ (zT11 b).2.1 := by decide +kernel
theorem zy11 : ∀ k, k < 101 → parseFieldDescriptor (zT11 k).2.2.1 = some (zY11 k) := by decide +kernel
