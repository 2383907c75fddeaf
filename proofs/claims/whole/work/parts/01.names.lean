-- ===== PART A: goes FIRST, ahead of the names: the tables' words, and 'selects' of the private methods out of them =====
/-- a private method of a class that the tables say can be made, by its rows of tables_1 -/
def lw_okq (q : MethodName × Nat) : Prop := (q.1.cls ≠ "java/lang/invoke/MethodHandle" ∧ q.1.cls ≠ "java/lang/invoke/VarHandle") ∧ Cond.instantiable q.1.cls q.2 ∈ tables_1 ∧ Cond.privateMethod q.1 ∈ tables_1 ∧ Cond.instanceMethod q.1 ∈ tables_1
theorem lw_p0 : lw_okq (⟨"ByteIntervals", "putOnTape", "(I)V"⟩, 10) := ⟨⟨by decide +kernel, by decide +kernel⟩, List.mem_of_getElem? (i := 17) (by decide +kernel), List.mem_of_getElem? (i := 412) (by decide +kernel), List.mem_of_getElem? (i := 413) (by decide +kernel)⟩
theorem lw_p1 : lw_okq (⟨"ByteIntervals$Parser", "parse", "([IILByteIntervals$Text;)I"⟩, 14) := ⟨⟨by decide +kernel, by decide +kernel⟩, List.mem_of_getElem? (i := 106) (by decide +kernel), List.mem_of_getElem? (i := 424) (by decide +kernel), List.mem_of_getElem? (i := 425) (by decide +kernel)⟩
theorem lw_p2 : lw_okq (⟨"ByteIntervals$Parser", "split", "([II)V"⟩, 14) := ⟨⟨by decide +kernel, by decide +kernel⟩, List.mem_of_getElem? (i := 106) (by decide +kernel), List.mem_of_getElem? (i := 434) (by decide +kernel), List.mem_of_getElem? (i := 435) (by decide +kernel)⟩
theorem lw_p3 : lw_okq (⟨"ByteIntervals$Parser", "put", "(III)V"⟩, 14) := ⟨⟨by decide +kernel, by decide +kernel⟩, List.mem_of_getElem? (i := 106) (by decide +kernel), List.mem_of_getElem? (i := 496) (by decide +kernel), List.mem_of_getElem? (i := 497) (by decide +kernel)⟩
theorem lw_p4 : lw_okq (⟨"ByteIntervals$Text", "clear", "()V"⟩, 20) := ⟨⟨by decide +kernel, by decide +kernel⟩, List.mem_of_getElem? (i := 112) (by decide +kernel), List.mem_of_getElem? (i := 562) (by decide +kernel), List.mem_of_getElem? (i := 563) (by decide +kernel)⟩
theorem lw_p5 : lw_okq (⟨"ByteIntervals$Parser", "readKind", "()Z"⟩, 14) := ⟨⟨by decide +kernel, by decide +kernel⟩, List.mem_of_getElem? (i := 106) (by decide +kernel), List.mem_of_getElem? (i := 566) (by decide +kernel), List.mem_of_getElem? (i := 567) (by decide +kernel)⟩
theorem lw_p6 : lw_okq (⟨"ByteIntervals$Parser", "fail", "(I)Z"⟩, 14) := ⟨⟨by decide +kernel, by decide +kernel⟩, List.mem_of_getElem? (i := 106) (by decide +kernel), List.mem_of_getElem? (i := 570) (by decide +kernel), List.mem_of_getElem? (i := 571) (by decide +kernel)⟩
theorem lw_p7 : lw_okq (⟨"ByteIntervals$Parser", "advance", "()Z"⟩, 14) := ⟨⟨by decide +kernel, by decide +kernel⟩, List.mem_of_getElem? (i := 106) (by decide +kernel), List.mem_of_getElem? (i := 574) (by decide +kernel), List.mem_of_getElem? (i := 575) (by decide +kernel)⟩
theorem lw_p8 : lw_okq (⟨"ByteIntervals$Parser", "readRest", "(I)Z"⟩, 14) := ⟨⟨by decide +kernel, by decide +kernel⟩, List.mem_of_getElem? (i := 106) (by decide +kernel), List.mem_of_getElem? (i := 578) (by decide +kernel), List.mem_of_getElem? (i := 579) (by decide +kernel)⟩
theorem lw_p9 : lw_okq (⟨"ByteIntervals$Parser", "readEither", "()Z"⟩, 14) := ⟨⟨by decide +kernel, by decide +kernel⟩, List.mem_of_getElem? (i := 106) (by decide +kernel), List.mem_of_getElem? (i := 582) (by decide +kernel), List.mem_of_getElem? (i := 583) (by decide +kernel)⟩
theorem lw_p10 : lw_okq (⟨"ByteIntervals$Parser", "readBoth", "()Z"⟩, 14) := ⟨⟨by decide +kernel, by decide +kernel⟩, List.mem_of_getElem? (i := 106) (by decide +kernel), List.mem_of_getElem? (i := 586) (by decide +kernel), List.mem_of_getElem? (i := 587) (by decide +kernel)⟩
theorem lw_p11 : lw_okq (⟨"ByteIntervals$Parser", "readAsk", "()Z"⟩, 14) := ⟨⟨by decide +kernel, by decide +kernel⟩, List.mem_of_getElem? (i := 106) (by decide +kernel), List.mem_of_getElem? (i := 590) (by decide +kernel), List.mem_of_getElem? (i := 591) (by decide +kernel)⟩
theorem lw_p12 : lw_okq (⟨"ByteIntervals$Parser", "opens", "()Z"⟩, 14) := ⟨⟨by decide +kernel, by decide +kernel⟩, List.mem_of_getElem? (i := 106) (by decide +kernel), List.mem_of_getElem? (i := 594) (by decide +kernel), List.mem_of_getElem? (i := 595) (by decide +kernel)⟩
theorem lw_p13 : lw_okq (⟨"ByteIntervals$Parser", "closes", "()Z"⟩, 14) := ⟨⟨by decide +kernel, by decide +kernel⟩, List.mem_of_getElem? (i := 106) (by decide +kernel), List.mem_of_getElem? (i := 598) (by decide +kernel), List.mem_of_getElem? (i := 599) (by decide +kernel)⟩
theorem lw_p14 : lw_okq (⟨"ByteIntervals$Parser", "emit", "(II)I"⟩, 14) := ⟨⟨by decide +kernel, by decide +kernel⟩, List.mem_of_getElem? (i := 106) (by decide +kernel), List.mem_of_getElem? (i := 602) (by decide +kernel), List.mem_of_getElem? (i := 603) (by decide +kernel)⟩
theorem lw_p15 : lw_okq (⟨"ByteIntervals$Parser", "readSum", "()Z"⟩, 14) := ⟨⟨by decide +kernel, by decide +kernel⟩, List.mem_of_getElem? (i := 106) (by decide +kernel), List.mem_of_getElem? (i := 606) (by decide +kernel), List.mem_of_getElem? (i := 607) (by decide +kernel)⟩
def lw_privs_1 : List (MethodName × Nat) := [(⟨"ByteIntervals", "putOnTape", "(I)V"⟩, 10), (⟨"ByteIntervals$Parser", "parse", "([IILByteIntervals$Text;)I"⟩, 14), (⟨"ByteIntervals$Parser", "split", "([II)V"⟩, 14), (⟨"ByteIntervals$Parser", "put", "(III)V"⟩, 14), (⟨"ByteIntervals$Text", "clear", "()V"⟩, 20), (⟨"ByteIntervals$Parser", "readKind", "()Z"⟩, 14), (⟨"ByteIntervals$Parser", "fail", "(I)Z"⟩, 14), (⟨"ByteIntervals$Parser", "advance", "()Z"⟩, 14), (⟨"ByteIntervals$Parser", "readRest", "(I)Z"⟩, 14), (⟨"ByteIntervals$Parser", "readEither", "()Z"⟩, 14), (⟨"ByteIntervals$Parser", "readBoth", "()Z"⟩, 14), (⟨"ByteIntervals$Parser", "readAsk", "()Z"⟩, 14), (⟨"ByteIntervals$Parser", "opens", "()Z"⟩, 14), (⟨"ByteIntervals$Parser", "closes", "()Z"⟩, 14), (⟨"ByteIntervals$Parser", "emit", "(II)I"⟩, 14), (⟨"ByteIntervals$Parser", "readSum", "()Z"⟩, 14)]
theorem lw_r1 : ∀ q ∈ lw_privs_1, lw_okq q := List.forall_mem_cons.mpr ⟨lw_p0, List.forall_mem_cons.mpr ⟨lw_p1, List.forall_mem_cons.mpr ⟨lw_p2, List.forall_mem_cons.mpr ⟨lw_p3, List.forall_mem_cons.mpr ⟨lw_p4, List.forall_mem_cons.mpr ⟨lw_p5, List.forall_mem_cons.mpr ⟨lw_p6, List.forall_mem_cons.mpr ⟨lw_p7, List.forall_mem_cons.mpr ⟨lw_p8, List.forall_mem_cons.mpr ⟨lw_p9, List.forall_mem_cons.mpr ⟨lw_p10, List.forall_mem_cons.mpr ⟨lw_p11, List.forall_mem_cons.mpr ⟨lw_p12, List.forall_mem_cons.mpr ⟨lw_p13, List.forall_mem_cons.mpr ⟨lw_p14, List.forall_mem_cons.mpr ⟨lw_p15, fun _ h => absurd h List.not_mem_nil⟩⟩⟩⟩⟩⟩⟩⟩⟩⟩⟩⟩⟩⟩⟩⟩
theorem lw_p16 : lw_okq (⟨"ByteIntervals$Parser", "readProduct", "()Z"⟩, 14) := ⟨⟨by decide +kernel, by decide +kernel⟩, List.mem_of_getElem? (i := 106) (by decide +kernel), List.mem_of_getElem? (i := 610) (by decide +kernel), List.mem_of_getElem? (i := 611) (by decide +kernel)⟩
theorem lw_p17 : lw_okq (⟨"ByteIntervals$Parser", "readOne", "()Z"⟩, 14) := ⟨⟨by decide +kernel, by decide +kernel⟩, List.mem_of_getElem? (i := 106) (by decide +kernel), List.mem_of_getElem? (i := 614) (by decide +kernel), List.mem_of_getElem? (i := 615) (by decide +kernel)⟩
theorem lw_p18 : lw_okq (⟨"ByteIntervals$Parser", "take", "(I)Z"⟩, 14) := ⟨⟨by decide +kernel, by decide +kernel⟩, List.mem_of_getElem? (i := 106) (by decide +kernel), List.mem_of_getElem? (i := 618) (by decide +kernel), List.mem_of_getElem? (i := 619) (by decide +kernel)⟩
theorem lw_p19 : lw_okq (⟨"ByteIntervals$Parser", "readIf", "()Z"⟩, 14) := ⟨⟨by decide +kernel, by decide +kernel⟩, List.mem_of_getElem? (i := 106) (by decide +kernel), List.mem_of_getElem? (i := 622) (by decide +kernel), List.mem_of_getElem? (i := 623) (by decide +kernel)⟩
theorem lw_p20 : lw_okq (⟨"ByteIntervals$Parser", "aim", "(I)V"⟩, 14) := ⟨⟨by decide +kernel, by decide +kernel⟩, List.mem_of_getElem? (i := 106) (by decide +kernel), List.mem_of_getElem? (i := 626) (by decide +kernel), List.mem_of_getElem? (i := 627) (by decide +kernel)⟩
theorem lw_p21 : lw_okq (⟨"ByteIntervals$Parser", "readName", "()Z"⟩, 14) := ⟨⟨by decide +kernel, by decide +kernel⟩, List.mem_of_getElem? (i := 106) (by decide +kernel), List.mem_of_getElem? (i := 630) (by decide +kernel), List.mem_of_getElem? (i := 631) (by decide +kernel)⟩
theorem lw_p22 : lw_okq (⟨"ByteIntervals$Parser", "numberHere", "()I"⟩, 14) := ⟨⟨by decide +kernel, by decide +kernel⟩, List.mem_of_getElem? (i := 106) (by decide +kernel), List.mem_of_getElem? (i := 634) (by decide +kernel), List.mem_of_getElem? (i := 635) (by decide +kernel)⟩
theorem lw_p23 : lw_okq (⟨"ByteIntervals$Parser", "comparisonHere", "()I"⟩, 14) := ⟨⟨by decide +kernel, by decide +kernel⟩, List.mem_of_getElem? (i := 106) (by decide +kernel), List.mem_of_getElem? (i := 638) (by decide +kernel), List.mem_of_getElem? (i := 639) (by decide +kernel)⟩
theorem lw_p24 : lw_okq (⟨"ByteIntervals$Parser", "readNumber", "(II[II)Z"⟩, 14) := ⟨⟨by decide +kernel, by decide +kernel⟩, List.mem_of_getElem? (i := 106) (by decide +kernel), List.mem_of_getElem? (i := 642) (by decide +kernel), List.mem_of_getElem? (i := 643) (by decide +kernel)⟩
theorem lw_p25 : lw_okq (⟨"ByteIntervals$Parser", "readField", "()Z"⟩, 14) := ⟨⟨by decide +kernel, by decide +kernel⟩, List.mem_of_getElem? (i := 106) (by decide +kernel), List.mem_of_getElem? (i := 646) (by decide +kernel), List.mem_of_getElem? (i := 647) (by decide +kernel)⟩
theorem lw_p26 : lw_okq (⟨"ByteIntervals$Text", "tells", "(I)Z"⟩, 20) := ⟨⟨by decide +kernel, by decide +kernel⟩, List.mem_of_getElem? (i := 112) (by decide +kernel), List.mem_of_getElem? (i := 650) (by decide +kernel), List.mem_of_getElem? (i := 651) (by decide +kernel)⟩
theorem lw_p27 : lw_okq (⟨"ByteIntervals$Parser", "readPart", "(I[II)Z"⟩, 14) := ⟨⟨by decide +kernel, by decide +kernel⟩, List.mem_of_getElem? (i := 106) (by decide +kernel), List.mem_of_getElem? (i := 657) (by decide +kernel), List.mem_of_getElem? (i := 658) (by decide +kernel)⟩
theorem lw_p28 : lw_okq (⟨"ByteIntervals$Text", "sort", "()V"⟩, 20) := ⟨⟨by decide +kernel, by decide +kernel⟩, List.mem_of_getElem? (i := 112) (by decide +kernel), List.mem_of_getElem? (i := 661) (by decide +kernel), List.mem_of_getElem? (i := 662) (by decide +kernel)⟩
theorem lw_p29 : lw_okq (⟨"ByteIntervals$Text", "lowestReady", "(I)I"⟩, 20) := ⟨⟨by decide +kernel, by decide +kernel⟩, List.mem_of_getElem? (i := 112) (by decide +kernel), List.mem_of_getElem? (i := 665) (by decide +kernel), List.mem_of_getElem? (i := 666) (by decide +kernel)⟩
theorem lw_p30 : lw_okq (⟨"ByteIntervals$Text", "gatherNeeded", "()V"⟩, 20) := ⟨⟨by decide +kernel, by decide +kernel⟩, List.mem_of_getElem? (i := 112) (by decide +kernel), List.mem_of_getElem? (i := 670) (by decide +kernel), List.mem_of_getElem? (i := 671) (by decide +kernel)⟩
theorem lw_p31 : lw_okq (⟨"ByteIntervals", "textAt", "(I)LByteIntervals$Text;"⟩, 10) := ⟨⟨by decide +kernel, by decide +kernel⟩, List.mem_of_getElem? (i := 17) (by decide +kernel), List.mem_of_getElem? (i := 684) (by decide +kernel), List.mem_of_getElem? (i := 685) (by decide +kernel)⟩
def lw_privs_2 : List (MethodName × Nat) := [(⟨"ByteIntervals$Parser", "readProduct", "()Z"⟩, 14), (⟨"ByteIntervals$Parser", "readOne", "()Z"⟩, 14), (⟨"ByteIntervals$Parser", "take", "(I)Z"⟩, 14), (⟨"ByteIntervals$Parser", "readIf", "()Z"⟩, 14), (⟨"ByteIntervals$Parser", "aim", "(I)V"⟩, 14), (⟨"ByteIntervals$Parser", "readName", "()Z"⟩, 14), (⟨"ByteIntervals$Parser", "numberHere", "()I"⟩, 14), (⟨"ByteIntervals$Parser", "comparisonHere", "()I"⟩, 14), (⟨"ByteIntervals$Parser", "readNumber", "(II[II)Z"⟩, 14), (⟨"ByteIntervals$Parser", "readField", "()Z"⟩, 14), (⟨"ByteIntervals$Text", "tells", "(I)Z"⟩, 20), (⟨"ByteIntervals$Parser", "readPart", "(I[II)Z"⟩, 14), (⟨"ByteIntervals$Text", "sort", "()V"⟩, 20), (⟨"ByteIntervals$Text", "lowestReady", "(I)I"⟩, 20), (⟨"ByteIntervals$Text", "gatherNeeded", "()V"⟩, 20), (⟨"ByteIntervals", "textAt", "(I)LByteIntervals$Text;"⟩, 10)]
theorem lw_r2 : ∀ q ∈ lw_privs_2, lw_okq q := List.forall_mem_cons.mpr ⟨lw_p16, List.forall_mem_cons.mpr ⟨lw_p17, List.forall_mem_cons.mpr ⟨lw_p18, List.forall_mem_cons.mpr ⟨lw_p19, List.forall_mem_cons.mpr ⟨lw_p20, List.forall_mem_cons.mpr ⟨lw_p21, List.forall_mem_cons.mpr ⟨lw_p22, List.forall_mem_cons.mpr ⟨lw_p23, List.forall_mem_cons.mpr ⟨lw_p24, List.forall_mem_cons.mpr ⟨lw_p25, List.forall_mem_cons.mpr ⟨lw_p26, List.forall_mem_cons.mpr ⟨lw_p27, List.forall_mem_cons.mpr ⟨lw_p28, List.forall_mem_cons.mpr ⟨lw_p29, List.forall_mem_cons.mpr ⟨lw_p30, List.forall_mem_cons.mpr ⟨lw_p31, fun _ h => absurd h List.not_mem_nil⟩⟩⟩⟩⟩⟩⟩⟩⟩⟩⟩⟩⟩⟩⟩⟩
theorem lw_p32 : lw_okq (⟨"ByteIntervals$Moment", "canPut", "(II)Z"⟩, 6) := ⟨⟨by decide +kernel, by decide +kernel⟩, List.mem_of_getElem? (i := 33) (by decide +kernel), List.mem_of_getElem? (i := 692) (by decide +kernel), List.mem_of_getElem? (i := 693) (by decide +kernel)⟩
theorem lw_p33 : lw_okq (⟨"ByteIntervals$State", "keepStep", "()V"⟩, 9) := ⟨⟨by decide +kernel, by decide +kernel⟩, List.mem_of_getElem? (i := 27) (by decide +kernel), List.mem_of_getElem? (i := 696) (by decide +kernel), List.mem_of_getElem? (i := 697) (by decide +kernel)⟩
theorem lw_p34 : lw_okq (⟨"ByteIntervals$State", "stepAt", "(I)LByteIntervals$Moment;"⟩, 9) := ⟨⟨by decide +kernel, by decide +kernel⟩, List.mem_of_getElem? (i := 27) (by decide +kernel), List.mem_of_getElem? (i := 700) (by decide +kernel), List.mem_of_getElem? (i := 701) (by decide +kernel)⟩
theorem lw_p35 : lw_okq (⟨"ByteIntervals$Moment", "copy", "(LByteIntervals$Moment;)V"⟩, 6) := ⟨⟨by decide +kernel, by decide +kernel⟩, List.mem_of_getElem? (i := 33) (by decide +kernel), List.mem_of_getElem? (i := 710) (by decide +kernel), List.mem_of_getElem? (i := 711) (by decide +kernel)⟩
theorem lw_p36 : lw_okq (⟨"ByteIntervals$Moment", "putByte", "(II)V"⟩, 6) := ⟨⟨by decide +kernel, by decide +kernel⟩, List.mem_of_getElem? (i := 33) (by decide +kernel), List.mem_of_getElem? (i := 717) (by decide +kernel), List.mem_of_getElem? (i := 718) (by decide +kernel)⟩
theorem lw_p37 : lw_okq (⟨"ByteIntervals$Moment", "write", "(III)V"⟩, 6) := ⟨⟨by decide +kernel, by decide +kernel⟩, List.mem_of_getElem? (i := 33) (by decide +kernel), List.mem_of_getElem? (i := 721) (by decide +kernel), List.mem_of_getElem? (i := 722) (by decide +kernel)⟩
theorem lw_p38 : lw_okq (⟨"ByteIntervals$Moment", "canResize", "(I)Z"⟩, 6) := ⟨⟨by decide +kernel, by decide +kernel⟩, List.mem_of_getElem? (i := 33) (by decide +kernel), List.mem_of_getElem? (i := 729) (by decide +kernel), List.mem_of_getElem? (i := 730) (by decide +kernel)⟩
theorem lw_p39 : lw_okq (⟨"ByteIntervals$Moment", "resize", "(I)V"⟩, 6) := ⟨⟨by decide +kernel, by decide +kernel⟩, List.mem_of_getElem? (i := 33) (by decide +kernel), List.mem_of_getElem? (i := 733) (by decide +kernel), List.mem_of_getElem? (i := 734) (by decide +kernel)⟩
theorem lw_p40 : lw_okq (⟨"ByteIntervals", "theText", "()LByteIntervals$Text;"⟩, 10) := ⟨⟨by decide +kernel, by decide +kernel⟩, List.mem_of_getElem? (i := 17) (by decide +kernel), List.mem_of_getElem? (i := 742) (by decide +kernel), List.mem_of_getElem? (i := 743) (by decide +kernel)⟩
theorem lw_p41 : lw_okq (⟨"ByteIntervals$Reader", "mended", "(LByteIntervals$Text;LByteIntervals$Moment;)I"⟩, 14) := ⟨⟨by decide +kernel, by decide +kernel⟩, List.mem_of_getElem? (i := 266) (by decide +kernel), List.mem_of_getElem? (i := 746) (by decide +kernel), List.mem_of_getElem? (i := 747) (by decide +kernel)⟩
theorem lw_p42 : lw_okq (⟨"ByteIntervals$Reader", "readFormat", "(LByteIntervals$Text;IIII)LByteIntervals$Reading;"⟩, 14) := ⟨⟨by decide +kernel, by decide +kernel⟩, List.mem_of_getElem? (i := 266) (by decide +kernel), List.mem_of_getElem? (i := 751) (by decide +kernel), List.mem_of_getElem? (i := 752) (by decide +kernel)⟩
theorem lw_p43 : lw_okq (⟨"ByteIntervals$Reader", "readingAt", "(I)LByteIntervals$Reading;"⟩, 14) := ⟨⟨by decide +kernel, by decide +kernel⟩, List.mem_of_getElem? (i := 266) (by decide +kernel), List.mem_of_getElem? (i := 755) (by decide +kernel), List.mem_of_getElem? (i := 756) (by decide +kernel)⟩
theorem lw_p44 : lw_okq (⟨"ByteIntervals$Reading", "begin", "(IIII)V"⟩, 12) := ⟨⟨by decide +kernel, by decide +kernel⟩, List.mem_of_getElem? (i := 272) (by decide +kernel), List.mem_of_getElem? (i := 759) (by decide +kernel), List.mem_of_getElem? (i := 760) (by decide +kernel)⟩
theorem lw_p45 : lw_okq (⟨"ByteIntervals$Reader", "readField", "(LByteIntervals$Text;LByteIntervals$Reading;I)V"⟩, 14) := ⟨⟨by decide +kernel, by decide +kernel⟩, List.mem_of_getElem? (i := 266) (by decide +kernel), List.mem_of_getElem? (i := 766) (by decide +kernel), List.mem_of_getElem? (i := 767) (by decide +kernel)⟩
theorem lw_p46 : lw_okq (⟨"ByteIntervals$Reader", "answer", "(LByteIntervals$Text;ILByteIntervals$Reading;)I"⟩, 14) := ⟨⟨by decide +kernel, by decide +kernel⟩, List.mem_of_getElem? (i := 266) (by decide +kernel), List.mem_of_getElem? (i := 770) (by decide +kernel), List.mem_of_getElem? (i := 771) (by decide +kernel)⟩
theorem lw_p47 : lw_okq (⟨"ByteIntervals$Reader", "leaf", "(IILByteIntervals$Reading;)I"⟩, 14) := ⟨⟨by decide +kernel, by decide +kernel⟩, List.mem_of_getElem? (i := 266) (by decide +kernel), List.mem_of_getElem? (i := 775) (by decide +kernel), List.mem_of_getElem? (i := 776) (by decide +kernel)⟩
def lw_privs_3 : List (MethodName × Nat) := [(⟨"ByteIntervals$Moment", "canPut", "(II)Z"⟩, 6), (⟨"ByteIntervals$State", "keepStep", "()V"⟩, 9), (⟨"ByteIntervals$State", "stepAt", "(I)LByteIntervals$Moment;"⟩, 9), (⟨"ByteIntervals$Moment", "copy", "(LByteIntervals$Moment;)V"⟩, 6), (⟨"ByteIntervals$Moment", "putByte", "(II)V"⟩, 6), (⟨"ByteIntervals$Moment", "write", "(III)V"⟩, 6), (⟨"ByteIntervals$Moment", "canResize", "(I)Z"⟩, 6), (⟨"ByteIntervals$Moment", "resize", "(I)V"⟩, 6), (⟨"ByteIntervals", "theText", "()LByteIntervals$Text;"⟩, 10), (⟨"ByteIntervals$Reader", "mended", "(LByteIntervals$Text;LByteIntervals$Moment;)I"⟩, 14), (⟨"ByteIntervals$Reader", "readFormat", "(LByteIntervals$Text;IIII)LByteIntervals$Reading;"⟩, 14), (⟨"ByteIntervals$Reader", "readingAt", "(I)LByteIntervals$Reading;"⟩, 14), (⟨"ByteIntervals$Reading", "begin", "(IIII)V"⟩, 12), (⟨"ByteIntervals$Reader", "readField", "(LByteIntervals$Text;LByteIntervals$Reading;I)V"⟩, 14), (⟨"ByteIntervals$Reader", "answer", "(LByteIntervals$Text;ILByteIntervals$Reading;)I"⟩, 14), (⟨"ByteIntervals$Reader", "leaf", "(IILByteIntervals$Reading;)I"⟩, 14)]
theorem lw_r3 : ∀ q ∈ lw_privs_3, lw_okq q := List.forall_mem_cons.mpr ⟨lw_p32, List.forall_mem_cons.mpr ⟨lw_p33, List.forall_mem_cons.mpr ⟨lw_p34, List.forall_mem_cons.mpr ⟨lw_p35, List.forall_mem_cons.mpr ⟨lw_p36, List.forall_mem_cons.mpr ⟨lw_p37, List.forall_mem_cons.mpr ⟨lw_p38, List.forall_mem_cons.mpr ⟨lw_p39, List.forall_mem_cons.mpr ⟨lw_p40, List.forall_mem_cons.mpr ⟨lw_p41, List.forall_mem_cons.mpr ⟨lw_p42, List.forall_mem_cons.mpr ⟨lw_p43, List.forall_mem_cons.mpr ⟨lw_p44, List.forall_mem_cons.mpr ⟨lw_p45, List.forall_mem_cons.mpr ⟨lw_p46, List.forall_mem_cons.mpr ⟨lw_p47, fun _ h => absurd h List.not_mem_nil⟩⟩⟩⟩⟩⟩⟩⟩⟩⟩⟩⟩⟩⟩⟩⟩
theorem lw_p48 : lw_okq (⟨"ByteIntervals$Reader", "ofOne", "(IILByteIntervals$Reading;)I"⟩, 14) := ⟨⟨by decide +kernel, by decide +kernel⟩, List.mem_of_getElem? (i := 266) (by decide +kernel), List.mem_of_getElem? (i := 779) (by decide +kernel), List.mem_of_getElem? (i := 780) (by decide +kernel)⟩
theorem lw_p49 : lw_okq (⟨"ByteIntervals$Reader", "byteIn", "(LByteIntervals$Reading;I)I"⟩, 14) := ⟨⟨by decide +kernel, by decide +kernel⟩, List.mem_of_getElem? (i := 266) (by decide +kernel), List.mem_of_getElem? (i := 786) (by decide +kernel), List.mem_of_getElem? (i := 787) (by decide +kernel)⟩
theorem lw_p50 : lw_okq (⟨"ByteIntervals$Reader", "readSummed", "(LByteIntervals$Reading;IIII)V"⟩, 14) := ⟨⟨by decide +kernel, by decide +kernel⟩, List.mem_of_getElem? (i := 266) (by decide +kernel), List.mem_of_getElem? (i := 814) (by decide +kernel), List.mem_of_getElem? (i := 815) (by decide +kernel)⟩
theorem lw_p51 : lw_okq (⟨"ByteIntervals$Reader", "readNest", "(LByteIntervals$Text;LByteIntervals$Reading;III)V"⟩, 14) := ⟨⟨by decide +kernel, by decide +kernel⟩, List.mem_of_getElem? (i := 266) (by decide +kernel), List.mem_of_getElem? (i := 819) (by decide +kernel), List.mem_of_getElem? (i := 820) (by decide +kernel)⟩
theorem lw_p52 : lw_okq (⟨"ByteIntervals$Reading", "isKnown", "(I)Z"⟩, 12) := ⟨⟨by decide +kernel, by decide +kernel⟩, List.mem_of_getElem? (i := 272) (by decide +kernel), List.mem_of_getElem? (i := 823) (by decide +kernel), List.mem_of_getElem? (i := 824) (by decide +kernel)⟩
theorem lw_p53 : lw_okq (⟨"ByteIntervals$Reading", "looksOf", "(I)J"⟩, 12) := ⟨⟨by decide +kernel, by decide +kernel⟩, List.mem_of_getElem? (i := 272) (by decide +kernel), List.mem_of_getElem? (i := 827) (by decide +kernel), List.mem_of_getElem? (i := 828) (by decide +kernel)⟩
theorem lw_p54 : lw_okq (⟨"ByteIntervals$Reading", "isSound", "()Z"⟩, 12) := ⟨⟨by decide +kernel, by decide +kernel⟩, List.mem_of_getElem? (i := 272) (by decide +kernel), List.mem_of_getElem? (i := 831) (by decide +kernel), List.mem_of_getElem? (i := 832) (by decide +kernel)⟩
theorem lw_p55 : lw_okq (⟨"ByteIntervals$Reader", "askMusts", "(LByteIntervals$Text;LByteIntervals$Reading;)V"⟩, 14) := ⟨⟨by decide +kernel, by decide +kernel⟩, List.mem_of_getElem? (i := 266) (by decide +kernel), List.mem_of_getElem? (i := 835) (by decide +kernel), List.mem_of_getElem? (i := 836) (by decide +kernel)⟩
theorem lw_p56 : lw_okq (⟨"ByteIntervals$Reader", "putSums", "(LByteIntervals$Text;)V"⟩, 14) := ⟨⟨by decide +kernel, by decide +kernel⟩, List.mem_of_getElem? (i := 266) (by decide +kernel), List.mem_of_getElem? (i := 839) (by decide +kernel), List.mem_of_getElem? (i := 840) (by decide +kernel)⟩
theorem lw_p57 : lw_okq (⟨"ByteIntervals$Reader", "unlikeBytes", "([I)I"⟩, 14) := ⟨⟨by decide +kernel, by decide +kernel⟩, List.mem_of_getElem? (i := 266) (by decide +kernel), List.mem_of_getElem? (i := 843) (by decide +kernel), List.mem_of_getElem? (i := 844) (by decide +kernel)⟩
theorem lw_p58 : lw_okq (⟨"ByteIntervals$Moment", "takeMended", "([II)V"⟩, 6) := ⟨⟨by decide +kernel, by decide +kernel⟩, List.mem_of_getElem? (i := 33) (by decide +kernel), List.mem_of_getElem? (i := 847) (by decide +kernel), List.mem_of_getElem? (i := 848) (by decide +kernel)⟩
theorem lw_p59 : lw_okq (⟨"ByteIntervals", "passDays", "(I)I"⟩, 10) := ⟨⟨by decide +kernel, by decide +kernel⟩, List.mem_of_getElem? (i := 17) (by decide +kernel), List.mem_of_getElem? (i := 855) (by decide +kernel), List.mem_of_getElem? (i := 856) (by decide +kernel)⟩
theorem lw_p60 : lw_okq (⟨"ByteIntervals", "passDay", "(LByteIntervals$Moment;)Z"⟩, 10) := ⟨⟨by decide +kernel, by decide +kernel⟩, List.mem_of_getElem? (i := 17) (by decide +kernel), List.mem_of_getElem? (i := 859) (by decide +kernel), List.mem_of_getElem? (i := 860) (by decide +kernel)⟩
theorem lw_p61 : lw_okq (⟨"ByteIntervals$Moment", "draw", "(I)I"⟩, 6) := ⟨⟨by decide +kernel, by decide +kernel⟩, List.mem_of_getElem? (i := 33) (by decide +kernel), List.mem_of_getElem? (i := 863) (by decide +kernel), List.mem_of_getElem? (i := 864) (by decide +kernel)⟩
theorem lw_p62 : lw_okq (⟨"ByteIntervals$Moment", "drawAnew", "()V"⟩, 6) := ⟨⟨by decide +kernel, by decide +kernel⟩, List.mem_of_getElem? (i := 33) (by decide +kernel), List.mem_of_getElem? (i := 867) (by decide +kernel), List.mem_of_getElem? (i := 868) (by decide +kernel)⟩
theorem lw_p63 : lw_okq (⟨"ByteIntervals$Reader", "rots", "(LByteIntervals$Text;LByteIntervals$Moment;I)I"⟩, 14) := ⟨⟨by decide +kernel, by decide +kernel⟩, List.mem_of_getElem? (i := 266) (by decide +kernel), List.mem_of_getElem? (i := 871) (by decide +kernel), List.mem_of_getElem? (i := 872) (by decide +kernel)⟩
def lw_privs_4 : List (MethodName × Nat) := [(⟨"ByteIntervals$Reader", "ofOne", "(IILByteIntervals$Reading;)I"⟩, 14), (⟨"ByteIntervals$Reader", "byteIn", "(LByteIntervals$Reading;I)I"⟩, 14), (⟨"ByteIntervals$Reader", "readSummed", "(LByteIntervals$Reading;IIII)V"⟩, 14), (⟨"ByteIntervals$Reader", "readNest", "(LByteIntervals$Text;LByteIntervals$Reading;III)V"⟩, 14), (⟨"ByteIntervals$Reading", "isKnown", "(I)Z"⟩, 12), (⟨"ByteIntervals$Reading", "looksOf", "(I)J"⟩, 12), (⟨"ByteIntervals$Reading", "isSound", "()Z"⟩, 12), (⟨"ByteIntervals$Reader", "askMusts", "(LByteIntervals$Text;LByteIntervals$Reading;)V"⟩, 14), (⟨"ByteIntervals$Reader", "putSums", "(LByteIntervals$Text;)V"⟩, 14), (⟨"ByteIntervals$Reader", "unlikeBytes", "([I)I"⟩, 14), (⟨"ByteIntervals$Moment", "takeMended", "([II)V"⟩, 6), (⟨"ByteIntervals", "passDays", "(I)I"⟩, 10), (⟨"ByteIntervals", "passDay", "(LByteIntervals$Moment;)Z"⟩, 10), (⟨"ByteIntervals$Moment", "draw", "(I)I"⟩, 6), (⟨"ByteIntervals$Moment", "drawAnew", "()V"⟩, 6), (⟨"ByteIntervals$Reader", "rots", "(LByteIntervals$Text;LByteIntervals$Moment;I)I"⟩, 14)]
theorem lw_r4 : ∀ q ∈ lw_privs_4, lw_okq q := List.forall_mem_cons.mpr ⟨lw_p48, List.forall_mem_cons.mpr ⟨lw_p49, List.forall_mem_cons.mpr ⟨lw_p50, List.forall_mem_cons.mpr ⟨lw_p51, List.forall_mem_cons.mpr ⟨lw_p52, List.forall_mem_cons.mpr ⟨lw_p53, List.forall_mem_cons.mpr ⟨lw_p54, List.forall_mem_cons.mpr ⟨lw_p55, List.forall_mem_cons.mpr ⟨lw_p56, List.forall_mem_cons.mpr ⟨lw_p57, List.forall_mem_cons.mpr ⟨lw_p58, List.forall_mem_cons.mpr ⟨lw_p59, List.forall_mem_cons.mpr ⟨lw_p60, List.forall_mem_cons.mpr ⟨lw_p61, List.forall_mem_cons.mpr ⟨lw_p62, List.forall_mem_cons.mpr ⟨lw_p63, fun _ h => absurd h List.not_mem_nil⟩⟩⟩⟩⟩⟩⟩⟩⟩⟩⟩⟩⟩⟩⟩⟩
theorem lw_p64 : lw_okq (⟨"ByteIntervals$Moment", "rot", "(II)V"⟩, 6) := ⟨⟨by decide +kernel, by decide +kernel⟩, List.mem_of_getElem? (i := 33) (by decide +kernel), List.mem_of_getElem? (i := 876) (by decide +kernel), List.mem_of_getElem? (i := 877) (by decide +kernel)⟩
theorem lw_p65 : lw_okq (⟨"ByteIntervals", "passYear", "(LByteIntervals$Moment;I)V"⟩, 10) := ⟨⟨by decide +kernel, by decide +kernel⟩, List.mem_of_getElem? (i := 17) (by decide +kernel), List.mem_of_getElem? (i := 893) (by decide +kernel), List.mem_of_getElem? (i := 894) (by decide +kernel)⟩
theorem lw_p66 : lw_okq (⟨"ByteIntervals$State", "takeBack", "()I"⟩, 9) := ⟨⟨by decide +kernel, by decide +kernel⟩, List.mem_of_getElem? (i := 27) (by decide +kernel), List.mem_of_getElem? (i := 901) (by decide +kernel), List.mem_of_getElem? (i := 902) (by decide +kernel)⟩
theorem lw_p67 : lw_okq (⟨"ByteIntervals$Moment", "together", "(II)I"⟩, 6) := ⟨⟨by decide +kernel, by decide +kernel⟩, List.mem_of_getElem? (i := 33) (by decide +kernel), List.mem_of_getElem? (i := 913) (by decide +kernel), List.mem_of_getElem? (i := 914) (by decide +kernel)⟩
theorem lw_p68 : lw_okq (⟨"ByteIntervals$Moment", "covers", "(II)Z"⟩, 6) := ⟨⟨by decide +kernel, by decide +kernel⟩, List.mem_of_getElem? (i := 33) (by decide +kernel), List.mem_of_getElem? (i := 933) (by decide +kernel), List.mem_of_getElem? (i := 934) (by decide +kernel)⟩
theorem lw_p69 : lw_okq (⟨"ByteIntervals$Reader", "isValid", "(LByteIntervals$Text;[II)Z"⟩, 14) := ⟨⟨by decide +kernel, by decide +kernel⟩, List.mem_of_getElem? (i := 266) (by decide +kernel), List.mem_of_getElem? (i := 958) (by decide +kernel), List.mem_of_getElem? (i := 959) (by decide +kernel)⟩
theorem lw_p70 : lw_okq (⟨"ByteIntervals$Reader", "readFile", "(LByteIntervals$Text;LByteIntervals$Moment;I)LByteIntervals$Reading;"⟩, 14) := ⟨⟨by decide +kernel, by decide +kernel⟩, List.mem_of_getElem? (i := 266) (by decide +kernel), List.mem_of_getElem? (i := 967) (by decide +kernel), List.mem_of_getElem? (i := 968) (by decide +kernel)⟩
theorem lw_p71 : lw_okq (⟨"ByteIntervals$Reading", "tell", "(II)I"⟩, 12) := ⟨⟨by decide +kernel, by decide +kernel⟩, List.mem_of_getElem? (i := 272) (by decide +kernel), List.mem_of_getElem? (i := 971) (by decide +kernel), List.mem_of_getElem? (i := 972) (by decide +kernel)⟩
theorem lw_p72 : lw_okq (⟨"ByteIntervals$Reading", "how", "(I)I"⟩, 12) := ⟨⟨by decide +kernel, by decide +kernel⟩, List.mem_of_getElem? (i := 272) (by decide +kernel), List.mem_of_getElem? (i := 976) (by decide +kernel), List.mem_of_getElem? (i := 977) (by decide +kernel)⟩
theorem lw_p73 : lw_okq (⟨"ByteIntervals$Reader", "readInside", "(LByteIntervals$Text;II)LByteIntervals$Reading;"⟩, 14) := ⟨⟨by decide +kernel, by decide +kernel⟩, List.mem_of_getElem? (i := 266) (by decide +kernel), List.mem_of_getElem? (i := 985) (by decide +kernel), List.mem_of_getElem? (i := 986) (by decide +kernel)⟩
theorem lw_p74 : lw_okq (⟨"ByteIntervals$Reading", "covered", "(I)J"⟩, 12) := ⟨⟨by decide +kernel, by decide +kernel⟩, List.mem_of_getElem? (i := 272) (by decide +kernel), List.mem_of_getElem? (i := 1002) (by decide +kernel), List.mem_of_getElem? (i := 1003) (by decide +kernel)⟩
theorem lw_p75 : lw_okq (⟨"ByteIntervals$Reading", "copy", "(LByteIntervals$Reading;)V"⟩, 12) := ⟨⟨by decide +kernel, by decide +kernel⟩, List.mem_of_getElem? (i := 272) (by decide +kernel), List.mem_of_getElem? (i := 1024) (by decide +kernel), List.mem_of_getElem? (i := 1025) (by decide +kernel)⟩
theorem lw_p76 : lw_okq (⟨"ByteIntervals$Reading", "likeFields", "(LByteIntervals$Reading;)I"⟩, 12) := ⟨⟨by decide +kernel, by decide +kernel⟩, List.mem_of_getElem? (i := 272) (by decide +kernel), List.mem_of_getElem? (i := 1029) (by decide +kernel), List.mem_of_getElem? (i := 1030) (by decide +kernel)⟩
theorem lw_p77 : lw_okq (⟨"ByteIntervals$Reader", "isShorter", "(LByteIntervals$Text;II)Z"⟩, 14) := ⟨⟨by decide +kernel, by decide +kernel⟩, List.mem_of_getElem? (i := 266) (by decide +kernel), List.mem_of_getElem? (i := 1037) (by decide +kernel), List.mem_of_getElem? (i := 1038) (by decide +kernel)⟩
theorem lw_p78 : lw_okq (⟨"ByteIntervals$Text", "mostOf", "(I)I"⟩, 20) := ⟨⟨by decide +kernel, by decide +kernel⟩, List.mem_of_getElem? (i := 112) (by decide +kernel), List.mem_of_getElem? (i := 1049) (by decide +kernel), List.mem_of_getElem? (i := 1050) (by decide +kernel)⟩
theorem lw_p79 : lw_okq (⟨"ByteIntervals$Reader", "readValues", "(LByteIntervals$Text;LByteIntervals$Moment;I)LByteIntervals$Reading;"⟩, 14) := ⟨⟨by decide +kernel, by decide +kernel⟩, List.mem_of_getElem? (i := 266) (by decide +kernel), List.mem_of_getElem? (i := 1054) (by decide +kernel), List.mem_of_getElem? (i := 1055) (by decide +kernel)⟩
def lw_privs_5 : List (MethodName × Nat) := [(⟨"ByteIntervals$Moment", "rot", "(II)V"⟩, 6), (⟨"ByteIntervals", "passYear", "(LByteIntervals$Moment;I)V"⟩, 10), (⟨"ByteIntervals$State", "takeBack", "()I"⟩, 9), (⟨"ByteIntervals$Moment", "together", "(II)I"⟩, 6), (⟨"ByteIntervals$Moment", "covers", "(II)Z"⟩, 6), (⟨"ByteIntervals$Reader", "isValid", "(LByteIntervals$Text;[II)Z"⟩, 14), (⟨"ByteIntervals$Reader", "readFile", "(LByteIntervals$Text;LByteIntervals$Moment;I)LByteIntervals$Reading;"⟩, 14), (⟨"ByteIntervals$Reading", "tell", "(II)I"⟩, 12), (⟨"ByteIntervals$Reading", "how", "(I)I"⟩, 12), (⟨"ByteIntervals$Reader", "readInside", "(LByteIntervals$Text;II)LByteIntervals$Reading;"⟩, 14), (⟨"ByteIntervals$Reading", "covered", "(I)J"⟩, 12), (⟨"ByteIntervals$Reading", "copy", "(LByteIntervals$Reading;)V"⟩, 12), (⟨"ByteIntervals$Reading", "likeFields", "(LByteIntervals$Reading;)I"⟩, 12), (⟨"ByteIntervals$Reader", "isShorter", "(LByteIntervals$Text;II)Z"⟩, 14), (⟨"ByteIntervals$Text", "mostOf", "(I)I"⟩, 20), (⟨"ByteIntervals$Reader", "readValues", "(LByteIntervals$Text;LByteIntervals$Moment;I)LByteIntervals$Reading;"⟩, 14)]
theorem lw_r5 : ∀ q ∈ lw_privs_5, lw_okq q := List.forall_mem_cons.mpr ⟨lw_p64, List.forall_mem_cons.mpr ⟨lw_p65, List.forall_mem_cons.mpr ⟨lw_p66, List.forall_mem_cons.mpr ⟨lw_p67, List.forall_mem_cons.mpr ⟨lw_p68, List.forall_mem_cons.mpr ⟨lw_p69, List.forall_mem_cons.mpr ⟨lw_p70, List.forall_mem_cons.mpr ⟨lw_p71, List.forall_mem_cons.mpr ⟨lw_p72, List.forall_mem_cons.mpr ⟨lw_p73, List.forall_mem_cons.mpr ⟨lw_p74, List.forall_mem_cons.mpr ⟨lw_p75, List.forall_mem_cons.mpr ⟨lw_p76, List.forall_mem_cons.mpr ⟨lw_p77, List.forall_mem_cons.mpr ⟨lw_p78, List.forall_mem_cons.mpr ⟨lw_p79, fun _ h => absurd h List.not_mem_nil⟩⟩⟩⟩⟩⟩⟩⟩⟩⟩⟩⟩⟩⟩⟩⟩
theorem lw_p80 : lw_okq (⟨"ByteIntervals$Reading", "has", "(II)Z"⟩, 12) := ⟨⟨by decide +kernel, by decide +kernel⟩, List.mem_of_getElem? (i := 272) (by decide +kernel), List.mem_of_getElem? (i := 1058) (by decide +kernel), List.mem_of_getElem? (i := 1059) (by decide +kernel)⟩
theorem lw_p81 : lw_okq (⟨"ByteIntervals", "madeAt", "(LByteIntervals$Text;III)I"⟩, 10) := ⟨⟨by decide +kernel, by decide +kernel⟩, List.mem_of_getElem? (i := 17) (by decide +kernel), List.mem_of_getElem? (i := 1062) (by decide +kernel), List.mem_of_getElem? (i := 1063) (by decide +kernel)⟩
theorem lw_p82 : lw_okq (⟨"ByteIntervals", "allSaidIsSo", "(LByteIntervals$Text;)Z"⟩, 10) := ⟨⟨by decide +kernel, by decide +kernel⟩, List.mem_of_getElem? (i := 17) (by decide +kernel), List.mem_of_getElem? (i := 1091) (by decide +kernel), List.mem_of_getElem? (i := 1092) (by decide +kernel)⟩
theorem lw_p83 : lw_okq (⟨"ByteIntervals$State", "copy", "(LByteIntervals$State;)V"⟩, 9) := ⟨⟨by decide +kernel, by decide +kernel⟩, List.mem_of_getElem? (i := 27) (by decide +kernel), List.mem_of_getElem? (i := 1099) (by decide +kernel), List.mem_of_getElem? (i := 1100) (by decide +kernel)⟩
theorem lw_p84 : lw_okq (⟨"ByteIntervalsModel", "four", "(I)V"⟩, 55) := ⟨⟨by decide +kernel, by decide +kernel⟩, List.mem_of_getElem? (i := 1112) (by decide +kernel), List.mem_of_getElem? (i := 1292) (by decide +kernel), List.mem_of_getElem? (i := 1293) (by decide +kernel)⟩
theorem lw_p85 : lw_okq (⟨"ByteIntervalsModel", "readText", "()I"⟩, 55) := ⟨⟨by decide +kernel, by decide +kernel⟩, List.mem_of_getElem? (i := 1112) (by decide +kernel), List.mem_of_getElem? (i := 1307) (by decide +kernel), List.mem_of_getElem? (i := 1308) (by decide +kernel)⟩
theorem lw_p86 : lw_okq (⟨"ByteIntervalsModel", "nextToken", "()V"⟩, 55) := ⟨⟨by decide +kernel, by decide +kernel⟩, List.mem_of_getElem? (i := 1112) (by decide +kernel), List.mem_of_getElem? (i := 1311) (by decide +kernel), List.mem_of_getElem? (i := 1312) (by decide +kernel)⟩
theorem lw_p87 : lw_okq (⟨"ByteIntervalsModel", "byteAt", "(I)I"⟩, 55) := ⟨⟨by decide +kernel, by decide +kernel⟩, List.mem_of_getElem? (i := 1112) (by decide +kernel), List.mem_of_getElem? (i := 1315) (by decide +kernel), List.mem_of_getElem? (i := 1316) (by decide +kernel)⟩
theorem lw_p88 : lw_okq (⟨"ByteIntervalsModel", "clause", "()I"⟩, 55) := ⟨⟨by decide +kernel, by decide +kernel⟩, List.mem_of_getElem? (i := 1112) (by decide +kernel), List.mem_of_getElem? (i := 1330) (by decide +kernel), List.mem_of_getElem? (i := 1331) (by decide +kernel)⟩
theorem lw_p89 : lw_okq (⟨"ByteIntervalsModel", "sortOf", "()I"⟩, 55) := ⟨⟨by decide +kernel, by decide +kernel⟩, List.mem_of_getElem? (i := 1112) (by decide +kernel), List.mem_of_getElem? (i := 1334) (by decide +kernel), List.mem_of_getElem? (i := 1335) (by decide +kernel)⟩
theorem lw_p90 : lw_okq (⟨"ByteIntervalsModel", "isWord", "(J)Z"⟩, 55) := ⟨⟨by decide +kernel, by decide +kernel⟩, List.mem_of_getElem? (i := 1112) (by decide +kernel), List.mem_of_getElem? (i := 1344) (by decide +kernel), List.mem_of_getElem? (i := 1345) (by decide +kernel)⟩
theorem lw_p91 : lw_okq (⟨"ByteIntervalsModel", "body", "(II)I"⟩, 55) := ⟨⟨by decide +kernel, by decide +kernel⟩, List.mem_of_getElem? (i := 1112) (by decide +kernel), List.mem_of_getElem? (i := 1351) (by decide +kernel), List.mem_of_getElem? (i := 1352) (by decide +kernel)⟩
theorem lw_p92 : lw_okq (⟨"ByteIntervalsModel", "mustClause", "(I)I"⟩, 55) := ⟨⟨by decide +kernel, by decide +kernel⟩, List.mem_of_getElem? (i := 1112) (by decide +kernel), List.mem_of_getElem? (i := 1355) (by decide +kernel), List.mem_of_getElem? (i := 1356) (by decide +kernel)⟩
theorem lw_p93 : lw_okq (⟨"ByteIntervalsModel", "all", "(I)I"⟩, 55) := ⟨⟨by decide +kernel, by decide +kernel⟩, List.mem_of_getElem? (i := 1112) (by decide +kernel), List.mem_of_getElem? (i := 1359) (by decide +kernel), List.mem_of_getElem? (i := 1360) (by decide +kernel)⟩
theorem lw_p94 : lw_okq (⟨"ByteIntervalsModel", "behindOne", "()Z"⟩, 55) := ⟨⟨by decide +kernel, by decide +kernel⟩, List.mem_of_getElem? (i := 1112) (by decide +kernel), List.mem_of_getElem? (i := 1363) (by decide +kernel), List.mem_of_getElem? (i := 1364) (by decide +kernel)⟩
theorem lw_p95 : lw_okq (⟨"ByteIntervalsModel", "betweenOf", "()I"⟩, 55) := ⟨⟨by decide +kernel, by decide +kernel⟩, List.mem_of_getElem? (i := 1112) (by decide +kernel), List.mem_of_getElem? (i := 1367) (by decide +kernel), List.mem_of_getElem? (i := 1368) (by decide +kernel)⟩
def lw_privs_6 : List (MethodName × Nat) := [(⟨"ByteIntervals$Reading", "has", "(II)Z"⟩, 12), (⟨"ByteIntervals", "madeAt", "(LByteIntervals$Text;III)I"⟩, 10), (⟨"ByteIntervals", "allSaidIsSo", "(LByteIntervals$Text;)Z"⟩, 10), (⟨"ByteIntervals$State", "copy", "(LByteIntervals$State;)V"⟩, 9), (⟨"ByteIntervalsModel", "four", "(I)V"⟩, 55), (⟨"ByteIntervalsModel", "readText", "()I"⟩, 55), (⟨"ByteIntervalsModel", "nextToken", "()V"⟩, 55), (⟨"ByteIntervalsModel", "byteAt", "(I)I"⟩, 55), (⟨"ByteIntervalsModel", "clause", "()I"⟩, 55), (⟨"ByteIntervalsModel", "sortOf", "()I"⟩, 55), (⟨"ByteIntervalsModel", "isWord", "(J)Z"⟩, 55), (⟨"ByteIntervalsModel", "body", "(II)I"⟩, 55), (⟨"ByteIntervalsModel", "mustClause", "(I)I"⟩, 55), (⟨"ByteIntervalsModel", "all", "(I)I"⟩, 55), (⟨"ByteIntervalsModel", "behindOne", "()Z"⟩, 55), (⟨"ByteIntervalsModel", "betweenOf", "()I"⟩, 55)]
theorem lw_r6 : ∀ q ∈ lw_privs_6, lw_okq q := List.forall_mem_cons.mpr ⟨lw_p80, List.forall_mem_cons.mpr ⟨lw_p81, List.forall_mem_cons.mpr ⟨lw_p82, List.forall_mem_cons.mpr ⟨lw_p83, List.forall_mem_cons.mpr ⟨lw_p84, List.forall_mem_cons.mpr ⟨lw_p85, List.forall_mem_cons.mpr ⟨lw_p86, List.forall_mem_cons.mpr ⟨lw_p87, List.forall_mem_cons.mpr ⟨lw_p88, List.forall_mem_cons.mpr ⟨lw_p89, List.forall_mem_cons.mpr ⟨lw_p90, List.forall_mem_cons.mpr ⟨lw_p91, List.forall_mem_cons.mpr ⟨lw_p92, List.forall_mem_cons.mpr ⟨lw_p93, List.forall_mem_cons.mpr ⟨lw_p94, List.forall_mem_cons.mpr ⟨lw_p95, fun _ h => absurd h List.not_mem_nil⟩⟩⟩⟩⟩⟩⟩⟩⟩⟩⟩⟩⟩⟩⟩⟩
theorem lw_p96 : lw_okq (⟨"ByteIntervalsModel", "openNow", "()I"⟩, 55) := ⟨⟨by decide +kernel, by decide +kernel⟩, List.mem_of_getElem? (i := 1112) (by decide +kernel), List.mem_of_getElem? (i := 1371) (by decide +kernel), List.mem_of_getElem? (i := 1372) (by decide +kernel)⟩
theorem lw_p97 : lw_okq (⟨"ByteIntervalsModel", "openAt", "()I"⟩, 55) := ⟨⟨by decide +kernel, by decide +kernel⟩, List.mem_of_getElem? (i := 1112) (by decide +kernel), List.mem_of_getElem? (i := 1375) (by decide +kernel), List.mem_of_getElem? (i := 1376) (by decide +kernel)⟩
theorem lw_p98 : lw_okq (⟨"ByteIntervalsModel", "isCompared", "()Z"⟩, 55) := ⟨⟨by decide +kernel, by decide +kernel⟩, List.mem_of_getElem? (i := 1112) (by decide +kernel), List.mem_of_getElem? (i := 1382) (by decide +kernel), List.mem_of_getElem? (i := 1383) (by decide +kernel)⟩
theorem lw_p99 : lw_okq (⟨"ByteIntervalsModel", "compareOf", "()I"⟩, 55) := ⟨⟨by decide +kernel, by decide +kernel⟩, List.mem_of_getElem? (i := 1112) (by decide +kernel), List.mem_of_getElem? (i := 1389) (by decide +kernel), List.mem_of_getElem? (i := 1390) (by decide +kernel)⟩
theorem lw_p100 : lw_okq (⟨"ByteIntervalsModel", "settle", "(I)V"⟩, 55) := ⟨⟨by decide +kernel, by decide +kernel⟩, List.mem_of_getElem? (i := 1112) (by decide +kernel), List.mem_of_getElem? (i := 1393) (by decide +kernel), List.mem_of_getElem? (i := 1394) (by decide +kernel)⟩
theorem lw_p101 : lw_okq (⟨"ByteIntervalsModel", "emit", "(II)V"⟩, 55) := ⟨⟨by decide +kernel, by decide +kernel⟩, List.mem_of_getElem? (i := 1112) (by decide +kernel), List.mem_of_getElem? (i := 1397) (by decide +kernel), List.mem_of_getElem? (i := 1398) (by decide +kernel)⟩
theorem lw_p102 : lw_okq (⟨"ByteIntervalsModel", "partOf", "(I)I"⟩, 55) := ⟨⟨by decide +kernel, by decide +kernel⟩, List.mem_of_getElem? (i := 1112) (by decide +kernel), List.mem_of_getElem? (i := 1401) (by decide +kernel), List.mem_of_getElem? (i := 1402) (by decide +kernel)⟩
theorem lw_p103 : lw_okq (⟨"ByteIntervalsModel", "beginOne", "()I"⟩, 55) := ⟨⟨by decide +kernel, by decide +kernel⟩, List.mem_of_getElem? (i := 1112) (by decide +kernel), List.mem_of_getElem? (i := 1405) (by decide +kernel), List.mem_of_getElem? (i := 1406) (by decide +kernel)⟩
theorem lw_p104 : lw_okq (⟨"ByteIntervalsModel", "nameOf", "()I"⟩, 55) := ⟨⟨by decide +kernel, by decide +kernel⟩, List.mem_of_getElem? (i := 1112) (by decide +kernel), List.mem_of_getElem? (i := 1409) (by decide +kernel), List.mem_of_getElem? (i := 1410) (by decide +kernel)⟩
theorem lw_p105 : lw_okq (⟨"ByteIntervalsModel", "fieldNamed", "()I"⟩, 55) := ⟨⟨by decide +kernel, by decide +kernel⟩, List.mem_of_getElem? (i := 1112) (by decide +kernel), List.mem_of_getElem? (i := 1413) (by decide +kernel), List.mem_of_getElem? (i := 1414) (by decide +kernel)⟩
theorem lw_p106 : lw_okq (⟨"ByteIntervalsModel", "isOf", "(I)Z"⟩, 55) := ⟨⟨by decide +kernel, by decide +kernel⟩, List.mem_of_getElem? (i := 1112) (by decide +kernel), List.mem_of_getElem? (i := 1420) (by decide +kernel), List.mem_of_getElem? (i := 1421) (by decide +kernel)⟩
theorem lw_p107 : lw_okq (⟨"ByteIntervalsModel", "opened", "(I)I"⟩, 55) := ⟨⟨by decide +kernel, by decide +kernel⟩, List.mem_of_getElem? (i := 1112) (by decide +kernel), List.mem_of_getElem? (i := 1424) (by decide +kernel), List.mem_of_getElem? (i := 1425) (by decide +kernel)⟩
theorem lw_p108 : lw_okq (⟨"ByteIntervalsModel", "isAskAhead", "()Z"⟩, 55) := ⟨⟨by decide +kernel, by decide +kernel⟩, List.mem_of_getElem? (i := 1112) (by decide +kernel), List.mem_of_getElem? (i := 1428) (by decide +kernel), List.mem_of_getElem? (i := 1429) (by decide +kernel)⟩
theorem lw_p109 : lw_okq (⟨"ByteIntervalsModel", "sumClause", "(II)I"⟩, 55) := ⟨⟨by decide +kernel, by decide +kernel⟩, List.mem_of_getElem? (i := 1112) (by decide +kernel), List.mem_of_getElem? (i := 1432) (by decide +kernel), List.mem_of_getElem? (i := 1433) (by decide +kernel)⟩
theorem lw_p110 : lw_okq (⟨"ByteIntervalsModel", "summed", "()I"⟩, 55) := ⟨⟨by decide +kernel, by decide +kernel⟩, List.mem_of_getElem? (i := 1112) (by decide +kernel), List.mem_of_getElem? (i := 1436) (by decide +kernel), List.mem_of_getElem? (i := 1437) (by decide +kernel)⟩
theorem lw_p111 : lw_okq (⟨"ByteIntervalsModel", "setClause", "(I)I"⟩, 55) := ⟨⟨by decide +kernel, by decide +kernel⟩, List.mem_of_getElem? (i := 1112) (by decide +kernel), List.mem_of_getElem? (i := 1440) (by decide +kernel), List.mem_of_getElem? (i := 1441) (by decide +kernel)⟩
def lw_privs_7 : List (MethodName × Nat) := [(⟨"ByteIntervalsModel", "openNow", "()I"⟩, 55), (⟨"ByteIntervalsModel", "openAt", "()I"⟩, 55), (⟨"ByteIntervalsModel", "isCompared", "()Z"⟩, 55), (⟨"ByteIntervalsModel", "compareOf", "()I"⟩, 55), (⟨"ByteIntervalsModel", "settle", "(I)V"⟩, 55), (⟨"ByteIntervalsModel", "emit", "(II)V"⟩, 55), (⟨"ByteIntervalsModel", "partOf", "(I)I"⟩, 55), (⟨"ByteIntervalsModel", "beginOne", "()I"⟩, 55), (⟨"ByteIntervalsModel", "nameOf", "()I"⟩, 55), (⟨"ByteIntervalsModel", "fieldNamed", "()I"⟩, 55), (⟨"ByteIntervalsModel", "isOf", "(I)Z"⟩, 55), (⟨"ByteIntervalsModel", "opened", "(I)I"⟩, 55), (⟨"ByteIntervalsModel", "isAskAhead", "()Z"⟩, 55), (⟨"ByteIntervalsModel", "sumClause", "(II)I"⟩, 55), (⟨"ByteIntervalsModel", "summed", "()I"⟩, 55), (⟨"ByteIntervalsModel", "setClause", "(I)I"⟩, 55)]
theorem lw_r7 : ∀ q ∈ lw_privs_7, lw_okq q := List.forall_mem_cons.mpr ⟨lw_p96, List.forall_mem_cons.mpr ⟨lw_p97, List.forall_mem_cons.mpr ⟨lw_p98, List.forall_mem_cons.mpr ⟨lw_p99, List.forall_mem_cons.mpr ⟨lw_p100, List.forall_mem_cons.mpr ⟨lw_p101, List.forall_mem_cons.mpr ⟨lw_p102, List.forall_mem_cons.mpr ⟨lw_p103, List.forall_mem_cons.mpr ⟨lw_p104, List.forall_mem_cons.mpr ⟨lw_p105, List.forall_mem_cons.mpr ⟨lw_p106, List.forall_mem_cons.mpr ⟨lw_p107, List.forall_mem_cons.mpr ⟨lw_p108, List.forall_mem_cons.mpr ⟨lw_p109, List.forall_mem_cons.mpr ⟨lw_p110, List.forall_mem_cons.mpr ⟨lw_p111, fun _ h => absurd h List.not_mem_nil⟩⟩⟩⟩⟩⟩⟩⟩⟩⟩⟩⟩⟩⟩⟩⟩
theorem lw_p112 : lw_okq (⟨"ByteIntervalsModel", "figure", "(III)I"⟩, 55) := ⟨⟨by decide +kernel, by decide +kernel⟩, List.mem_of_getElem? (i := 1112) (by decide +kernel), List.mem_of_getElem? (i := 1444) (by decide +kernel), List.mem_of_getElem? (i := 1445) (by decide +kernel)⟩
theorem lw_p113 : lw_okq (⟨"ByteIntervalsModel", "fieldClause", "(II)I"⟩, 55) := ⟨⟨by decide +kernel, by decide +kernel⟩, List.mem_of_getElem? (i := 1112) (by decide +kernel), List.mem_of_getElem? (i := 1448) (by decide +kernel), List.mem_of_getElem? (i := 1449) (by decide +kernel)⟩
theorem lw_p114 : lw_okq (⟨"ByteIntervalsModel", "furtherSum", "(IIJ)I"⟩, 55) := ⟨⟨by decide +kernel, by decide +kernel⟩, List.mem_of_getElem? (i := 1112) (by decide +kernel), List.mem_of_getElem? (i := 1455) (by decide +kernel), List.mem_of_getElem? (i := 1456) (by decide +kernel)⟩
theorem lw_p115 : lw_okq (⟨"ByteIntervalsModel", "canSet", "(II)Z"⟩, 55) := ⟨⟨by decide +kernel, by decide +kernel⟩, List.mem_of_getElem? (i := 1112) (by decide +kernel), List.mem_of_getElem? (i := 1475) (by decide +kernel), List.mem_of_getElem? (i := 1476) (by decide +kernel)⟩
theorem lw_p116 : lw_okq (⟨"ByteIntervalsModel", "isPlace", "(I)Z"⟩, 55) := ⟨⟨by decide +kernel, by decide +kernel⟩, List.mem_of_getElem? (i := 1112) (by decide +kernel), List.mem_of_getElem? (i := 1479) (by decide +kernel), List.mem_of_getElem? (i := 1480) (by decide +kernel)⟩
theorem lw_p117 : lw_okq (⟨"ByteIntervalsModel", "keep", "()V"⟩, 55) := ⟨⟨by decide +kernel, by decide +kernel⟩, List.mem_of_getElem? (i := 1112) (by decide +kernel), List.mem_of_getElem? (i := 1483) (by decide +kernel), List.mem_of_getElem? (i := 1484) (by decide +kernel)⟩
theorem lw_p118 : lw_okq (⟨"ByteIntervalsModel", "setNow", "(II)V"⟩, 55) := ⟨⟨by decide +kernel, by decide +kernel⟩, List.mem_of_getElem? (i := 1112) (by decide +kernel), List.mem_of_getElem? (i := 1487) (by decide +kernel), List.mem_of_getElem? (i := 1488) (by decide +kernel)⟩
theorem lw_p119 : lw_okq (⟨"ByteIntervalsModel", "write", "(III)V"⟩, 55) := ⟨⟨by decide +kernel, by decide +kernel⟩, List.mem_of_getElem? (i := 1112) (by decide +kernel), List.mem_of_getElem? (i := 1491) (by decide +kernel), List.mem_of_getElem? (i := 1492) (by decide +kernel)⟩
theorem lw_p120 : lw_okq (⟨"ByteIntervalsModel", "canSize", "(I)Z"⟩, 55) := ⟨⟨by decide +kernel, by decide +kernel⟩, List.mem_of_getElem? (i := 1112) (by decide +kernel), List.mem_of_getElem? (i := 1499) (by decide +kernel), List.mem_of_getElem? (i := 1500) (by decide +kernel)⟩
theorem lw_p121 : lw_okq (⟨"ByteIntervalsModel", "sizeNow", "(I)V"⟩, 55) := ⟨⟨by decide +kernel, by decide +kernel⟩, List.mem_of_getElem? (i := 1112) (by decide +kernel), List.mem_of_getElem? (i := 1503) (by decide +kernel), List.mem_of_getElem? (i := 1504) (by decide +kernel)⟩
theorem lw_p122 : lw_okq (⟨"ByteIntervalsModel", "cutTo", "(I)V"⟩, 55) := ⟨⟨by decide +kernel, by decide +kernel⟩, List.mem_of_getElem? (i := 1112) (by decide +kernel), List.mem_of_getElem? (i := 1507) (by decide +kernel), List.mem_of_getElem? (i := 1508) (by decide +kernel)⟩
theorem lw_p123 : lw_okq (⟨"ByteIntervalsModel", "mendNow", "(I)I"⟩, 55) := ⟨⟨by decide +kernel, by decide +kernel⟩, List.mem_of_getElem? (i := 1112) (by decide +kernel), List.mem_of_getElem? (i := 1515) (by decide +kernel), List.mem_of_getElem? (i := 1516) (by decide +kernel)⟩
theorem lw_p124 : lw_okq (⟨"ByteIntervalsModel", "hasSum", "(I)Z"⟩, 55) := ⟨⟨by decide +kernel, by decide +kernel⟩, List.mem_of_getElem? (i := 1112) (by decide +kernel), List.mem_of_getElem? (i := 1519) (by decide +kernel), List.mem_of_getElem? (i := 1520) (by decide +kernel)⟩
theorem lw_p125 : lw_okq (⟨"ByteIntervalsModel", "clauses", "(I)I"⟩, 55) := ⟨⟨by decide +kernel, by decide +kernel⟩, List.mem_of_getElem? (i := 1112) (by decide +kernel), List.mem_of_getElem? (i := 1523) (by decide +kernel), List.mem_of_getElem? (i := 1524) (by decide +kernel)⟩
theorem lw_p126 : lw_okq (⟨"ByteIntervalsModel", "layOrder", "(I)V"⟩, 55) := ⟨⟨by decide +kernel, by decide +kernel⟩, List.mem_of_getElem? (i := 1112) (by decide +kernel), List.mem_of_getElem? (i := 1530) (by decide +kernel), List.mem_of_getElem? (i := 1531) (by decide +kernel)⟩
theorem lw_p127 : lw_okq (⟨"ByteIntervalsModel", "namesOf", "(II)I"⟩, 55) := ⟨⟨by decide +kernel, by decide +kernel⟩, List.mem_of_getElem? (i := 1112) (by decide +kernel), List.mem_of_getElem? (i := 1534) (by decide +kernel), List.mem_of_getElem? (i := 1535) (by decide +kernel)⟩
def lw_privs_8 : List (MethodName × Nat) := [(⟨"ByteIntervalsModel", "figure", "(III)I"⟩, 55), (⟨"ByteIntervalsModel", "fieldClause", "(II)I"⟩, 55), (⟨"ByteIntervalsModel", "furtherSum", "(IIJ)I"⟩, 55), (⟨"ByteIntervalsModel", "canSet", "(II)Z"⟩, 55), (⟨"ByteIntervalsModel", "isPlace", "(I)Z"⟩, 55), (⟨"ByteIntervalsModel", "keep", "()V"⟩, 55), (⟨"ByteIntervalsModel", "setNow", "(II)V"⟩, 55), (⟨"ByteIntervalsModel", "write", "(III)V"⟩, 55), (⟨"ByteIntervalsModel", "canSize", "(I)Z"⟩, 55), (⟨"ByteIntervalsModel", "sizeNow", "(I)V"⟩, 55), (⟨"ByteIntervalsModel", "cutTo", "(I)V"⟩, 55), (⟨"ByteIntervalsModel", "mendNow", "(I)I"⟩, 55), (⟨"ByteIntervalsModel", "hasSum", "(I)Z"⟩, 55), (⟨"ByteIntervalsModel", "clauses", "(I)I"⟩, 55), (⟨"ByteIntervalsModel", "layOrder", "(I)V"⟩, 55), (⟨"ByteIntervalsModel", "namesOf", "(II)I"⟩, 55)]
theorem lw_r8 : ∀ q ∈ lw_privs_8, lw_okq q := List.forall_mem_cons.mpr ⟨lw_p112, List.forall_mem_cons.mpr ⟨lw_p113, List.forall_mem_cons.mpr ⟨lw_p114, List.forall_mem_cons.mpr ⟨lw_p115, List.forall_mem_cons.mpr ⟨lw_p116, List.forall_mem_cons.mpr ⟨lw_p117, List.forall_mem_cons.mpr ⟨lw_p118, List.forall_mem_cons.mpr ⟨lw_p119, List.forall_mem_cons.mpr ⟨lw_p120, List.forall_mem_cons.mpr ⟨lw_p121, List.forall_mem_cons.mpr ⟨lw_p122, List.forall_mem_cons.mpr ⟨lw_p123, List.forall_mem_cons.mpr ⟨lw_p124, List.forall_mem_cons.mpr ⟨lw_p125, List.forall_mem_cons.mpr ⟨lw_p126, List.forall_mem_cons.mpr ⟨lw_p127, fun _ h => absurd h List.not_mem_nil⟩⟩⟩⟩⟩⟩⟩⟩⟩⟩⟩⟩⟩⟩⟩⟩
theorem lw_p128 : lw_okq (⟨"ByteIntervalsModel", "namesIn", "(II)I"⟩, 55) := ⟨⟨by decide +kernel, by decide +kernel⟩, List.mem_of_getElem? (i := 1112) (by decide +kernel), List.mem_of_getElem? (i := 1541) (by decide +kernel), List.mem_of_getElem? (i := 1542) (by decide +kernel)⟩
theorem lw_p129 : lw_okq (⟨"ByteIntervalsModel", "putAside", "()V"⟩, 55) := ⟨⟨by decide +kernel, by decide +kernel⟩, List.mem_of_getElem? (i := 1112) (by decide +kernel), List.mem_of_getElem? (i := 1545) (by decide +kernel), List.mem_of_getElem? (i := 1546) (by decide +kernel)⟩
theorem lw_p130 : lw_okq (⟨"ByteIntervalsModel", "mendRound", "(I)Z"⟩, 55) := ⟨⟨by decide +kernel, by decide +kernel⟩, List.mem_of_getElem? (i := 1112) (by decide +kernel), List.mem_of_getElem? (i := 1549) (by decide +kernel), List.mem_of_getElem? (i := 1550) (by decide +kernel)⟩
theorem lw_p131 : lw_okq (⟨"ByteIntervalsModel", "readBy", "(I)V"⟩, 55) := ⟨⟨by decide +kernel, by decide +kernel⟩, List.mem_of_getElem? (i := 1112) (by decide +kernel), List.mem_of_getElem? (i := 1553) (by decide +kernel), List.mem_of_getElem? (i := 1554) (by decide +kernel)⟩
theorem lw_p132 : lw_okq (⟨"ByteIntervalsModel", "beginLevel", "(III)V"⟩, 55) := ⟨⟨by decide +kernel, by decide +kernel⟩, List.mem_of_getElem? (i := 1112) (by decide +kernel), List.mem_of_getElem? (i := 1557) (by decide +kernel), List.mem_of_getElem? (i := 1558) (by decide +kernel)⟩
theorem lw_p133 : lw_okq (⟨"ByteIntervalsModel", "readField", "(I)Z"⟩, 55) := ⟨⟨by decide +kernel, by decide +kernel⟩, List.mem_of_getElem? (i := 1112) (by decide +kernel), List.mem_of_getElem? (i := 1561) (by decide +kernel), List.mem_of_getElem? (i := 1562) (by decide +kernel)⟩
theorem lw_p134 : lw_okq (⟨"ByteIntervalsModel", "isAnyBroken", "(I)Z"⟩, 55) := ⟨⟨by decide +kernel, by decide +kernel⟩, List.mem_of_getElem? (i := 1112) (by decide +kernel), List.mem_of_getElem? (i := 1565) (by decide +kernel), List.mem_of_getElem? (i := 1566) (by decide +kernel)⟩
theorem lw_p135 : lw_okq (⟨"ByteIntervalsModel", "nameLevel", "()V"⟩, 55) := ⟨⟨by decide +kernel, by decide +kernel⟩, List.mem_of_getElem? (i := 1112) (by decide +kernel), List.mem_of_getElem? (i := 1569) (by decide +kernel), List.mem_of_getElem? (i := 1570) (by decide +kernel)⟩
theorem lw_p136 : lw_okq (⟨"ByteIntervalsModel", "isNestBegun", "(II)Z"⟩, 55) := ⟨⟨by decide +kernel, by decide +kernel⟩, List.mem_of_getElem? (i := 1112) (by decide +kernel), List.mem_of_getElem? (i := 1573) (by decide +kernel), List.mem_of_getElem? (i := 1574) (by decide +kernel)⟩
theorem lw_p137 : lw_okq (⟨"ByteIntervalsModel", "sumOf", "(III)J"⟩, 55) := ⟨⟨by decide +kernel, by decide +kernel⟩, List.mem_of_getElem? (i := 1112) (by decide +kernel), List.mem_of_getElem? (i := 1577) (by decide +kernel), List.mem_of_getElem? (i := 1578) (by decide +kernel)⟩
theorem lw_p138 : lw_okq (⟨"ByteIntervalsModel", "work", "(III)V"⟩, 55) := ⟨⟨by decide +kernel, by decide +kernel⟩, List.mem_of_getElem? (i := 1112) (by decide +kernel), List.mem_of_getElem? (i := 1581) (by decide +kernel), List.mem_of_getElem? (i := 1582) (by decide +kernel)⟩
theorem lw_p139 : lw_okq (⟨"ByteIntervalsModel", "ofOne", "(II)V"⟩, 55) := ⟨⟨by decide +kernel, by decide +kernel⟩, List.mem_of_getElem? (i := 1112) (by decide +kernel), List.mem_of_getElem? (i := 1585) (by decide +kernel), List.mem_of_getElem? (i := 1586) (by decide +kernel)⟩
theorem lw_p140 : lw_okq (⟨"ByteIntervalsModel", "isInside", "(J)Z"⟩, 55) := ⟨⟨by decide +kernel, by decide +kernel⟩, List.mem_of_getElem? (i := 1112) (by decide +kernel), List.mem_of_getElem? (i := 1589) (by decide +kernel), List.mem_of_getElem? (i := 1590) (by decide +kernel)⟩
theorem lw_p141 : lw_okq (⟨"ByteIntervalsModel", "readNum", "(II)V"⟩, 55) := ⟨⟨by decide +kernel, by decide +kernel⟩, List.mem_of_getElem? (i := 1112) (by decide +kernel), List.mem_of_getElem? (i := 1610) (by decide +kernel), List.mem_of_getElem? (i := 1611) (by decide +kernel)⟩
theorem lw_p142 : lw_okq (⟨"ByteIntervalsModel", "numberFrom", "(II)I"⟩, 55) := ⟨⟨by decide +kernel, by decide +kernel⟩, List.mem_of_getElem? (i := 1112) (by decide +kernel), List.mem_of_getElem? (i := 1615) (by decide +kernel), List.mem_of_getElem? (i := 1616) (by decide +kernel)⟩
theorem lw_p143 : lw_okq (⟨"ByteIntervalsModel", "settleField", "(IIIII)V"⟩, 55) := ⟨⟨by decide +kernel, by decide +kernel⟩, List.mem_of_getElem? (i := 1112) (by decide +kernel), List.mem_of_getElem? (i := 1619) (by decide +kernel), List.mem_of_getElem? (i := 1620) (by decide +kernel)⟩
def lw_privs_9 : List (MethodName × Nat) := [(⟨"ByteIntervalsModel", "namesIn", "(II)I"⟩, 55), (⟨"ByteIntervalsModel", "putAside", "()V"⟩, 55), (⟨"ByteIntervalsModel", "mendRound", "(I)Z"⟩, 55), (⟨"ByteIntervalsModel", "readBy", "(I)V"⟩, 55), (⟨"ByteIntervalsModel", "beginLevel", "(III)V"⟩, 55), (⟨"ByteIntervalsModel", "readField", "(I)Z"⟩, 55), (⟨"ByteIntervalsModel", "isAnyBroken", "(I)Z"⟩, 55), (⟨"ByteIntervalsModel", "nameLevel", "()V"⟩, 55), (⟨"ByteIntervalsModel", "isNestBegun", "(II)Z"⟩, 55), (⟨"ByteIntervalsModel", "sumOf", "(III)J"⟩, 55), (⟨"ByteIntervalsModel", "work", "(III)V"⟩, 55), (⟨"ByteIntervalsModel", "ofOne", "(II)V"⟩, 55), (⟨"ByteIntervalsModel", "isInside", "(J)Z"⟩, 55), (⟨"ByteIntervalsModel", "readNum", "(II)V"⟩, 55), (⟨"ByteIntervalsModel", "numberFrom", "(II)I"⟩, 55), (⟨"ByteIntervalsModel", "settleField", "(IIIII)V"⟩, 55)]
theorem lw_r9 : ∀ q ∈ lw_privs_9, lw_okq q := List.forall_mem_cons.mpr ⟨lw_p128, List.forall_mem_cons.mpr ⟨lw_p129, List.forall_mem_cons.mpr ⟨lw_p130, List.forall_mem_cons.mpr ⟨lw_p131, List.forall_mem_cons.mpr ⟨lw_p132, List.forall_mem_cons.mpr ⟨lw_p133, List.forall_mem_cons.mpr ⟨lw_p134, List.forall_mem_cons.mpr ⟨lw_p135, List.forall_mem_cons.mpr ⟨lw_p136, List.forall_mem_cons.mpr ⟨lw_p137, List.forall_mem_cons.mpr ⟨lw_p138, List.forall_mem_cons.mpr ⟨lw_p139, List.forall_mem_cons.mpr ⟨lw_p140, List.forall_mem_cons.mpr ⟨lw_p141, List.forall_mem_cons.mpr ⟨lw_p142, List.forall_mem_cons.mpr ⟨lw_p143, fun _ h => absurd h List.not_mem_nil⟩⟩⟩⟩⟩⟩⟩⟩⟩⟩⟩⟩⟩⟩⟩⟩
theorem lw_p144 : lw_okq (⟨"ByteIntervalsModel", "readSum", "(II)V"⟩, 55) := ⟨⟨by decide +kernel, by decide +kernel⟩, List.mem_of_getElem? (i := 1112) (by decide +kernel), List.mem_of_getElem? (i := 1626) (by decide +kernel), List.mem_of_getElem? (i := 1627) (by decide +kernel)⟩
theorem lw_p145 : lw_okq (⟨"ByteIntervalsModel", "bytesFrom", "(II)I"⟩, 55) := ⟨⟨by decide +kernel, by decide +kernel⟩, List.mem_of_getElem? (i := 1112) (by decide +kernel), List.mem_of_getElem? (i := 1630) (by decide +kernel), List.mem_of_getElem? (i := 1631) (by decide +kernel)⟩
theorem lw_p146 : lw_okq (⟨"ByteIntervalsModel", "readMusts", "(I)V"⟩, 55) := ⟨⟨by decide +kernel, by decide +kernel⟩, List.mem_of_getElem? (i := 1112) (by decide +kernel), List.mem_of_getElem? (i := 1634) (by decide +kernel), List.mem_of_getElem? (i := 1635) (by decide +kernel)⟩
theorem lw_p147 : lw_okq (⟨"ByteIntervalsModel", "endLevel", "()V"⟩, 55) := ⟨⟨by decide +kernel, by decide +kernel⟩, List.mem_of_getElem? (i := 1112) (by decide +kernel), List.mem_of_getElem? (i := 1638) (by decide +kernel), List.mem_of_getElem? (i := 1639) (by decide +kernel)⟩
theorem lw_p148 : lw_okq (⟨"ByteIntervalsModel", "bringBack", "()V"⟩, 55) := ⟨⟨by decide +kernel, by decide +kernel⟩, List.mem_of_getElem? (i := 1112) (by decide +kernel), List.mem_of_getElem? (i := 1642) (by decide +kernel), List.mem_of_getElem? (i := 1643) (by decide +kernel)⟩
theorem lw_p149 : lw_okq (⟨"ByteIntervalsModel", "arePassed", "(I)Z"⟩, 55) := ⟨⟨by decide +kernel, by decide +kernel⟩, List.mem_of_getElem? (i := 1112) (by decide +kernel), List.mem_of_getElem? (i := 1650) (by decide +kernel), List.mem_of_getElem? (i := 1651) (by decide +kernel)⟩
theorem lw_p150 : lw_okq (⟨"ByteIntervalsModel", "pass", "()V"⟩, 55) := ⟨⟨by decide +kernel, by decide +kernel⟩, List.mem_of_getElem? (i := 1112) (by decide +kernel), List.mem_of_getElem? (i := 1654) (by decide +kernel), List.mem_of_getElem? (i := 1655) (by decide +kernel)⟩
theorem lw_p151 : lw_okq (⟨"ByteIntervalsModel", "drawnBy", "(I)I"⟩, 55) := ⟨⟨by decide +kernel, by decide +kernel⟩, List.mem_of_getElem? (i := 1112) (by decide +kernel), List.mem_of_getElem? (i := 1658) (by decide +kernel), List.mem_of_getElem? (i := 1659) (by decide +kernel)⟩
theorem lw_p152 : lw_okq (⟨"ByteIntervalsModel", "anew", "()V"⟩, 55) := ⟨⟨by decide +kernel, by decide +kernel⟩, List.mem_of_getElem? (i := 1112) (by decide +kernel), List.mem_of_getElem? (i := 1662) (by decide +kernel), List.mem_of_getElem? (i := 1663) (by decide +kernel)⟩
theorem lw_p153 : lw_okq (⟨"ByteIntervalsModel", "rotsNow", "(I)I"⟩, 55) := ⟨⟨by decide +kernel, by decide +kernel⟩, List.mem_of_getElem? (i := 1112) (by decide +kernel), List.mem_of_getElem? (i := 1669) (by decide +kernel), List.mem_of_getElem? (i := 1670) (by decide +kernel)⟩
theorem lw_p154 : lw_okq (⟨"ByteIntervalsModel", "isText", "(I)Z"⟩, 55) := ⟨⟨by decide +kernel, by decide +kernel⟩, List.mem_of_getElem? (i := 1112) (by decide +kernel), List.mem_of_getElem? (i := 1680) (by decide +kernel), List.mem_of_getElem? (i := 1681) (by decide +kernel)⟩
theorem lw_p155 : lw_okq (⟨"ByteIntervalsModel", "isPlayed", "(I)Z"⟩, 55) := ⟨⟨by decide +kernel, by decide +kernel⟩, List.mem_of_getElem? (i := 1112) (by decide +kernel), List.mem_of_getElem? (i := 1684) (by decide +kernel), List.mem_of_getElem? (i := 1685) (by decide +kernel)⟩
theorem lw_p156 : lw_okq (⟨"ByteIntervalsModel", "happens", "(I)V"⟩, 55) := ⟨⟨by decide +kernel, by decide +kernel⟩, List.mem_of_getElem? (i := 1112) (by decide +kernel), List.mem_of_getElem? (i := 1695) (by decide +kernel), List.mem_of_getElem? (i := 1696) (by decide +kernel)⟩
theorem lw_p157 : lw_okq (⟨"ByteIntervalsModel", "lineOf", "(II)I"⟩, 55) := ⟨⟨by decide +kernel, by decide +kernel⟩, List.mem_of_getElem? (i := 1112) (by decide +kernel), List.mem_of_getElem? (i := 1711) (by decide +kernel), List.mem_of_getElem? (i := 1712) (by decide +kernel)⟩
theorem lw_p158 : lw_okq (⟨"ByteIntervalsModel", "read", "(I)V"⟩, 55) := ⟨⟨by decide +kernel, by decide +kernel⟩, List.mem_of_getElem? (i := 1112) (by decide +kernel), List.mem_of_getElem? (i := 1728) (by decide +kernel), List.mem_of_getElem? (i := 1729) (by decide +kernel)⟩
theorem lw_p159 : lw_okq (⟨"ByteIntervalsModel", "isValidNow", "()Z"⟩, 55) := ⟨⟨by decide +kernel, by decide +kernel⟩, List.mem_of_getElem? (i := 1112) (by decide +kernel), List.mem_of_getElem? (i := 1732) (by decide +kernel), List.mem_of_getElem? (i := 1733) (by decide +kernel)⟩
def lw_privs_10 : List (MethodName × Nat) := [(⟨"ByteIntervalsModel", "readSum", "(II)V"⟩, 55), (⟨"ByteIntervalsModel", "bytesFrom", "(II)I"⟩, 55), (⟨"ByteIntervalsModel", "readMusts", "(I)V"⟩, 55), (⟨"ByteIntervalsModel", "endLevel", "()V"⟩, 55), (⟨"ByteIntervalsModel", "bringBack", "()V"⟩, 55), (⟨"ByteIntervalsModel", "arePassed", "(I)Z"⟩, 55), (⟨"ByteIntervalsModel", "pass", "()V"⟩, 55), (⟨"ByteIntervalsModel", "drawnBy", "(I)I"⟩, 55), (⟨"ByteIntervalsModel", "anew", "()V"⟩, 55), (⟨"ByteIntervalsModel", "rotsNow", "(I)I"⟩, 55), (⟨"ByteIntervalsModel", "isText", "(I)Z"⟩, 55), (⟨"ByteIntervalsModel", "isPlayed", "(I)Z"⟩, 55), (⟨"ByteIntervalsModel", "happens", "(I)V"⟩, 55), (⟨"ByteIntervalsModel", "lineOf", "(II)I"⟩, 55), (⟨"ByteIntervalsModel", "read", "(I)V"⟩, 55), (⟨"ByteIntervalsModel", "isValidNow", "()Z"⟩, 55)]
theorem lw_r10 : ∀ q ∈ lw_privs_10, lw_okq q := List.forall_mem_cons.mpr ⟨lw_p144, List.forall_mem_cons.mpr ⟨lw_p145, List.forall_mem_cons.mpr ⟨lw_p146, List.forall_mem_cons.mpr ⟨lw_p147, List.forall_mem_cons.mpr ⟨lw_p148, List.forall_mem_cons.mpr ⟨lw_p149, List.forall_mem_cons.mpr ⟨lw_p150, List.forall_mem_cons.mpr ⟨lw_p151, List.forall_mem_cons.mpr ⟨lw_p152, List.forall_mem_cons.mpr ⟨lw_p153, List.forall_mem_cons.mpr ⟨lw_p154, List.forall_mem_cons.mpr ⟨lw_p155, List.forall_mem_cons.mpr ⟨lw_p156, List.forall_mem_cons.mpr ⟨lw_p157, List.forall_mem_cons.mpr ⟨lw_p158, List.forall_mem_cons.mpr ⟨lw_p159, fun _ h => absurd h List.not_mem_nil⟩⟩⟩⟩⟩⟩⟩⟩⟩⟩⟩⟩⟩⟩⟩⟩
theorem lw_p160 : lw_okq (⟨"ByteIntervalsModel", "toldOf", "(II)I"⟩, 55) := ⟨⟨by decide +kernel, by decide +kernel⟩, List.mem_of_getElem? (i := 1112) (by decide +kernel), List.mem_of_getElem? (i := 1743) (by decide +kernel), List.mem_of_getElem? (i := 1744) (by decide +kernel)⟩
theorem lw_p161 : lw_okq (⟨"ByteIntervalsModel", "sortOfField", "(II)I"⟩, 55) := ⟨⟨by decide +kernel, by decide +kernel⟩, List.mem_of_getElem? (i := 1112) (by decide +kernel), List.mem_of_getElem? (i := 1751) (by decide +kernel), List.mem_of_getElem? (i := 1752) (by decide +kernel)⟩
theorem lw_p162 : lw_okq (⟨"ByteIntervalsModel", "readUpTo", "(II)V"⟩, 55) := ⟨⟨by decide +kernel, by decide +kernel⟩, List.mem_of_getElem? (i := 1112) (by decide +kernel), List.mem_of_getElem? (i := 1755) (by decide +kernel), List.mem_of_getElem? (i := 1756) (by decide +kernel)⟩
theorem lw_p163 : lw_okq (⟨"ByteIntervalsModel", "isHeld", "(I)Z"⟩, 55) := ⟨⟨by decide +kernel, by decide +kernel⟩, List.mem_of_getElem? (i := 1112) (by decide +kernel), List.mem_of_getElem? (i := 1771) (by decide +kernel), List.mem_of_getElem? (i := 1772) (by decide +kernel)⟩
theorem lw_p164 : lw_okq (⟨"ByteIntervalsModel", "allOf", "(I)I"⟩, 55) := ⟨⟨by decide +kernel, by decide +kernel⟩, List.mem_of_getElem? (i := 1112) (by decide +kernel), List.mem_of_getElem? (i := 1784) (by decide +kernel), List.mem_of_getElem? (i := 1785) (by decide +kernel)⟩
theorem lw_p165 : lw_okq (⟨"ByteIntervalsModel", "isPlain", "(II)Z"⟩, 55) := ⟨⟨by decide +kernel, by decide +kernel⟩, List.mem_of_getElem? (i := 1112) (by decide +kernel), List.mem_of_getElem? (i := 1796) (by decide +kernel), List.mem_of_getElem? (i := 1797) (by decide +kernel)⟩
theorem lw_p166 : lw_okq (⟨"ByteIntervalsModel", "byteFor", "(IIII)I"⟩, 55) := ⟨⟨by decide +kernel, by decide +kernel⟩, List.mem_of_getElem? (i := 1112) (by decide +kernel), List.mem_of_getElem? (i := 1810) (by decide +kernel), List.mem_of_getElem? (i := 1811) (by decide +kernel)⟩
theorem lw_p167 : lw_okq (⟨"ByteIntervalsModel", "hasValue", "(III)Z"⟩, 55) := ⟨⟨by decide +kernel, by decide +kernel⟩, List.mem_of_getElem? (i := 1112) (by decide +kernel), List.mem_of_getElem? (i := 1814) (by decide +kernel), List.mem_of_getElem? (i := 1815) (by decide +kernel)⟩
theorem lw_p168 : lw_okq (⟨"ByteIntervalsModel", "isStretch", "(II)Z"⟩, 55) := ⟨⟨by decide +kernel, by decide +kernel⟩, List.mem_of_getElem? (i := 1112) (by decide +kernel), List.mem_of_getElem? (i := 1838) (by decide +kernel), List.mem_of_getElem? (i := 1839) (by decide +kernel)⟩
def lw_privs_11 : List (MethodName × Nat) := [(⟨"ByteIntervalsModel", "toldOf", "(II)I"⟩, 55), (⟨"ByteIntervalsModel", "sortOfField", "(II)I"⟩, 55), (⟨"ByteIntervalsModel", "readUpTo", "(II)V"⟩, 55), (⟨"ByteIntervalsModel", "isHeld", "(I)Z"⟩, 55), (⟨"ByteIntervalsModel", "allOf", "(I)I"⟩, 55), (⟨"ByteIntervalsModel", "isPlain", "(II)Z"⟩, 55), (⟨"ByteIntervalsModel", "byteFor", "(IIII)I"⟩, 55), (⟨"ByteIntervalsModel", "hasValue", "(III)Z"⟩, 55), (⟨"ByteIntervalsModel", "isStretch", "(II)Z"⟩, 55)]
theorem lw_r11 : ∀ q ∈ lw_privs_11, lw_okq q := List.forall_mem_cons.mpr ⟨lw_p160, List.forall_mem_cons.mpr ⟨lw_p161, List.forall_mem_cons.mpr ⟨lw_p162, List.forall_mem_cons.mpr ⟨lw_p163, List.forall_mem_cons.mpr ⟨lw_p164, List.forall_mem_cons.mpr ⟨lw_p165, List.forall_mem_cons.mpr ⟨lw_p166, List.forall_mem_cons.mpr ⟨lw_p167, List.forall_mem_cons.mpr ⟨lw_p168, fun _ h => absurd h List.not_mem_nil⟩⟩⟩⟩⟩⟩⟩⟩⟩
def lw_privs : List (MethodName × Nat) := lw_privs_1 ++ (lw_privs_2 ++ (lw_privs_3 ++ (lw_privs_4 ++ (lw_privs_5 ++ (lw_privs_6 ++ (lw_privs_7 ++ (lw_privs_8 ++ (lw_privs_9 ++ (lw_privs_10 ++ (lw_privs_11))))))))))
def lw_tbl : List Cond := k2_sels lw_privs ++ tables_1
theorem lw_privs_ok : ∀ q ∈ lw_privs, lw_okq q := by
  show ∀ q ∈ lw_privs_1 ++ (lw_privs_2 ++ (lw_privs_3 ++ (lw_privs_4 ++ (lw_privs_5 ++ (lw_privs_6 ++ (lw_privs_7 ++ (lw_privs_8 ++ (lw_privs_9 ++ (lw_privs_10 ++ (lw_privs_11)))))))))), lw_okq q
  exact List.forall_mem_append.mpr ⟨lw_r1, List.forall_mem_append.mpr ⟨lw_r2, List.forall_mem_append.mpr ⟨lw_r3, List.forall_mem_append.mpr ⟨lw_r4, List.forall_mem_append.mpr ⟨lw_r5, List.forall_mem_append.mpr ⟨lw_r6, List.forall_mem_append.mpr ⟨lw_r7, List.forall_mem_append.mpr ⟨lw_r8, List.forall_mem_append.mpr ⟨lw_r9, List.forall_mem_append.mpr ⟨lw_r10, lw_r11⟩⟩⟩⟩⟩⟩⟩⟩⟩⟩
-- ===== end of PART A; then your names; then what follows =====
/-! ===== BEGIN words of one list among another's, by their places ===== -/
theorem goodIn_r {big : List Cond} (ws : List Cond) (ps : List Nat) (hp : ws = ps.filterMap (fun i => big[i]?)) (h : ws.all goodWord = true) : GoodIn big ws := by
  intro w hw
  have h1 := List.all_eq_true.mp h w hw
  rw [hp] at hw
  obtain ⟨i, -, hi⟩ := List.mem_filterMap.mp hw
  have hm : w ∈ big := by first | exact List.mem_of_getElem? hi | exact List.getElem?_mem hi
  exact ⟨hm, good_of_word h1⟩
theorem goodIn_app {big a b : List Cond} (ha : GoodIn big a) (hb : GoodIn big b) : GoodIn big (a ++ b) := fun w h => (List.mem_append.mp h).elim (ha w) (hb w)
theorem goodIn_ca {big a b : List Cond} {c : Cond} (ha : GoodIn big (c :: a)) (hb : GoodIn big b) : GoodIn big (c :: (a ++ b)) := fun w h => (List.mem_cons.mp h).elim (fun e => ha w (List.mem_cons.mpr (Or.inl e))) (fun h => (List.mem_append.mp h).elim (fun h => ha w (List.mem_cons.mpr (Or.inr h))) (hb w))
theorem goodIn_sub {big ws : List Cond} (hm : ∀ w ∈ ws, w ∈ big) (h : ws.all goodWord = true) : GoodIn big ws := fun w hw => ⟨hm w hw, good_of_word (List.all_eq_true.mp h w hw)⟩
/-! ===== END ===== -/

/-! ===== BEGIN printed: names, fields, word lists, decode rows ===== -/
def RX0 : String := "ByteIntervals$Moment"
def TX0 : u_T := fun k => match k with
  | 0 => ("ByteIntervals$Moment", "bytes", "[I", true)
  | 1 => ("ByteIntervals$Moment", "lines", "[I", true)
  | 2 => ("ByteIntervals$Moment", "lineCount", "I", false)
  | 3 => ("ByteIntervals$Moment", "size", "I", false)
  | 4 => ("ByteIntervals$Moment", "day", "I", false)
  | _ => ("ByteIntervals$Moment", "x", "I", false)
def tyX0 : Nat → FieldType := fun k => match k with
  | 0 => .array .int
  | 1 => .array .int
  | 2 => .int
  | 3 => .int
  | 4 => .int
  | _ => .int
abbrev wsX00 : List Cond := u_ws RX0 TX0 6
theorem nmX0 : ∀ a, a < 6 → ∀ b, b < 6 → a ≠ b → (TX0 a).2.1 ≠ (TX0 b).2.1 := by decide +kernel
theorem tyX0_ok : ∀ k, k < 6 → parseFieldDescriptor (TX0 k).2.2.1 = some (tyX0 k) := by decide +kernel
abbrev cX0_init : ByteArray := prog_2_method_1_code
def yX0_init : MethodName := ⟨RX0, "<init>", "()V"⟩
abbrev cX0_copy : ByteArray := prog_2_method_2_code
def yX0_copy : MethodName := ⟨RX0, "copy", "(LByteIntervals$Moment;)V"⟩
abbrev cX0_draw : ByteArray := prog_2_method_3_code
def yX0_draw : MethodName := ⟨RX0, "draw", "(I)I"⟩
abbrev cX0_drawAnew : ByteArray := prog_2_method_4_code
def yX0_drawAnew : MethodName := ⟨RX0, "drawAnew", "()V"⟩
abbrev cX0_covers : ByteArray := prog_2_method_5_code
def yX0_covers : MethodName := ⟨RX0, "covers", "(II)Z"⟩
abbrev cX0_together : ByteArray := prog_2_method_6_code
def yX0_together : MethodName := ⟨RX0, "together", "(II)I"⟩
abbrev cX0_canPut : ByteArray := prog_2_method_7_code
def yX0_canPut : MethodName := ⟨RX0, "canPut", "(II)Z"⟩
abbrev cX0_putByte : ByteArray := prog_2_method_8_code
def yX0_putByte : MethodName := ⟨RX0, "putByte", "(II)V"⟩
abbrev cX0_canResize : ByteArray := prog_2_method_9_code
def yX0_canResize : MethodName := ⟨RX0, "canResize", "(I)Z"⟩
abbrev cX0_resize : ByteArray := prog_2_method_10_code
def yX0_resize : MethodName := ⟨RX0, "resize", "(I)V"⟩
abbrev cX0_rot : ByteArray := prog_2_method_11_code
def yX0_rot : MethodName := ⟨RX0, "rot", "(II)V"⟩
abbrev cX0_takeMended : ByteArray := prog_2_method_12_code
def yX0_takeMended : MethodName := ⟨RX0, "takeMended", "([II)V"⟩
abbrev cX0_write : ByteArray := prog_2_method_13_code
def yX0_write : MethodName := ⟨RX0, "write", "(III)V"⟩
abbrev cX0_tell : ByteArray := prog_2_method_14_code
def yX0_tell : MethodName := ⟨RX0, "tell", "(II)I"⟩
def RX1 : String := "ByteIntervals$Parser"
def TX1 : u_T := fun k => match k with
  | 0 => ("ByteIntervals$Parser", "tokens", "[I", true)
  | 1 => ("ByteIntervals$Parser", "starts", "[I", true)
  | 2 => ("ByteIntervals$Parser", "numbers", "[I", true)
  | 3 => ("ByteIntervals$Parser", "count", "I", false)
  | 4 => ("ByteIntervals$Parser", "token", "I", false)
  | 5 => ("ByteIntervals$Parser", "here", "I", false)
  | 6 => ("ByteIntervals$Parser", "into", "LByteIntervals$Text;", false)
  | 7 => ("ByteIntervals$Parser", "codeLength", "I", false)
  | 8 => ("ByteIntervals$Parser", "clauseKind", "I", false)
  | 9 => ("ByteIntervals$Parser", "open", "I", false)
  | 10 => ("ByteIntervals$Parser", "named", "I", false)
  | 11 => ("ByteIntervals$Parser", "swayed", "I", false)
  | 12 => ("ByteIntervals$Parser", "fault", "I", false)
  | _ => ("ByteIntervals$Parser", "faultPlace", "I", false)
def tyX1 : Nat → FieldType := fun k => match k with
  | 0 => .array .int
  | 1 => .array .int
  | 2 => .array .int
  | 3 => .int
  | 4 => .int
  | 5 => .int
  | 6 => .object "ByteIntervals$Text"
  | 7 => .int
  | 8 => .int
  | 9 => .int
  | 10 => .int
  | 11 => .int
  | 12 => .int
  | _ => .int
abbrev wsX10 : List Cond := u_ws RX1 TX1 14
theorem nmX1 : ∀ a, a < 14 → ∀ b, b < 14 → a ≠ b → (TX1 a).2.1 ≠ (TX1 b).2.1 := by decide +kernel
theorem tyX1_ok : ∀ k, k < 14 → parseFieldDescriptor (TX1 k).2.2.1 = some (tyX1 k) := by decide +kernel
abbrev cX1_init : ByteArray := prog_3_method_1_code
def yX1_init : MethodName := ⟨RX1, "<init>", "()V"⟩
abbrev cX1_parse : ByteArray := prog_3_method_2_code
def yX1_parse : MethodName := ⟨RX1, "parse", "([IILByteIntervals$Text;)I"⟩
abbrev cX1_fail : ByteArray := prog_3_method_3_code
def yX1_fail : MethodName := ⟨RX1, "fail", "(I)Z"⟩
abbrev cX1_isLetter : ByteArray := prog_3_method_4_code
def yX1_isLetter : MethodName := ⟨RX1, "isLetter", "(I)Z"⟩
abbrev cX1_isDigit : ByteArray := prog_3_method_5_code
def yX1_isDigit : MethodName := ⟨RX1, "isDigit", "(I)Z"⟩
abbrev cX1_split : ByteArray := prog_3_method_6_code
def yX1_split : MethodName := ⟨RX1, "split", "([II)V"⟩
abbrev cX1_put : ByteArray := prog_3_method_7_code
def yX1_put : MethodName := ⟨RX1, "put", "(III)V"⟩
abbrev cX1_signToken : ByteArray := prog_3_method_8_code
def yX1_signToken : MethodName := ⟨RX1, "signToken", "(I)I"⟩
abbrev cX1_wordToken : ByteArray := prog_3_method_9_code
def yX1_wordToken : MethodName := ⟨RX1, "wordToken", "([III)I"⟩
abbrev cX1_advance : ByteArray := prog_3_method_10_code
def yX1_advance : MethodName := ⟨RX1, "advance", "()Z"⟩
abbrev cX1_take : ByteArray := prog_3_method_11_code
def yX1_take : MethodName := ⟨RX1, "take", "(I)Z"⟩
abbrev cX1_numberHere : ByteArray := prog_3_method_12_code
def yX1_numberHere : MethodName := ⟨RX1, "numberHere", "()I"⟩
abbrev cX1_emit : ByteArray := prog_3_method_13_code
def yX1_emit : MethodName := ⟨RX1, "emit", "(II)I"⟩
abbrev cX1_readKind : ByteArray := prog_3_method_14_code
def yX1_readKind : MethodName := ⟨RX1, "readKind", "()Z"⟩
abbrev cX1_readRest : ByteArray := prog_3_method_15_code
def yX1_readRest : MethodName := ⟨RX1, "readRest", "(I)Z"⟩
abbrev cX1_readNumber : ByteArray := prog_3_method_16_code
def yX1_readNumber : MethodName := ⟨RX1, "readNumber", "(II[II)Z"⟩
abbrev cX1_readField : ByteArray := prog_3_method_17_code
def yX1_readField : MethodName := ⟨RX1, "readField", "()Z"⟩
abbrev cX1_readPart : ByteArray := prog_3_method_18_code
def yX1_readPart : MethodName := ⟨RX1, "readPart", "(I[II)Z"⟩
abbrev cX1_opens : ByteArray := prog_3_method_19_code
def yX1_opens : MethodName := ⟨RX1, "opens", "()Z"⟩
abbrev cX1_closes : ByteArray := prog_3_method_20_code
def yX1_closes : MethodName := ⟨RX1, "closes", "()Z"⟩
abbrev cX1_readSum : ByteArray := prog_3_method_21_code
def yX1_readSum : MethodName := ⟨RX1, "readSum", "()Z"⟩
abbrev cX1_readProduct : ByteArray := prog_3_method_22_code
def yX1_readProduct : MethodName := ⟨RX1, "readProduct", "()Z"⟩
abbrev cX1_readOne : ByteArray := prog_3_method_23_code
def yX1_readOne : MethodName := ⟨RX1, "readOne", "()Z"⟩
abbrev cX1_readIf : ByteArray := prog_3_method_24_code
def yX1_readIf : MethodName := ⟨RX1, "readIf", "()Z"⟩
abbrev cX1_aim : ByteArray := prog_3_method_25_code
def yX1_aim : MethodName := ⟨RX1, "aim", "(I)V"⟩
abbrev cX1_readName : ByteArray := prog_3_method_26_code
def yX1_readName : MethodName := ⟨RX1, "readName", "()Z"⟩
abbrev cX1_readEither : ByteArray := prog_3_method_27_code
def yX1_readEither : MethodName := ⟨RX1, "readEither", "()Z"⟩
abbrev cX1_readBoth : ByteArray := prog_3_method_28_code
def yX1_readBoth : MethodName := ⟨RX1, "readBoth", "()Z"⟩
abbrev cX1_readAsk : ByteArray := prog_3_method_29_code
def yX1_readAsk : MethodName := ⟨RX1, "readAsk", "()Z"⟩
abbrev cX1_comparisonHere : ByteArray := prog_3_method_30_code
def yX1_comparisonHere : MethodName := ⟨RX1, "comparisonHere", "()I"⟩
def RX2 : String := "ByteIntervals$Reader"
def TX2 : u_T := fun k => match k with
  | 0 => ("ByteIntervals$Reader", "stack", "[I", true)
  | 1 => ("ByteIntervals$Reader", "whole", "LByteIntervals$Reading;", true)
  | 2 => ("ByteIntervals$Reader", "nested", "LByteIntervals$Reading;", true)
  | 3 => ("ByteIntervals$Reader", "inmost", "LByteIntervals$Reading;", true)
  | 4 => ("ByteIntervals$Reader", "kept", "LByteIntervals$Reading;", true)
  | 5 => ("ByteIntervals$Reader", "mendedBytes", "[I", true)
  | 6 => ("ByteIntervals$Reader", "bytesBefore", "[I", true)
  | 7 => ("ByteIntervals$Reader", "bytes", "[I", false)
  | 8 => ("ByteIntervals$Reader", "deepest", "I", false)
  | 9 => ("ByteIntervals$Reader", "valuesOnly", "Z", false)
  | 10 => ("ByteIntervals$Reader", "peeked", "J", false)
  | 11 => ("ByteIntervals$Reader", "rotDay", "I", false)
  | 12 => ("ByteIntervals$Reader", "rotPlace", "I", false)
  | _ => ("ByteIntervals$Reader", "rotOld", "I", false)
def tyX2 : Nat → FieldType := fun k => match k with
  | 0 => .array .int
  | 1 => .object "ByteIntervals$Reading"
  | 2 => .object "ByteIntervals$Reading"
  | 3 => .object "ByteIntervals$Reading"
  | 4 => .object "ByteIntervals$Reading"
  | 5 => .array .int
  | 6 => .array .int
  | 7 => .array .int
  | 8 => .int
  | 9 => .boolean
  | 10 => .long
  | 11 => .int
  | 12 => .int
  | _ => .int
abbrev wsX20 : List Cond := u_ws RX2 TX2 14
theorem nmX2 : ∀ a, a < 14 → ∀ b, b < 14 → a ≠ b → (TX2 a).2.1 ≠ (TX2 b).2.1 := by decide +kernel
theorem tyX2_ok : ∀ k, k < 14 → parseFieldDescriptor (TX2 k).2.2.1 = some (tyX2 k) := by decide +kernel
abbrev cX2_init : ByteArray := prog_4_method_1_code
def yX2_init : MethodName := ⟨RX2, "<init>", "()V"⟩
abbrev cX2_readingAt : ByteArray := prog_4_method_2_code
def yX2_readingAt : MethodName := ⟨RX2, "readingAt", "(I)LByteIntervals$Reading;"⟩
abbrev cX2_readFile : ByteArray := prog_4_method_3_code
def yX2_readFile : MethodName := ⟨RX2, "readFile", "(LByteIntervals$Text;LByteIntervals$Moment;I)LByteIntervals$Reading;"⟩
abbrev cX2_readValues : ByteArray := prog_4_method_4_code
def yX2_readValues : MethodName := ⟨RX2, "readValues", "(LByteIntervals$Text;LByteIntervals$Moment;I)LByteIntervals$Reading;"⟩
abbrev cX2_readInside : ByteArray := prog_4_method_5_code
def yX2_readInside : MethodName := ⟨RX2, "readInside", "(LByteIntervals$Text;II)LByteIntervals$Reading;"⟩
abbrev cX2_isValid : ByteArray := prog_4_method_6_code
def yX2_isValid : MethodName := ⟨RX2, "isValid", "(LByteIntervals$Text;[II)Z"⟩
abbrev cX2_readFormat : ByteArray := prog_4_method_7_code
def yX2_readFormat : MethodName := ⟨RX2, "readFormat", "(LByteIntervals$Text;IIII)LByteIntervals$Reading;"⟩
abbrev cX2_readField : ByteArray := prog_4_method_8_code
def yX2_readField : MethodName := ⟨RX2, "readField", "(LByteIntervals$Text;LByteIntervals$Reading;I)V"⟩
abbrev cX2_know : ByteArray := prog_4_method_9_code
def yX2_know : MethodName := ⟨RX2, "know", "(LByteIntervals$Reading;IIII)V"⟩
abbrev cX2_readSummed : ByteArray := prog_4_method_10_code
def yX2_readSummed : MethodName := ⟨RX2, "readSummed", "(LByteIntervals$Reading;IIII)V"⟩
abbrev cX2_readNest : ByteArray := prog_4_method_11_code
def yX2_readNest : MethodName := ⟨RX2, "readNest", "(LByteIntervals$Text;LByteIntervals$Reading;III)V"⟩
abbrev cX2_askMusts : ByteArray := prog_4_method_12_code
def yX2_askMusts : MethodName := ⟨RX2, "askMusts", "(LByteIntervals$Text;LByteIntervals$Reading;)V"⟩
abbrev cX2_isShorter : ByteArray := prog_4_method_13_code
def yX2_isShorter : MethodName := ⟨RX2, "isShorter", "(LByteIntervals$Text;II)Z"⟩
abbrev cX2_mended : ByteArray := prog_4_method_14_code
def yX2_mended : MethodName := ⟨RX2, "mended", "(LByteIntervals$Text;LByteIntervals$Moment;)I"⟩
abbrev cX2_putSums : ByteArray := prog_4_method_15_code
def yX2_putSums : MethodName := ⟨RX2, "putSums", "(LByteIntervals$Text;)V"⟩
abbrev cX2_unlikeBytes : ByteArray := prog_4_method_16_code
def yX2_unlikeBytes : MethodName := ⟨RX2, "unlikeBytes", "([I)I"⟩
abbrev cX2_rots : ByteArray := prog_4_method_17_code
def yX2_rots : MethodName := ⟨RX2, "rots", "(LByteIntervals$Text;LByteIntervals$Moment;I)I"⟩
abbrev cX2_byteIn : ByteArray := prog_4_method_18_code
def yX2_byteIn : MethodName := ⟨RX2, "byteIn", "(LByteIntervals$Reading;I)I"⟩
abbrev cX2_answer : ByteArray := prog_4_method_19_code
def yX2_answer : MethodName := ⟨RX2, "answer", "(LByteIntervals$Text;ILByteIntervals$Reading;)I"⟩
abbrev cX2_leaf : ByteArray := prog_4_method_20_code
def yX2_leaf : MethodName := ⟨RX2, "leaf", "(IILByteIntervals$Reading;)I"⟩
abbrev cX2_ofOne : ByteArray := prog_4_method_21_code
def yX2_ofOne : MethodName := ⟨RX2, "ofOne", "(IILByteIntervals$Reading;)I"⟩
abbrev cX2_ofTwo : ByteArray := prog_4_method_22_code
def yX2_ofTwo : MethodName := ⟨RX2, "ofTwo", "(III)I"⟩
abbrev cX2_confined : ByteArray := prog_4_method_23_code
def yX2_confined : MethodName := ⟨RX2, "confined", "(J)I"⟩
abbrev cX2_compares : ByteArray := prog_4_method_24_code
def yX2_compares : MethodName := ⟨RX2, "compares", "(III)Z"⟩
def RX3 : String := "ByteIntervals$Reading"
def TX3 : u_T := fun k => match k with
  | 0 => ("ByteIntervals$Reading", "base", "I", false)
  | 1 => ("ByteIntervals$Reading", "size", "I", false)
  | 2 => ("ByteIntervals$Reading", "deep", "I", false)
  | 3 => ("ByteIntervals$Reading", "told", "I", false)
  | 4 => ("ByteIntervals$Reading", "broken", "I", false)
  | 5 => ("ByteIntervals$Reading", "wrong", "I", false)
  | 6 => ("ByteIntervals$Reading", "values", "[I", true)
  | 7 => ("ByteIntervals$Reading", "froms", "[I", true)
  | 8 => ("ByteIntervals$Reading", "tos", "[I", true)
  | 9 => ("ByteIntervals$Reading", "looks", "[J", true)
  | 10 => ("ByteIntervals$Reading", "unmet", "I", false)
  | _ => ("ByteIntervals$Reading", "mustLooks", "J", false)
def tyX3 : Nat → FieldType := fun k => match k with
  | 0 => .int
  | 1 => .int
  | 2 => .int
  | 3 => .int
  | 4 => .int
  | 5 => .int
  | 6 => .array .int
  | 7 => .array .int
  | 8 => .array .int
  | 9 => .array .long
  | 10 => .int
  | _ => .long
abbrev wsX30 : List Cond := u_ws RX3 TX3 12
theorem nmX3 : ∀ a, a < 12 → ∀ b, b < 12 → a ≠ b → (TX3 a).2.1 ≠ (TX3 b).2.1 := by decide +kernel
theorem tyX3_ok : ∀ k, k < 12 → parseFieldDescriptor (TX3 k).2.2.1 = some (tyX3 k) := by decide +kernel
abbrev cX3_init : ByteArray := prog_5_method_1_code
def yX3_init : MethodName := ⟨RX3, "<init>", "()V"⟩
abbrev cX3_begin : ByteArray := prog_5_method_2_code
def yX3_begin : MethodName := ⟨RX3, "begin", "(IIII)V"⟩
abbrev cX3_copy : ByteArray := prog_5_method_3_code
def yX3_copy : MethodName := ⟨RX3, "copy", "(LByteIntervals$Reading;)V"⟩
abbrev cX3_how : ByteArray := prog_5_method_4_code
def yX3_how : MethodName := ⟨RX3, "how", "(I)I"⟩
abbrev cX3_isSound : ByteArray := prog_5_method_5_code
def yX3_isSound : MethodName := ⟨RX3, "isSound", "()Z"⟩
abbrev cX3_isKnown : ByteArray := prog_5_method_6_code
def yX3_isKnown : MethodName := ⟨RX3, "isKnown", "(I)Z"⟩
abbrev cX3_has : ByteArray := prog_5_method_7_code
def yX3_has : MethodName := ⟨RX3, "has", "(II)Z"⟩
abbrev cX3_tell : ByteArray := prog_5_method_8_code
def yX3_tell : MethodName := ⟨RX3, "tell", "(II)I"⟩
abbrev cX3_covered : ByteArray := prog_5_method_9_code
def yX3_covered : MethodName := ⟨RX3, "covered", "(I)J"⟩
abbrev cX3_looksOf : ByteArray := prog_5_method_10_code
def yX3_looksOf : MethodName := ⟨RX3, "looksOf", "(I)J"⟩
abbrev cX3_likeFields : ByteArray := prog_5_method_11_code
def yX3_likeFields : MethodName := ⟨RX3, "likeFields", "(LByteIntervals$Reading;)I"⟩
def RX4 : String := "ByteIntervals$State"
def TX4 : u_T := fun k => match k with
  | 0 => ("ByteIntervals$State", "now", "LByteIntervals$Moment;", true)
  | 1 => ("ByteIntervals$State", "steps", "[LByteIntervals$Moment;", true)
  | 2 => ("ByteIntervals$State", "firstStep", "I", false)
  | 3 => ("ByteIntervals$State", "stepCount", "I", false)
  | 4 => ("ByteIntervals$State", "textCount", "I", false)
  | 5 => ("ByteIntervals$State", "ruling", "I", false)
  | 6 => ("ByteIntervals$State", "saidFields", "[I", true)
  | 7 => ("ByteIntervals$State", "saidValues", "[I", true)
  | _ => ("ByteIntervals$State", "saidCount", "I", false)
def tyX4 : Nat → FieldType := fun k => match k with
  | 0 => .object "ByteIntervals$Moment"
  | 1 => .array (.object "ByteIntervals$Moment")
  | 2 => .int
  | 3 => .int
  | 4 => .int
  | 5 => .int
  | 6 => .array .int
  | 7 => .array .int
  | _ => .int
abbrev wsX40 : List Cond := u_ws RX4 TX4 9
theorem nmX4 : ∀ a, a < 9 → ∀ b, b < 9 → a ≠ b → (TX4 a).2.1 ≠ (TX4 b).2.1 := by decide +kernel
theorem tyX4_ok : ∀ k, k < 9 → parseFieldDescriptor (TX4 k).2.2.1 = some (tyX4 k) := by decide +kernel
abbrev cX4_init : ByteArray := prog_6_method_1_code
def yX4_init : MethodName := ⟨RX4, "<init>", "()V"⟩
abbrev cX4_copy : ByteArray := prog_6_method_2_code
def yX4_copy : MethodName := ⟨RX4, "copy", "(LByteIntervals$State;)V"⟩
abbrev cX4_copyStep : ByteArray := prog_6_method_3_code
def yX4_copyStep : MethodName := ⟨RX4, "copyStep", "(LByteIntervals$Moment;LByteIntervals$Moment;)V"⟩
abbrev cX4_stepAt : ByteArray := prog_6_method_4_code
def yX4_stepAt : MethodName := ⟨RX4, "stepAt", "(I)LByteIntervals$Moment;"⟩
abbrev cX4_keepStep : ByteArray := prog_6_method_5_code
def yX4_keepStep : MethodName := ⟨RX4, "keepStep", "()V"⟩
abbrev cX4_takeBack : ByteArray := prog_6_method_6_code
def yX4_takeBack : MethodName := ⟨RX4, "takeBack", "()I"⟩
def RX5 : String := "ByteIntervals$Text"
def TX5 : u_T := fun k => match k with
  | 0 => ("ByteIntervals$Text", "clauses", "I", false)
  | 1 => ("ByteIntervals$Text", "clauseKinds", "[I", true)
  | 2 => ("ByteIntervals$Text", "first", "[I", true)
  | 3 => ("ByteIntervals$Text", "second", "[I", true)
  | 4 => ("ByteIntervals$Text", "code", "[I", true)
  | 5 => ("ByteIntervals$Text", "rotsCode", "I", false)
  | 6 => ("ByteIntervals$Text", "told", "I", false)
  | 7 => ("ByteIntervals$Text", "kinds", "[I", true)
  | 8 => ("ByteIntervals$Text", "atCode", "[I", true)
  | 9 => ("ByteIntervals$Text", "ofCode", "[I", true)
  | 10 => ("ByteIntervals$Text", "toCode", "[I", true)
  | 11 => ("ByteIntervals$Text", "hangs", "[I", true)
  | 12 => ("ByteIntervals$Text", "swayed", "[I", true)
  | 13 => ("ByteIntervals$Text", "sorted", "[I", true)
  | 14 => ("ByteIntervals$Text", "sortedCount", "I", false)
  | 15 => ("ByteIntervals$Text", "ringed", "I", false)
  | 16 => ("ByteIntervals$Text", "needed", "[I", true)
  | 17 => ("ByteIntervals$Text", "tellsSum", "Z", false)
  | 18 => ("ByteIntervals$Text", "sumNeeds", "I", false)
  | _ => ("ByteIntervals$Text", "nestNeeds", "I", false)
def tyX5 : Nat → FieldType := fun k => match k with
  | 0 => .int
  | 1 => .array .int
  | 2 => .array .int
  | 3 => .array .int
  | 4 => .array .int
  | 5 => .int
  | 6 => .int
  | 7 => .array .int
  | 8 => .array .int
  | 9 => .array .int
  | 10 => .array .int
  | 11 => .array .int
  | 12 => .array .int
  | 13 => .array .int
  | 14 => .int
  | 15 => .int
  | 16 => .array .int
  | 17 => .boolean
  | 18 => .int
  | _ => .int
abbrev wsX50 : List Cond := u_ws RX5 TX5 20
theorem nmX5 : ∀ a, a < 20 → ∀ b, b < 20 → a ≠ b → (TX5 a).2.1 ≠ (TX5 b).2.1 := by decide +kernel
theorem tyX5_ok : ∀ k, k < 20 → parseFieldDescriptor (TX5 k).2.2.1 = some (tyX5 k) := by decide +kernel
abbrev cX5_init : ByteArray := prog_7_method_1_code
def yX5_init : MethodName := ⟨RX5, "<init>", "()V"⟩
abbrev cX5_clear : ByteArray := prog_7_method_2_code
def yX5_clear : MethodName := ⟨RX5, "clear", "()V"⟩
abbrev cX5_tells : ByteArray := prog_7_method_3_code
def yX5_tells : MethodName := ⟨RX5, "tells", "(I)Z"⟩
abbrev cX5_sort : ByteArray := prog_7_method_4_code
def yX5_sort : MethodName := ⟨RX5, "sort", "()V"⟩
abbrev cX5_lowestReady : ByteArray := prog_7_method_5_code
def yX5_lowestReady : MethodName := ⟨RX5, "lowestReady", "(I)I"⟩
abbrev cX5_gatherNeeded : ByteArray := prog_7_method_6_code
def yX5_gatherNeeded : MethodName := ⟨RX5, "gatherNeeded", "()V"⟩
abbrev cX5_mostOf : ByteArray := prog_7_method_7_code
def yX5_mostOf : MethodName := ⟨RX5, "mostOf", "(I)I"⟩
def RX6 : String := "ByteIntervals"
def TX6 : u_T := fun k => match k with
  | 0 => ("ByteIntervals", "tape", "[I", true)
  | 1 => ("ByteIntervals", "tapeCount", "I", false)
  | 2 => ("ByteIntervals", "latestFault", "I", false)
  | 3 => ("ByteIntervals", "latestFaultPlace", "I", false)
  | 4 => ("ByteIntervals", "texts", "[LByteIntervals$Text;", true)
  | 5 => ("ByteIntervals", "state", "LByteIntervals$State;", true)
  | 6 => ("ByteIntervals", "imageState", "LByteIntervals$State;", true)
  | 7 => ("ByteIntervals", "trial", "LByteIntervals$Moment;", true)
  | 8 => ("ByteIntervals", "parser", "LByteIntervals$Parser;", true)
  | _ => ("ByteIntervals", "reader", "LByteIntervals$Reader;", true)
def tyX6 : Nat → FieldType := fun k => match k with
  | 0 => .array .int
  | 1 => .int
  | 2 => .int
  | 3 => .int
  | 4 => .array (.object "ByteIntervals$Text")
  | 5 => .object "ByteIntervals$State"
  | 6 => .object "ByteIntervals$State"
  | 7 => .object "ByteIntervals$Moment"
  | 8 => .object "ByteIntervals$Parser"
  | _ => .object "ByteIntervals$Reader"
abbrev wsX60 : List Cond := u_ws RX6 TX6 10
theorem nmX6 : ∀ a, a < 10 → ∀ b, b < 10 → a ≠ b → (TX6 a).2.1 ≠ (TX6 b).2.1 := by decide +kernel
theorem tyX6_ok : ∀ k, k < 10 → parseFieldDescriptor (TX6 k).2.2.1 = some (tyX6 k) := by decide +kernel
abbrev cX6_init : ByteArray := prog_1_method_1_code
def yX6_init : MethodName := ⟨RX6, "<init>", "()V"⟩
abbrev cX6_feed : ByteArray := prog_1_method_2_code
def yX6_feed : MethodName := ⟨RX6, "feed", "(IIIII)I"⟩
abbrev cX6_putOnTape : ByteArray := prog_1_method_3_code
def yX6_putOnTape : MethodName := ⟨RX6, "putOnTape", "(I)V"⟩
abbrev cX6_end : ByteArray := prog_1_method_4_code
def yX6_end : MethodName := ⟨RX6, "end", "(I)I"⟩
abbrev cX6_text : ByteArray := prog_1_method_5_code
def yX6_text : MethodName := ⟨RX6, "text", "()I"⟩
abbrev cX6_fault : ByteArray := prog_1_method_6_code
def yX6_fault : MethodName := ⟨RX6, "fault", "(I)I"⟩
abbrev cX6_textAt : ByteArray := prog_1_method_7_code
def yX6_textAt : MethodName := ⟨RX6, "textAt", "(I)LByteIntervals$Text;"⟩
abbrev cX6_theText : ByteArray := prog_1_method_8_code
def yX6_theText : MethodName := ⟨RX6, "theText", "()LByteIntervals$Text;"⟩
abbrev cX6_by : ByteArray := prog_1_method_9_code
def yX6_by : MethodName := ⟨RX6, "by", "(I)Z"⟩
abbrev cX6_set : ByteArray := prog_1_method_10_code
def yX6_set : MethodName := ⟨RX6, "set", "(II)Z"⟩
abbrev cX6_size : ByteArray := prog_1_method_11_code
def yX6_size : MethodName := ⟨RX6, "size", "(I)Z"⟩
abbrev cX6_mend : ByteArray := prog_1_method_12_code
def yX6_mend : MethodName := ⟨RX6, "mend", "()I"⟩
abbrev cX6_day : ByteArray := prog_1_method_13_code
def yX6_day : MethodName := ⟨RX6, "day", "(I)I"⟩
abbrev cX6_passDays : ByteArray := prog_1_method_14_code
def yX6_passDays : MethodName := ⟨RX6, "passDays", "(I)I"⟩
abbrev cX6_passDay : ByteArray := prog_1_method_15_code
def yX6_passDay : MethodName := ⟨RX6, "passDay", "(LByteIntervals$Moment;)Z"⟩
abbrev cX6_played : ByteArray := prog_1_method_16_code
def yX6_played : MethodName := ⟨RX6, "played", "(I)I"⟩
abbrev cX6_years : ByteArray := prog_1_method_17_code
def yX6_years : MethodName := ⟨RX6, "years", "(II)I"⟩
abbrev cX6_passYear : ByteArray := prog_1_method_18_code
def yX6_passYear : MethodName := ⟨RX6, "passYear", "(LByteIntervals$Moment;I)V"⟩
abbrev cX6_undo : ByteArray := prog_1_method_19_code
def yX6_undo : MethodName := ⟨RX6, "undo", "()I"⟩
abbrev cX6_at : ByteArray := prog_1_method_20_code
def yX6_at : MethodName := ⟨RX6, "at", "(I)I"⟩
abbrev cX6_is : ByteArray := prog_1_method_21_code
def yX6_is : MethodName := ⟨RX6, "is", "(I)I"⟩
abbrev cX6_book : ByteArray := prog_1_method_22_code
def yX6_book : MethodName := ⟨RX6, "book", "(II)I"⟩
abbrev cX6_foretold : ByteArray := prog_1_method_23_code
def yX6_foretold : MethodName := ⟨RX6, "foretold", "(II)I"⟩
abbrev cX6_number : ByteArray := prog_1_method_24_code
def yX6_number : MethodName := ⟨RX6, "number", "(II)I"⟩
abbrev cX6_sum : ByteArray := prog_1_method_25_code
def yX6_sum : MethodName := ⟨RX6, "sum", "(II)I"⟩
abbrev cX6_find : ByteArray := prog_1_method_26_code
def yX6_find : MethodName := ⟨RX6, "find", "(II)I"⟩
abbrev cX6_run : ByteArray := prog_1_method_27_code
def yX6_run : MethodName := ⟨RX6, "run", "()I"⟩
abbrev cX6_ledger : ByteArray := prog_1_method_28_code
def yX6_ledger : MethodName := ⟨RX6, "ledger", "(I)I"⟩
abbrev cX6_valid : ByteArray := prog_1_method_29_code
def yX6_valid : MethodName := ⟨RX6, "valid", "(I)Z"⟩
abbrev cX6_field : ByteArray := prog_1_method_30_code
def yX6_field : MethodName := ⟨RX6, "field", "(III)I"⟩
abbrev cX6_inside : ByteArray := prog_1_method_31_code
def yX6_inside : MethodName := ⟨RX6, "inside", "(IIII)I"⟩
abbrev cX6_order : ByteArray := prog_1_method_32_code
def yX6_order : MethodName := ⟨RX6, "order", "(II)I"⟩
abbrev cX6_ring : ByteArray := prog_1_method_33_code
def yX6_ring : MethodName := ⟨RX6, "ring", "(I)I"⟩
abbrev cX6_overlap : ByteArray := prog_1_method_34_code
def yX6_overlap : MethodName := ⟨RX6, "overlap", "(II)I"⟩
abbrev cX6_loose : ByteArray := prog_1_method_35_code
def yX6_loose : MethodName := ⟨RX6, "loose", "(I)J"⟩
abbrev cX6_needs : ByteArray := prog_1_method_36_code
def yX6_needs : MethodName := ⟨RX6, "needs", "(II)J"⟩
abbrev cX6_flips : ByteArray := prog_1_method_37_code
def yX6_flips : MethodName := ⟨RX6, "flips", "(II)I"⟩
abbrev cX6_sure : ByteArray := prog_1_method_38_code
def yX6_sure : MethodName := ⟨RX6, "sure", "(II)Z"⟩
abbrev cX6_least : ByteArray := prog_1_method_39_code
def yX6_least : MethodName := ⟨RX6, "least", "(I)I"⟩
abbrev cX6_make : ByteArray := prog_1_method_40_code
def yX6_make : MethodName := ⟨RX6, "make", "(III)I"⟩
abbrev cX6_madeAt : ByteArray := prog_1_method_41_code
def yX6_madeAt : MethodName := ⟨RX6, "madeAt", "(LByteIntervals$Text;III)I"⟩
abbrev cX6_alike : ByteArray := prog_1_method_42_code
def yX6_alike : MethodName := ⟨RX6, "alike", "(II)I"⟩
abbrev cX6_must : ByteArray := prog_1_method_43_code
def yX6_must : MethodName := ⟨RX6, "must", "(I)I"⟩
abbrev cX6_deep : ByteArray := prog_1_method_44_code
def yX6_deep : MethodName := ⟨RX6, "deep", "(I)I"⟩
abbrev cX6_kind : ByteArray := prog_1_method_45_code
def yX6_kind : MethodName := ⟨RX6, "kind", "(II)I"⟩
abbrev cX6_said : ByteArray := prog_1_method_46_code
def yX6_said : MethodName := ⟨RX6, "said", "(II)I"⟩
abbrev cX6_whose : ByteArray := prog_1_method_47_code
def yX6_whose : MethodName := ⟨RX6, "whose", "()I"⟩
abbrev cX6_allSaidIsSo : ByteArray := prog_1_method_48_code
def yX6_allSaidIsSo : MethodName := ⟨RX6, "allSaidIsSo", "(LByteIntervals$Text;)Z"⟩
abbrev cX6_image : ByteArray := prog_1_method_49_code
def yX6_image : MethodName := ⟨RX6, "image", "()I"⟩
abbrev cX6_back : ByteArray := prog_1_method_50_code
def yX6_back : MethodName := ⟨RX6, "back", "()I"⟩
abbrev cX6_about : ByteArray := prog_1_method_51_code
def yX6_about : MethodName := ⟨RX6, "about", "(I)I"⟩
abbrev cX6_isField : ByteArray := prog_1_method_52_code
def yX6_isField : MethodName := ⟨RX6, "isField", "(I)Z"⟩
abbrev cX6_hasBit : ByteArray := prog_1_method_53_code
def yX6_hasBit : MethodName := ⟨RX6, "hasBit", "(II)Z"⟩
abbrev cX6_span : ByteArray := prog_1_method_54_code
def yX6_span : MethodName := ⟨RX6, "span", "(II)J"⟩
abbrev cX6_asNumber : ByteArray := prog_1_method_55_code
def yX6_asNumber : MethodName := ⟨RX6, "asNumber", "([III)I"⟩
def RX7 : String := "ByteIntervalsModel"
def TX7 : u_T := fun k => match k with
  | 0 => ("ByteIntervalsModel", "a", "[I", true)
  | 1 => ("ByteIntervalsModel", "image", "[I", true)
  | 2 => ("ByteIntervalsModel", "texts", "[I", true)
  | 3 => ("ByteIntervalsModel", "tape", "[I", true)
  | 4 => ("ByteIntervalsModel", "taped", "I", false)
  | 5 => ("ByteIntervalsModel", "fault", "I", false)
  | 6 => ("ByteIntervalsModel", "faultPlace", "I", false)
  | 7 => ("ByteIntervalsModel", "cursor", "I", false)
  | 8 => ("ByteIntervalsModel", "place", "I", false)
  | 9 => ("ByteIntervalsModel", "token", "I", false)
  | 10 => ("ByteIntervalsModel", "figures", "I", false)
  | 11 => ("ByteIntervalsModel", "word", "J", false)
  | 12 => ("ByteIntervalsModel", "text0", "I", false)
  | 13 => ("ByteIntervalsModel", "written", "I", false)
  | 14 => ("ByteIntervalsModel", "sort0", "I", false)
  | 15 => ("ByteIntervalsModel", "pile", "[I", true)
  | 16 => ("ByteIntervalsModel", "piled", "I", false)
  | 17 => ("ByteIntervalsModel", "opens", "I", false)
  | 18 => ("ByteIntervalsModel", "isWhole", "Z", false)
  | 19 => ("ByteIntervalsModel", "hasRots", "Z", false)
  | 20 => ("ByteIntervalsModel", "told0", "I", false)
  | 21 => ("ByteIntervalsModel", "named", "[I", true)
  | 22 => ("ByteIntervalsModel", "nowBase", "I", false)
  | 23 => ("ByteIntervalsModel", "nowLong", "I", false)
  | 24 => ("ByteIntervalsModel", "values", "[J", true)
  | 25 => ("ByteIntervalsModel", "looks", "[J", true)
  | 26 => ("ByteIntervalsModel", "truth", "[Z", true)
  | 27 => ("ByteIntervalsModel", "truthLooks", "[J", true)
  | 28 => ("ByteIntervalsModel", "clauseOf", "[I", true)
  | 29 => ("ByteIntervalsModel", "hangs", "[I", true)
  | 30 => ("ByteIntervalsModel", "row", "[I", true)
  | 31 => ("ByteIntervalsModel", "rowMany", "I", false)
  | 32 => ("ByteIntervalsModel", "toldFields", "I", false)
  | 33 => ("ByteIntervalsModel", "ringFields", "I", false)
  | 34 => ("ByteIntervalsModel", "base", "[I", true)
  | 35 => ("ByteIntervalsModel", "longs", "[I", true)
  | 36 => ("ByteIntervalsModel", "next", "[I", true)
  | 37 => ("ByteIntervalsModel", "levelLooks", "[J", true)
  | 38 => ("ByteIntervalsModel", "value", "[I", true)
  | 39 => ("ByteIntervalsModel", "from", "[I", true)
  | 40 => ("ByteIntervalsModel", "to", "[I", true)
  | 41 => ("ByteIntervalsModel", "how", "[I", true)
  | 42 => ("ByteIntervalsModel", "own", "[J", true)
  | 43 => ("ByteIntervalsModel", "level", "I", false)
  | 44 => ("ByteIntervalsModel", "deepest", "I", false)
  | 45 => ("ByteIntervalsModel", "mustFirst", "I", false)
  | 46 => ("ByteIntervalsModel", "isMust", "Z", false)
  | 47 => ("ByteIntervalsModel", "textNow", "I", false)
  | 48 => ("ByteIntervalsModel", "aside", "[I", true)
  | 49 => ("ByteIntervalsModel", "round", "[I", true)
  | 50 => ("ByteIntervalsModel", "isWritten", "Z", false)
  | 51 => ("ByteIntervalsModel", "rotted", "I", false)
  | 52 => ("ByteIntervalsModel", "kept", "[I", true)
  | 53 => ("ByteIntervalsModel", "valueWas", "[I", true)
  | _ => ("ByteIntervalsModel", "howWas", "[I", true)
def tyX7 : Nat → FieldType := fun k => match k with
  | 0 => .array .int
  | 1 => .array .int
  | 2 => .array .int
  | 3 => .array .int
  | 4 => .int
  | 5 => .int
  | 6 => .int
  | 7 => .int
  | 8 => .int
  | 9 => .int
  | 10 => .int
  | 11 => .long
  | 12 => .int
  | 13 => .int
  | 14 => .int
  | 15 => .array .int
  | 16 => .int
  | 17 => .int
  | 18 => .boolean
  | 19 => .boolean
  | 20 => .int
  | 21 => .array .int
  | 22 => .int
  | 23 => .int
  | 24 => .array .long
  | 25 => .array .long
  | 26 => .array .boolean
  | 27 => .array .long
  | 28 => .array .int
  | 29 => .array .int
  | 30 => .array .int
  | 31 => .int
  | 32 => .int
  | 33 => .int
  | 34 => .array .int
  | 35 => .array .int
  | 36 => .array .int
  | 37 => .array .long
  | 38 => .array .int
  | 39 => .array .int
  | 40 => .array .int
  | 41 => .array .int
  | 42 => .array .long
  | 43 => .int
  | 44 => .int
  | 45 => .int
  | 46 => .boolean
  | 47 => .int
  | 48 => .array .int
  | 49 => .array .int
  | 50 => .boolean
  | 51 => .int
  | 52 => .array .int
  | 53 => .array .int
  | _ => .array .int
abbrev wsX70 : List Cond := u_ws RX7 TX7 55
theorem nmX7 : ∀ a, a < 55 → ∀ b, b < 55 → a ≠ b → (TX7 a).2.1 ≠ (TX7 b).2.1 := by decide +kernel
theorem tyX7_ok : ∀ k, k < 55 → parseFieldDescriptor (TX7 k).2.2.1 = some (tyX7 k) := by decide +kernel
abbrev cX7_init : ByteArray := prog_9_method_1_code
def yX7_init : MethodName := ⟨RX7, "<init>", "()V"⟩
abbrev cX7_copy : ByteArray := prog_9_method_2_code
def yX7_copy : MethodName := ⟨RX7, "copy", "([I[I)V"⟩
abbrev cX7_isIn : ByteArray := prog_9_method_3_code
def yX7_isIn : MethodName := ⟨RX7, "isIn", "(III)Z"⟩
abbrev cX7_held : ByteArray := prog_9_method_4_code
def yX7_held : MethodName := ⟨RX7, "held", "(JII)I"⟩
abbrev cX7_has : ByteArray := prog_9_method_5_code
def yX7_has : MethodName := ⟨RX7, "has", "(II)Z"⟩
abbrev cX7_isField : ByteArray := prog_9_method_7_code
def yX7_isField : MethodName := ⟨RX7, "isField", "(I)Z"⟩
abbrev cX7_isPlace : ByteArray := prog_9_method_8_code
def yX7_isPlace : MethodName := ⟨RX7, "isPlace", "(I)Z"⟩
abbrev cX7_isText : ByteArray := prog_9_method_9_code
def yX7_isText : MethodName := ⟨RX7, "isText", "(I)Z"⟩
abbrev cX7_four : ByteArray := prog_9_method_10_code
def yX7_four : MethodName := ⟨RX7, "four", "(I)V"⟩
abbrev cX7_feed : ByteArray := prog_9_method_11_code
def yX7_feed : MethodName := ⟨RX7, "feed", "(IIIII)I"⟩
abbrev cX7_end : ByteArray := prog_9_method_12_code
def yX7_end : MethodName := ⟨RX7, "end", "(I)I"⟩
abbrev cX7_byteAt : ByteArray := prog_9_method_13_code
def yX7_byteAt : MethodName := ⟨RX7, "byteAt", "(I)I"⟩
abbrev cX7_isLetterByte : ByteArray := prog_9_method_14_code
def yX7_isLetterByte : MethodName := ⟨RX7, "isLetterByte", "(I)Z"⟩
abbrev cX7_isFigure : ByteArray := prog_9_method_15_code
def yX7_isFigure : MethodName := ⟨RX7, "isFigure", "(I)Z"⟩
abbrev cX7_isSign : ByteArray := prog_9_method_16_code
def yX7_isSign : MethodName := ⟨RX7, "isSign", "(I)Z"⟩
abbrev cX7_nextToken : ByteArray := prog_9_method_17_code
def yX7_nextToken : MethodName := ⟨RX7, "nextToken", "()V"⟩
abbrev cX7_w2 : ByteArray := prog_9_method_18_code
def yX7_w2 : MethodName := ⟨RX7, "w2", "(II)J"⟩
abbrev cX7_w3 : ByteArray := prog_9_method_19_code
def yX7_w3 : MethodName := ⟨RX7, "w3", "(III)J"⟩
abbrev cX7_w4 : ByteArray := prog_9_method_20_code
def yX7_w4 : MethodName := ⟨RX7, "w4", "(IIII)J"⟩
abbrev cX7_w5 : ByteArray := prog_9_method_21_code
def yX7_w5 : MethodName := ⟨RX7, "w5", "(IIIII)J"⟩
abbrev cX7_isWord : ByteArray := prog_9_method_23_code
def yX7_isWord : MethodName := ⟨RX7, "isWord", "(J)Z"⟩
abbrev cX7_emit : ByteArray := prog_9_method_24_code
def yX7_emit : MethodName := ⟨RX7, "emit", "(II)V"⟩
abbrev cX7_fieldNamed : ByteArray := prog_9_method_25_code
def yX7_fieldNamed : MethodName := ⟨RX7, "fieldNamed", "()I"⟩
abbrev cX7_nameOf : ByteArray := prog_9_method_26_code
def yX7_nameOf : MethodName := ⟨RX7, "nameOf", "()I"⟩
abbrev cX7_isOf : ByteArray := prog_9_method_27_code
def yX7_isOf : MethodName := ⟨RX7, "isOf", "(I)Z"⟩
abbrev cX7_rank : ByteArray := prog_9_method_28_code
def yX7_rank : MethodName := ⟨RX7, "rank", "(I)I"⟩
abbrev cX7_settle : ByteArray := prog_9_method_29_code
def yX7_settle : MethodName := ⟨RX7, "settle", "(I)V"⟩
abbrev cX7_openAt : ByteArray := prog_9_method_30_code
def yX7_openAt : MethodName := ⟨RX7, "openAt", "()I"⟩
abbrev cX7_openNow : ByteArray := prog_9_method_31_code
def yX7_openNow : MethodName := ⟨RX7, "openNow", "()I"⟩
abbrev cX7_isCompared : ByteArray := prog_9_method_32_code
def yX7_isCompared : MethodName := ⟨RX7, "isCompared", "()Z"⟩
abbrev cX7_isAsk : ByteArray := prog_9_method_33_code
def yX7_isAsk : MethodName := ⟨RX7, "isAsk", "(I)Z"⟩
abbrev cX7_isAskAhead : ByteArray := prog_9_method_34_code
def yX7_isAskAhead : MethodName := ⟨RX7, "isAskAhead", "()Z"⟩
abbrev cX7_opened : ByteArray := prog_9_method_35_code
def yX7_opened : MethodName := ⟨RX7, "opened", "(I)I"⟩
abbrev cX7_beginOne : ByteArray := prog_9_method_36_code
def yX7_beginOne : MethodName := ⟨RX7, "beginOne", "()I"⟩
abbrev cX7_compareOf : ByteArray := prog_9_method_37_code
def yX7_compareOf : MethodName := ⟨RX7, "compareOf", "()I"⟩
abbrev cX7_betweenOf : ByteArray := prog_9_method_38_code
def yX7_betweenOf : MethodName := ⟨RX7, "betweenOf", "()I"⟩
abbrev cX7_partOf : ByteArray := prog_9_method_39_code
def yX7_partOf : MethodName := ⟨RX7, "partOf", "(I)I"⟩
abbrev cX7_behindOne : ByteArray := prog_9_method_40_code
def yX7_behindOne : MethodName := ⟨RX7, "behindOne", "()Z"⟩
abbrev cX7_summed : ByteArray := prog_9_method_41_code
def yX7_summed : MethodName := ⟨RX7, "summed", "()I"⟩
abbrev cX7_all : ByteArray := prog_9_method_42_code
def yX7_all : MethodName := ⟨RX7, "all", "(I)I"⟩
abbrev cX7_figure : ByteArray := prog_9_method_43_code
def yX7_figure : MethodName := ⟨RX7, "figure", "(III)I"⟩
abbrev cX7_sumClause : ByteArray := prog_9_method_44_code
def yX7_sumClause : MethodName := ⟨RX7, "sumClause", "(II)I"⟩
abbrev cX7_furtherSum : ByteArray := prog_9_method_45_code
def yX7_furtherSum : MethodName := ⟨RX7, "furtherSum", "(IIJ)I"⟩
abbrev cX7_mustClause : ByteArray := prog_9_method_46_code
def yX7_mustClause : MethodName := ⟨RX7, "mustClause", "(I)I"⟩
abbrev cX7_fieldClause : ByteArray := prog_9_method_47_code
def yX7_fieldClause : MethodName := ⟨RX7, "fieldClause", "(II)I"⟩
abbrev cX7_setClause : ByteArray := prog_9_method_48_code
def yX7_setClause : MethodName := ⟨RX7, "setClause", "(I)I"⟩
abbrev cX7_body : ByteArray := prog_9_method_49_code
def yX7_body : MethodName := ⟨RX7, "body", "(II)I"⟩
abbrev cX7_sortOf : ByteArray := prog_9_method_50_code
def yX7_sortOf : MethodName := ⟨RX7, "sortOf", "()I"⟩
abbrev cX7_clause : ByteArray := prog_9_method_51_code
def yX7_clause : MethodName := ⟨RX7, "clause", "()I"⟩
abbrev cX7_readText : ByteArray := prog_9_method_52_code
def yX7_readText : MethodName := ⟨RX7, "readText", "()I"⟩
abbrev cX7_text : ByteArray := prog_9_method_53_code
def yX7_text : MethodName := ⟨RX7, "text", "()I"⟩
abbrev cX7_fault : ByteArray := prog_9_method_54_code
def yX7_fault : MethodName := ⟨RX7, "fault", "(I)I"⟩
abbrev cX7_by : ByteArray := prog_9_method_55_code
def yX7_by : MethodName := ⟨RX7, "by", "(I)Z"⟩
abbrev cX7_clip : ByteArray := prog_9_method_56_code
def yX7_clip : MethodName := ⟨RX7, "clip", "(J)J"⟩
abbrev cX7_two : ByteArray := prog_9_method_57_code
def yX7_two : MethodName := ⟨RX7, "two", "(IJJ)J"⟩
abbrev cX7_isAsked : ByteArray := prog_9_method_58_code
def yX7_isAsked : MethodName := ⟨RX7, "isAsked", "(IJJ)Z"⟩
abbrev cX7_joined : ByteArray := prog_9_method_59_code
def yX7_joined : MethodName := ⟨RX7, "joined", "(IZZ)Z"⟩
abbrev cX7_isInside : ByteArray := prog_9_method_60_code
def yX7_isInside : MethodName := ⟨RX7, "isInside", "(J)Z"⟩
abbrev cX7_ofOne : ByteArray := prog_9_method_61_code
def yX7_ofOne : MethodName := ⟨RX7, "ofOne", "(II)V"⟩
abbrev cX7_work : ByteArray := prog_9_method_62_code
def yX7_work : MethodName := ⟨RX7, "work", "(III)V"⟩
abbrev cX7_clauses : ByteArray := prog_9_method_63_code
def yX7_clauses : MethodName := ⟨RX7, "clauses", "(I)I"⟩
abbrev cX7_clauseAt : ByteArray := prog_9_method_64_code
def yX7_clauseAt : MethodName := ⟨RX7, "clauseAt", "(II)I"⟩
abbrev cX7_sumOf : ByteArray := prog_9_method_65_code
def yX7_sumOf : MethodName := ⟨RX7, "sumOf", "(III)J"⟩
abbrev cX7_rotsNow : ByteArray := prog_9_method_66_code
def yX7_rotsNow : MethodName := ⟨RX7, "rotsNow", "(I)I"⟩
abbrev cX7_namesIn : ByteArray := prog_9_method_67_code
def yX7_namesIn : MethodName := ⟨RX7, "namesIn", "(II)I"⟩
abbrev cX7_sumsOf : ByteArray := prog_9_method_68_code
def yX7_sumsOf : MethodName := ⟨RX7, "sumsOf", "(I)I"⟩
abbrev cX7_namesOf : ByteArray := prog_9_method_69_code
def yX7_namesOf : MethodName := ⟨RX7, "namesOf", "(II)I"⟩
abbrev cX7_layOrder : ByteArray := prog_9_method_70_code
def yX7_layOrder : MethodName := ⟨RX7, "layOrder", "(I)V"⟩
abbrev cX7_beginLevel : ByteArray := prog_9_method_71_code
def yX7_beginLevel : MethodName := ⟨RX7, "beginLevel", "(III)V"⟩
abbrev cX7_nameLevel : ByteArray := prog_9_method_72_code
def yX7_nameLevel : MethodName := ⟨RX7, "nameLevel", "()V"⟩
abbrev cX7_isAnyBroken : ByteArray := prog_9_method_73_code
def yX7_isAnyBroken : MethodName := ⟨RX7, "isAnyBroken", "(I)Z"⟩
abbrev cX7_isWithin : ByteArray := prog_9_method_74_code
def yX7_isWithin : MethodName := ⟨RX7, "isWithin", "(JJI)Z"⟩
abbrev cX7_numberFrom : ByteArray := prog_9_method_75_code
def yX7_numberFrom : MethodName := ⟨RX7, "numberFrom", "(II)I"⟩
abbrev cX7_bytesFrom : ByteArray := prog_9_method_76_code
def yX7_bytesFrom : MethodName := ⟨RX7, "bytesFrom", "(II)I"⟩
abbrev cX7_bitsFrom : ByteArray := prog_9_method_77_code
def yX7_bitsFrom : MethodName := ⟨RX7, "bitsFrom", "(II)J"⟩
abbrev cX7_settleField : ByteArray := prog_9_method_78_code
def yX7_settleField : MethodName := ⟨RX7, "settleField", "(IIIII)V"⟩
abbrev cX7_readNum : ByteArray := prog_9_method_79_code
def yX7_readNum : MethodName := ⟨RX7, "readNum", "(II)V"⟩
abbrev cX7_readSum : ByteArray := prog_9_method_80_code
def yX7_readSum : MethodName := ⟨RX7, "readSum", "(II)V"⟩
abbrev cX7_isNestBegun : ByteArray := prog_9_method_81_code
def yX7_isNestBegun : MethodName := ⟨RX7, "isNestBegun", "(II)Z"⟩
abbrev cX7_readMusts : ByteArray := prog_9_method_82_code
def yX7_readMusts : MethodName := ⟨RX7, "readMusts", "(I)V"⟩
abbrev cX7_endLevel : ByteArray := prog_9_method_83_code
def yX7_endLevel : MethodName := ⟨RX7, "endLevel", "()V"⟩
abbrev cX7_readField : ByteArray := prog_9_method_84_code
def yX7_readField : MethodName := ⟨RX7, "readField", "(I)Z"⟩
abbrev cX7_readBy : ByteArray := prog_9_method_85_code
def yX7_readBy : MethodName := ⟨RX7, "readBy", "(I)V"⟩
abbrev cX7_read : ByteArray := prog_9_method_86_code
def yX7_read : MethodName := ⟨RX7, "read", "(I)V"⟩
abbrev cX7_isValidNow : ByteArray := prog_9_method_87_code
def yX7_isValidNow : MethodName := ⟨RX7, "isValidNow", "()Z"⟩
abbrev cX7_putAside : ByteArray := prog_9_method_88_code
def yX7_putAside : MethodName := ⟨RX7, "putAside", "()V"⟩
abbrev cX7_bringBack : ByteArray := prog_9_method_89_code
def yX7_bringBack : MethodName := ⟨RX7, "bringBack", "()V"⟩
abbrev cX7_mendRound : ByteArray := prog_9_method_90_code
def yX7_mendRound : MethodName := ⟨RX7, "mendRound", "(I)Z"⟩
abbrev cX7_hasSum : ByteArray := prog_9_method_91_code
def yX7_hasSum : MethodName := ⟨RX7, "hasSum", "(I)Z"⟩
abbrev cX7_mendNow : ByteArray := prog_9_method_92_code
def yX7_mendNow : MethodName := ⟨RX7, "mendNow", "(I)I"⟩
abbrev cX7_write : ByteArray := prog_9_method_93_code
def yX7_write : MethodName := ⟨RX7, "write", "(III)V"⟩
abbrev cX7_drawnBy : ByteArray := prog_9_method_94_code
def yX7_drawnBy : MethodName := ⟨RX7, "drawnBy", "(I)I"⟩
abbrev cX7_anew : ByteArray := prog_9_method_95_code
def yX7_anew : MethodName := ⟨RX7, "anew", "()V"⟩
abbrev cX7_canSet : ByteArray := prog_9_method_96_code
def yX7_canSet : MethodName := ⟨RX7, "canSet", "(II)Z"⟩
abbrev cX7_setNow : ByteArray := prog_9_method_97_code
def yX7_setNow : MethodName := ⟨RX7, "setNow", "(II)V"⟩
abbrev cX7_canSize : ByteArray := prog_9_method_98_code
def yX7_canSize : MethodName := ⟨RX7, "canSize", "(I)Z"⟩
abbrev cX7_cutTo : ByteArray := prog_9_method_99_code
def yX7_cutTo : MethodName := ⟨RX7, "cutTo", "(I)V"⟩
abbrev cX7_sizeNow : ByteArray := prog_9_method_100_code
def yX7_sizeNow : MethodName := ⟨RX7, "sizeNow", "(I)V"⟩
abbrev cX7_pass : ByteArray := prog_9_method_101_code
def yX7_pass : MethodName := ⟨RX7, "pass", "()V"⟩
abbrev cX7_keep : ByteArray := prog_9_method_102_code
def yX7_keep : MethodName := ⟨RX7, "keep", "()V"⟩
abbrev cX7_undo : ByteArray := prog_9_method_103_code
def yX7_undo : MethodName := ⟨RX7, "undo", "()I"⟩
abbrev cX7_set : ByteArray := prog_9_method_104_code
def yX7_set : MethodName := ⟨RX7, "set", "(II)Z"⟩
abbrev cX7_size : ByteArray := prog_9_method_105_code
def yX7_size : MethodName := ⟨RX7, "size", "(I)Z"⟩
abbrev cX7_mend : ByteArray := prog_9_method_106_code
def yX7_mend : MethodName := ⟨RX7, "mend", "()I"⟩
abbrev cX7_arePassed : ByteArray := prog_9_method_107_code
def yX7_arePassed : MethodName := ⟨RX7, "arePassed", "(I)Z"⟩
abbrev cX7_day : ByteArray := prog_9_method_108_code
def yX7_day : MethodName := ⟨RX7, "day", "(I)I"⟩
abbrev cX7_isPlayed : ByteArray := prog_9_method_109_code
def yX7_isPlayed : MethodName := ⟨RX7, "isPlayed", "(I)Z"⟩
abbrev cX7_played : ByteArray := prog_9_method_110_code
def yX7_played : MethodName := ⟨RX7, "played", "(I)I"⟩
abbrev cX7_happens : ByteArray := prog_9_method_111_code
def yX7_happens : MethodName := ⟨RX7, "happens", "(I)V"⟩
abbrev cX7_years : ByteArray := prog_9_method_112_code
def yX7_years : MethodName := ⟨RX7, "years", "(II)I"⟩
abbrev cX7_at : ByteArray := prog_9_method_113_code
def yX7_at : MethodName := ⟨RX7, "at", "(I)I"⟩
abbrev cX7_is : ByteArray := prog_9_method_114_code
def yX7_is : MethodName := ⟨RX7, "is", "(I)I"⟩
abbrev cX7_lineOf : ByteArray := prog_9_method_115_code
def yX7_lineOf : MethodName := ⟨RX7, "lineOf", "(II)I"⟩
abbrev cX7_book : ByteArray := prog_9_method_116_code
def yX7_book : MethodName := ⟨RX7, "book", "(II)I"⟩
abbrev cX7_ledger : ByteArray := prog_9_method_117_code
def yX7_ledger : MethodName := ⟨RX7, "ledger", "(I)I"⟩
abbrev cX7_foretold : ByteArray := prog_9_method_118_code
def yX7_foretold : MethodName := ⟨RX7, "foretold", "(II)I"⟩
abbrev cX7_valid : ByteArray := prog_9_method_119_code
def yX7_valid : MethodName := ⟨RX7, "valid", "(I)Z"⟩
abbrev cX7_toldOf : ByteArray := prog_9_method_120_code
def yX7_toldOf : MethodName := ⟨RX7, "toldOf", "(II)I"⟩
abbrev cX7_field : ByteArray := prog_9_method_121_code
def yX7_field : MethodName := ⟨RX7, "field", "(III)I"⟩
abbrev cX7_sortOfField : ByteArray := prog_9_method_122_code
def yX7_sortOfField : MethodName := ⟨RX7, "sortOfField", "(II)I"⟩
abbrev cX7_inside : ByteArray := prog_9_method_123_code
def yX7_inside : MethodName := ⟨RX7, "inside", "(IIII)I"⟩
abbrev cX7_readUpTo : ByteArray := prog_9_method_124_code
def yX7_readUpTo : MethodName := ⟨RX7, "readUpTo", "(II)V"⟩
abbrev cX7_order : ByteArray := prog_9_method_125_code
def yX7_order : MethodName := ⟨RX7, "order", "(II)I"⟩
abbrev cX7_ring : ByteArray := prog_9_method_126_code
def yX7_ring : MethodName := ⟨RX7, "ring", "(I)I"⟩
abbrev cX7_isHeld : ByteArray := prog_9_method_127_code
def yX7_isHeld : MethodName := ⟨RX7, "isHeld", "(I)Z"⟩
abbrev cX7_overlap : ByteArray := prog_9_method_128_code
def yX7_overlap : MethodName := ⟨RX7, "overlap", "(II)I"⟩
abbrev cX7_loose : ByteArray := prog_9_method_129_code
def yX7_loose : MethodName := ⟨RX7, "loose", "(I)J"⟩
abbrev cX7_allOf : ByteArray := prog_9_method_130_code
def yX7_allOf : MethodName := ⟨RX7, "allOf", "(I)I"⟩
abbrev cX7_needs : ByteArray := prog_9_method_131_code
def yX7_needs : MethodName := ⟨RX7, "needs", "(II)J"⟩
abbrev cX7_flips : ByteArray := prog_9_method_132_code
def yX7_flips : MethodName := ⟨RX7, "flips", "(II)I"⟩
abbrev cX7_isPlain : ByteArray := prog_9_method_133_code
def yX7_isPlain : MethodName := ⟨RX7, "isPlain", "(II)Z"⟩
abbrev cX7_sure : ByteArray := prog_9_method_134_code
def yX7_sure : MethodName := ⟨RX7, "sure", "(II)Z"⟩
abbrev cX7_least : ByteArray := prog_9_method_135_code
def yX7_least : MethodName := ⟨RX7, "least", "(I)I"⟩
abbrev cX7_hasValue : ByteArray := prog_9_method_136_code
def yX7_hasValue : MethodName := ⟨RX7, "hasValue", "(III)Z"⟩
abbrev cX7_byteFor : ByteArray := prog_9_method_137_code
def yX7_byteFor : MethodName := ⟨RX7, "byteFor", "(IIII)I"⟩
abbrev cX7_make : ByteArray := prog_9_method_138_code
def yX7_make : MethodName := ⟨RX7, "make", "(III)I"⟩
abbrev cX7_alike : ByteArray := prog_9_method_139_code
def yX7_alike : MethodName := ⟨RX7, "alike", "(II)I"⟩
abbrev cX7_must : ByteArray := prog_9_method_140_code
def yX7_must : MethodName := ⟨RX7, "must", "(I)I"⟩
abbrev cX7_deep : ByteArray := prog_9_method_141_code
def yX7_deep : MethodName := ⟨RX7, "deep", "(I)I"⟩
abbrev cX7_kind : ByteArray := prog_9_method_142_code
def yX7_kind : MethodName := ⟨RX7, "kind", "(II)I"⟩
abbrev cX7_isStretch : ByteArray := prog_9_method_143_code
def yX7_isStretch : MethodName := ⟨RX7, "isStretch", "(II)Z"⟩
abbrev cX7_number : ByteArray := prog_9_method_144_code
def yX7_number : MethodName := ⟨RX7, "number", "(II)I"⟩
abbrev cX7_sum : ByteArray := prog_9_method_145_code
def yX7_sum : MethodName := ⟨RX7, "sum", "(II)I"⟩
abbrev cX7_find : ByteArray := prog_9_method_146_code
def yX7_find : MethodName := ⟨RX7, "find", "(II)I"⟩
abbrev cX7_run : ByteArray := prog_9_method_147_code
def yX7_run : MethodName := ⟨RX7, "run", "()I"⟩
abbrev cX7_said : ByteArray := prog_9_method_148_code
def yX7_said : MethodName := ⟨RX7, "said", "(II)I"⟩
abbrev cX7_whose : ByteArray := prog_9_method_149_code
def yX7_whose : MethodName := ⟨RX7, "whose", "()I"⟩
abbrev cX7_image : ByteArray := prog_9_method_150_code
def yX7_image : MethodName := ⟨RX7, "image", "()I"⟩
abbrev cX7_back : ByteArray := prog_9_method_151_code
def yX7_back : MethodName := ⟨RX7, "back", "()I"⟩
abbrev cX7_about : ByteArray := prog_9_method_152_code
def yX7_about : MethodName := ⟨RX7, "about", "(I)I"⟩
def RJ11 : String := "java/lang/Character"
def TJ11 : u_T := fun k => match k with
  | _ => ("", "", "", false)
def tyJ11 : Nat → FieldType := fun k => match k with
  | _ => .int
abbrev wsJ110 : List Cond := u_ws RJ11 TJ11 0
theorem nmJ11 : ∀ a, a < 0 → ∀ b, b < 0 → a ≠ b → (TJ11 a).2.1 ≠ (TJ11 b).2.1 := by decide +kernel
theorem tyJ11_ok : ∀ k, k < 0 → parseFieldDescriptor (TJ11 k).2.2.1 = some (tyJ11 k) := by decide +kernel
abbrev cJ11_isValidCodePoint_9a6ad : ByteArray := prog_10_method_11_code
def yJ11_isValidCodePoint_9a6ad : MethodName := ⟨RJ11, "isValidCodePoint", "(I)Z"⟩
abbrev cJ11_highSurrogate_5068e : ByteArray := prog_10_method_28_code
def yJ11_highSurrogate_5068e : MethodName := ⟨RJ11, "highSurrogate", "(I)C"⟩
abbrev cJ11_lowSurrogate_5068e : ByteArray := prog_10_method_29_code
def yJ11_lowSurrogate_5068e : MethodName := ⟨RJ11, "lowSurrogate", "(I)C"⟩
def RJ9 : String := "java/lang/Math"
def TJ9 : u_T := fun k => match k with
  | _ => ("", "", "", false)
def tyJ9 : Nat → FieldType := fun k => match k with
  | _ => .int
abbrev wsJ90 : List Cond := u_ws RJ9 TJ9 0
theorem nmJ9 : ∀ a, a < 0 → ∀ b, b < 0 → a ≠ b → (TJ9 a).2.1 ≠ (TJ9 b).2.1 := by decide +kernel
theorem tyJ9_ok : ∀ k, k < 0 → parseFieldDescriptor (TJ9 k).2.2.1 = some (tyJ9 k) := by decide +kernel
abbrev cJ9_floorMod_7cf53 : ByteArray := prog_11_method_50_code
def yJ9_floorMod_7cf53 : MethodName := ⟨RJ9, "floorMod", "(II)I"⟩
abbrev cJ9_max_7cf53 : ByteArray := prog_11_method_65_code
def yJ9_max_7cf53 : MethodName := ⟨RJ9, "max", "(II)I"⟩
abbrev cJ9_max_f86c9 : ByteArray := prog_11_method_66_code
def yJ9_max_f86c9 : MethodName := ⟨RJ9, "max", "(JJ)J"⟩
abbrev cJ9_min_7cf53 : ByteArray := prog_11_method_69_code
def yJ9_min_7cf53 : MethodName := ⟨RJ9, "min", "(II)I"⟩
abbrev cJ9_min_f86c9 : ByteArray := prog_11_method_70_code
def yJ9_min_f86c9 : MethodName := ⟨RJ9, "min", "(JJ)J"⟩
def RJ0 : String := "java/lang/String"
def TJ0 : u_T := fun k => match k with
  | _ => ("", "", "", false)
def tyJ0 : Nat → FieldType := fun k => match k with
  | _ => .int
abbrev wsJ00 : List Cond := u_ws RJ0 TJ0 0
theorem nmJ0 : ∀ a, a < 0 → ∀ b, b < 0 → a ≠ b → (TJ0 a).2.1 ≠ (TJ0 b).2.1 := by decide +kernel
theorem tyJ0_ok : ∀ k, k < 0 → parseFieldDescriptor (TJ0 k).2.2.1 = some (tyJ0 k) := by decide +kernel
abbrev cJ0_length_8abf5 : ByteArray := prog_12_method_54_code
def yJ0_length_8abf5 : MethodName := ⟨RJ0, "length", "()I"⟩
abbrev cJ0_charAt_5068e : ByteArray := prog_12_method_56_code
def yJ0_charAt_5068e : MethodName := ⟨RJ0, "charAt", "(I)C"⟩
abbrev cJ0_indexOf_0f7a4 : ByteArray := prog_12_method_79_code
def yJ0_indexOf_0f7a4 : MethodName := ⟨RJ0, "indexOf", "(I)I"⟩
abbrev cJ0_indexOf_7cf53 : ByteArray := prog_12_method_80_code
def yJ0_indexOf_7cf53 : MethodName := ⟨RJ0, "indexOf", "(II)I"⟩
abbrev cJ0_coder_7d493 : ByteArray := prog_12_method_152_code
def yJ0_coder_7d493 : MethodName := ⟨RJ0, "coder", "()B"⟩
abbrev cJ0_isLatin1_aae02 : ByteArray := prog_12_method_154_code
def yJ0_isLatin1_aae02 : MethodName := ⟨RJ0, "isLatin1", "()Z"⟩
abbrev cJ0_checkIndex_df160 : ByteArray := prog_12_method_155_code
def yJ0_checkIndex_df160 : MethodName := ⟨RJ0, "checkIndex", "(II)V"⟩
abbrev cJ0_checkBoundsBeginEnd_23922 : ByteArray := prog_12_method_158_code
def yJ0_checkBoundsBeginEnd_23922 : MethodName := ⟨RJ0, "checkBoundsBeginEnd", "(III)V"⟩
def RJ1 : String := "java/lang/StringLatin1"
def TJ1 : u_T := fun k => match k with
  | _ => ("", "", "", false)
def tyJ1 : Nat → FieldType := fun k => match k with
  | _ => .int
abbrev wsJ10 : List Cond := u_ws RJ1 TJ1 0
theorem nmJ1 : ∀ a, a < 0 → ∀ b, b < 0 → a ≠ b → (TJ1 a).2.1 ≠ (TJ1 b).2.1 := by decide +kernel
theorem tyJ1_ok : ∀ k, k < 0 → parseFieldDescriptor (TJ1 k).2.2.1 = some (tyJ1 k) := by decide +kernel
abbrev cJ1_charAt_3b067 : ByteArray := prog_13_method_2_code
def yJ1_charAt_3b067 : MethodName := ⟨RJ1, "charAt", "([BI)C"⟩
abbrev cJ1_canEncode_9a6ad : ByteArray := prog_13_method_4_code
def yJ1_canEncode_9a6ad : MethodName := ⟨RJ1, "canEncode", "(I)Z"⟩
abbrev cJ1_indexOf_4cfef : ByteArray := prog_13_method_22_code
def yJ1_indexOf_4cfef : MethodName := ⟨RJ1, "indexOf", "([BIII)I"⟩
abbrev cJ1_indexOfChar_4cfef : ByteArray := prog_13_method_23_code
def yJ1_indexOfChar_4cfef : MethodName := ⟨RJ1, "indexOfChar", "([BIII)I"⟩
def RJ2 : String := "java/lang/StringUTF16"
def TJ2 : u_T := fun k => match k with
  | _ => ("", "", "", false)
def tyJ2 : Nat → FieldType := fun k => match k with
  | _ => .int
abbrev wsJ20 : List Cond := u_ws RJ2 TJ2 0
theorem nmJ2 : ∀ a, a < 0 → ∀ b, b < 0 → a ≠ b → (TJ2 a).2.1 ≠ (TJ2 b).2.1 := by decide +kernel
theorem tyJ2_ok : ∀ k, k < 0 → parseFieldDescriptor (TJ2 k).2.2.1 = some (tyJ2 k) := by decide +kernel
abbrev cJ2_getChar_3b067 : ByteArray := prog_14_method_5_code
def yJ2_getChar_3b067 : MethodName := ⟨RJ2, "getChar", "([BI)C"⟩
abbrev cJ2_length_9d52b : ByteArray := prog_14_method_6_code
def yJ2_length_9d52b : MethodName := ⟨RJ2, "length", "([B)I"⟩
abbrev cJ2_indexOf_4cfef : ByteArray := prog_14_method_40_code
def yJ2_indexOf_4cfef : MethodName := ⟨RJ2, "indexOf", "([BIII)I"⟩
abbrev cJ2_indexOfChar_4cfef : ByteArray := prog_14_method_47_code
def yJ2_indexOfChar_4cfef : MethodName := ⟨RJ2, "indexOfChar", "([BIII)I"⟩
abbrev cJ2_indexOfCharUnsafe_4cfef : ByteArray := prog_14_method_48_code
def yJ2_indexOfCharUnsafe_4cfef : MethodName := ⟨RJ2, "indexOfCharUnsafe", "([BIII)I"⟩
abbrev cJ2_indexOfSupplementary_4cfef : ByteArray := prog_14_method_49_code
def yJ2_indexOfSupplementary_4cfef : MethodName := ⟨RJ2, "indexOfSupplementary", "([BIII)I"⟩
abbrev cJ2_charAt_3b067 : ByteArray := prog_14_method_83_code
def yJ2_charAt_3b067 : MethodName := ⟨RJ2, "charAt", "([BI)C"⟩
abbrev cJ2_checkIndex_2214a : ByteArray := prog_14_method_91_code
def yJ2_checkIndex_2214a : MethodName := ⟨RJ2, "checkIndex", "(I[B)V"⟩
abbrev cJ2_checkBoundsBeginEnd_d044e : ByteArray := prog_14_method_93_code
def yJ2_checkBoundsBeginEnd_d044e : MethodName := ⟨RJ2, "checkBoundsBeginEnd", "(II[B)V"⟩
def RJ10 : String := "java/lang/System"
def TJ10 : u_T := fun k => match k with
  | _ => ("", "", "", false)
def tyJ10 : Nat → FieldType := fun k => match k with
  | _ => .int
abbrev wsJ100 : List Cond := u_ws RJ10 TJ10 0
theorem nmJ10 : ∀ a, a < 0 → ∀ b, b < 0 → a ≠ b → (TJ10 a).2.1 ≠ (TJ10 b).2.1 := by decide +kernel
theorem tyJ10_ok : ∀ k, k < 0 → parseFieldDescriptor (TJ10 k).2.2.1 = some (tyJ10 k) := by decide +kernel
def RJ3 : String := "jdk/internal/util/Preconditions"
def TJ3 : u_T := fun k => match k with
  | _ => ("", "", "", false)
def tyJ3 : Nat → FieldType := fun k => match k with
  | _ => .int
abbrev wsJ30 : List Cond := u_ws RJ3 TJ3 0
theorem nmJ3 : ∀ a, a < 0 → ∀ b, b < 0 → a ≠ b → (TJ3 a).2.1 ≠ (TJ3 b).2.1 := by decide +kernel
theorem tyJ3_ok : ∀ k, k < 0 → parseFieldDescriptor (TJ3 k).2.2.1 = some (tyJ3 k) := by decide +kernel
abbrev cJ3_checkIndex_8e157 : ByteArray := prog_16_method_11_code
def yJ3_checkIndex_8e157 : MethodName := ⟨RJ3, "checkIndex", "(IILjava/util/function/BiFunction;)I"⟩
abbrev cJ3_checkFromToIndex_8c36e : ByteArray := prog_16_method_12_code
def yJ3_checkFromToIndex_8c36e : MethodName := ⟨RJ3, "checkFromToIndex", "(IIILjava/util/function/BiFunction;)I"⟩
def RL : String := "ByteIntervalsLaw"
abbrev cL_law : ByteArray := code
def yL_law : MethodName := ⟨RL, "law", "([I)Z"⟩
