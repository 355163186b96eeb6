-- ===== PART A: goes FIRST, ahead of the names: the tables' words, and 'selects' of the private methods out of them =====
/-- a private method of a class that the tables say can be made, by its rows of tables_1 -/
def lw_okq (q : MethodName × Nat) : Prop := (q.1.cls ≠ "java/lang/invoke/MethodHandle" ∧ q.1.cls ≠ "java/lang/invoke/VarHandle") ∧ Cond.instantiable q.1.cls q.2 ∈ tables_1 ∧ Cond.privateMethod q.1 ∈ tables_1 ∧ Cond.instanceMethod q.1 ∈ tables_1
theorem lw_p0 : lw_okq (⟨"CoatRows$Book", "empty", "()V"⟩, 7) := ⟨⟨by decide +kernel, by decide +kernel⟩, List.mem_of_getElem? (i := 235) (by decide +kernel), List.mem_of_getElem? (i := 241) (by decide +kernel), List.mem_of_getElem? (i := 242) (by decide +kernel)⟩
theorem lw_p1 : lw_okq (⟨"CoatRows$Text", "beginsToken", "(I)Z"⟩, 8) := ⟨⟨by decide +kernel, by decide +kernel⟩, List.mem_of_getElem? (i := 27) (by decide +kernel), List.mem_of_getElem? (i := 339) (by decide +kernel), List.mem_of_getElem? (i := 340) (by decide +kernel)⟩
theorem lw_p2 : lw_okq (⟨"CoatRows$Text", "readToken", "(I)V"⟩, 8) := ⟨⟨by decide +kernel, by decide +kernel⟩, List.mem_of_getElem? (i := 27) (by decide +kernel), List.mem_of_getElem? (i := 349) (by decide +kernel), List.mem_of_getElem? (i := 350) (by decide +kernel)⟩
theorem lw_p3 : lw_okq (⟨"CoatRows$Text", "readNumber", "(I)V"⟩, 8) := ⟨⟨by decide +kernel, by decide +kernel⟩, List.mem_of_getElem? (i := 27) (by decide +kernel), List.mem_of_getElem? (i := 353) (by decide +kernel), List.mem_of_getElem? (i := 354) (by decide +kernel)⟩
theorem lw_p4 : lw_okq (⟨"CoatRows$Text", "readWord", "(I)V"⟩, 8) := ⟨⟨by decide +kernel, by decide +kernel⟩, List.mem_of_getElem? (i := 27) (by decide +kernel), List.mem_of_getElem? (i := 357) (by decide +kernel), List.mem_of_getElem? (i := 358) (by decide +kernel)⟩
theorem lw_p5 : lw_okq (⟨"CoatRows$Text", "kindOfWord", "(II)I"⟩, 8) := ⟨⟨by decide +kernel, by decide +kernel⟩, List.mem_of_getElem? (i := 27) (by decide +kernel), List.mem_of_getElem? (i := 361) (by decide +kernel), List.mem_of_getElem? (i := 362) (by decide +kernel)⟩
theorem lw_p6 : lw_okq (⟨"CoatRows$Text", "isWord", "(Ljava/lang/String;II)Z"⟩, 8) := ⟨⟨by decide +kernel, by decide +kernel⟩, List.mem_of_getElem? (i := 27) (by decide +kernel), List.mem_of_getElem? (i := 366) (by decide +kernel), List.mem_of_getElem? (i := 367) (by decide +kernel)⟩
theorem lw_p7 : lw_okq (⟨"CoatRows$Chip", "readCoats", "(LCoatRows$Text;)Z"⟩, 5) := ⟨⟨by decide +kernel, by decide +kernel⟩, List.mem_of_getElem? (i := 70) (by decide +kernel), List.mem_of_getElem? (i := 435) (by decide +kernel), List.mem_of_getElem? (i := 436) (by decide +kernel)⟩
theorem lw_p8 : lw_okq (⟨"CoatRows$Book", "readItem", "(LCoatRows$Text;)Z"⟩, 7) := ⟨⟨by decide +kernel, by decide +kernel⟩, List.mem_of_getElem? (i := 235) (by decide +kernel), List.mem_of_getElem? (i := 456) (by decide +kernel), List.mem_of_getElem? (i := 457) (by decide +kernel)⟩
theorem lw_p9 : lw_okq (⟨"CoatRows$Book", "readStuff", "(LCoatRows$Text;)Z"⟩, 7) := ⟨⟨by decide +kernel, by decide +kernel⟩, List.mem_of_getElem? (i := 235) (by decide +kernel), List.mem_of_getElem? (i := 461) (by decide +kernel), List.mem_of_getElem? (i := 462) (by decide +kernel)⟩
theorem lw_p10 : lw_okq (⟨"CoatRows$Book", "readAlike", "(LCoatRows$Text;)Z"⟩, 7) := ⟨⟨by decide +kernel, by decide +kernel⟩, List.mem_of_getElem? (i := 235) (by decide +kernel), List.mem_of_getElem? (i := 466) (by decide +kernel), List.mem_of_getElem? (i := 467) (by decide +kernel)⟩
theorem lw_p11 : lw_okq (⟨"CoatRows$Book", "readBill", "(LCoatRows$Text;)Z"⟩, 7) := ⟨⟨by decide +kernel, by decide +kernel⟩, List.mem_of_getElem? (i := 235) (by decide +kernel), List.mem_of_getElem? (i := 474) (by decide +kernel), List.mem_of_getElem? (i := 475) (by decide +kernel)⟩
theorem lw_p12 : lw_okq (⟨"CoatRows", "isChip", "(I)Z"⟩, 12) := ⟨⟨by decide +kernel, by decide +kernel⟩, List.mem_of_getElem? (i := 19) (by decide +kernel), List.mem_of_getElem? (i := 482) (by decide +kernel), List.mem_of_getElem? (i := 483) (by decide +kernel)⟩
theorem lw_p13 : lw_okq (⟨"CoatRows", "isCoat", "(II)Z"⟩, 12) := ⟨⟨by decide +kernel, by decide +kernel⟩, List.mem_of_getElem? (i := 19) (by decide +kernel), List.mem_of_getElem? (i := 498) (by decide +kernel), List.mem_of_getElem? (i := 499) (by decide +kernel)⟩
theorem lw_p14 : lw_okq (⟨"CoatRows", "settle", "()V"⟩, 12) := ⟨⟨by decide +kernel, by decide +kernel⟩, List.mem_of_getElem? (i := 19) (by decide +kernel), List.mem_of_getElem? (i := 502) (by decide +kernel), List.mem_of_getElem? (i := 503) (by decide +kernel)⟩
theorem lw_p15 : lw_okq (⟨"CoatRows", "findSame", "()V"⟩, 12) := ⟨⟨by decide +kernel, by decide +kernel⟩, List.mem_of_getElem? (i := 19) (by decide +kernel), List.mem_of_getElem? (i := 506) (by decide +kernel), List.mem_of_getElem? (i := 507) (by decide +kernel)⟩
def lw_privs_1 : List (MethodName × Nat) := [(⟨"CoatRows$Book", "empty", "()V"⟩, 7), (⟨"CoatRows$Text", "beginsToken", "(I)Z"⟩, 8), (⟨"CoatRows$Text", "readToken", "(I)V"⟩, 8), (⟨"CoatRows$Text", "readNumber", "(I)V"⟩, 8), (⟨"CoatRows$Text", "readWord", "(I)V"⟩, 8), (⟨"CoatRows$Text", "kindOfWord", "(II)I"⟩, 8), (⟨"CoatRows$Text", "isWord", "(Ljava/lang/String;II)Z"⟩, 8), (⟨"CoatRows$Chip", "readCoats", "(LCoatRows$Text;)Z"⟩, 5), (⟨"CoatRows$Book", "readItem", "(LCoatRows$Text;)Z"⟩, 7), (⟨"CoatRows$Book", "readStuff", "(LCoatRows$Text;)Z"⟩, 7), (⟨"CoatRows$Book", "readAlike", "(LCoatRows$Text;)Z"⟩, 7), (⟨"CoatRows$Book", "readBill", "(LCoatRows$Text;)Z"⟩, 7), (⟨"CoatRows", "isChip", "(I)Z"⟩, 12), (⟨"CoatRows", "isCoat", "(II)Z"⟩, 12), (⟨"CoatRows", "settle", "()V"⟩, 12), (⟨"CoatRows", "findSame", "()V"⟩, 12)]
theorem lw_r1 : ∀ q ∈ lw_privs_1, lw_okq q := List.forall_mem_cons.mpr ⟨lw_p0, List.forall_mem_cons.mpr ⟨lw_p1, List.forall_mem_cons.mpr ⟨lw_p2, List.forall_mem_cons.mpr ⟨lw_p3, List.forall_mem_cons.mpr ⟨lw_p4, List.forall_mem_cons.mpr ⟨lw_p5, List.forall_mem_cons.mpr ⟨lw_p6, List.forall_mem_cons.mpr ⟨lw_p7, List.forall_mem_cons.mpr ⟨lw_p8, List.forall_mem_cons.mpr ⟨lw_p9, List.forall_mem_cons.mpr ⟨lw_p10, List.forall_mem_cons.mpr ⟨lw_p11, List.forall_mem_cons.mpr ⟨lw_p12, List.forall_mem_cons.mpr ⟨lw_p13, List.forall_mem_cons.mpr ⟨lw_p14, List.forall_mem_cons.mpr ⟨lw_p15, fun _ h => absurd h List.not_mem_nil⟩⟩⟩⟩⟩⟩⟩⟩⟩⟩⟩⟩⟩⟩⟩⟩
theorem lw_p16 : lw_okq (⟨"CoatRows$Paintings", "makeRoom", "(I)V"⟩, 14) := ⟨⟨by decide +kernel, by decide +kernel⟩, List.mem_of_getElem? (i := 149) (by decide +kernel), List.mem_of_getElem? (i := 514) (by decide +kernel), List.mem_of_getElem? (i := 515) (by decide +kernel)⟩
theorem lw_p17 : lw_okq (⟨"CoatRows$Paintings", "look", "(I)V"⟩, 14) := ⟨⟨by decide +kernel, by decide +kernel⟩, List.mem_of_getElem? (i := 149) (by decide +kernel), List.mem_of_getElem? (i := 524) (by decide +kernel), List.mem_of_getElem? (i := 525) (by decide +kernel)⟩
theorem lw_p18 : lw_okq (⟨"CoatRows$Paintings", "findServing", "()V"⟩, 14) := ⟨⟨by decide +kernel, by decide +kernel⟩, List.mem_of_getElem? (i := 149) (by decide +kernel), List.mem_of_getElem? (i := 528) (by decide +kernel), List.mem_of_getElem? (i := 529) (by decide +kernel)⟩
theorem lw_p19 : lw_okq (⟨"CoatRows$Paintings", "strideOf", "(II)I"⟩, 14) := ⟨⟨by decide +kernel, by decide +kernel⟩, List.mem_of_getElem? (i := 149) (by decide +kernel), List.mem_of_getElem? (i := 532) (by decide +kernel), List.mem_of_getElem? (i := 533) (by decide +kernel)⟩
theorem lw_p20 : lw_okq (⟨"CoatRows$Paintings", "fillRow", "(II)V"⟩, 14) := ⟨⟨by decide +kernel, by decide +kernel⟩, List.mem_of_getElem? (i := 149) (by decide +kernel), List.mem_of_getElem? (i := 536) (by decide +kernel), List.mem_of_getElem? (i := 537) (by decide +kernel)⟩
theorem lw_p21 : lw_okq (⟨"CoatRows$Paintings", "walk", "()V"⟩, 14) := ⟨⟨by decide +kernel, by decide +kernel⟩, List.mem_of_getElem? (i := 149) (by decide +kernel), List.mem_of_getElem? (i := 540) (by decide +kernel), List.mem_of_getElem? (i := 541) (by decide +kernel)⟩
theorem lw_p22 : lw_okq (⟨"CoatRows$Paintings", "firstColour", "(I)I"⟩, 14) := ⟨⟨by decide +kernel, by decide +kernel⟩, List.mem_of_getElem? (i := 149) (by decide +kernel), List.mem_of_getElem? (i := 544) (by decide +kernel), List.mem_of_getElem? (i := 545) (by decide +kernel)⟩
theorem lw_p23 : lw_okq (⟨"CoatRows$Paintings", "paint", "(I)V"⟩, 14) := ⟨⟨by decide +kernel, by decide +kernel⟩, List.mem_of_getElem? (i := 149) (by decide +kernel), List.mem_of_getElem? (i := 548) (by decide +kernel), List.mem_of_getElem? (i := 549) (by decide +kernel)⟩
theorem lw_p24 : lw_okq (⟨"CoatRows", "paintingOf", "(II)I"⟩, 12) := ⟨⟨by decide +kernel, by decide +kernel⟩, List.mem_of_getElem? (i := 19) (by decide +kernel), List.mem_of_getElem? (i := 552) (by decide +kernel), List.mem_of_getElem? (i := 553) (by decide +kernel)⟩
theorem lw_p25 : lw_okq (⟨"CoatRows", "areTwo", "(II)Z"⟩, 12) := ⟨⟨by decide +kernel, by decide +kernel⟩, List.mem_of_getElem? (i := 19) (by decide +kernel), List.mem_of_getElem? (i := 572) (by decide +kernel), List.mem_of_getElem? (i := 573) (by decide +kernel)⟩
theorem lw_p26 : lw_okq (⟨"CoatRows", "lay", "(II)V"⟩, 12) := ⟨⟨by decide +kernel, by decide +kernel⟩, List.mem_of_getElem? (i := 19) (by decide +kernel), List.mem_of_getElem? (i := 576) (by decide +kernel), List.mem_of_getElem? (i := 577) (by decide +kernel)⟩
theorem lw_p27 : lw_okq (⟨"CoatRows$Laying", "fill", "(II)V"⟩, 7) := ⟨⟨by decide +kernel, by decide +kernel⟩, List.mem_of_getElem? (i := 120) (by decide +kernel), List.mem_of_getElem? (i := 584) (by decide +kernel), List.mem_of_getElem? (i := 585) (by decide +kernel)⟩
theorem lw_p28 : lw_okq (⟨"CoatRows$Laying", "isSame", "(II)Z"⟩, 7) := ⟨⟨by decide +kernel, by decide +kernel⟩, List.mem_of_getElem? (i := 120) (by decide +kernel), List.mem_of_getElem? (i := 588) (by decide +kernel), List.mem_of_getElem? (i := 589) (by decide +kernel)⟩
theorem lw_p29 : lw_okq (⟨"CoatRows$Laying", "costBeside", "(III)I"⟩, 7) := ⟨⟨by decide +kernel, by decide +kernel⟩, List.mem_of_getElem? (i := 120) (by decide +kernel), List.mem_of_getElem? (i := 592) (by decide +kernel), List.mem_of_getElem? (i := 593) (by decide +kernel)⟩
theorem lw_p30 : lw_okq (⟨"CoatRows$Laying", "nearest", "(II)I"⟩, 7) := ⟨⟨by decide +kernel, by decide +kernel⟩, List.mem_of_getElem? (i := 120) (by decide +kernel), List.mem_of_getElem? (i := 620) (by decide +kernel), List.mem_of_getElem? (i := 621) (by decide +kernel)⟩
theorem lw_p31 : lw_okq (⟨"CoatRows", "isPainting", "(I)Z"⟩, 12) := ⟨⟨by decide +kernel, by decide +kernel⟩, List.mem_of_getElem? (i := 19) (by decide +kernel), List.mem_of_getElem? (i := 628) (by decide +kernel), List.mem_of_getElem? (i := 629) (by decide +kernel)⟩
def lw_privs_2 : List (MethodName × Nat) := [(⟨"CoatRows$Paintings", "makeRoom", "(I)V"⟩, 14), (⟨"CoatRows$Paintings", "look", "(I)V"⟩, 14), (⟨"CoatRows$Paintings", "findServing", "()V"⟩, 14), (⟨"CoatRows$Paintings", "strideOf", "(II)I"⟩, 14), (⟨"CoatRows$Paintings", "fillRow", "(II)V"⟩, 14), (⟨"CoatRows$Paintings", "walk", "()V"⟩, 14), (⟨"CoatRows$Paintings", "firstColour", "(I)I"⟩, 14), (⟨"CoatRows$Paintings", "paint", "(I)V"⟩, 14), (⟨"CoatRows", "paintingOf", "(II)I"⟩, 12), (⟨"CoatRows", "areTwo", "(II)Z"⟩, 12), (⟨"CoatRows", "lay", "(II)V"⟩, 12), (⟨"CoatRows$Laying", "fill", "(II)V"⟩, 7), (⟨"CoatRows$Laying", "isSame", "(II)Z"⟩, 7), (⟨"CoatRows$Laying", "costBeside", "(III)I"⟩, 7), (⟨"CoatRows$Laying", "nearest", "(II)I"⟩, 7), (⟨"CoatRows", "isPainting", "(I)Z"⟩, 12)]
theorem lw_r2 : ∀ q ∈ lw_privs_2, lw_okq q := List.forall_mem_cons.mpr ⟨lw_p16, List.forall_mem_cons.mpr ⟨lw_p17, List.forall_mem_cons.mpr ⟨lw_p18, List.forall_mem_cons.mpr ⟨lw_p19, List.forall_mem_cons.mpr ⟨lw_p20, List.forall_mem_cons.mpr ⟨lw_p21, List.forall_mem_cons.mpr ⟨lw_p22, List.forall_mem_cons.mpr ⟨lw_p23, List.forall_mem_cons.mpr ⟨lw_p24, List.forall_mem_cons.mpr ⟨lw_p25, List.forall_mem_cons.mpr ⟨lw_p26, List.forall_mem_cons.mpr ⟨lw_p27, List.forall_mem_cons.mpr ⟨lw_p28, List.forall_mem_cons.mpr ⟨lw_p29, List.forall_mem_cons.mpr ⟨lw_p30, List.forall_mem_cons.mpr ⟨lw_p31, fun _ h => absurd h List.not_mem_nil⟩⟩⟩⟩⟩⟩⟩⟩⟩⟩⟩⟩⟩⟩⟩⟩
theorem lw_p32 : lw_okq (⟨"CoatRows", "missedBy", "(I)I"⟩, 12) := ⟨⟨by decide +kernel, by decide +kernel⟩, List.mem_of_getElem? (i := 19) (by decide +kernel), List.mem_of_getElem? (i := 640) (by decide +kernel), List.mem_of_getElem? (i := 641) (by decide +kernel)⟩
theorem lw_p33 : lw_okq (⟨"CoatRows", "ageOf", "(I)I"⟩, 12) := ⟨⟨by decide +kernel, by decide +kernel⟩, List.mem_of_getElem? (i := 19) (by decide +kernel), List.mem_of_getElem? (i := 644) (by decide +kernel), List.mem_of_getElem? (i := 645) (by decide +kernel)⟩
theorem lw_p34 : lw_okq (⟨"CoatRows", "movedFrom", "(I)I"⟩, 12) := ⟨⟨by decide +kernel, by decide +kernel⟩, List.mem_of_getElem? (i := 19) (by decide +kernel), List.mem_of_getElem? (i := 648) (by decide +kernel), List.mem_of_getElem? (i := 649) (by decide +kernel)⟩
theorem lw_p35 : lw_okq (⟨"CoatRows", "lastCoats", "(II)I"⟩, 12) := ⟨⟨by decide +kernel, by decide +kernel⟩, List.mem_of_getElem? (i := 19) (by decide +kernel), List.mem_of_getElem? (i := 666) (by decide +kernel), List.mem_of_getElem? (i := 667) (by decide +kernel)⟩
theorem lw_p36 : lw_okq (⟨"CoatRows$Years", "mostFrom", "(IIILCoatRows$Book;)I"⟩, 6) := ⟨⟨by decide +kernel, by decide +kernel⟩, List.mem_of_getElem? (i := 205) (by decide +kernel), List.mem_of_getElem? (i := 682) (by decide +kernel), List.mem_of_getElem? (i := 683) (by decide +kernel)⟩
theorem lw_p37 : lw_okq (⟨"CoatRows$Years", "fits", "(IIIILCoatRows$Book;)Z"⟩, 6) := ⟨⟨by decide +kernel, by decide +kernel⟩, List.mem_of_getElem? (i := 205) (by decide +kernel), List.mem_of_getElem? (i := 686) (by decide +kernel), List.mem_of_getElem? (i := 687) (by decide +kernel)⟩
theorem lw_p38 : lw_okq (⟨"CoatRows$Years", "leastBill", "(IIILCoatRows$Book;)I"⟩, 6) := ⟨⟨by decide +kernel, by decide +kernel⟩, List.mem_of_getElem? (i := 205) (by decide +kernel), List.mem_of_getElem? (i := 690) (by decide +kernel), List.mem_of_getElem? (i := 691) (by decide +kernel)⟩
theorem lw_p39 : lw_okq (⟨"CoatRows", "asCoat", "(II)I"⟩, 12) := ⟨⟨by decide +kernel, by decide +kernel⟩, List.mem_of_getElem? (i := 19) (by decide +kernel), List.mem_of_getElem? (i := 721) (by decide +kernel), List.mem_of_getElem? (i := 722) (by decide +kernel)⟩
theorem lw_p40 : lw_okq (⟨"CoatRows", "asWhole", "(II)I"⟩, 12) := ⟨⟨by decide +kernel, by decide +kernel⟩, List.mem_of_getElem? (i := 19) (by decide +kernel), List.mem_of_getElem? (i := 725) (by decide +kernel), List.mem_of_getElem? (i := 726) (by decide +kernel)⟩
theorem lw_p41 : lw_okq (⟨"CoatRows", "asUnder", "(II)I"⟩, 12) := ⟨⟨by decide +kernel, by decide +kernel⟩, List.mem_of_getElem? (i := 19) (by decide +kernel), List.mem_of_getElem? (i := 735) (by decide +kernel), List.mem_of_getElem? (i := 736) (by decide +kernel)⟩
theorem lw_p42 : lw_okq (⟨"CoatRows", "asPatch", "(II)I"⟩, 12) := ⟨⟨by decide +kernel, by decide +kernel⟩, List.mem_of_getElem? (i := 19) (by decide +kernel), List.mem_of_getElem? (i := 740) (by decide +kernel), List.mem_of_getElem? (i := 741) (by decide +kernel)⟩
theorem lw_p43 : lw_okq (⟨"CoatRows", "asScraped", "(II)I"⟩, 12) := ⟨⟨by decide +kernel, by decide +kernel⟩, List.mem_of_getElem? (i := 19) (by decide +kernel), List.mem_of_getElem? (i := 745) (by decide +kernel), List.mem_of_getElem? (i := 746) (by decide +kernel)⟩
theorem lw_p44 : lw_okq (⟨"CoatRows", "asVarnish", "(II)I"⟩, 12) := ⟨⟨by decide +kernel, by decide +kernel⟩, List.mem_of_getElem? (i := 19) (by decide +kernel), List.mem_of_getElem? (i := 749) (by decide +kernel), List.mem_of_getElem? (i := 750) (by decide +kernel)⟩
theorem lw_p45 : lw_okq (⟨"CoatRowsModel", "isChip", "()Z"⟩, 51) := ⟨⟨by decide +kernel, by decide +kernel⟩, List.mem_of_getElem? (i := 785) (by decide +kernel), List.mem_of_getElem? (i := 961) (by decide +kernel), List.mem_of_getElem? (i := 962) (by decide +kernel)⟩
theorem lw_p46 : lw_okq (⟨"CoatRowsModel", "read", "()V"⟩, 51) := ⟨⟨by decide +kernel, by decide +kernel⟩, List.mem_of_getElem? (i := 785) (by decide +kernel), List.mem_of_getElem? (i := 965) (by decide +kernel), List.mem_of_getElem? (i := 966) (by decide +kernel)⟩
theorem lw_p47 : lw_okq (⟨"CoatRowsModel", "look", "()I"⟩, 51) := ⟨⟨by decide +kernel, by decide +kernel⟩, List.mem_of_getElem? (i := 785) (by decide +kernel), List.mem_of_getElem? (i := 969) (by decide +kernel), List.mem_of_getElem? (i := 970) (by decide +kernel)⟩
def lw_privs_3 : List (MethodName × Nat) := [(⟨"CoatRows", "missedBy", "(I)I"⟩, 12), (⟨"CoatRows", "ageOf", "(I)I"⟩, 12), (⟨"CoatRows", "movedFrom", "(I)I"⟩, 12), (⟨"CoatRows", "lastCoats", "(II)I"⟩, 12), (⟨"CoatRows$Years", "mostFrom", "(IIILCoatRows$Book;)I"⟩, 6), (⟨"CoatRows$Years", "fits", "(IIIILCoatRows$Book;)Z"⟩, 6), (⟨"CoatRows$Years", "leastBill", "(IIILCoatRows$Book;)I"⟩, 6), (⟨"CoatRows", "asCoat", "(II)I"⟩, 12), (⟨"CoatRows", "asWhole", "(II)I"⟩, 12), (⟨"CoatRows", "asUnder", "(II)I"⟩, 12), (⟨"CoatRows", "asPatch", "(II)I"⟩, 12), (⟨"CoatRows", "asScraped", "(II)I"⟩, 12), (⟨"CoatRows", "asVarnish", "(II)I"⟩, 12), (⟨"CoatRowsModel", "isChip", "()Z"⟩, 51), (⟨"CoatRowsModel", "read", "()V"⟩, 51), (⟨"CoatRowsModel", "look", "()I"⟩, 51)]
theorem lw_r3 : ∀ q ∈ lw_privs_3, lw_okq q := List.forall_mem_cons.mpr ⟨lw_p32, List.forall_mem_cons.mpr ⟨lw_p33, List.forall_mem_cons.mpr ⟨lw_p34, List.forall_mem_cons.mpr ⟨lw_p35, List.forall_mem_cons.mpr ⟨lw_p36, List.forall_mem_cons.mpr ⟨lw_p37, List.forall_mem_cons.mpr ⟨lw_p38, List.forall_mem_cons.mpr ⟨lw_p39, List.forall_mem_cons.mpr ⟨lw_p40, List.forall_mem_cons.mpr ⟨lw_p41, List.forall_mem_cons.mpr ⟨lw_p42, List.forall_mem_cons.mpr ⟨lw_p43, List.forall_mem_cons.mpr ⟨lw_p44, List.forall_mem_cons.mpr ⟨lw_p45, List.forall_mem_cons.mpr ⟨lw_p46, List.forall_mem_cons.mpr ⟨lw_p47, fun _ h => absurd h List.not_mem_nil⟩⟩⟩⟩⟩⟩⟩⟩⟩⟩⟩⟩⟩⟩⟩⟩
theorem lw_p48 : lw_okq (⟨"CoatRowsModel", "word", "()V"⟩, 51) := ⟨⟨by decide +kernel, by decide +kernel⟩, List.mem_of_getElem? (i := 785) (by decide +kernel), List.mem_of_getElem? (i := 976) (by decide +kernel), List.mem_of_getElem? (i := 977) (by decide +kernel)⟩
theorem lw_p49 : lw_okq (⟨"CoatRowsModel", "isNumber", "(II)Z"⟩, 51) := ⟨⟨by decide +kernel, by decide +kernel⟩, List.mem_of_getElem? (i := 785) (by decide +kernel), List.mem_of_getElem? (i := 988) (by decide +kernel), List.mem_of_getElem? (i := 989) (by decide +kernel)⟩
theorem lw_p50 : lw_okq (⟨"CoatRowsModel", "isStuff", "()Z"⟩, 51) := ⟨⟨by decide +kernel, by decide +kernel⟩, List.mem_of_getElem? (i := 785) (by decide +kernel), List.mem_of_getElem? (i := 996) (by decide +kernel), List.mem_of_getElem? (i := 997) (by decide +kernel)⟩
theorem lw_p51 : lw_okq (⟨"CoatRowsModel", "areAlike", "()Z"⟩, 51) := ⟨⟨by decide +kernel, by decide +kernel⟩, List.mem_of_getElem? (i := 785) (by decide +kernel), List.mem_of_getElem? (i := 1000) (by decide +kernel), List.mem_of_getElem? (i := 1001) (by decide +kernel)⟩
theorem lw_p52 : lw_okq (⟨"CoatRowsModel", "isBill", "()Z"⟩, 51) := ⟨⟨by decide +kernel, by decide +kernel⟩, List.mem_of_getElem? (i := 785) (by decide +kernel), List.mem_of_getElem? (i := 1004) (by decide +kernel), List.mem_of_getElem? (i := 1005) (by decide +kernel)⟩
theorem lw_p53 : lw_okq (⟨"CoatRowsModel", "isChipAt", "(I)Z"⟩, 51) := ⟨⟨by decide +kernel, by decide +kernel⟩, List.mem_of_getElem? (i := 785) (by decide +kernel), List.mem_of_getElem? (i := 1012) (by decide +kernel), List.mem_of_getElem? (i := 1013) (by decide +kernel)⟩
theorem lw_p54 : lw_okq (⟨"CoatRowsModel", "isCoat", "(II)Z"⟩, 51) := ⟨⟨by decide +kernel, by decide +kernel⟩, List.mem_of_getElem? (i := 785) (by decide +kernel), List.mem_of_getElem? (i := 1024) (by decide +kernel), List.mem_of_getElem? (i := 1025) (by decide +kernel)⟩
theorem lw_p55 : lw_okq (⟨"CoatRowsModel", "make", "()V"⟩, 51) := ⟨⟨by decide +kernel, by decide +kernel⟩, List.mem_of_getElem? (i := 785) (by decide +kernel), List.mem_of_getElem? (i := 1028) (by decide +kernel), List.mem_of_getElem? (i := 1029) (by decide +kernel)⟩
theorem lw_p56 : lw_okq (⟨"CoatRowsModel", "weigh", "(I)V"⟩, 51) := ⟨⟨by decide +kernel, by decide +kernel⟩, List.mem_of_getElem? (i := 785) (by decide +kernel), List.mem_of_getElem? (i := 1032) (by decide +kernel), List.mem_of_getElem? (i := 1033) (by decide +kernel)⟩
theorem lw_p57 : lw_okq (⟨"CoatRowsModel", "behind", "(I)I"⟩, 51) := ⟨⟨by decide +kernel, by decide +kernel⟩, List.mem_of_getElem? (i := 785) (by decide +kernel), List.mem_of_getElem? (i := 1036) (by decide +kernel), List.mem_of_getElem? (i := 1037) (by decide +kernel)⟩
theorem lw_p58 : lw_okq (⟨"CoatRowsModel", "isSame", "(II)Z"⟩, 51) := ⟨⟨by decide +kernel, by decide +kernel⟩, List.mem_of_getElem? (i := 785) (by decide +kernel), List.mem_of_getElem? (i := 1040) (by decide +kernel), List.mem_of_getElem? (i := 1041) (by decide +kernel)⟩
theorem lw_p59 : lw_okq (⟨"CoatRowsModel", "goOn", "(I)I"⟩, 51) := ⟨⟨by decide +kernel, by decide +kernel⟩, List.mem_of_getElem? (i := 785) (by decide +kernel), List.mem_of_getElem? (i := 1044) (by decide +kernel), List.mem_of_getElem? (i := 1045) (by decide +kernel)⟩
theorem lw_p60 : lw_okq (⟨"CoatRowsModel", "years", "()V"⟩, 51) := ⟨⟨by decide +kernel, by decide +kernel⟩, List.mem_of_getElem? (i := 785) (by decide +kernel), List.mem_of_getElem? (i := 1048) (by decide +kernel), List.mem_of_getElem? (i := 1049) (by decide +kernel)⟩
theorem lw_p61 : lw_okq (⟨"CoatRowsModel", "later", "(I)I"⟩, 51) := ⟨⟨by decide +kernel, by decide +kernel⟩, List.mem_of_getElem? (i := 785) (by decide +kernel), List.mem_of_getElem? (i := 1052) (by decide +kernel), List.mem_of_getElem? (i := 1053) (by decide +kernel)⟩
theorem lw_p62 : lw_okq (⟨"CoatRowsModel", "areTwo", "(II)Z"⟩, 51) := ⟨⟨by decide +kernel, by decide +kernel⟩, List.mem_of_getElem? (i := 785) (by decide +kernel), List.mem_of_getElem? (i := 1068) (by decide +kernel), List.mem_of_getElem? (i := 1069) (by decide +kernel)⟩
theorem lw_p63 : lw_okq (⟨"CoatRowsModel", "lay", "(II)V"⟩, 51) := ⟨⟨by decide +kernel, by decide +kernel⟩, List.mem_of_getElem? (i := 785) (by decide +kernel), List.mem_of_getElem? (i := 1072) (by decide +kernel), List.mem_of_getElem? (i := 1073) (by decide +kernel)⟩
def lw_privs_4 : List (MethodName × Nat) := [(⟨"CoatRowsModel", "word", "()V"⟩, 51), (⟨"CoatRowsModel", "isNumber", "(II)Z"⟩, 51), (⟨"CoatRowsModel", "isStuff", "()Z"⟩, 51), (⟨"CoatRowsModel", "areAlike", "()Z"⟩, 51), (⟨"CoatRowsModel", "isBill", "()Z"⟩, 51), (⟨"CoatRowsModel", "isChipAt", "(I)Z"⟩, 51), (⟨"CoatRowsModel", "isCoat", "(II)Z"⟩, 51), (⟨"CoatRowsModel", "make", "()V"⟩, 51), (⟨"CoatRowsModel", "weigh", "(I)V"⟩, 51), (⟨"CoatRowsModel", "behind", "(I)I"⟩, 51), (⟨"CoatRowsModel", "isSame", "(II)Z"⟩, 51), (⟨"CoatRowsModel", "goOn", "(I)I"⟩, 51), (⟨"CoatRowsModel", "years", "()V"⟩, 51), (⟨"CoatRowsModel", "later", "(I)I"⟩, 51), (⟨"CoatRowsModel", "areTwo", "(II)Z"⟩, 51), (⟨"CoatRowsModel", "lay", "(II)V"⟩, 51)]
theorem lw_r4 : ∀ q ∈ lw_privs_4, lw_okq q := List.forall_mem_cons.mpr ⟨lw_p48, List.forall_mem_cons.mpr ⟨lw_p49, List.forall_mem_cons.mpr ⟨lw_p50, List.forall_mem_cons.mpr ⟨lw_p51, List.forall_mem_cons.mpr ⟨lw_p52, List.forall_mem_cons.mpr ⟨lw_p53, List.forall_mem_cons.mpr ⟨lw_p54, List.forall_mem_cons.mpr ⟨lw_p55, List.forall_mem_cons.mpr ⟨lw_p56, List.forall_mem_cons.mpr ⟨lw_p57, List.forall_mem_cons.mpr ⟨lw_p58, List.forall_mem_cons.mpr ⟨lw_p59, List.forall_mem_cons.mpr ⟨lw_p60, List.forall_mem_cons.mpr ⟨lw_p61, List.forall_mem_cons.mpr ⟨lw_p62, List.forall_mem_cons.mpr ⟨lw_p63, fun _ h => absurd h List.not_mem_nil⟩⟩⟩⟩⟩⟩⟩⟩⟩⟩⟩⟩⟩⟩⟩⟩
theorem lw_p64 : lw_okq (⟨"CoatRowsModel", "areSame", "(IIII)Z"⟩, 51) := ⟨⟨by decide +kernel, by decide +kernel⟩, List.mem_of_getElem? (i := 785) (by decide +kernel), List.mem_of_getElem? (i := 1076) (by decide +kernel), List.mem_of_getElem? (i := 1077) (by decide +kernel)⟩
theorem lw_p65 : lw_okq (⟨"CoatRowsModel", "costOf", "(IIIII)I"⟩, 51) := ⟨⟨by decide +kernel, by decide +kernel⟩, List.mem_of_getElem? (i := 785) (by decide +kernel), List.mem_of_getElem? (i := 1080) (by decide +kernel), List.mem_of_getElem? (i := 1081) (by decide +kernel)⟩
theorem lw_p66 : lw_okq (⟨"CoatRowsModel", "hasPainting", "(II)Z"⟩, 51) := ⟨⟨by decide +kernel, by decide +kernel⟩, List.mem_of_getElem? (i := 785) (by decide +kernel), List.mem_of_getElem? (i := 1101) (by decide +kernel), List.mem_of_getElem? (i := 1102) (by decide +kernel)⟩
theorem lw_p67 : lw_okq (⟨"CoatRowsModel", "moved", "(I)I"⟩, 51) := ⟨⟨by decide +kernel, by decide +kernel⟩, List.mem_of_getElem? (i := 785) (by decide +kernel), List.mem_of_getElem? (i := 1109) (by decide +kernel), List.mem_of_getElem? (i := 1110) (by decide +kernel)⟩
theorem lw_p68 : lw_okq (⟨"CoatRowsModel", "suits", "(III)Z"⟩, 51) := ⟨⟨by decide +kernel, by decide +kernel⟩, List.mem_of_getElem? (i := 785) (by decide +kernel), List.mem_of_getElem? (i := 1130) (by decide +kernel), List.mem_of_getElem? (i := 1131) (by decide +kernel)⟩
theorem lw_p69 : lw_okq (⟨"CoatRowsModel", "ofCoat", "(II)I"⟩, 51) := ⟨⟨by decide +kernel, by decide +kernel⟩, List.mem_of_getElem? (i := 785) (by decide +kernel), List.mem_of_getElem? (i := 1150) (by decide +kernel), List.mem_of_getElem? (i := 1151) (by decide +kernel)⟩
theorem lw_p70 : lw_okq (⟨"CoatRowsModel", "ofWhole", "(II)I"⟩, 51) := ⟨⟨by decide +kernel, by decide +kernel⟩, List.mem_of_getElem? (i := 785) (by decide +kernel), List.mem_of_getElem? (i := 1154) (by decide +kernel), List.mem_of_getElem? (i := 1155) (by decide +kernel)⟩
theorem lw_p71 : lw_okq (⟨"CoatRowsModel", "ofUnder", "(II)I"⟩, 51) := ⟨⟨by decide +kernel, by decide +kernel⟩, List.mem_of_getElem? (i := 785) (by decide +kernel), List.mem_of_getElem? (i := 1158) (by decide +kernel), List.mem_of_getElem? (i := 1159) (by decide +kernel)⟩
def lw_privs_5 : List (MethodName × Nat) := [(⟨"CoatRowsModel", "areSame", "(IIII)Z"⟩, 51), (⟨"CoatRowsModel", "costOf", "(IIIII)I"⟩, 51), (⟨"CoatRowsModel", "hasPainting", "(II)Z"⟩, 51), (⟨"CoatRowsModel", "moved", "(I)I"⟩, 51), (⟨"CoatRowsModel", "suits", "(III)Z"⟩, 51), (⟨"CoatRowsModel", "ofCoat", "(II)I"⟩, 51), (⟨"CoatRowsModel", "ofWhole", "(II)I"⟩, 51), (⟨"CoatRowsModel", "ofUnder", "(II)I"⟩, 51)]
theorem lw_r5 : ∀ q ∈ lw_privs_5, lw_okq q := List.forall_mem_cons.mpr ⟨lw_p64, List.forall_mem_cons.mpr ⟨lw_p65, List.forall_mem_cons.mpr ⟨lw_p66, List.forall_mem_cons.mpr ⟨lw_p67, List.forall_mem_cons.mpr ⟨lw_p68, List.forall_mem_cons.mpr ⟨lw_p69, List.forall_mem_cons.mpr ⟨lw_p70, List.forall_mem_cons.mpr ⟨lw_p71, fun _ h => absurd h List.not_mem_nil⟩⟩⟩⟩⟩⟩⟩⟩
def lw_privs : List (MethodName × Nat) := lw_privs_1 ++ (lw_privs_2 ++ (lw_privs_3 ++ (lw_privs_4 ++ (lw_privs_5))))
def lw_tbl : List Cond := k2_sels lw_privs ++ tables_1
theorem lw_privs_ok : ∀ q ∈ lw_privs, lw_okq q := by
  show ∀ q ∈ lw_privs_1 ++ (lw_privs_2 ++ (lw_privs_3 ++ (lw_privs_4 ++ (lw_privs_5)))), lw_okq q
  exact List.forall_mem_append.mpr ⟨lw_r1, List.forall_mem_append.mpr ⟨lw_r2, List.forall_mem_append.mpr ⟨lw_r3, List.forall_mem_append.mpr ⟨lw_r4, lw_r5⟩⟩⟩⟩
def RX0 : String := "CoatRows$Book"
def TX0 : u_T := fun k => match k with
  | 0 => ("CoatRows$Book", "from", "[I", true)
  | 1 => ("CoatRows$Book", "until", "[I", true)
  | 2 => ("CoatRows$Book", "alike", "[I", true)
  | 3 => ("CoatRows$Book", "billYears", "[I", true)
  | 4 => ("CoatRows$Book", "billColours", "[I", true)
  | 5 => ("CoatRows$Book", "bills", "I", false)
  | _ => ("CoatRows$Book", "items", "I", false)
def tyX0 : Nat → FieldType := fun k => match k with
  | 0 => .array .int
  | 1 => .array .int
  | 2 => .array .int
  | 3 => .array .int
  | 4 => .array .int
  | 5 => .int
  | _ => .int
theorem nmX0 : ∀ a, a < 7 → ∀ b, b < 7 → a ≠ b → (TX0 a).2.1 ≠ (TX0 b).2.1 := by decide +kernel
theorem tyX0_ok : ∀ k, k < 7 → parseFieldDescriptor (TX0 k).2.2.1 = some (tyX0 k) := by decide +kernel
abbrev cX0_init : ByteArray := prog_2_method_1_code
def yX0_init : MethodName := ⟨RX0, "<init>", "()V"⟩
abbrev cX0_empty : ByteArray := prog_2_method_2_code
def yX0_empty : MethodName := ⟨RX0, "empty", "()V"⟩
abbrev cX0_read : ByteArray := prog_2_method_3_code
def yX0_read : MethodName := ⟨RX0, "read", "(LCoatRows$Text;)Z"⟩
abbrev cX0_readItem : ByteArray := prog_2_method_4_code
def yX0_readItem : MethodName := ⟨RX0, "readItem", "(LCoatRows$Text;)Z"⟩
abbrev cX0_readStuff : ByteArray := prog_2_method_5_code
def yX0_readStuff : MethodName := ⟨RX0, "readStuff", "(LCoatRows$Text;)Z"⟩
abbrev cX0_readAlike : ByteArray := prog_2_method_6_code
def yX0_readAlike : MethodName := ⟨RX0, "readAlike", "(LCoatRows$Text;)Z"⟩
abbrev cX0_readBill : ByteArray := prog_2_method_7_code
def yX0_readBill : MethodName := ⟨RX0, "readBill", "(LCoatRows$Text;)Z"⟩
def RX1 : String := "CoatRows$Chip"
def TX1 : u_T := fun k => match k with
  | 0 => ("CoatRows$Chip", "colours", "[I", true)
  | 1 => ("CoatRows$Chip", "dirts", "[I", true)
  | 2 => ("CoatRows$Chip", "room", "I", false)
  | 3 => ("CoatRows$Chip", "size", "I", false)
  | _ => ("CoatRows$Chip", "pores", "Z", false)
def tyX1 : Nat → FieldType := fun k => match k with
  | 0 => .array .int
  | 1 => .array .int
  | 2 => .int
  | 3 => .int
  | _ => .boolean
theorem nmX1 : ∀ a, a < 5 → ∀ b, b < 5 → a ≠ b → (TX1 a).2.1 ≠ (TX1 b).2.1 := by decide +kernel
theorem tyX1_ok : ∀ k, k < 5 → parseFieldDescriptor (TX1 k).2.2.1 = some (tyX1 k) := by decide +kernel
abbrev cX1_init : ByteArray := prog_3_method_1_code
def yX1_init : MethodName := ⟨RX1, "<init>", "()V"⟩
abbrev cX1_read : ByteArray := prog_3_method_2_code
def yX1_read : MethodName := ⟨RX1, "read", "(LCoatRows$Text;)Z"⟩
abbrev cX1_readCoats : ByteArray := prog_3_method_3_code
def yX1_readCoats : MethodName := ⟨RX1, "readCoats", "(LCoatRows$Text;)Z"⟩
abbrev cX1_copy : ByteArray := prog_3_method_4_code
def yX1_copy : MethodName := ⟨RX1, "copy", "(LCoatRows$Chip;)V"⟩
def RX2 : String := "CoatRows$Laying"
def TX2 : u_T := fun k => match k with
  | 0 => ("CoatRows$Laying", "costs", "[I", true)
  | 1 => ("CoatRows$Laying", "counts", "[J", true)
  | 2 => ("CoatRows$Laying", "one", "LCoatRows$Chip;", false)
  | 3 => ("CoatRows$Laying", "other", "LCoatRows$Chip;", false)
  | 4 => ("CoatRows$Laying", "same", "[I", false)
  | 5 => ("CoatRows$Laying", "miss", "I", false)
  | _ => ("CoatRows$Laying", "soil", "I", false)
def tyX2 : Nat → FieldType := fun k => match k with
  | 0 => .array .int
  | 1 => .array .long
  | 2 => .object "CoatRows$Chip"
  | 3 => .object "CoatRows$Chip"
  | 4 => .array .int
  | 5 => .int
  | _ => .int
theorem nmX2 : ∀ a, a < 7 → ∀ b, b < 7 → a ≠ b → (TX2 a).2.1 ≠ (TX2 b).2.1 := by decide +kernel
theorem tyX2_ok : ∀ k, k < 7 → parseFieldDescriptor (TX2 k).2.2.1 = some (tyX2 k) := by decide +kernel
abbrev cX2_init : ByteArray := prog_4_method_1_code
def yX2_init : MethodName := ⟨RX2, "<init>", "()V"⟩
abbrev cX2_lay : ByteArray := prog_4_method_2_code
def yX2_lay : MethodName := ⟨RX2, "lay", "(LCoatRows$Chip;LCoatRows$Chip;[III)V"⟩
abbrev cX2_leastCost : ByteArray := prog_4_method_3_code
def yX2_leastCost : MethodName := ⟨RX2, "leastCost", "()I"⟩
abbrev cX2_leastWays : ByteArray := prog_4_method_4_code
def yX2_leastWays : MethodName := ⟨RX2, "leastWays", "()J"⟩
abbrev cX2_beside : ByteArray := prog_4_method_5_code
def yX2_beside : MethodName := ⟨RX2, "beside", "(I)I"⟩
abbrev cX2_nearest : ByteArray := prog_4_method_6_code
def yX2_nearest : MethodName := ⟨RX2, "nearest", "(II)I"⟩
abbrev cX2_fill : ByteArray := prog_4_method_7_code
def yX2_fill : MethodName := ⟨RX2, "fill", "(II)V"⟩
abbrev cX2_isSame : ByteArray := prog_4_method_8_code
def yX2_isSame : MethodName := ⟨RX2, "isSame", "(II)Z"⟩
abbrev cX2_costBeside : ByteArray := prog_4_method_9_code
def yX2_costBeside : MethodName := ⟨RX2, "costBeside", "(III)I"⟩
def RX3 : String := "CoatRows$Paintings"
def TX3 : u_T := fun k => match k with
  | 0 => ("CoatRows$Paintings", "count", "I", false)
  | 1 => ("CoatRows$Paintings", "colours", "[I", true)
  | 2 => ("CoatRows$Paintings", "had", "[I", true)
  | 3 => ("CoatRows$Paintings", "dirts", "[I", true)
  | 4 => ("CoatRows$Paintings", "ofCoat", "[I", true)
  | 5 => ("CoatRows$Paintings", "left", "[B", false)
  | 6 => ("CoatRows$Paintings", "strides", "[I", true)
  | 7 => ("CoatRows$Paintings", "places", "[I", true)
  | 8 => ("CoatRows$Paintings", "wants", "[I", true)
  | 9 => ("CoatRows$Paintings", "servingColours", "[I", true)
  | 10 => ("CoatRows$Paintings", "servingStrides", "[I", true)
  | 11 => ("CoatRows$Paintings", "serving", "I", false)
  | 12 => ("CoatRows$Paintings", "chips", "LCoatRows$Shelf;", false)
  | _ => ("CoatRows$Paintings", "same", "[I", false)
def tyX3 : Nat → FieldType := fun k => match k with
  | 0 => .int
  | 1 => .array .int
  | 2 => .array .int
  | 3 => .array .int
  | 4 => .array .int
  | 5 => .array .byte
  | 6 => .array .int
  | 7 => .array .int
  | 8 => .array .int
  | 9 => .array .int
  | 10 => .array .int
  | 11 => .int
  | 12 => .object "CoatRows$Shelf"
  | _ => .array .int
theorem nmX3 : ∀ a, a < 14 → ∀ b, b < 14 → a ≠ b → (TX3 a).2.1 ≠ (TX3 b).2.1 := by decide +kernel
theorem tyX3_ok : ∀ k, k < 14 → parseFieldDescriptor (TX3 k).2.2.1 = some (tyX3 k) := by decide +kernel
abbrev cX3_init : ByteArray := prog_5_method_1_code
def yX3_init : MethodName := ⟨RX3, "<init>", "()V"⟩
abbrev cX3_find : ByteArray := prog_5_method_2_code
def yX3_find : MethodName := ⟨RX3, "find", "(LCoatRows$Shelf;[I)V"⟩
abbrev cX3_makeRoom : ByteArray := prog_5_method_3_code
def yX3_makeRoom : MethodName := ⟨RX3, "makeRoom", "(I)V"⟩
abbrev cX3_notIn : ByteArray := prog_5_method_4_code
def yX3_notIn : MethodName := ⟨RX3, "notIn", "(I)I"⟩
abbrev cX3_findServing : ByteArray := prog_5_method_5_code
def yX3_findServing : MethodName := ⟨RX3, "findServing", "()V"⟩
abbrev cX3_fillRow : ByteArray := prog_5_method_6_code
def yX3_fillRow : MethodName := ⟨RX3, "fillRow", "(II)V"⟩
abbrev cX3_walk : ByteArray := prog_5_method_7_code
def yX3_walk : MethodName := ⟨RX3, "walk", "()V"⟩
abbrev cX3_firstColour : ByteArray := prog_5_method_8_code
def yX3_firstColour : MethodName := ⟨RX3, "firstColour", "(I)I"⟩
abbrev cX3_paint : ByteArray := prog_5_method_9_code
def yX3_paint : MethodName := ⟨RX3, "paint", "(I)V"⟩
abbrev cX3_look : ByteArray := prog_5_method_10_code
def yX3_look : MethodName := ⟨RX3, "look", "(I)V"⟩
abbrev cX3_strideOf : ByteArray := prog_5_method_11_code
def yX3_strideOf : MethodName := ⟨RX3, "strideOf", "(II)I"⟩
def RX4 : String := "CoatRows$Shelf"
def TX4 : u_T := fun k => match k with
  | 0 => ("CoatRows$Shelf", "row", "[LCoatRows$Chip;", true)
  | 1 => ("CoatRows$Shelf", "count", "I", false)
  | _ => ("CoatRows$Shelf", "kept", "Z", false)
def tyX4 : Nat → FieldType := fun k => match k with
  | 0 => .array (.object "CoatRows$Chip")
  | 1 => .int
  | _ => .boolean
theorem nmX4 : ∀ a, a < 3 → ∀ b, b < 3 → a ≠ b → (TX4 a).2.1 ≠ (TX4 b).2.1 := by decide +kernel
theorem tyX4_ok : ∀ k, k < 3 → parseFieldDescriptor (TX4 k).2.2.1 = some (tyX4 k) := by decide +kernel
abbrev cX4_init : ByteArray := prog_6_method_1_code
def yX4_init : MethodName := ⟨RX4, "<init>", "()V"⟩
abbrev cX4_takeOut : ByteArray := prog_6_method_2_code
def yX4_takeOut : MethodName := ⟨RX4, "takeOut", "(I)V"⟩
abbrev cX4_copy : ByteArray := prog_6_method_3_code
def yX4_copy : MethodName := ⟨RX4, "copy", "(LCoatRows$Shelf;)V"⟩
abbrev cX4_coats : ByteArray := prog_6_method_4_code
def yX4_coats : MethodName := ⟨RX4, "coats", "()I"⟩
abbrev cX4_inRoom : ByteArray := prog_6_method_5_code
def yX4_inRoom : MethodName := ⟨RX4, "inRoom", "(I)I"⟩
def RX5 : String := "CoatRows$Text"
def TX5 : u_T := fun k => match k with
  | 0 => ("CoatRows$Text", "bytes", "[B", true)
  | 1 => ("CoatRows$Text", "length", "I", false)
  | 2 => ("CoatRows$Text", "taken", "I", false)
  | 3 => ("CoatRows$Text", "kinds", "[I", true)
  | 4 => ("CoatRows$Text", "numbers", "[I", true)
  | 5 => ("CoatRows$Text", "places", "[I", true)
  | 6 => ("CoatRows$Text", "tokens", "I", false)
  | _ => ("CoatRows$Text", "at", "I", false)
def tyX5 : Nat → FieldType := fun k => match k with
  | 0 => .array .byte
  | 1 => .int
  | 2 => .int
  | 3 => .array .int
  | 4 => .array .int
  | 5 => .array .int
  | 6 => .int
  | _ => .int
theorem nmX5 : ∀ a, a < 8 → ∀ b, b < 8 → a ≠ b → (TX5 a).2.1 ≠ (TX5 b).2.1 := by decide +kernel
theorem tyX5_ok : ∀ k, k < 8 → parseFieldDescriptor (TX5 k).2.2.1 = some (tyX5 k) := by decide +kernel
abbrev cX5_init : ByteArray := prog_7_method_1_code
def yX5_init : MethodName := ⟨RX5, "<init>", "()V"⟩
abbrev cX5_add : ByteArray := prog_7_method_2_code
def yX5_add : MethodName := ⟨RX5, "add", "(JI)Z"⟩
abbrev cX5_split : ByteArray := prog_7_method_3_code
def yX5_split : MethodName := ⟨RX5, "split", "()V"⟩
abbrev cX5_isAt : ByteArray := prog_7_method_4_code
def yX5_isAt : MethodName := ⟨RX5, "isAt", "(I)Z"⟩
abbrev cX5_fault : ByteArray := prog_7_method_5_code
def yX5_fault : MethodName := ⟨RX5, "fault", "()I"⟩
abbrev cX5_take : ByteArray := prog_7_method_6_code
def yX5_take : MethodName := ⟨RX5, "take", "(I)Z"⟩
abbrev cX5_takeNumber : ByteArray := prog_7_method_7_code
def yX5_takeNumber : MethodName := ⟨RX5, "takeNumber", "(II)Z"⟩
abbrev cX5_takeColourBut : ByteArray := prog_7_method_8_code
def yX5_takeColourBut : MethodName := ⟨RX5, "takeColourBut", "(I)Z"⟩
abbrev cX5_beginsToken : ByteArray := prog_7_method_9_code
def yX5_beginsToken : MethodName := ⟨RX5, "beginsToken", "(I)Z"⟩
abbrev cX5_readToken : ByteArray := prog_7_method_10_code
def yX5_readToken : MethodName := ⟨RX5, "readToken", "(I)V"⟩
abbrev cX5_readNumber : ByteArray := prog_7_method_11_code
def yX5_readNumber : MethodName := ⟨RX5, "readNumber", "(I)V"⟩
abbrev cX5_readWord : ByteArray := prog_7_method_12_code
def yX5_readWord : MethodName := ⟨RX5, "readWord", "(I)V"⟩
abbrev cX5_kindOfWord : ByteArray := prog_7_method_13_code
def yX5_kindOfWord : MethodName := ⟨RX5, "kindOfWord", "(II)I"⟩
abbrev cX5_isWord : ByteArray := prog_7_method_14_code
def yX5_isWord : MethodName := ⟨RX5, "isWord", "(Ljava/lang/String;II)Z"⟩
abbrev cX5_isDigit : ByteArray := prog_7_method_15_code
def yX5_isDigit : MethodName := ⟨RX5, "isDigit", "(I)Z"⟩
abbrev cX5_isLetter : ByteArray := prog_7_method_16_code
def yX5_isLetter : MethodName := ⟨RX5, "isLetter", "(I)Z"⟩
def RX6 : String := "CoatRows$Years"
def TX6 : u_T := fun k => match k with
  | 0 => ("CoatRows$Years", "can", "Z", false)
  | 1 => ("CoatRows$Years", "earliest", "[I", true)
  | 2 => ("CoatRows$Years", "latest", "[I", true)
  | 3 => ("CoatRows$Years", "matched", "I", false)
  | 4 => ("CoatRows$Years", "billOf", "[I", true)
  | _ => ("CoatRows$Years", "most", "[I", true)
def tyX6 : Nat → FieldType := fun k => match k with
  | 0 => .boolean
  | 1 => .array .int
  | 2 => .array .int
  | 3 => .int
  | 4 => .array .int
  | _ => .array .int
theorem nmX6 : ∀ a, a < 6 → ∀ b, b < 6 → a ≠ b → (TX6 a).2.1 ≠ (TX6 b).2.1 := by decide +kernel
theorem tyX6_ok : ∀ k, k < 6 → parseFieldDescriptor (TX6 k).2.2.1 = some (tyX6 k) := by decide +kernel
abbrev cX6_init : ByteArray := prog_8_method_1_code
def yX6_init : MethodName := ⟨RX6, "<init>", "()V"⟩
abbrev cX6_find : ByteArray := prog_8_method_2_code
def yX6_find : MethodName := ⟨RX6, "find", "(LCoatRows$Paintings;LCoatRows$Book;I)V"⟩
abbrev cX6_match : ByteArray := prog_8_method_3_code
def yX6_match : MethodName := ⟨RX6, "match", "(LCoatRows$Paintings;LCoatRows$Book;)V"⟩
abbrev cX6_mostFrom : ByteArray := prog_8_method_4_code
def yX6_mostFrom : MethodName := ⟨RX6, "mostFrom", "(IIILCoatRows$Book;)I"⟩
abbrev cX6_leastBill : ByteArray := prog_8_method_5_code
def yX6_leastBill : MethodName := ⟨RX6, "leastBill", "(IIILCoatRows$Book;)I"⟩
abbrev cX6_fits : ByteArray := prog_8_method_6_code
def yX6_fits : MethodName := ⟨RX6, "fits", "(IIIILCoatRows$Book;)Z"⟩
def RX7 : String := "CoatRows"
def TX7 : u_T := fun k => match k with
  | 0 => ("CoatRows", "text", "LCoatRows$Text;", true)
  | 1 => ("CoatRows", "chips", "LCoatRows$Shelf;", true)
  | 2 => ("CoatRows", "images", "[LCoatRows$Shelf;", true)
  | 3 => ("CoatRows", "tunes", "[I", true)
  | 4 => ("CoatRows", "same", "[I", true)
  | 5 => ("CoatRows", "laying", "LCoatRows$Laying;", true)
  | 6 => ("CoatRows", "paintings", "LCoatRows$Paintings;", true)
  | 7 => ("CoatRows", "years", "LCoatRows$Years;", true)
  | 8 => ("CoatRows", "book", "LCoatRows$Book;", false)
  | 9 => ("CoatRows", "spare", "LCoatRows$Book;", false)
  | 10 => ("CoatRows", "settled", "Z", false)
  | _ => ("CoatRows", "trace", "J", false)
def tyX7 : Nat → FieldType := fun k => match k with
  | 0 => .object "CoatRows$Text"
  | 1 => .object "CoatRows$Shelf"
  | 2 => .array (.object "CoatRows$Shelf")
  | 3 => .array .int
  | 4 => .array .int
  | 5 => .object "CoatRows$Laying"
  | 6 => .object "CoatRows$Paintings"
  | 7 => .object "CoatRows$Years"
  | 8 => .object "CoatRows$Book"
  | 9 => .object "CoatRows$Book"
  | 10 => .boolean
  | _ => .long
theorem nmX7 : ∀ a, a < 12 → ∀ b, b < 12 → a ≠ b → (TX7 a).2.1 ≠ (TX7 b).2.1 := by decide +kernel
theorem tyX7_ok : ∀ k, k < 12 → parseFieldDescriptor (TX7 k).2.2.1 = some (tyX7 k) := by decide +kernel
abbrev cX7_init : ByteArray := prog_1_method_1_code
def yX7_init : MethodName := ⟨RX7, "<init>", "()V"⟩
abbrev cX7_type : ByteArray := prog_1_method_2_code
def yX7_type : MethodName := ⟨RX7, "type", "(JI)I"⟩
abbrev cX7_clear : ByteArray := prog_1_method_3_code
def yX7_clear : MethodName := ⟨RX7, "clear", "()I"⟩
abbrev cX7_chip : ByteArray := prog_1_method_4_code
def yX7_chip : MethodName := ⟨RX7, "chip", "()I"⟩
abbrev cX7_book : ByteArray := prog_1_method_5_code
def yX7_book : MethodName := ⟨RX7, "book", "()I"⟩
abbrev cX7_drop : ByteArray := prog_1_method_6_code
def yX7_drop : MethodName := ⟨RX7, "drop", "(I)I"⟩
abbrev cX7_about : ByteArray := prog_1_method_7_code
def yX7_about : MethodName := ⟨RX7, "about", "(II)I"⟩
abbrev cX7_coat : ByteArray := prog_1_method_8_code
def yX7_coat : MethodName := ⟨RX7, "coat", "(III)I"⟩
abbrev cX7_colour : ByteArray := prog_1_method_9_code
def yX7_colour : MethodName := ⟨RX7, "colour", "(II)I"⟩
abbrev cX7_tune : ByteArray := prog_1_method_10_code
def yX7_tune : MethodName := ⟨RX7, "tune", "(II)I"⟩
abbrev cX7_least : ByteArray := prog_1_method_11_code
def yX7_least : MethodName := ⟨RX7, "least", "(II)I"⟩
abbrev cX7_ways : ByteArray := prog_1_method_12_code
def yX7_ways : MethodName := ⟨RX7, "ways", "(II)J"⟩
abbrev cX7_laid : ByteArray := prog_1_method_13_code
def yX7_laid : MethodName := ⟨RX7, "laid", "(III)I"⟩
abbrev cX7_painting : ByteArray := prog_1_method_14_code
def yX7_painting : MethodName := ⟨RX7, "painting", "(I)I"⟩
abbrev cX7_had : ByteArray := prog_1_method_15_code
def yX7_had : MethodName := ⟨RX7, "had", "(I)I"⟩
abbrev cX7_face : ByteArray := prog_1_method_16_code
def yX7_face : MethodName := ⟨RX7, "face", "(II)I"⟩
abbrev cX7_span : ByteArray := prog_1_method_17_code
def yX7_span : MethodName := ⟨RX7, "span", "(II)I"⟩
abbrev cX7_day : ByteArray := prog_1_method_18_code
def yX7_day : MethodName := ⟨RX7, "day", "(II)I"⟩
abbrev cX7_bill : ByteArray := prog_1_method_19_code
def yX7_bill : MethodName := ⟨RX7, "bill", "(II)I"⟩
abbrev cX7_billed : ByteArray := prog_1_method_20_code
def yX7_billed : MethodName := ⟨RX7, "billed", "(I)I"⟩
abbrev cX7_enough : ByteArray := prog_1_method_21_code
def yX7_enough : MethodName := ⟨RX7, "enough", "(II)I"⟩
abbrev cX7_next : ByteArray := prog_1_method_22_code
def yX7_next : MethodName := ⟨RX7, "next", "()I"⟩
abbrev cX7_rank : ByteArray := prog_1_method_23_code
def yX7_rank : MethodName := ⟨RX7, "rank", "(III)I"⟩
abbrev cX7_keep : ByteArray := prog_1_method_24_code
def yX7_keep : MethodName := ⟨RX7, "keep", "(I)I"⟩
abbrev cX7_back : ByteArray := prog_1_method_25_code
def yX7_back : MethodName := ⟨RX7, "back", "(I)I"⟩
abbrev cX7_count : ByteArray := prog_1_method_26_code
def yX7_count : MethodName := ⟨RX7, "count", "(I)I"⟩
abbrev cX7_trace : ByteArray := prog_1_method_27_code
def yX7_trace : MethodName := ⟨RX7, "trace", "()J"⟩
abbrev cX7_isChip : ByteArray := prog_1_method_28_code
def yX7_isChip : MethodName := ⟨RX7, "isChip", "(I)Z"⟩
abbrev cX7_isCoat : ByteArray := prog_1_method_29_code
def yX7_isCoat : MethodName := ⟨RX7, "isCoat", "(II)Z"⟩
abbrev cX7_areTwo : ByteArray := prog_1_method_30_code
def yX7_areTwo : MethodName := ⟨RX7, "areTwo", "(II)Z"⟩
abbrev cX7_isPainting : ByteArray := prog_1_method_31_code
def yX7_isPainting : MethodName := ⟨RX7, "isPainting", "(I)Z"⟩
abbrev cX7_findSame : ByteArray := prog_1_method_32_code
def yX7_findSame : MethodName := ⟨RX7, "findSame", "()V"⟩
abbrev cX7_lay : ByteArray := prog_1_method_33_code
def yX7_lay : MethodName := ⟨RX7, "lay", "(II)V"⟩
abbrev cX7_settle : ByteArray := prog_1_method_34_code
def yX7_settle : MethodName := ⟨RX7, "settle", "()V"⟩
abbrev cX7_paintingOf : ByteArray := prog_1_method_35_code
def yX7_paintingOf : MethodName := ⟨RX7, "paintingOf", "(II)I"⟩
abbrev cX7_missedBy : ByteArray := prog_1_method_36_code
def yX7_missedBy : MethodName := ⟨RX7, "missedBy", "(I)I"⟩
abbrev cX7_ageOf : ByteArray := prog_1_method_37_code
def yX7_ageOf : MethodName := ⟨RX7, "ageOf", "(I)I"⟩
abbrev cX7_movedFrom : ByteArray := prog_1_method_38_code
def yX7_movedFrom : MethodName := ⟨RX7, "movedFrom", "(I)I"⟩
abbrev cX7_lastCoats : ByteArray := prog_1_method_39_code
def yX7_lastCoats : MethodName := ⟨RX7, "lastCoats", "(II)I"⟩
abbrev cX7_oddsOfAll : ByteArray := prog_1_method_40_code
def yX7_oddsOfAll : MethodName := ⟨RX7, "oddsOfAll", "(IJ)J"⟩
abbrev cX7_asCoat : ByteArray := prog_1_method_41_code
def yX7_asCoat : MethodName := ⟨RX7, "asCoat", "(II)I"⟩
abbrev cX7_asWhole : ByteArray := prog_1_method_42_code
def yX7_asWhole : MethodName := ⟨RX7, "asWhole", "(II)I"⟩
abbrev cX7_asUnder : ByteArray := prog_1_method_43_code
def yX7_asUnder : MethodName := ⟨RX7, "asUnder", "(II)I"⟩
abbrev cX7_asPatch : ByteArray := prog_1_method_44_code
def yX7_asPatch : MethodName := ⟨RX7, "asPatch", "(II)I"⟩
abbrev cX7_asScraped : ByteArray := prog_1_method_45_code
def yX7_asScraped : MethodName := ⟨RX7, "asScraped", "(II)I"⟩
abbrev cX7_asVarnish : ByteArray := prog_1_method_46_code
def yX7_asVarnish : MethodName := ⟨RX7, "asVarnish", "(II)I"⟩
def RX8 : String := "CoatRowsModel"
def TX8 : u_T := fun k => match k with
  | 0 => ("CoatRowsModel", "text", "[I", true)
  | 1 => ("CoatRowsModel", "size", "I", false)
  | 2 => ("CoatRowsModel", "at", "I", false)
  | 3 => ("CoatRowsModel", "from", "I", false)
  | 4 => ("CoatRowsModel", "token", "I", false)
  | 5 => ("CoatRowsModel", "value", "I", false)
  | 6 => ("CoatRowsModel", "chips", "I", false)
  | 7 => ("CoatRowsModel", "room", "[I", true)
  | 8 => ("CoatRowsModel", "pores", "[I", true)
  | 9 => ("CoatRowsModel", "coats", "[I", true)
  | 10 => ("CoatRowsModel", "colour", "[I", true)
  | 11 => ("CoatRowsModel", "dirt", "[I", true)
  | 12 => ("CoatRowsModel", "readColour", "[I", true)
  | 13 => ("CoatRowsModel", "readDirt", "[I", true)
  | 14 => ("CoatRowsModel", "soldFrom", "[I", true)
  | 15 => ("CoatRowsModel", "soldTo", "[I", true)
  | 16 => ("CoatRowsModel", "like", "[I", true)
  | 17 => ("CoatRowsModel", "bills", "I", false)
  | 18 => ("CoatRowsModel", "billYear", "[I", true)
  | 19 => ("CoatRowsModel", "billColour", "[I", true)
  | 20 => ("CoatRowsModel", "readFrom", "[I", true)
  | 21 => ("CoatRowsModel", "readTo", "[I", true)
  | 22 => ("CoatRowsModel", "readLike", "[I", true)
  | 23 => ("CoatRowsModel", "readYear", "[I", true)
  | 24 => ("CoatRowsModel", "readOf", "[I", true)
  | 25 => ("CoatRowsModel", "tunes", "[I", true)
  | 26 => ("CoatRowsModel", "kept", "[I", true)
  | 27 => ("CoatRowsModel", "keptRoom", "[I", true)
  | 28 => ("CoatRowsModel", "keptPores", "[I", true)
  | 29 => ("CoatRowsModel", "keptCoats", "[I", true)
  | 30 => ("CoatRowsModel", "keptColour", "[I", true)
  | 31 => ("CoatRowsModel", "keptDirt", "[I", true)
  | 32 => ("CoatRowsModel", "trace", "J", false)
  | 33 => ("CoatRowsModel", "cost", "[I", true)
  | 34 => ("CoatRowsModel", "many", "[J", true)
  | 35 => ("CoatRowsModel", "wanted", "[I", true)
  | 36 => ("CoatRowsModel", "place", "[I", true)
  | 37 => ("CoatRowsModel", "next", "[I", true)
  | 38 => ("CoatRowsModel", "paintings", "I", false)
  | 39 => ("CoatRowsModel", "painted", "[I", true)
  | 40 => ("CoatRowsModel", "of", "[I", true)
  | 41 => ("CoatRowsModel", "isMade", "Z", false)
  | 42 => ("CoatRowsModel", "earliest", "[I", true)
  | 43 => ("CoatRowsModel", "latest", "[I", true)
  | 44 => ("CoatRowsModel", "canBe", "Z", false)
  | 45 => ("CoatRowsModel", "fit", "[I", true)
  | 46 => ("CoatRowsModel", "readRoom", "I", false)
  | 47 => ("CoatRowsModel", "readPores", "I", false)
  | 48 => ("CoatRowsModel", "readCoats", "I", false)
  | 49 => ("CoatRowsModel", "readBills", "I", false)
  | _ => ("CoatRowsModel", "went", "Z", false)
def tyX8 : Nat → FieldType := fun k => match k with
  | 0 => .array .int
  | 1 => .int
  | 2 => .int
  | 3 => .int
  | 4 => .int
  | 5 => .int
  | 6 => .int
  | 7 => .array .int
  | 8 => .array .int
  | 9 => .array .int
  | 10 => .array .int
  | 11 => .array .int
  | 12 => .array .int
  | 13 => .array .int
  | 14 => .array .int
  | 15 => .array .int
  | 16 => .array .int
  | 17 => .int
  | 18 => .array .int
  | 19 => .array .int
  | 20 => .array .int
  | 21 => .array .int
  | 22 => .array .int
  | 23 => .array .int
  | 24 => .array .int
  | 25 => .array .int
  | 26 => .array .int
  | 27 => .array .int
  | 28 => .array .int
  | 29 => .array .int
  | 30 => .array .int
  | 31 => .array .int
  | 32 => .long
  | 33 => .array .int
  | 34 => .array .long
  | 35 => .array .int
  | 36 => .array .int
  | 37 => .array .int
  | 38 => .int
  | 39 => .array .int
  | 40 => .array .int
  | 41 => .boolean
  | 42 => .array .int
  | 43 => .array .int
  | 44 => .boolean
  | 45 => .array .int
  | 46 => .int
  | 47 => .int
  | 48 => .int
  | 49 => .int
  | _ => .boolean
theorem nmX8 : ∀ a, a < 51 → ∀ b, b < 51 → a ≠ b → (TX8 a).2.1 ≠ (TX8 b).2.1 := by decide +kernel
theorem tyX8_ok : ∀ k, k < 51 → parseFieldDescriptor (TX8 k).2.2.1 = some (tyX8 k) := by decide +kernel
abbrev cX8_init : ByteArray := prog_10_method_1_code
def yX8_init : MethodName := ⟨RX8, "<init>", "()V"⟩
abbrev cX8_in : ByteArray := prog_10_method_3_code
def yX8_in : MethodName := ⟨RX8, "in", "(III)Z"⟩
abbrev cX8_type : ByteArray := prog_10_method_4_code
def yX8_type : MethodName := ⟨RX8, "type", "(JI)I"⟩
abbrev cX8_clear : ByteArray := prog_10_method_5_code
def yX8_clear : MethodName := ⟨RX8, "clear", "()I"⟩
abbrev cX8_isLetter : ByteArray := prog_10_method_6_code
def yX8_isLetter : MethodName := ⟨RX8, "isLetter", "(I)Z"⟩
abbrev cX8_isDigit : ByteArray := prog_10_method_7_code
def yX8_isDigit : MethodName := ⟨RX8, "isDigit", "(I)Z"⟩
abbrev cX8_look : ByteArray := prog_10_method_8_code
def yX8_look : MethodName := ⟨RX8, "look", "()I"⟩
abbrev cX8_read : ByteArray := prog_10_method_9_code
def yX8_read : MethodName := ⟨RX8, "read", "()V"⟩
abbrev cX8_word : ByteArray := prog_10_method_10_code
def yX8_word : MethodName := ⟨RX8, "word", "()V"⟩
abbrev cX8_isNumber : ByteArray := prog_10_method_11_code
def yX8_isNumber : MethodName := ⟨RX8, "isNumber", "(II)Z"⟩
abbrev cX8_isChip : ByteArray := prog_10_method_12_code
def yX8_isChip : MethodName := ⟨RX8, "isChip", "()Z"⟩
abbrev cX8_chip : ByteArray := prog_10_method_13_code
def yX8_chip : MethodName := ⟨RX8, "chip", "()I"⟩
abbrev cX8_isStuff : ByteArray := prog_10_method_14_code
def yX8_isStuff : MethodName := ⟨RX8, "isStuff", "()Z"⟩
abbrev cX8_areAlike : ByteArray := prog_10_method_15_code
def yX8_areAlike : MethodName := ⟨RX8, "areAlike", "()Z"⟩
abbrev cX8_isBill : ByteArray := prog_10_method_16_code
def yX8_isBill : MethodName := ⟨RX8, "isBill", "()Z"⟩
abbrev cX8_book : ByteArray := prog_10_method_17_code
def yX8_book : MethodName := ⟨RX8, "book", "()I"⟩
abbrev cX8_isChipAt : ByteArray := prog_10_method_18_code
def yX8_isChipAt : MethodName := ⟨RX8, "isChipAt", "(I)Z"⟩
abbrev cX8_drop : ByteArray := prog_10_method_19_code
def yX8_drop : MethodName := ⟨RX8, "drop", "(I)I"⟩
abbrev cX8_about : ByteArray := prog_10_method_20_code
def yX8_about : MethodName := ⟨RX8, "about", "(II)I"⟩
abbrev cX8_isCoat : ByteArray := prog_10_method_21_code
def yX8_isCoat : MethodName := ⟨RX8, "isCoat", "(II)Z"⟩
abbrev cX8_coat : ByteArray := prog_10_method_22_code
def yX8_coat : MethodName := ⟨RX8, "coat", "(III)I"⟩
abbrev cX8_colour : ByteArray := prog_10_method_23_code
def yX8_colour : MethodName := ⟨RX8, "colour", "(II)I"⟩
abbrev cX8_tune : ByteArray := prog_10_method_24_code
def yX8_tune : MethodName := ⟨RX8, "tune", "(II)I"⟩
abbrev cX8_isSame : ByteArray := prog_10_method_25_code
def yX8_isSame : MethodName := ⟨RX8, "isSame", "(II)Z"⟩
abbrev cX8_costOf : ByteArray := prog_10_method_26_code
def yX8_costOf : MethodName := ⟨RX8, "costOf", "(IIIII)I"⟩
abbrev cX8_areSame : ByteArray := prog_10_method_27_code
def yX8_areSame : MethodName := ⟨RX8, "areSame", "(IIII)Z"⟩
abbrev cX8_lay : ByteArray := prog_10_method_28_code
def yX8_lay : MethodName := ⟨RX8, "lay", "(II)V"⟩
abbrev cX8_areTwo : ByteArray := prog_10_method_29_code
def yX8_areTwo : MethodName := ⟨RX8, "areTwo", "(II)Z"⟩
abbrev cX8_least : ByteArray := prog_10_method_30_code
def yX8_least : MethodName := ⟨RX8, "least", "(II)I"⟩
abbrev cX8_ways : ByteArray := prog_10_method_31_code
def yX8_ways : MethodName := ⟨RX8, "ways", "(II)J"⟩
abbrev cX8_laid : ByteArray := prog_10_method_32_code
def yX8_laid : MethodName := ⟨RX8, "laid", "(III)I"⟩
abbrev cX8_behind : ByteArray := prog_10_method_33_code
def yX8_behind : MethodName := ⟨RX8, "behind", "(I)I"⟩
abbrev cX8_make : ByteArray := prog_10_method_34_code
def yX8_make : MethodName := ⟨RX8, "make", "()V"⟩
abbrev cX8_weigh : ByteArray := prog_10_method_35_code
def yX8_weigh : MethodName := ⟨RX8, "weigh", "(I)V"⟩
abbrev cX8_goOn : ByteArray := prog_10_method_36_code
def yX8_goOn : MethodName := ⟨RX8, "goOn", "(I)I"⟩
abbrev cX8_hasPainting : ByteArray := prog_10_method_37_code
def yX8_hasPainting : MethodName := ⟨RX8, "hasPainting", "(II)Z"⟩
abbrev cX8_painting : ByteArray := prog_10_method_38_code
def yX8_painting : MethodName := ⟨RX8, "painting", "(I)I"⟩
abbrev cX8_had : ByteArray := prog_10_method_39_code
def yX8_had : MethodName := ⟨RX8, "had", "(I)I"⟩
abbrev cX8_moved : ByteArray := prog_10_method_40_code
def yX8_moved : MethodName := ⟨RX8, "moved", "(I)I"⟩
abbrev cX8_face : ByteArray := prog_10_method_41_code
def yX8_face : MethodName := ⟨RX8, "face", "(II)I"⟩
abbrev cX8_later : ByteArray := prog_10_method_42_code
def yX8_later : MethodName := ⟨RX8, "later", "(I)I"⟩
abbrev cX8_years : ByteArray := prog_10_method_43_code
def yX8_years : MethodName := ⟨RX8, "years", "()V"⟩
abbrev cX8_span : ByteArray := prog_10_method_44_code
def yX8_span : MethodName := ⟨RX8, "span", "(II)I"⟩
abbrev cX8_day : ByteArray := prog_10_method_45_code
def yX8_day : MethodName := ⟨RX8, "day", "(II)I"⟩
abbrev cX8_bill : ByteArray := prog_10_method_46_code
def yX8_bill : MethodName := ⟨RX8, "bill", "(II)I"⟩
abbrev cX8_suits : ByteArray := prog_10_method_47_code
def yX8_suits : MethodName := ⟨RX8, "suits", "(III)Z"⟩
abbrev cX8_billed : ByteArray := prog_10_method_48_code
def yX8_billed : MethodName := ⟨RX8, "billed", "(I)I"⟩
abbrev cX8_enough : ByteArray := prog_10_method_49_code
def yX8_enough : MethodName := ⟨RX8, "enough", "(II)I"⟩
abbrev cX8_next : ByteArray := prog_10_method_50_code
def yX8_next : MethodName := ⟨RX8, "next", "()I"⟩
abbrev cX8_ofCoat : ByteArray := prog_10_method_51_code
def yX8_ofCoat : MethodName := ⟨RX8, "ofCoat", "(II)I"⟩
abbrev cX8_ofWhole : ByteArray := prog_10_method_52_code
def yX8_ofWhole : MethodName := ⟨RX8, "ofWhole", "(II)I"⟩
abbrev cX8_ofUnder : ByteArray := prog_10_method_53_code
def yX8_ofUnder : MethodName := ⟨RX8, "ofUnder", "(II)I"⟩
abbrev cX8_rank : ByteArray := prog_10_method_54_code
def yX8_rank : MethodName := ⟨RX8, "rank", "(III)I"⟩
abbrev cX8_keep : ByteArray := prog_10_method_55_code
def yX8_keep : MethodName := ⟨RX8, "keep", "(I)I"⟩
abbrev cX8_back : ByteArray := prog_10_method_56_code
def yX8_back : MethodName := ⟨RX8, "back", "(I)I"⟩
abbrev cX8_count : ByteArray := prog_10_method_57_code
def yX8_count : MethodName := ⟨RX8, "count", "(I)I"⟩
abbrev cX8_trace : ByteArray := prog_10_method_58_code
def yX8_trace : MethodName := ⟨RX8, "trace", "()J"⟩
def RJx145de : String := "java/io/Serializable"
def RJx9f9b0 : String := "java/lang/CharSequence"
def RJxb160c : String := "java/lang/Comparable"
def RJ6 : String := "java/lang/Integer"
abbrev cJ6_bitCount_0f7a4 : ByteArray := prog_11_method_49_code
def yJ6_bitCount_0f7a4 : MethodName := ⟨RJ6, "bitCount", "(I)I"⟩
def RJ9 : String := "java/lang/Math"
abbrev cJ9_abs_0f7a4 : ByteArray := prog_12_method_59_code
def yJ9_abs_0f7a4 : MethodName := ⟨RJ9, "abs", "(I)I"⟩
abbrev cJ9_max_7cf53 : ByteArray := prog_12_method_65_code
def yJ9_max_7cf53 : MethodName := ⟨RJ9, "max", "(II)I"⟩
abbrev cJ9_min_7cf53 : ByteArray := prog_12_method_69_code
def yJ9_min_7cf53 : MethodName := ⟨RJ9, "min", "(II)I"⟩
def RJ0 : String := "java/lang/String"
abbrev cJ0_length_8abf5 : ByteArray := prog_13_method_54_code
def yJ0_length_8abf5 : MethodName := ⟨RJ0, "length", "()I"⟩
abbrev cJ0_charAt_5068e : ByteArray := prog_13_method_56_code
def yJ0_charAt_5068e : MethodName := ⟨RJ0, "charAt", "(I)C"⟩
abbrev cJ0_coder_7d493 : ByteArray := prog_13_method_152_code
def yJ0_coder_7d493 : MethodName := ⟨RJ0, "coder", "()B"⟩
abbrev cJ0_isLatin1_aae02 : ByteArray := prog_13_method_154_code
def yJ0_isLatin1_aae02 : MethodName := ⟨RJ0, "isLatin1", "()Z"⟩
abbrev cJ0_checkIndex_df160 : ByteArray := prog_13_method_155_code
def yJ0_checkIndex_df160 : MethodName := ⟨RJ0, "checkIndex", "(II)V"⟩
def RJ1 : String := "java/lang/StringLatin1"
abbrev cJ1_charAt_3b067 : ByteArray := prog_14_method_2_code
def yJ1_charAt_3b067 : MethodName := ⟨RJ1, "charAt", "([BI)C"⟩
def RJ2 : String := "java/lang/StringUTF16"
abbrev cJ2_getChar_3b067 : ByteArray := prog_15_method_5_code
def yJ2_getChar_3b067 : MethodName := ⟨RJ2, "getChar", "([BI)C"⟩
abbrev cJ2_length_9d52b : ByteArray := prog_15_method_6_code
def yJ2_length_9d52b : MethodName := ⟨RJ2, "length", "([B)I"⟩
abbrev cJ2_charAt_3b067 : ByteArray := prog_15_method_83_code
def yJ2_charAt_3b067 : MethodName := ⟨RJ2, "charAt", "([BI)C"⟩
abbrev cJ2_checkIndex_2214a : ByteArray := prog_15_method_91_code
def yJ2_checkIndex_2214a : MethodName := ⟨RJ2, "checkIndex", "(I[B)V"⟩
def RJ10 : String := "java/lang/System"
def RJxfd54e : String := "java/lang/constant/Constable"
def RJx3cf43 : String := "java/lang/constant/ConstantDesc"
def RJ7 : String := "java/util/Arrays"
abbrev cJ7_fill_53178 : ByteArray := prog_17_method_103_code
def yJ7_fill_53178 : MethodName := ⟨RJ7, "fill", "([II)V"⟩
def RJ3 : String := "jdk/internal/util/Preconditions"
abbrev cJ3_checkIndex_8e157 : ByteArray := prog_18_method_11_code
def yJ3_checkIndex_8e157 : MethodName := ⟨RJ3, "checkIndex", "(IILjava/util/function/BiFunction;)I"⟩
def RL : String := "CoatRowsLaw"
abbrev cL_law : ByteArray := code
def yL_law : MethodName := ⟨RL, "law", "([I)Z"⟩
abbrev vwCl : List vw_C := [(RX0, TX0, 7), (RX1, TX1, 5), (RX2, TX2, 7), (RX3, TX3, 14), (RX4, TX4, 3), (RX5, TX5, 8), (RX6, TX6, 6), (RX7, TX7, 12), (RX8, TX8, 51)]
