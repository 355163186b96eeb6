section
-- ===== PART A: goes FIRST, ahead of the names: the tables' words, and 'selects' of the private methods out of them =====
/-- a private method of a class that the tables say can be made, by its rows of tables_1 -/
def lw_okq (q : MethodName × Nat) : Prop := (q.1.cls ≠ "java/lang/invoke/MethodHandle" ∧ q.1.cls ≠ "java/lang/invoke/VarHandle") ∧ Cond.instantiable q.1.cls q.2 ∈ tables_1 ∧ Cond.privateMethod q.1 ∈ tables_1 ∧ Cond.instanceMethod q.1 ∈ tables_1
theorem lw_p0 : lw_okq (⟨"CoatRows$Book", "empty", "()V"⟩, 7) := ⟨⟨by decide +kernel, by decide +kernel⟩, List.mem_of_getElem? (i := 235) (by decide +kernel), List.mem_of_getElem? (i := 241) (by decide +kernel), List.mem_of_getElem? (i := 242) (by decide +kernel)⟩
theorem lw_p1 : lw_okq (⟨"CoatRows$Text", "beginsToken", "(I)Z"⟩, 8) := ⟨⟨by decide +kernel, by decide +kernel⟩, List.mem_of_getElem? (i := 27) (by decide +kernel), List.mem_of_getElem? (i := 339) (by decide +kernel), List.mem_of_getElem? (i := 340) (by decide +kernel)⟩
theorem lw_p2 : lw_okq (⟨"CoatRows$Text", "readToken", "(I)V"⟩, 8) := ⟨⟨by decide +kernel, by decide +kernel⟩, List.mem_of_getElem? (i := 27) (by decide +kernel), List.mem_of_getElem? (i := 349) (by decide +kernel), List.mem_of_getElem? (i := 350) (by decide +kernel)⟩
theorem lw_p3 : lw_okq (⟨"CoatRows$Text", "readNumber", "(I)V"⟩, 8) := ⟨⟨by decide +kernel, by decide +kernel⟩, List.mem_of_getElem? (i := 27) (by decide +kernel), List.mem_of_getElem? (i := 353) (by decide +kernel), List.mem_of_getElem? (i := 354) (by decide +kernel)⟩
theorem lw_p4 : lw_okq (⟨"CoatRows$Text", "readWord", "(I)V"⟩, 8) := ⟨⟨by decide +kernel, by decide +kernel⟩, List.mem_of_getElem? (i := 27) (by decide +kernel), List.mem_of_getElem? (i := 357) (by decide +kernel), List.mem_of_getElem? (i := 358) (by decide +kernel)⟩
theorem lw_p5 : lw_okq (⟨"CoatRows$Text", "kindOfWord", "(II)I"⟩, 8) := ⟨⟨by decide +kernel, by decide +kernel⟩, List.mem_of_getElem? (i := 27) (by decide +kernel), List.mem_of_getElem? (i := 361) (by decide +kernel), List.mem_of_getElem? (i := 362) (by decide +kernel)⟩
theorem lw_p6 : lw_okq (⟨"CoatRows$Text", "isWord", "(Ljava/lang/String;II)Z"⟩, 8) := ⟨⟨by decide +kernel, by decide +kernel⟩, List.mem_of_getElem? (i := 27) (by decide +kernel), List.mem_of_getElem? (i := 366) (by decide +kernel), List.mem_of_getElem? (i := 367) (by decide +kernel)⟩
theorem lw_p7 : lw_okq (⟨"CoatRows$Chip", "readCoats", "(LCoatRows$Text;)Z"⟩, 5) := ⟨⟨by decide +kernel, by decide +kernel⟩, List.mem_of_getElem? (i := 70) (by decide +kernel), List.mem_of_getElem? (i := 435) (by decide +kernel), List.mem_of_getElem? (i := 436) (by decide +kernel)⟩
theorem lw_p8 : lw_okq (⟨"CoatRows$Book", "readItem", "(LCoatRows$Text;)Z"⟩, 7) := ⟨⟨by decide +kernel, by decide +kernel⟩, List.mem_of_getElem? (i := 235) (by decide +kernel), List.mem_of_getElem? (i := 456) (by decide +kernel), List.mem_of_getElem? (i := 457) (by decide +kernel)⟩
theorem lw_p9 : lw_okq (⟨"CoatRows$Book", "readStuff", "(LCoatRows$Text;)Z"⟩, 7) := ⟨⟨by decide +kernel, by decide +kernel⟩, List.mem_of_getElem? (i := 235) (by decide +kernel), List.mem_of_getElem? (i := 461) (by decide +kernel), List.mem_of_getElem? (i := 462) (by decide +kernel)⟩
theorem lw_p10 : lw_okq (⟨"CoatRows$Book", "readAlike", "(LCoatRows$Text;)Z"⟩, 7) := ⟨⟨by decide +kernel, by decide +kernel⟩, List.mem_of_getElem? (i := 235) (by decide +kernel), List.mem_of_getElem? (i := 466) (by decide +kernel), List.mem_of_getElem? (i := 467) (by decide +kernel)⟩
theorem lw_p11 : lw_okq (⟨"CoatRows$Book", "readBill", "(LCoatRows$Text;)Z"⟩, 7) := ⟨⟨by decide +kernel, by decide +kernel⟩, List.mem_of_getElem? (i := 235) (by decide +kernel), List.mem_of_getElem? (i := 474) (by decide +kernel), List.mem_of_getElem? (i := 475) (by decide +kernel)⟩
theorem lw_p12 : lw_okq (⟨"CoatRows", "isChip", "(I)Z"⟩, 12) := ⟨⟨by decide +kernel, by decide +kernel⟩, List.mem_of_getElem? (i := 19) (by decide +kernel), List.mem_of_getElem? (i := 482) (by decide +kernel), List.mem_of_getElem? (i := 483) (by decide +kernel)⟩
theorem lw_p13 : lw_okq (⟨"CoatRows", "isCoat", "(II)Z"⟩, 12) := ⟨⟨by decide +kernel, by decide +kernel⟩, List.mem_of_getElem? (i := 19) (by decide +kernel), List.mem_of_getElem? (i := 498) (by decide +kernel), List.mem_of_getElem? (i := 499) (by decide +kernel)⟩
theorem lw_p14 : lw_okq (⟨"CoatRows", "settle", "()V"⟩, 12) := ⟨⟨by decide +kernel, by decide +kernel⟩, List.mem_of_getElem? (i := 19) (by decide +kernel), List.mem_of_getElem? (i := 502) (by decide +kernel), List.mem_of_getElem? (i := 503) (by decide +kernel)⟩
theorem lw_p15 : lw_okq (⟨"CoatRows", "findSame", "()V"⟩, 12) := ⟨⟨by decide +kernel, by decide +kernel⟩, List.mem_of_getElem? (i := 19) (by decide +kernel), List.mem_of_getElem? (i := 506) (by decide +kernel), List.mem_of_getElem? (i := 507) (by decide +kernel)⟩
def lw_privs_1 : List (MethodName × Nat) := [(⟨"CoatRows$Book", "empty", "()V"⟩, 7), (⟨"CoatRows$Text", "beginsToken", "(I)Z"⟩, 8), (⟨"CoatRows$Text", "readToken", "(I)V"⟩, 8), (⟨"CoatRows$Text", "readNumber", "(I)V"⟩, 8), (⟨"CoatRows$Text", "readWord", "(I)V"⟩, 8), (⟨"CoatRows$Text", "kindOfWord", "(II)I"⟩, 8), (⟨"CoatRows$Text", "isWord", "(Ljava/lang/String;II)Z"⟩, 8), (⟨"CoatRows$Chip", "readCoats", "(LCoatRows$Text;)Z"⟩, 5), (⟨"CoatRows$Book", "readItem", "(LCoatRows$Text;)Z"⟩, 7), (⟨"CoatRows$Book", "readStuff", "(LCoatRows$Text;)Z"⟩, 7), (⟨"CoatRows$Book", "readAlike", "(LCoatRows$Text;)Z"⟩, 7), (⟨"CoatRows$Book", "readBill", "(LCoatRows$Text;)Z"⟩, 7), (⟨"CoatRows", "isChip", "(I)Z"⟩, 12), (⟨"CoatRows", "isCoat", "(II)Z"⟩, 12), (⟨"CoatRows", "settle", "()V"⟩, 12), (⟨"CoatRows", "findSame", "()V"⟩, 12)]
theorem lw_r1 : ∀ q ∈ lw_privs_1, lw_okq q := List.forall_mem_cons.mpr ⟨lw_p0, List.forall_mem_cons.mpr ⟨lw_p1, List.forall_mem_cons.mpr ⟨lw_p2, List.forall_mem_cons.mpr ⟨lw_p3, List.forall_mem_cons.mpr ⟨lw_p4, List.forall_mem_cons.mpr ⟨lw_p5, List.forall_mem_cons.mpr ⟨lw_p6, List.forall_mem_cons.mpr ⟨lw_p7, List.forall_mem_cons.mpr ⟨lw_p8, List.forall_mem_cons.mpr ⟨lw_p9, List.forall_mem_cons.mpr ⟨lw_p10, List.forall_mem_cons.mpr ⟨lw_p11, List.forall_mem_cons.mpr ⟨lw_p12, List.forall_mem_cons.mpr ⟨lw_p13, List.forall_mem_cons.mpr ⟨lw_p14, List.forall_mem_cons.mpr ⟨lw_p15, fun _ h => absurd h List.not_mem_nil⟩⟩⟩⟩⟩⟩⟩⟩⟩⟩⟩⟩⟩⟩⟩⟩
theorem lw_p16 : lw_okq (⟨"CoatRows$Paintings", "look", "(I)V"⟩, 14) := ⟨⟨by decide +kernel, by decide +kernel⟩, List.mem_of_getElem? (i := 149) (by decide +kernel), List.mem_of_getElem? (i := 514) (by decide +kernel), List.mem_of_getElem? (i := 515) (by decide +kernel)⟩
theorem lw_p17 : lw_okq (⟨"CoatRows$Paintings", "findServing", "()V"⟩, 14) := ⟨⟨by decide +kernel, by decide +kernel⟩, List.mem_of_getElem? (i := 149) (by decide +kernel), List.mem_of_getElem? (i := 521) (by decide +kernel), List.mem_of_getElem? (i := 522) (by decide +kernel)⟩
theorem lw_p18 : lw_okq (⟨"CoatRows$Paintings", "strideOf", "(II)I"⟩, 14) := ⟨⟨by decide +kernel, by decide +kernel⟩, List.mem_of_getElem? (i := 149) (by decide +kernel), List.mem_of_getElem? (i := 525) (by decide +kernel), List.mem_of_getElem? (i := 526) (by decide +kernel)⟩
theorem lw_p19 : lw_okq (⟨"CoatRows$Paintings", "fillRow", "(II)V"⟩, 14) := ⟨⟨by decide +kernel, by decide +kernel⟩, List.mem_of_getElem? (i := 149) (by decide +kernel), List.mem_of_getElem? (i := 529) (by decide +kernel), List.mem_of_getElem? (i := 530) (by decide +kernel)⟩
theorem lw_p20 : lw_okq (⟨"CoatRows$Paintings", "walk", "()V"⟩, 14) := ⟨⟨by decide +kernel, by decide +kernel⟩, List.mem_of_getElem? (i := 149) (by decide +kernel), List.mem_of_getElem? (i := 533) (by decide +kernel), List.mem_of_getElem? (i := 534) (by decide +kernel)⟩
theorem lw_p21 : lw_okq (⟨"CoatRows$Paintings", "firstColour", "(I)I"⟩, 14) := ⟨⟨by decide +kernel, by decide +kernel⟩, List.mem_of_getElem? (i := 149) (by decide +kernel), List.mem_of_getElem? (i := 537) (by decide +kernel), List.mem_of_getElem? (i := 538) (by decide +kernel)⟩
theorem lw_p22 : lw_okq (⟨"CoatRows$Paintings", "paint", "(I)V"⟩, 14) := ⟨⟨by decide +kernel, by decide +kernel⟩, List.mem_of_getElem? (i := 149) (by decide +kernel), List.mem_of_getElem? (i := 541) (by decide +kernel), List.mem_of_getElem? (i := 542) (by decide +kernel)⟩
theorem lw_p23 : lw_okq (⟨"CoatRows", "paintingOf", "(II)I"⟩, 12) := ⟨⟨by decide +kernel, by decide +kernel⟩, List.mem_of_getElem? (i := 19) (by decide +kernel), List.mem_of_getElem? (i := 545) (by decide +kernel), List.mem_of_getElem? (i := 546) (by decide +kernel)⟩
theorem lw_p24 : lw_okq (⟨"CoatRows", "areTwo", "(II)Z"⟩, 12) := ⟨⟨by decide +kernel, by decide +kernel⟩, List.mem_of_getElem? (i := 19) (by decide +kernel), List.mem_of_getElem? (i := 565) (by decide +kernel), List.mem_of_getElem? (i := 566) (by decide +kernel)⟩
theorem lw_p25 : lw_okq (⟨"CoatRows", "lay", "(II)V"⟩, 12) := ⟨⟨by decide +kernel, by decide +kernel⟩, List.mem_of_getElem? (i := 19) (by decide +kernel), List.mem_of_getElem? (i := 569) (by decide +kernel), List.mem_of_getElem? (i := 570) (by decide +kernel)⟩
theorem lw_p26 : lw_okq (⟨"CoatRows$Laying", "fill", "(II)V"⟩, 7) := ⟨⟨by decide +kernel, by decide +kernel⟩, List.mem_of_getElem? (i := 120) (by decide +kernel), List.mem_of_getElem? (i := 577) (by decide +kernel), List.mem_of_getElem? (i := 578) (by decide +kernel)⟩
theorem lw_p27 : lw_okq (⟨"CoatRows$Laying", "isSame", "(II)Z"⟩, 7) := ⟨⟨by decide +kernel, by decide +kernel⟩, List.mem_of_getElem? (i := 120) (by decide +kernel), List.mem_of_getElem? (i := 581) (by decide +kernel), List.mem_of_getElem? (i := 582) (by decide +kernel)⟩
theorem lw_p28 : lw_okq (⟨"CoatRows$Laying", "costBeside", "(III)I"⟩, 7) := ⟨⟨by decide +kernel, by decide +kernel⟩, List.mem_of_getElem? (i := 120) (by decide +kernel), List.mem_of_getElem? (i := 585) (by decide +kernel), List.mem_of_getElem? (i := 586) (by decide +kernel)⟩
theorem lw_p29 : lw_okq (⟨"CoatRows$Laying", "nearest", "(II)I"⟩, 7) := ⟨⟨by decide +kernel, by decide +kernel⟩, List.mem_of_getElem? (i := 120) (by decide +kernel), List.mem_of_getElem? (i := 613) (by decide +kernel), List.mem_of_getElem? (i := 614) (by decide +kernel)⟩
theorem lw_p30 : lw_okq (⟨"CoatRows", "isPainting", "(I)Z"⟩, 12) := ⟨⟨by decide +kernel, by decide +kernel⟩, List.mem_of_getElem? (i := 19) (by decide +kernel), List.mem_of_getElem? (i := 621) (by decide +kernel), List.mem_of_getElem? (i := 622) (by decide +kernel)⟩
theorem lw_p31 : lw_okq (⟨"CoatRows", "missedBy", "(I)I"⟩, 12) := ⟨⟨by decide +kernel, by decide +kernel⟩, List.mem_of_getElem? (i := 19) (by decide +kernel), List.mem_of_getElem? (i := 633) (by decide +kernel), List.mem_of_getElem? (i := 634) (by decide +kernel)⟩
def lw_privs_2 : List (MethodName × Nat) := [(⟨"CoatRows$Paintings", "look", "(I)V"⟩, 14), (⟨"CoatRows$Paintings", "findServing", "()V"⟩, 14), (⟨"CoatRows$Paintings", "strideOf", "(II)I"⟩, 14), (⟨"CoatRows$Paintings", "fillRow", "(II)V"⟩, 14), (⟨"CoatRows$Paintings", "walk", "()V"⟩, 14), (⟨"CoatRows$Paintings", "firstColour", "(I)I"⟩, 14), (⟨"CoatRows$Paintings", "paint", "(I)V"⟩, 14), (⟨"CoatRows", "paintingOf", "(II)I"⟩, 12), (⟨"CoatRows", "areTwo", "(II)Z"⟩, 12), (⟨"CoatRows", "lay", "(II)V"⟩, 12), (⟨"CoatRows$Laying", "fill", "(II)V"⟩, 7), (⟨"CoatRows$Laying", "isSame", "(II)Z"⟩, 7), (⟨"CoatRows$Laying", "costBeside", "(III)I"⟩, 7), (⟨"CoatRows$Laying", "nearest", "(II)I"⟩, 7), (⟨"CoatRows", "isPainting", "(I)Z"⟩, 12), (⟨"CoatRows", "missedBy", "(I)I"⟩, 12)]
theorem lw_r2 : ∀ q ∈ lw_privs_2, lw_okq q := List.forall_mem_cons.mpr ⟨lw_p16, List.forall_mem_cons.mpr ⟨lw_p17, List.forall_mem_cons.mpr ⟨lw_p18, List.forall_mem_cons.mpr ⟨lw_p19, List.forall_mem_cons.mpr ⟨lw_p20, List.forall_mem_cons.mpr ⟨lw_p21, List.forall_mem_cons.mpr ⟨lw_p22, List.forall_mem_cons.mpr ⟨lw_p23, List.forall_mem_cons.mpr ⟨lw_p24, List.forall_mem_cons.mpr ⟨lw_p25, List.forall_mem_cons.mpr ⟨lw_p26, List.forall_mem_cons.mpr ⟨lw_p27, List.forall_mem_cons.mpr ⟨lw_p28, List.forall_mem_cons.mpr ⟨lw_p29, List.forall_mem_cons.mpr ⟨lw_p30, List.forall_mem_cons.mpr ⟨lw_p31, fun _ h => absurd h List.not_mem_nil⟩⟩⟩⟩⟩⟩⟩⟩⟩⟩⟩⟩⟩⟩⟩⟩
theorem lw_p32 : lw_okq (⟨"CoatRows", "ageOf", "(I)I"⟩, 12) := ⟨⟨by decide +kernel, by decide +kernel⟩, List.mem_of_getElem? (i := 19) (by decide +kernel), List.mem_of_getElem? (i := 637) (by decide +kernel), List.mem_of_getElem? (i := 638) (by decide +kernel)⟩
theorem lw_p33 : lw_okq (⟨"CoatRows", "movedFrom", "(I)I"⟩, 12) := ⟨⟨by decide +kernel, by decide +kernel⟩, List.mem_of_getElem? (i := 19) (by decide +kernel), List.mem_of_getElem? (i := 641) (by decide +kernel), List.mem_of_getElem? (i := 642) (by decide +kernel)⟩
theorem lw_p34 : lw_okq (⟨"CoatRows", "lastCoats", "(II)I"⟩, 12) := ⟨⟨by decide +kernel, by decide +kernel⟩, List.mem_of_getElem? (i := 19) (by decide +kernel), List.mem_of_getElem? (i := 661) (by decide +kernel), List.mem_of_getElem? (i := 662) (by decide +kernel)⟩
theorem lw_p35 : lw_okq (⟨"CoatRows$Years", "mostFrom", "(IIILCoatRows$Book;)I"⟩, 6) := ⟨⟨by decide +kernel, by decide +kernel⟩, List.mem_of_getElem? (i := 205) (by decide +kernel), List.mem_of_getElem? (i := 677) (by decide +kernel), List.mem_of_getElem? (i := 678) (by decide +kernel)⟩
theorem lw_p36 : lw_okq (⟨"CoatRows$Years", "fits", "(IIIILCoatRows$Book;)Z"⟩, 6) := ⟨⟨by decide +kernel, by decide +kernel⟩, List.mem_of_getElem? (i := 205) (by decide +kernel), List.mem_of_getElem? (i := 681) (by decide +kernel), List.mem_of_getElem? (i := 682) (by decide +kernel)⟩
theorem lw_p37 : lw_okq (⟨"CoatRows$Years", "leastBill", "(IIILCoatRows$Book;)I"⟩, 6) := ⟨⟨by decide +kernel, by decide +kernel⟩, List.mem_of_getElem? (i := 205) (by decide +kernel), List.mem_of_getElem? (i := 685) (by decide +kernel), List.mem_of_getElem? (i := 686) (by decide +kernel)⟩
theorem lw_p38 : lw_okq (⟨"CoatRows", "asCoat", "(II)I"⟩, 12) := ⟨⟨by decide +kernel, by decide +kernel⟩, List.mem_of_getElem? (i := 19) (by decide +kernel), List.mem_of_getElem? (i := 716) (by decide +kernel), List.mem_of_getElem? (i := 717) (by decide +kernel)⟩
theorem lw_p39 : lw_okq (⟨"CoatRows", "asWhole", "(II)I"⟩, 12) := ⟨⟨by decide +kernel, by decide +kernel⟩, List.mem_of_getElem? (i := 19) (by decide +kernel), List.mem_of_getElem? (i := 720) (by decide +kernel), List.mem_of_getElem? (i := 721) (by decide +kernel)⟩
theorem lw_p40 : lw_okq (⟨"CoatRows", "asUnder", "(II)I"⟩, 12) := ⟨⟨by decide +kernel, by decide +kernel⟩, List.mem_of_getElem? (i := 19) (by decide +kernel), List.mem_of_getElem? (i := 730) (by decide +kernel), List.mem_of_getElem? (i := 731) (by decide +kernel)⟩
theorem lw_p41 : lw_okq (⟨"CoatRows", "asPatch", "(II)I"⟩, 12) := ⟨⟨by decide +kernel, by decide +kernel⟩, List.mem_of_getElem? (i := 19) (by decide +kernel), List.mem_of_getElem? (i := 735) (by decide +kernel), List.mem_of_getElem? (i := 736) (by decide +kernel)⟩
theorem lw_p42 : lw_okq (⟨"CoatRows", "asScraped", "(II)I"⟩, 12) := ⟨⟨by decide +kernel, by decide +kernel⟩, List.mem_of_getElem? (i := 19) (by decide +kernel), List.mem_of_getElem? (i := 740) (by decide +kernel), List.mem_of_getElem? (i := 741) (by decide +kernel)⟩
theorem lw_p43 : lw_okq (⟨"CoatRows", "asVarnish", "(II)I"⟩, 12) := ⟨⟨by decide +kernel, by decide +kernel⟩, List.mem_of_getElem? (i := 19) (by decide +kernel), List.mem_of_getElem? (i := 744) (by decide +kernel), List.mem_of_getElem? (i := 745) (by decide +kernel)⟩
theorem lw_p44 : lw_okq (⟨"CoatRowsModel", "isChip", "()Z"⟩, 51) := ⟨⟨by decide +kernel, by decide +kernel⟩, List.mem_of_getElem? (i := 780) (by decide +kernel), List.mem_of_getElem? (i := 956) (by decide +kernel), List.mem_of_getElem? (i := 957) (by decide +kernel)⟩
theorem lw_p45 : lw_okq (⟨"CoatRowsModel", "read", "()V"⟩, 51) := ⟨⟨by decide +kernel, by decide +kernel⟩, List.mem_of_getElem? (i := 780) (by decide +kernel), List.mem_of_getElem? (i := 960) (by decide +kernel), List.mem_of_getElem? (i := 961) (by decide +kernel)⟩
theorem lw_p46 : lw_okq (⟨"CoatRowsModel", "look", "()I"⟩, 51) := ⟨⟨by decide +kernel, by decide +kernel⟩, List.mem_of_getElem? (i := 780) (by decide +kernel), List.mem_of_getElem? (i := 964) (by decide +kernel), List.mem_of_getElem? (i := 965) (by decide +kernel)⟩
theorem lw_p47 : lw_okq (⟨"CoatRowsModel", "word", "()V"⟩, 51) := ⟨⟨by decide +kernel, by decide +kernel⟩, List.mem_of_getElem? (i := 780) (by decide +kernel), List.mem_of_getElem? (i := 971) (by decide +kernel), List.mem_of_getElem? (i := 972) (by decide +kernel)⟩
def lw_privs_3 : List (MethodName × Nat) := [(⟨"CoatRows", "ageOf", "(I)I"⟩, 12), (⟨"CoatRows", "movedFrom", "(I)I"⟩, 12), (⟨"CoatRows", "lastCoats", "(II)I"⟩, 12), (⟨"CoatRows$Years", "mostFrom", "(IIILCoatRows$Book;)I"⟩, 6), (⟨"CoatRows$Years", "fits", "(IIIILCoatRows$Book;)Z"⟩, 6), (⟨"CoatRows$Years", "leastBill", "(IIILCoatRows$Book;)I"⟩, 6), (⟨"CoatRows", "asCoat", "(II)I"⟩, 12), (⟨"CoatRows", "asWhole", "(II)I"⟩, 12), (⟨"CoatRows", "asUnder", "(II)I"⟩, 12), (⟨"CoatRows", "asPatch", "(II)I"⟩, 12), (⟨"CoatRows", "asScraped", "(II)I"⟩, 12), (⟨"CoatRows", "asVarnish", "(II)I"⟩, 12), (⟨"CoatRowsModel", "isChip", "()Z"⟩, 51), (⟨"CoatRowsModel", "read", "()V"⟩, 51), (⟨"CoatRowsModel", "look", "()I"⟩, 51), (⟨"CoatRowsModel", "word", "()V"⟩, 51)]
theorem lw_r3 : ∀ q ∈ lw_privs_3, lw_okq q := List.forall_mem_cons.mpr ⟨lw_p32, List.forall_mem_cons.mpr ⟨lw_p33, List.forall_mem_cons.mpr ⟨lw_p34, List.forall_mem_cons.mpr ⟨lw_p35, List.forall_mem_cons.mpr ⟨lw_p36, List.forall_mem_cons.mpr ⟨lw_p37, List.forall_mem_cons.mpr ⟨lw_p38, List.forall_mem_cons.mpr ⟨lw_p39, List.forall_mem_cons.mpr ⟨lw_p40, List.forall_mem_cons.mpr ⟨lw_p41, List.forall_mem_cons.mpr ⟨lw_p42, List.forall_mem_cons.mpr ⟨lw_p43, List.forall_mem_cons.mpr ⟨lw_p44, List.forall_mem_cons.mpr ⟨lw_p45, List.forall_mem_cons.mpr ⟨lw_p46, List.forall_mem_cons.mpr ⟨lw_p47, fun _ h => absurd h List.not_mem_nil⟩⟩⟩⟩⟩⟩⟩⟩⟩⟩⟩⟩⟩⟩⟩⟩
theorem lw_p48 : lw_okq (⟨"CoatRowsModel", "isNumber", "(II)Z"⟩, 51) := ⟨⟨by decide +kernel, by decide +kernel⟩, List.mem_of_getElem? (i := 780) (by decide +kernel), List.mem_of_getElem? (i := 983) (by decide +kernel), List.mem_of_getElem? (i := 984) (by decide +kernel)⟩
theorem lw_p49 : lw_okq (⟨"CoatRowsModel", "isStuff", "()Z"⟩, 51) := ⟨⟨by decide +kernel, by decide +kernel⟩, List.mem_of_getElem? (i := 780) (by decide +kernel), List.mem_of_getElem? (i := 991) (by decide +kernel), List.mem_of_getElem? (i := 992) (by decide +kernel)⟩
theorem lw_p50 : lw_okq (⟨"CoatRowsModel", "areAlike", "()Z"⟩, 51) := ⟨⟨by decide +kernel, by decide +kernel⟩, List.mem_of_getElem? (i := 780) (by decide +kernel), List.mem_of_getElem? (i := 995) (by decide +kernel), List.mem_of_getElem? (i := 996) (by decide +kernel)⟩
theorem lw_p51 : lw_okq (⟨"CoatRowsModel", "isBill", "()Z"⟩, 51) := ⟨⟨by decide +kernel, by decide +kernel⟩, List.mem_of_getElem? (i := 780) (by decide +kernel), List.mem_of_getElem? (i := 999) (by decide +kernel), List.mem_of_getElem? (i := 1000) (by decide +kernel)⟩
theorem lw_p52 : lw_okq (⟨"CoatRowsModel", "isChipAt", "(I)Z"⟩, 51) := ⟨⟨by decide +kernel, by decide +kernel⟩, List.mem_of_getElem? (i := 780) (by decide +kernel), List.mem_of_getElem? (i := 1007) (by decide +kernel), List.mem_of_getElem? (i := 1008) (by decide +kernel)⟩
theorem lw_p53 : lw_okq (⟨"CoatRowsModel", "isCoat", "(II)Z"⟩, 51) := ⟨⟨by decide +kernel, by decide +kernel⟩, List.mem_of_getElem? (i := 780) (by decide +kernel), List.mem_of_getElem? (i := 1019) (by decide +kernel), List.mem_of_getElem? (i := 1020) (by decide +kernel)⟩
theorem lw_p54 : lw_okq (⟨"CoatRowsModel", "make", "()V"⟩, 51) := ⟨⟨by decide +kernel, by decide +kernel⟩, List.mem_of_getElem? (i := 780) (by decide +kernel), List.mem_of_getElem? (i := 1023) (by decide +kernel), List.mem_of_getElem? (i := 1024) (by decide +kernel)⟩
theorem lw_p55 : lw_okq (⟨"CoatRowsModel", "weigh", "(I)V"⟩, 51) := ⟨⟨by decide +kernel, by decide +kernel⟩, List.mem_of_getElem? (i := 780) (by decide +kernel), List.mem_of_getElem? (i := 1027) (by decide +kernel), List.mem_of_getElem? (i := 1028) (by decide +kernel)⟩
theorem lw_p56 : lw_okq (⟨"CoatRowsModel", "behind", "(I)I"⟩, 51) := ⟨⟨by decide +kernel, by decide +kernel⟩, List.mem_of_getElem? (i := 780) (by decide +kernel), List.mem_of_getElem? (i := 1031) (by decide +kernel), List.mem_of_getElem? (i := 1032) (by decide +kernel)⟩
theorem lw_p57 : lw_okq (⟨"CoatRowsModel", "isSame", "(II)Z"⟩, 51) := ⟨⟨by decide +kernel, by decide +kernel⟩, List.mem_of_getElem? (i := 780) (by decide +kernel), List.mem_of_getElem? (i := 1035) (by decide +kernel), List.mem_of_getElem? (i := 1036) (by decide +kernel)⟩
theorem lw_p58 : lw_okq (⟨"CoatRowsModel", "goOn", "(I)I"⟩, 51) := ⟨⟨by decide +kernel, by decide +kernel⟩, List.mem_of_getElem? (i := 780) (by decide +kernel), List.mem_of_getElem? (i := 1039) (by decide +kernel), List.mem_of_getElem? (i := 1040) (by decide +kernel)⟩
theorem lw_p59 : lw_okq (⟨"CoatRowsModel", "years", "()V"⟩, 51) := ⟨⟨by decide +kernel, by decide +kernel⟩, List.mem_of_getElem? (i := 780) (by decide +kernel), List.mem_of_getElem? (i := 1043) (by decide +kernel), List.mem_of_getElem? (i := 1044) (by decide +kernel)⟩
theorem lw_p60 : lw_okq (⟨"CoatRowsModel", "later", "(I)I"⟩, 51) := ⟨⟨by decide +kernel, by decide +kernel⟩, List.mem_of_getElem? (i := 780) (by decide +kernel), List.mem_of_getElem? (i := 1047) (by decide +kernel), List.mem_of_getElem? (i := 1048) (by decide +kernel)⟩
theorem lw_p61 : lw_okq (⟨"CoatRowsModel", "areTwo", "(II)Z"⟩, 51) := ⟨⟨by decide +kernel, by decide +kernel⟩, List.mem_of_getElem? (i := 780) (by decide +kernel), List.mem_of_getElem? (i := 1063) (by decide +kernel), List.mem_of_getElem? (i := 1064) (by decide +kernel)⟩
theorem lw_p62 : lw_okq (⟨"CoatRowsModel", "lay", "(II)V"⟩, 51) := ⟨⟨by decide +kernel, by decide +kernel⟩, List.mem_of_getElem? (i := 780) (by decide +kernel), List.mem_of_getElem? (i := 1067) (by decide +kernel), List.mem_of_getElem? (i := 1068) (by decide +kernel)⟩
theorem lw_p63 : lw_okq (⟨"CoatRowsModel", "areSame", "(IIII)Z"⟩, 51) := ⟨⟨by decide +kernel, by decide +kernel⟩, List.mem_of_getElem? (i := 780) (by decide +kernel), List.mem_of_getElem? (i := 1071) (by decide +kernel), List.mem_of_getElem? (i := 1072) (by decide +kernel)⟩
def lw_privs_4 : List (MethodName × Nat) := [(⟨"CoatRowsModel", "isNumber", "(II)Z"⟩, 51), (⟨"CoatRowsModel", "isStuff", "()Z"⟩, 51), (⟨"CoatRowsModel", "areAlike", "()Z"⟩, 51), (⟨"CoatRowsModel", "isBill", "()Z"⟩, 51), (⟨"CoatRowsModel", "isChipAt", "(I)Z"⟩, 51), (⟨"CoatRowsModel", "isCoat", "(II)Z"⟩, 51), (⟨"CoatRowsModel", "make", "()V"⟩, 51), (⟨"CoatRowsModel", "weigh", "(I)V"⟩, 51), (⟨"CoatRowsModel", "behind", "(I)I"⟩, 51), (⟨"CoatRowsModel", "isSame", "(II)Z"⟩, 51), (⟨"CoatRowsModel", "goOn", "(I)I"⟩, 51), (⟨"CoatRowsModel", "years", "()V"⟩, 51), (⟨"CoatRowsModel", "later", "(I)I"⟩, 51), (⟨"CoatRowsModel", "areTwo", "(II)Z"⟩, 51), (⟨"CoatRowsModel", "lay", "(II)V"⟩, 51), (⟨"CoatRowsModel", "areSame", "(IIII)Z"⟩, 51)]
theorem lw_r4 : ∀ q ∈ lw_privs_4, lw_okq q := List.forall_mem_cons.mpr ⟨lw_p48, List.forall_mem_cons.mpr ⟨lw_p49, List.forall_mem_cons.mpr ⟨lw_p50, List.forall_mem_cons.mpr ⟨lw_p51, List.forall_mem_cons.mpr ⟨lw_p52, List.forall_mem_cons.mpr ⟨lw_p53, List.forall_mem_cons.mpr ⟨lw_p54, List.forall_mem_cons.mpr ⟨lw_p55, List.forall_mem_cons.mpr ⟨lw_p56, List.forall_mem_cons.mpr ⟨lw_p57, List.forall_mem_cons.mpr ⟨lw_p58, List.forall_mem_cons.mpr ⟨lw_p59, List.forall_mem_cons.mpr ⟨lw_p60, List.forall_mem_cons.mpr ⟨lw_p61, List.forall_mem_cons.mpr ⟨lw_p62, List.forall_mem_cons.mpr ⟨lw_p63, fun _ h => absurd h List.not_mem_nil⟩⟩⟩⟩⟩⟩⟩⟩⟩⟩⟩⟩⟩⟩⟩⟩
theorem lw_p64 : lw_okq (⟨"CoatRowsModel", "costOf", "(IIIII)I"⟩, 51) := ⟨⟨by decide +kernel, by decide +kernel⟩, List.mem_of_getElem? (i := 780) (by decide +kernel), List.mem_of_getElem? (i := 1075) (by decide +kernel), List.mem_of_getElem? (i := 1076) (by decide +kernel)⟩
theorem lw_p65 : lw_okq (⟨"CoatRowsModel", "hasPainting", "(II)Z"⟩, 51) := ⟨⟨by decide +kernel, by decide +kernel⟩, List.mem_of_getElem? (i := 780) (by decide +kernel), List.mem_of_getElem? (i := 1096) (by decide +kernel), List.mem_of_getElem? (i := 1097) (by decide +kernel)⟩
theorem lw_p66 : lw_okq (⟨"CoatRowsModel", "moved", "(I)I"⟩, 51) := ⟨⟨by decide +kernel, by decide +kernel⟩, List.mem_of_getElem? (i := 780) (by decide +kernel), List.mem_of_getElem? (i := 1104) (by decide +kernel), List.mem_of_getElem? (i := 1105) (by decide +kernel)⟩
theorem lw_p67 : lw_okq (⟨"CoatRowsModel", "suits", "(III)Z"⟩, 51) := ⟨⟨by decide +kernel, by decide +kernel⟩, List.mem_of_getElem? (i := 780) (by decide +kernel), List.mem_of_getElem? (i := 1125) (by decide +kernel), List.mem_of_getElem? (i := 1126) (by decide +kernel)⟩
theorem lw_p68 : lw_okq (⟨"CoatRowsModel", "ofCoat", "(II)I"⟩, 51) := ⟨⟨by decide +kernel, by decide +kernel⟩, List.mem_of_getElem? (i := 780) (by decide +kernel), List.mem_of_getElem? (i := 1145) (by decide +kernel), List.mem_of_getElem? (i := 1146) (by decide +kernel)⟩
theorem lw_p69 : lw_okq (⟨"CoatRowsModel", "ofWhole", "(II)I"⟩, 51) := ⟨⟨by decide +kernel, by decide +kernel⟩, List.mem_of_getElem? (i := 780) (by decide +kernel), List.mem_of_getElem? (i := 1149) (by decide +kernel), List.mem_of_getElem? (i := 1150) (by decide +kernel)⟩
theorem lw_p70 : lw_okq (⟨"CoatRowsModel", "ofUnder", "(II)I"⟩, 51) := ⟨⟨by decide +kernel, by decide +kernel⟩, List.mem_of_getElem? (i := 780) (by decide +kernel), List.mem_of_getElem? (i := 1153) (by decide +kernel), List.mem_of_getElem? (i := 1154) (by decide +kernel)⟩
def lw_privs_5 : List (MethodName × Nat) := [(⟨"CoatRowsModel", "costOf", "(IIIII)I"⟩, 51), (⟨"CoatRowsModel", "hasPainting", "(II)Z"⟩, 51), (⟨"CoatRowsModel", "moved", "(I)I"⟩, 51), (⟨"CoatRowsModel", "suits", "(III)Z"⟩, 51), (⟨"CoatRowsModel", "ofCoat", "(II)I"⟩, 51), (⟨"CoatRowsModel", "ofWhole", "(II)I"⟩, 51), (⟨"CoatRowsModel", "ofUnder", "(II)I"⟩, 51)]
theorem lw_r5 : ∀ q ∈ lw_privs_5, lw_okq q := List.forall_mem_cons.mpr ⟨lw_p64, List.forall_mem_cons.mpr ⟨lw_p65, List.forall_mem_cons.mpr ⟨lw_p66, List.forall_mem_cons.mpr ⟨lw_p67, List.forall_mem_cons.mpr ⟨lw_p68, List.forall_mem_cons.mpr ⟨lw_p69, List.forall_mem_cons.mpr ⟨lw_p70, fun _ h => absurd h List.not_mem_nil⟩⟩⟩⟩⟩⟩⟩
def lw_privs : List (MethodName × Nat) := lw_privs_1 ++ (lw_privs_2 ++ (lw_privs_3 ++ (lw_privs_4 ++ (lw_privs_5))))
def lw_tbl : List Cond := k2_sels lw_privs ++ tables_1
theorem lw_privs_ok : ∀ q ∈ lw_privs, lw_okq q := by
  show ∀ q ∈ lw_privs_1 ++ (lw_privs_2 ++ (lw_privs_3 ++ (lw_privs_4 ++ (lw_privs_5)))), lw_okq q
  exact List.forall_mem_append.mpr ⟨lw_r1, List.forall_mem_append.mpr ⟨lw_r2, List.forall_mem_append.mpr ⟨lw_r3, List.forall_mem_append.mpr ⟨lw_r4, lw_r5⟩⟩⟩⟩
def RX0 : String := "CoatRows$Book"
def TX0 : u_T := fun k => match k with
  | 0 => ("CoatRows$Book", "from", "[I", true)
  | 1 => ("CoatRows$Book", "until", "[I", true)
  | 2 => ("CoatRows$Book", "alike", "[I", true)
  | 3 => ("CoatRows$Book", "billYears", "[I", true)
  | 4 => ("CoatRows$Book", "billColours", "[I", true)
  | 5 => ("CoatRows$Book", "bills", "I", false)
  | _ => ("CoatRows$Book", "items", "I", false)
def tyX0 : Nat → FieldType := fun k => match k with
  | 0 => .array .int
  | 1 => .array .int
  | 2 => .array .int
  | 3 => .array .int
  | 4 => .array .int
  | 5 => .int
  | _ => .int
theorem nmX0 : ∀ a, a < 7 → ∀ b, b < 7 → a ≠ b → (TX0 a).2.1 ≠ (TX0 b).2.1 := by decide +kernel
theorem tyX0_ok : ∀ k, k < 7 → parseFieldDescriptor (TX0 k).2.2.1 = some (tyX0 k) := by decide +kernel
abbrev cX0_init : ByteArray := prog_2_method_1_code
def yX0_init : MethodName := ⟨RX0, "<init>", "()V"⟩
abbrev cX0_empty : ByteArray := prog_2_method_2_code
def yX0_empty : MethodName := ⟨RX0, "empty", "()V"⟩
abbrev cX0_read : ByteArray := prog_2_method_3_code
def yX0_read : MethodName := ⟨RX0, "read", "(LCoatRows$Text;)Z"⟩
abbrev cX0_readItem : ByteArray := prog_2_method_4_code
def yX0_readItem : MethodName := ⟨RX0, "readItem", "(LCoatRows$Text;)Z"⟩
abbrev cX0_readStuff : ByteArray := prog_2_method_5_code
def yX0_readStuff : MethodName := ⟨RX0, "readStuff", "(LCoatRows$Text;)Z"⟩
abbrev cX0_readAlike : ByteArray := prog_2_method_6_code
def yX0_readAlike : MethodName := ⟨RX0, "readAlike", "(LCoatRows$Text;)Z"⟩
abbrev cX0_readBill : ByteArray := prog_2_method_7_code
def yX0_readBill : MethodName := ⟨RX0, "readBill", "(LCoatRows$Text;)Z"⟩
def RX1 : String := "CoatRows$Chip"
def TX1 : u_T := fun k => match k with
  | 0 => ("CoatRows$Chip", "colours", "[I", true)
  | 1 => ("CoatRows$Chip", "dirts", "[I", true)
  | 2 => ("CoatRows$Chip", "room", "I", false)
  | 3 => ("CoatRows$Chip", "size", "I", false)
  | _ => ("CoatRows$Chip", "pores", "Z", false)
def tyX1 : Nat → FieldType := fun k => match k with
  | 0 => .array .int
  | 1 => .array .int
  | 2 => .int
  | 3 => .int
  | _ => .boolean
theorem nmX1 : ∀ a, a < 5 → ∀ b, b < 5 → a ≠ b → (TX1 a).2.1 ≠ (TX1 b).2.1 := by decide +kernel
theorem tyX1_ok : ∀ k, k < 5 → parseFieldDescriptor (TX1 k).2.2.1 = some (tyX1 k) := by decide +kernel
abbrev cX1_init : ByteArray := prog_3_method_1_code
def yX1_init : MethodName := ⟨RX1, "<init>", "()V"⟩
abbrev cX1_read : ByteArray := prog_3_method_2_code
def yX1_read : MethodName := ⟨RX1, "read", "(LCoatRows$Text;)Z"⟩
abbrev cX1_readCoats : ByteArray := prog_3_method_3_code
def yX1_readCoats : MethodName := ⟨RX1, "readCoats", "(LCoatRows$Text;)Z"⟩
abbrev cX1_copy : ByteArray := prog_3_method_4_code
def yX1_copy : MethodName := ⟨RX1, "copy", "(LCoatRows$Chip;)V"⟩
def RX2 : String := "CoatRows$Laying"
def TX2 : u_T := fun k => match k with
  | 0 => ("CoatRows$Laying", "costs", "[I", true)
  | 1 => ("CoatRows$Laying", "counts", "[J", true)
  | 2 => ("CoatRows$Laying", "one", "LCoatRows$Chip;", false)
  | 3 => ("CoatRows$Laying", "other", "LCoatRows$Chip;", false)
  | 4 => ("CoatRows$Laying", "same", "[I", false)
  | 5 => ("CoatRows$Laying", "miss", "I", false)
  | _ => ("CoatRows$Laying", "soil", "I", false)
def tyX2 : Nat → FieldType := fun k => match k with
  | 0 => .array .int
  | 1 => .array .long
  | 2 => .object "CoatRows$Chip"
  | 3 => .object "CoatRows$Chip"
  | 4 => .array .int
  | 5 => .int
  | _ => .int
theorem nmX2 : ∀ a, a < 7 → ∀ b, b < 7 → a ≠ b → (TX2 a).2.1 ≠ (TX2 b).2.1 := by decide +kernel
theorem tyX2_ok : ∀ k, k < 7 → parseFieldDescriptor (TX2 k).2.2.1 = some (tyX2 k) := by decide +kernel
abbrev cX2_init : ByteArray := prog_4_method_1_code
def yX2_init : MethodName := ⟨RX2, "<init>", "()V"⟩
abbrev cX2_lay : ByteArray := prog_4_method_2_code
def yX2_lay : MethodName := ⟨RX2, "lay", "(LCoatRows$Chip;LCoatRows$Chip;[III)V"⟩
abbrev cX2_leastCost : ByteArray := prog_4_method_3_code
def yX2_leastCost : MethodName := ⟨RX2, "leastCost", "()I"⟩
abbrev cX2_leastWays : ByteArray := prog_4_method_4_code
def yX2_leastWays : MethodName := ⟨RX2, "leastWays", "()J"⟩
abbrev cX2_beside : ByteArray := prog_4_method_5_code
def yX2_beside : MethodName := ⟨RX2, "beside", "(I)I"⟩
abbrev cX2_nearest : ByteArray := prog_4_method_6_code
def yX2_nearest : MethodName := ⟨RX2, "nearest", "(II)I"⟩
abbrev cX2_fill : ByteArray := prog_4_method_7_code
def yX2_fill : MethodName := ⟨RX2, "fill", "(II)V"⟩
abbrev cX2_isSame : ByteArray := prog_4_method_8_code
def yX2_isSame : MethodName := ⟨RX2, "isSame", "(II)Z"⟩
abbrev cX2_costBeside : ByteArray := prog_4_method_9_code
def yX2_costBeside : MethodName := ⟨RX2, "costBeside", "(III)I"⟩
def RX3 : String := "CoatRows$Paintings"
def TX3 : u_T := fun k => match k with
  | 0 => ("CoatRows$Paintings", "count", "I", false)
  | 1 => ("CoatRows$Paintings", "colours", "[I", true)
  | 2 => ("CoatRows$Paintings", "had", "[I", true)
  | 3 => ("CoatRows$Paintings", "dirts", "[I", true)
  | 4 => ("CoatRows$Paintings", "ofCoat", "[I", true)
  | 5 => ("CoatRows$Paintings", "left", "[B", true)
  | 6 => ("CoatRows$Paintings", "strides", "[I", true)
  | 7 => ("CoatRows$Paintings", "places", "[I", true)
  | 8 => ("CoatRows$Paintings", "wants", "[I", true)
  | 9 => ("CoatRows$Paintings", "servingColours", "[I", true)
  | 10 => ("CoatRows$Paintings", "servingStrides", "[I", true)
  | 11 => ("CoatRows$Paintings", "serving", "I", false)
  | 12 => ("CoatRows$Paintings", "chips", "LCoatRows$Shelf;", false)
  | _ => ("CoatRows$Paintings", "same", "[I", false)
def tyX3 : Nat → FieldType := fun k => match k with
  | 0 => .int
  | 1 => .array .int
  | 2 => .array .int
  | 3 => .array .int
  | 4 => .array .int
  | 5 => .array .byte
  | 6 => .array .int
  | 7 => .array .int
  | 8 => .array .int
  | 9 => .array .int
  | 10 => .array .int
  | 11 => .int
  | 12 => .object "CoatRows$Shelf"
  | _ => .array .int
theorem nmX3 : ∀ a, a < 14 → ∀ b, b < 14 → a ≠ b → (TX3 a).2.1 ≠ (TX3 b).2.1 := by decide +kernel
theorem tyX3_ok : ∀ k, k < 14 → parseFieldDescriptor (TX3 k).2.2.1 = some (tyX3 k) := by decide +kernel
abbrev cX3_init : ByteArray := prog_5_method_1_code
def yX3_init : MethodName := ⟨RX3, "<init>", "()V"⟩
abbrev cX3_find : ByteArray := prog_5_method_2_code
def yX3_find : MethodName := ⟨RX3, "find", "(LCoatRows$Shelf;[I)V"⟩
abbrev cX3_notIn : ByteArray := prog_5_method_3_code
def yX3_notIn : MethodName := ⟨RX3, "notIn", "(I)I"⟩
abbrev cX3_findServing : ByteArray := prog_5_method_4_code
def yX3_findServing : MethodName := ⟨RX3, "findServing", "()V"⟩
abbrev cX3_fillRow : ByteArray := prog_5_method_5_code
def yX3_fillRow : MethodName := ⟨RX3, "fillRow", "(II)V"⟩
abbrev cX3_walk : ByteArray := prog_5_method_6_code
def yX3_walk : MethodName := ⟨RX3, "walk", "()V"⟩
abbrev cX3_firstColour : ByteArray := prog_5_method_7_code
def yX3_firstColour : MethodName := ⟨RX3, "firstColour", "(I)I"⟩
abbrev cX3_paint : ByteArray := prog_5_method_8_code
def yX3_paint : MethodName := ⟨RX3, "paint", "(I)V"⟩
abbrev cX3_look : ByteArray := prog_5_method_9_code
def yX3_look : MethodName := ⟨RX3, "look", "(I)V"⟩
abbrev cX3_strideOf : ByteArray := prog_5_method_10_code
def yX3_strideOf : MethodName := ⟨RX3, "strideOf", "(II)I"⟩
def RX4 : String := "CoatRows$Shelf"
def TX4 : u_T := fun k => match k with
  | 0 => ("CoatRows$Shelf", "row", "[LCoatRows$Chip;", true)
  | 1 => ("CoatRows$Shelf", "count", "I", false)
  | _ => ("CoatRows$Shelf", "kept", "Z", false)
def tyX4 : Nat → FieldType := fun k => match k with
  | 0 => .array (.object "CoatRows$Chip")
  | 1 => .int
  | _ => .boolean
theorem nmX4 : ∀ a, a < 3 → ∀ b, b < 3 → a ≠ b → (TX4 a).2.1 ≠ (TX4 b).2.1 := by decide +kernel
theorem tyX4_ok : ∀ k, k < 3 → parseFieldDescriptor (TX4 k).2.2.1 = some (tyX4 k) := by decide +kernel
abbrev cX4_init : ByteArray := prog_6_method_1_code
def yX4_init : MethodName := ⟨RX4, "<init>", "()V"⟩
abbrev cX4_takeOut : ByteArray := prog_6_method_2_code
def yX4_takeOut : MethodName := ⟨RX4, "takeOut", "(I)V"⟩
abbrev cX4_copy : ByteArray := prog_6_method_3_code
def yX4_copy : MethodName := ⟨RX4, "copy", "(LCoatRows$Shelf;)V"⟩
abbrev cX4_coats : ByteArray := prog_6_method_4_code
def yX4_coats : MethodName := ⟨RX4, "coats", "()I"⟩
abbrev cX4_inRoom : ByteArray := prog_6_method_5_code
def yX4_inRoom : MethodName := ⟨RX4, "inRoom", "(I)I"⟩
def RX5 : String := "CoatRows$Text"
def TX5 : u_T := fun k => match k with
  | 0 => ("CoatRows$Text", "bytes", "[B", true)
  | 1 => ("CoatRows$Text", "length", "I", false)
  | 2 => ("CoatRows$Text", "taken", "I", false)
  | 3 => ("CoatRows$Text", "kinds", "[I", true)
  | 4 => ("CoatRows$Text", "numbers", "[I", true)
  | 5 => ("CoatRows$Text", "places", "[I", true)
  | 6 => ("CoatRows$Text", "tokens", "I", false)
  | _ => ("CoatRows$Text", "at", "I", false)
def tyX5 : Nat → FieldType := fun k => match k with
  | 0 => .array .byte
  | 1 => .int
  | 2 => .int
  | 3 => .array .int
  | 4 => .array .int
  | 5 => .array .int
  | 6 => .int
  | _ => .int
theorem nmX5 : ∀ a, a < 8 → ∀ b, b < 8 → a ≠ b → (TX5 a).2.1 ≠ (TX5 b).2.1 := by decide +kernel
theorem tyX5_ok : ∀ k, k < 8 → parseFieldDescriptor (TX5 k).2.2.1 = some (tyX5 k) := by decide +kernel
abbrev cX5_init : ByteArray := prog_7_method_1_code
def yX5_init : MethodName := ⟨RX5, "<init>", "()V"⟩
abbrev cX5_add : ByteArray := prog_7_method_2_code
def yX5_add : MethodName := ⟨RX5, "add", "(JI)Z"⟩
abbrev cX5_split : ByteArray := prog_7_method_3_code
def yX5_split : MethodName := ⟨RX5, "split", "()V"⟩
abbrev cX5_isAt : ByteArray := prog_7_method_4_code
def yX5_isAt : MethodName := ⟨RX5, "isAt", "(I)Z"⟩
abbrev cX5_fault : ByteArray := prog_7_method_5_code
def yX5_fault : MethodName := ⟨RX5, "fault", "()I"⟩
abbrev cX5_take : ByteArray := prog_7_method_6_code
def yX5_take : MethodName := ⟨RX5, "take", "(I)Z"⟩
abbrev cX5_takeNumber : ByteArray := prog_7_method_7_code
def yX5_takeNumber : MethodName := ⟨RX5, "takeNumber", "(II)Z"⟩
abbrev cX5_takeColourBut : ByteArray := prog_7_method_8_code
def yX5_takeColourBut : MethodName := ⟨RX5, "takeColourBut", "(I)Z"⟩
abbrev cX5_beginsToken : ByteArray := prog_7_method_9_code
def yX5_beginsToken : MethodName := ⟨RX5, "beginsToken", "(I)Z"⟩
abbrev cX5_readToken : ByteArray := prog_7_method_10_code
def yX5_readToken : MethodName := ⟨RX5, "readToken", "(I)V"⟩
abbrev cX5_readNumber : ByteArray := prog_7_method_11_code
def yX5_readNumber : MethodName := ⟨RX5, "readNumber", "(I)V"⟩
abbrev cX5_readWord : ByteArray := prog_7_method_12_code
def yX5_readWord : MethodName := ⟨RX5, "readWord", "(I)V"⟩
abbrev cX5_kindOfWord : ByteArray := prog_7_method_13_code
def yX5_kindOfWord : MethodName := ⟨RX5, "kindOfWord", "(II)I"⟩
abbrev cX5_isWord : ByteArray := prog_7_method_14_code
def yX5_isWord : MethodName := ⟨RX5, "isWord", "(Ljava/lang/String;II)Z"⟩
abbrev cX5_isDigit : ByteArray := prog_7_method_15_code
def yX5_isDigit : MethodName := ⟨RX5, "isDigit", "(I)Z"⟩
abbrev cX5_isLetter : ByteArray := prog_7_method_16_code
def yX5_isLetter : MethodName := ⟨RX5, "isLetter", "(I)Z"⟩
def RX6 : String := "CoatRows$Years"
def TX6 : u_T := fun k => match k with
  | 0 => ("CoatRows$Years", "can", "Z", false)
  | 1 => ("CoatRows$Years", "earliest", "[I", true)
  | 2 => ("CoatRows$Years", "latest", "[I", true)
  | 3 => ("CoatRows$Years", "matched", "I", false)
  | 4 => ("CoatRows$Years", "billOf", "[I", true)
  | _ => ("CoatRows$Years", "most", "[I", true)
def tyX6 : Nat → FieldType := fun k => match k with
  | 0 => .boolean
  | 1 => .array .int
  | 2 => .array .int
  | 3 => .int
  | 4 => .array .int
  | _ => .array .int
theorem nmX6 : ∀ a, a < 6 → ∀ b, b < 6 → a ≠ b → (TX6 a).2.1 ≠ (TX6 b).2.1 := by decide +kernel
theorem tyX6_ok : ∀ k, k < 6 → parseFieldDescriptor (TX6 k).2.2.1 = some (tyX6 k) := by decide +kernel
abbrev cX6_init : ByteArray := prog_8_method_1_code
def yX6_init : MethodName := ⟨RX6, "<init>", "()V"⟩
abbrev cX6_find : ByteArray := prog_8_method_2_code
def yX6_find : MethodName := ⟨RX6, "find", "(LCoatRows$Paintings;LCoatRows$Book;I)V"⟩
abbrev cX6_match : ByteArray := prog_8_method_3_code
def yX6_match : MethodName := ⟨RX6, "match", "(LCoatRows$Paintings;LCoatRows$Book;)V"⟩
abbrev cX6_mostFrom : ByteArray := prog_8_method_4_code
def yX6_mostFrom : MethodName := ⟨RX6, "mostFrom", "(IIILCoatRows$Book;)I"⟩
abbrev cX6_leastBill : ByteArray := prog_8_method_5_code
def yX6_leastBill : MethodName := ⟨RX6, "leastBill", "(IIILCoatRows$Book;)I"⟩
abbrev cX6_fits : ByteArray := prog_8_method_6_code
def yX6_fits : MethodName := ⟨RX6, "fits", "(IIIILCoatRows$Book;)Z"⟩
def RX7 : String := "CoatRows"
def TX7 : u_T := fun k => match k with
  | 0 => ("CoatRows", "text", "LCoatRows$Text;", true)
  | 1 => ("CoatRows", "chips", "LCoatRows$Shelf;", true)
  | 2 => ("CoatRows", "images", "[LCoatRows$Shelf;", true)
  | 3 => ("CoatRows", "tunes", "[I", true)
  | 4 => ("CoatRows", "same", "[I", true)
  | 5 => ("CoatRows", "laying", "LCoatRows$Laying;", true)
  | 6 => ("CoatRows", "paintings", "LCoatRows$Paintings;", true)
  | 7 => ("CoatRows", "years", "LCoatRows$Years;", true)
  | 8 => ("CoatRows", "book", "LCoatRows$Book;", false)
  | 9 => ("CoatRows", "spare", "LCoatRows$Book;", false)
  | 10 => ("CoatRows", "settled", "Z", false)
  | _ => ("CoatRows", "trace", "J", false)
def tyX7 : Nat → FieldType := fun k => match k with
  | 0 => .object "CoatRows$Text"
  | 1 => .object "CoatRows$Shelf"
  | 2 => .array (.object "CoatRows$Shelf")
  | 3 => .array .int
  | 4 => .array .int
  | 5 => .object "CoatRows$Laying"
  | 6 => .object "CoatRows$Paintings"
  | 7 => .object "CoatRows$Years"
  | 8 => .object "CoatRows$Book"
  | 9 => .object "CoatRows$Book"
  | 10 => .boolean
  | _ => .long
theorem nmX7 : ∀ a, a < 12 → ∀ b, b < 12 → a ≠ b → (TX7 a).2.1 ≠ (TX7 b).2.1 := by decide +kernel
theorem tyX7_ok : ∀ k, k < 12 → parseFieldDescriptor (TX7 k).2.2.1 = some (tyX7 k) := by decide +kernel
abbrev cX7_init : ByteArray := prog_1_method_1_code
def yX7_init : MethodName := ⟨RX7, "<init>", "()V"⟩
abbrev cX7_type : ByteArray := prog_1_method_2_code
def yX7_type : MethodName := ⟨RX7, "type", "(JI)I"⟩
abbrev cX7_clear : ByteArray := prog_1_method_3_code
def yX7_clear : MethodName := ⟨RX7, "clear", "()I"⟩
abbrev cX7_chip : ByteArray := prog_1_method_4_code
def yX7_chip : MethodName := ⟨RX7, "chip", "()I"⟩
abbrev cX7_book : ByteArray := prog_1_method_5_code
def yX7_book : MethodName := ⟨RX7, "book", "()I"⟩
abbrev cX7_drop : ByteArray := prog_1_method_6_code
def yX7_drop : MethodName := ⟨RX7, "drop", "(I)I"⟩
abbrev cX7_about : ByteArray := prog_1_method_7_code
def yX7_about : MethodName := ⟨RX7, "about", "(II)I"⟩
abbrev cX7_coat : ByteArray := prog_1_method_8_code
def yX7_coat : MethodName := ⟨RX7, "coat", "(III)I"⟩
abbrev cX7_colour : ByteArray := prog_1_method_9_code
def yX7_colour : MethodName := ⟨RX7, "colour", "(II)I"⟩
abbrev cX7_tune : ByteArray := prog_1_method_10_code
def yX7_tune : MethodName := ⟨RX7, "tune", "(II)I"⟩
abbrev cX7_least : ByteArray := prog_1_method_11_code
def yX7_least : MethodName := ⟨RX7, "least", "(II)I"⟩
abbrev cX7_ways : ByteArray := prog_1_method_12_code
def yX7_ways : MethodName := ⟨RX7, "ways", "(II)J"⟩
abbrev cX7_laid : ByteArray := prog_1_method_13_code
def yX7_laid : MethodName := ⟨RX7, "laid", "(III)I"⟩
abbrev cX7_painting : ByteArray := prog_1_method_14_code
def yX7_painting : MethodName := ⟨RX7, "painting", "(I)I"⟩
abbrev cX7_had : ByteArray := prog_1_method_15_code
def yX7_had : MethodName := ⟨RX7, "had", "(I)I"⟩
abbrev cX7_face : ByteArray := prog_1_method_16_code
def yX7_face : MethodName := ⟨RX7, "face", "(II)I"⟩
abbrev cX7_span : ByteArray := prog_1_method_17_code
def yX7_span : MethodName := ⟨RX7, "span", "(II)I"⟩
abbrev cX7_day : ByteArray := prog_1_method_18_code
def yX7_day : MethodName := ⟨RX7, "day", "(II)I"⟩
abbrev cX7_bill : ByteArray := prog_1_method_19_code
def yX7_bill : MethodName := ⟨RX7, "bill", "(II)I"⟩
abbrev cX7_billed : ByteArray := prog_1_method_20_code
def yX7_billed : MethodName := ⟨RX7, "billed", "(I)I"⟩
abbrev cX7_enough : ByteArray := prog_1_method_21_code
def yX7_enough : MethodName := ⟨RX7, "enough", "(II)I"⟩
abbrev cX7_next : ByteArray := prog_1_method_22_code
def yX7_next : MethodName := ⟨RX7, "next", "()I"⟩
abbrev cX7_rank : ByteArray := prog_1_method_23_code
def yX7_rank : MethodName := ⟨RX7, "rank", "(III)I"⟩
abbrev cX7_keep : ByteArray := prog_1_method_24_code
def yX7_keep : MethodName := ⟨RX7, "keep", "(I)I"⟩
abbrev cX7_back : ByteArray := prog_1_method_25_code
def yX7_back : MethodName := ⟨RX7, "back", "(I)I"⟩
abbrev cX7_count : ByteArray := prog_1_method_26_code
def yX7_count : MethodName := ⟨RX7, "count", "(I)I"⟩
abbrev cX7_trace : ByteArray := prog_1_method_27_code
def yX7_trace : MethodName := ⟨RX7, "trace", "()J"⟩
abbrev cX7_isChip : ByteArray := prog_1_method_28_code
def yX7_isChip : MethodName := ⟨RX7, "isChip", "(I)Z"⟩
abbrev cX7_isCoat : ByteArray := prog_1_method_29_code
def yX7_isCoat : MethodName := ⟨RX7, "isCoat", "(II)Z"⟩
abbrev cX7_areTwo : ByteArray := prog_1_method_30_code
def yX7_areTwo : MethodName := ⟨RX7, "areTwo", "(II)Z"⟩
abbrev cX7_isPainting : ByteArray := prog_1_method_31_code
def yX7_isPainting : MethodName := ⟨RX7, "isPainting", "(I)Z"⟩
abbrev cX7_findSame : ByteArray := prog_1_method_32_code
def yX7_findSame : MethodName := ⟨RX7, "findSame", "()V"⟩
abbrev cX7_lay : ByteArray := prog_1_method_33_code
def yX7_lay : MethodName := ⟨RX7, "lay", "(II)V"⟩
abbrev cX7_settle : ByteArray := prog_1_method_34_code
def yX7_settle : MethodName := ⟨RX7, "settle", "()V"⟩
abbrev cX7_paintingOf : ByteArray := prog_1_method_35_code
def yX7_paintingOf : MethodName := ⟨RX7, "paintingOf", "(II)I"⟩
abbrev cX7_missedBy : ByteArray := prog_1_method_36_code
def yX7_missedBy : MethodName := ⟨RX7, "missedBy", "(I)I"⟩
abbrev cX7_ageOf : ByteArray := prog_1_method_37_code
def yX7_ageOf : MethodName := ⟨RX7, "ageOf", "(I)I"⟩
abbrev cX7_movedFrom : ByteArray := prog_1_method_38_code
def yX7_movedFrom : MethodName := ⟨RX7, "movedFrom", "(I)I"⟩
abbrev cX7_lastCoats : ByteArray := prog_1_method_39_code
def yX7_lastCoats : MethodName := ⟨RX7, "lastCoats", "(II)I"⟩
abbrev cX7_oddsOfAll : ByteArray := prog_1_method_40_code
def yX7_oddsOfAll : MethodName := ⟨RX7, "oddsOfAll", "(IJ)J"⟩
abbrev cX7_asCoat : ByteArray := prog_1_method_41_code
def yX7_asCoat : MethodName := ⟨RX7, "asCoat", "(II)I"⟩
abbrev cX7_asWhole : ByteArray := prog_1_method_42_code
def yX7_asWhole : MethodName := ⟨RX7, "asWhole", "(II)I"⟩
abbrev cX7_asUnder : ByteArray := prog_1_method_43_code
def yX7_asUnder : MethodName := ⟨RX7, "asUnder", "(II)I"⟩
abbrev cX7_asPatch : ByteArray := prog_1_method_44_code
def yX7_asPatch : MethodName := ⟨RX7, "asPatch", "(II)I"⟩
abbrev cX7_asScraped : ByteArray := prog_1_method_45_code
def yX7_asScraped : MethodName := ⟨RX7, "asScraped", "(II)I"⟩
abbrev cX7_asVarnish : ByteArray := prog_1_method_46_code
def yX7_asVarnish : MethodName := ⟨RX7, "asVarnish", "(II)I"⟩
def RX8 : String := "CoatRowsModel"
def TX8 : u_T := fun k => match k with
  | 0 => ("CoatRowsModel", "text", "[I", true)
  | 1 => ("CoatRowsModel", "size", "I", false)
  | 2 => ("CoatRowsModel", "at", "I", false)
  | 3 => ("CoatRowsModel", "from", "I", false)
  | 4 => ("CoatRowsModel", "token", "I", false)
  | 5 => ("CoatRowsModel", "value", "I", false)
  | 6 => ("CoatRowsModel", "chips", "I", false)
  | 7 => ("CoatRowsModel", "room", "[I", true)
  | 8 => ("CoatRowsModel", "pores", "[I", true)
  | 9 => ("CoatRowsModel", "coats", "[I", true)
  | 10 => ("CoatRowsModel", "colour", "[I", true)
  | 11 => ("CoatRowsModel", "dirt", "[I", true)
  | 12 => ("CoatRowsModel", "readColour", "[I", true)
  | 13 => ("CoatRowsModel", "readDirt", "[I", true)
  | 14 => ("CoatRowsModel", "soldFrom", "[I", true)
  | 15 => ("CoatRowsModel", "soldTo", "[I", true)
  | 16 => ("CoatRowsModel", "like", "[I", true)
  | 17 => ("CoatRowsModel", "bills", "I", false)
  | 18 => ("CoatRowsModel", "billYear", "[I", true)
  | 19 => ("CoatRowsModel", "billColour", "[I", true)
  | 20 => ("CoatRowsModel", "readFrom", "[I", true)
  | 21 => ("CoatRowsModel", "readTo", "[I", true)
  | 22 => ("CoatRowsModel", "readLike", "[I", true)
  | 23 => ("CoatRowsModel", "readYear", "[I", true)
  | 24 => ("CoatRowsModel", "readOf", "[I", true)
  | 25 => ("CoatRowsModel", "tunes", "[I", true)
  | 26 => ("CoatRowsModel", "kept", "[I", true)
  | 27 => ("CoatRowsModel", "keptRoom", "[I", true)
  | 28 => ("CoatRowsModel", "keptPores", "[I", true)
  | 29 => ("CoatRowsModel", "keptCoats", "[I", true)
  | 30 => ("CoatRowsModel", "keptColour", "[I", true)
  | 31 => ("CoatRowsModel", "keptDirt", "[I", true)
  | 32 => ("CoatRowsModel", "trace", "J", false)
  | 33 => ("CoatRowsModel", "cost", "[I", true)
  | 34 => ("CoatRowsModel", "many", "[J", true)
  | 35 => ("CoatRowsModel", "wanted", "[I", true)
  | 36 => ("CoatRowsModel", "place", "[I", true)
  | 37 => ("CoatRowsModel", "next", "[I", true)
  | 38 => ("CoatRowsModel", "paintings", "I", false)
  | 39 => ("CoatRowsModel", "painted", "[I", true)
  | 40 => ("CoatRowsModel", "of", "[I", true)
  | 41 => ("CoatRowsModel", "isMade", "Z", false)
  | 42 => ("CoatRowsModel", "earliest", "[I", true)
  | 43 => ("CoatRowsModel", "latest", "[I", true)
  | 44 => ("CoatRowsModel", "canBe", "Z", false)
  | 45 => ("CoatRowsModel", "fit", "[I", true)
  | 46 => ("CoatRowsModel", "readRoom", "I", false)
  | 47 => ("CoatRowsModel", "readPores", "I", false)
  | 48 => ("CoatRowsModel", "readCoats", "I", false)
  | 49 => ("CoatRowsModel", "readBills", "I", false)
  | _ => ("CoatRowsModel", "went", "Z", false)
def tyX8 : Nat → FieldType := fun k => match k with
  | 0 => .array .int
  | 1 => .int
  | 2 => .int
  | 3 => .int
  | 4 => .int
  | 5 => .int
  | 6 => .int
  | 7 => .array .int
  | 8 => .array .int
  | 9 => .array .int
  | 10 => .array .int
  | 11 => .array .int
  | 12 => .array .int
  | 13 => .array .int
  | 14 => .array .int
  | 15 => .array .int
  | 16 => .array .int
  | 17 => .int
  | 18 => .array .int
  | 19 => .array .int
  | 20 => .array .int
  | 21 => .array .int
  | 22 => .array .int
  | 23 => .array .int
  | 24 => .array .int
  | 25 => .array .int
  | 26 => .array .int
  | 27 => .array .int
  | 28 => .array .int
  | 29 => .array .int
  | 30 => .array .int
  | 31 => .array .int
  | 32 => .long
  | 33 => .array .int
  | 34 => .array .long
  | 35 => .array .int
  | 36 => .array .int
  | 37 => .array .int
  | 38 => .int
  | 39 => .array .int
  | 40 => .array .int
  | 41 => .boolean
  | 42 => .array .int
  | 43 => .array .int
  | 44 => .boolean
  | 45 => .array .int
  | 46 => .int
  | 47 => .int
  | 48 => .int
  | 49 => .int
  | _ => .boolean
theorem nmX8 : ∀ a, a < 51 → ∀ b, b < 51 → a ≠ b → (TX8 a).2.1 ≠ (TX8 b).2.1 := by decide +kernel
theorem tyX8_ok : ∀ k, k < 51 → parseFieldDescriptor (TX8 k).2.2.1 = some (tyX8 k) := by decide +kernel
abbrev cX8_init : ByteArray := prog_10_method_1_code
def yX8_init : MethodName := ⟨RX8, "<init>", "()V"⟩
abbrev cX8_in : ByteArray := prog_10_method_3_code
def yX8_in : MethodName := ⟨RX8, "in", "(III)Z"⟩
abbrev cX8_type : ByteArray := prog_10_method_4_code
def yX8_type : MethodName := ⟨RX8, "type", "(JI)I"⟩
abbrev cX8_clear : ByteArray := prog_10_method_5_code
def yX8_clear : MethodName := ⟨RX8, "clear", "()I"⟩
abbrev cX8_isLetter : ByteArray := prog_10_method_6_code
def yX8_isLetter : MethodName := ⟨RX8, "isLetter", "(I)Z"⟩
abbrev cX8_isDigit : ByteArray := prog_10_method_7_code
def yX8_isDigit : MethodName := ⟨RX8, "isDigit", "(I)Z"⟩
abbrev cX8_look : ByteArray := prog_10_method_8_code
def yX8_look : MethodName := ⟨RX8, "look", "()I"⟩
abbrev cX8_read : ByteArray := prog_10_method_9_code
def yX8_read : MethodName := ⟨RX8, "read", "()V"⟩
abbrev cX8_word : ByteArray := prog_10_method_10_code
def yX8_word : MethodName := ⟨RX8, "word", "()V"⟩
abbrev cX8_isNumber : ByteArray := prog_10_method_11_code
def yX8_isNumber : MethodName := ⟨RX8, "isNumber", "(II)Z"⟩
abbrev cX8_isChip : ByteArray := prog_10_method_12_code
def yX8_isChip : MethodName := ⟨RX8, "isChip", "()Z"⟩
abbrev cX8_chip : ByteArray := prog_10_method_13_code
def yX8_chip : MethodName := ⟨RX8, "chip", "()I"⟩
abbrev cX8_isStuff : ByteArray := prog_10_method_14_code
def yX8_isStuff : MethodName := ⟨RX8, "isStuff", "()Z"⟩
abbrev cX8_areAlike : ByteArray := prog_10_method_15_code
def yX8_areAlike : MethodName := ⟨RX8, "areAlike", "()Z"⟩
abbrev cX8_isBill : ByteArray := prog_10_method_16_code
def yX8_isBill : MethodName := ⟨RX8, "isBill", "()Z"⟩
abbrev cX8_book : ByteArray := prog_10_method_17_code
def yX8_book : MethodName := ⟨RX8, "book", "()I"⟩
abbrev cX8_isChipAt : ByteArray := prog_10_method_18_code
def yX8_isChipAt : MethodName := ⟨RX8, "isChipAt", "(I)Z"⟩
abbrev cX8_drop : ByteArray := prog_10_method_19_code
def yX8_drop : MethodName := ⟨RX8, "drop", "(I)I"⟩
abbrev cX8_about : ByteArray := prog_10_method_20_code
def yX8_about : MethodName := ⟨RX8, "about", "(II)I"⟩
abbrev cX8_isCoat : ByteArray := prog_10_method_21_code
def yX8_isCoat : MethodName := ⟨RX8, "isCoat", "(II)Z"⟩
abbrev cX8_coat : ByteArray := prog_10_method_22_code
def yX8_coat : MethodName := ⟨RX8, "coat", "(III)I"⟩
abbrev cX8_colour : ByteArray := prog_10_method_23_code
def yX8_colour : MethodName := ⟨RX8, "colour", "(II)I"⟩
abbrev cX8_tune : ByteArray := prog_10_method_24_code
def yX8_tune : MethodName := ⟨RX8, "tune", "(II)I"⟩
abbrev cX8_isSame : ByteArray := prog_10_method_25_code
def yX8_isSame : MethodName := ⟨RX8, "isSame", "(II)Z"⟩
abbrev cX8_costOf : ByteArray := prog_10_method_26_code
def yX8_costOf : MethodName := ⟨RX8, "costOf", "(IIIII)I"⟩
abbrev cX8_areSame : ByteArray := prog_10_method_27_code
def yX8_areSame : MethodName := ⟨RX8, "areSame", "(IIII)Z"⟩
abbrev cX8_lay : ByteArray := prog_10_method_28_code
def yX8_lay : MethodName := ⟨RX8, "lay", "(II)V"⟩
abbrev cX8_areTwo : ByteArray := prog_10_method_29_code
def yX8_areTwo : MethodName := ⟨RX8, "areTwo", "(II)Z"⟩
abbrev cX8_least : ByteArray := prog_10_method_30_code
def yX8_least : MethodName := ⟨RX8, "least", "(II)I"⟩
abbrev cX8_ways : ByteArray := prog_10_method_31_code
def yX8_ways : MethodName := ⟨RX8, "ways", "(II)J"⟩
abbrev cX8_laid : ByteArray := prog_10_method_32_code
def yX8_laid : MethodName := ⟨RX8, "laid", "(III)I"⟩
abbrev cX8_behind : ByteArray := prog_10_method_33_code
def yX8_behind : MethodName := ⟨RX8, "behind", "(I)I"⟩
abbrev cX8_make : ByteArray := prog_10_method_34_code
def yX8_make : MethodName := ⟨RX8, "make", "()V"⟩
abbrev cX8_weigh : ByteArray := prog_10_method_35_code
def yX8_weigh : MethodName := ⟨RX8, "weigh", "(I)V"⟩
abbrev cX8_goOn : ByteArray := prog_10_method_36_code
def yX8_goOn : MethodName := ⟨RX8, "goOn", "(I)I"⟩
abbrev cX8_hasPainting : ByteArray := prog_10_method_37_code
def yX8_hasPainting : MethodName := ⟨RX8, "hasPainting", "(II)Z"⟩
abbrev cX8_painting : ByteArray := prog_10_method_38_code
def yX8_painting : MethodName := ⟨RX8, "painting", "(I)I"⟩
abbrev cX8_had : ByteArray := prog_10_method_39_code
def yX8_had : MethodName := ⟨RX8, "had", "(I)I"⟩
abbrev cX8_moved : ByteArray := prog_10_method_40_code
def yX8_moved : MethodName := ⟨RX8, "moved", "(I)I"⟩
abbrev cX8_face : ByteArray := prog_10_method_41_code
def yX8_face : MethodName := ⟨RX8, "face", "(II)I"⟩
abbrev cX8_later : ByteArray := prog_10_method_42_code
def yX8_later : MethodName := ⟨RX8, "later", "(I)I"⟩
abbrev cX8_years : ByteArray := prog_10_method_43_code
def yX8_years : MethodName := ⟨RX8, "years", "()V"⟩
abbrev cX8_span : ByteArray := prog_10_method_44_code
def yX8_span : MethodName := ⟨RX8, "span", "(II)I"⟩
abbrev cX8_day : ByteArray := prog_10_method_45_code
def yX8_day : MethodName := ⟨RX8, "day", "(II)I"⟩
abbrev cX8_bill : ByteArray := prog_10_method_46_code
def yX8_bill : MethodName := ⟨RX8, "bill", "(II)I"⟩
abbrev cX8_suits : ByteArray := prog_10_method_47_code
def yX8_suits : MethodName := ⟨RX8, "suits", "(III)Z"⟩
abbrev cX8_billed : ByteArray := prog_10_method_48_code
def yX8_billed : MethodName := ⟨RX8, "billed", "(I)I"⟩
abbrev cX8_enough : ByteArray := prog_10_method_49_code
def yX8_enough : MethodName := ⟨RX8, "enough", "(II)I"⟩
abbrev cX8_next : ByteArray := prog_10_method_50_code
def yX8_next : MethodName := ⟨RX8, "next", "()I"⟩
abbrev cX8_ofCoat : ByteArray := prog_10_method_51_code
def yX8_ofCoat : MethodName := ⟨RX8, "ofCoat", "(II)I"⟩
abbrev cX8_ofWhole : ByteArray := prog_10_method_52_code
def yX8_ofWhole : MethodName := ⟨RX8, "ofWhole", "(II)I"⟩
abbrev cX8_ofUnder : ByteArray := prog_10_method_53_code
def yX8_ofUnder : MethodName := ⟨RX8, "ofUnder", "(II)I"⟩
abbrev cX8_rank : ByteArray := prog_10_method_54_code
def yX8_rank : MethodName := ⟨RX8, "rank", "(III)I"⟩
abbrev cX8_keep : ByteArray := prog_10_method_55_code
def yX8_keep : MethodName := ⟨RX8, "keep", "(I)I"⟩
abbrev cX8_back : ByteArray := prog_10_method_56_code
def yX8_back : MethodName := ⟨RX8, "back", "(I)I"⟩
abbrev cX8_count : ByteArray := prog_10_method_57_code
def yX8_count : MethodName := ⟨RX8, "count", "(I)I"⟩
abbrev cX8_trace : ByteArray := prog_10_method_58_code
def yX8_trace : MethodName := ⟨RX8, "trace", "()J"⟩
def RJx145de : String := "java/io/Serializable"
def RJx9f9b0 : String := "java/lang/CharSequence"
def RJxb160c : String := "java/lang/Comparable"
def RJ6 : String := "java/lang/Integer"
abbrev cJ6_bitCount_0f7a4 : ByteArray := prog_11_method_49_code
def yJ6_bitCount_0f7a4 : MethodName := ⟨RJ6, "bitCount", "(I)I"⟩
def RJ9 : String := "java/lang/Math"
abbrev cJ9_abs_0f7a4 : ByteArray := prog_12_method_59_code
def yJ9_abs_0f7a4 : MethodName := ⟨RJ9, "abs", "(I)I"⟩
abbrev cJ9_max_7cf53 : ByteArray := prog_12_method_65_code
def yJ9_max_7cf53 : MethodName := ⟨RJ9, "max", "(II)I"⟩
abbrev cJ9_min_7cf53 : ByteArray := prog_12_method_69_code
def yJ9_min_7cf53 : MethodName := ⟨RJ9, "min", "(II)I"⟩
def RJ0 : String := "java/lang/String"
abbrev cJ0_length_8abf5 : ByteArray := prog_13_method_54_code
def yJ0_length_8abf5 : MethodName := ⟨RJ0, "length", "()I"⟩
abbrev cJ0_charAt_5068e : ByteArray := prog_13_method_56_code
def yJ0_charAt_5068e : MethodName := ⟨RJ0, "charAt", "(I)C"⟩
abbrev cJ0_coder_7d493 : ByteArray := prog_13_method_152_code
def yJ0_coder_7d493 : MethodName := ⟨RJ0, "coder", "()B"⟩
abbrev cJ0_isLatin1_aae02 : ByteArray := prog_13_method_154_code
def yJ0_isLatin1_aae02 : MethodName := ⟨RJ0, "isLatin1", "()Z"⟩
abbrev cJ0_checkIndex_df160 : ByteArray := prog_13_method_155_code
def yJ0_checkIndex_df160 : MethodName := ⟨RJ0, "checkIndex", "(II)V"⟩
def RJ1 : String := "java/lang/StringLatin1"
abbrev cJ1_charAt_3b067 : ByteArray := prog_14_method_2_code
def yJ1_charAt_3b067 : MethodName := ⟨RJ1, "charAt", "([BI)C"⟩
def RJ2 : String := "java/lang/StringUTF16"
abbrev cJ2_getChar_3b067 : ByteArray := prog_15_method_5_code
def yJ2_getChar_3b067 : MethodName := ⟨RJ2, "getChar", "([BI)C"⟩
abbrev cJ2_length_9d52b : ByteArray := prog_15_method_6_code
def yJ2_length_9d52b : MethodName := ⟨RJ2, "length", "([B)I"⟩
abbrev cJ2_charAt_3b067 : ByteArray := prog_15_method_83_code
def yJ2_charAt_3b067 : MethodName := ⟨RJ2, "charAt", "([BI)C"⟩
abbrev cJ2_checkIndex_2214a : ByteArray := prog_15_method_91_code
def yJ2_checkIndex_2214a : MethodName := ⟨RJ2, "checkIndex", "(I[B)V"⟩
def RJ10 : String := "java/lang/System"
def RJxfd54e : String := "java/lang/constant/Constable"
def RJx3cf43 : String := "java/lang/constant/ConstantDesc"
def RJ7 : String := "java/util/Arrays"
abbrev cJ7_fill_53178 : ByteArray := prog_17_method_103_code
def yJ7_fill_53178 : MethodName := ⟨RJ7, "fill", "([II)V"⟩
def RJ3 : String := "jdk/internal/util/Preconditions"
abbrev cJ3_checkIndex_8e157 : ByteArray := prog_18_method_11_code
def yJ3_checkIndex_8e157 : MethodName := ⟨RJ3, "checkIndex", "(IILjava/util/function/BiFunction;)I"⟩
def RL : String := "CoatRowsLaw"
abbrev cL_law : ByteArray := code
def yL_law : MethodName := ⟨RL, "law", "([I)Z"⟩
abbrev vwCl : List vw_C := [(RX0, TX0, 7), (RX1, TX1, 5), (RX2, TX2, 7), (RX3, TX3, 14), (RX4, TX4, 3), (RX5, TX5, 8), (RX6, TX6, 6), (RX7, TX7, 12), (RX8, TX8, 51)]
end
section
theorem dX0_init_0 : decode cX0_init 0 = .ok (.aload_n 0, 1) := by decide +kernel
theorem dX0_init_1 : decode cX0_init 1 = .ok (.invokespecial 3, 3) := by decide +kernel
theorem dX0_init_4 : decode cX0_init 4 = .ok (.aload_n 0, 1) := by decide +kernel
theorem dX0_init_5 : decode cX0_init 5 = .ok (.bipush 12, 2) := by decide +kernel
theorem dX0_init_7 : decode cX0_init 7 = .ok (.newarray .int, 2) := by decide +kernel
theorem dX0_init_9 : decode cX0_init 9 = .ok (.putfield 9, 3) := by decide +kernel
theorem dX0_init_12 : decode cX0_init 12 = .ok (.aload_n 0, 1) := by decide +kernel
theorem dX0_init_13 : decode cX0_init 13 = .ok (.bipush 12, 2) := by decide +kernel
theorem dX0_init_15 : decode cX0_init 15 = .ok (.newarray .int, 2) := by decide +kernel
theorem dX0_init_17 : decode cX0_init 17 = .ok (.putfield 15, 3) := by decide +kernel
theorem dX0_init_20 : decode cX0_init 20 = .ok (.aload_n 0, 1) := by decide +kernel
theorem dX0_init_21 : decode cX0_init 21 = .ok (.bipush 12, 2) := by decide +kernel
theorem dX0_init_23 : decode cX0_init 23 = .ok (.newarray .int, 2) := by decide +kernel
theorem dX0_init_25 : decode cX0_init 25 = .ok (.putfield 18, 3) := by decide +kernel
theorem dX0_init_28 : decode cX0_init 28 = .ok (.aload_n 0, 1) := by decide +kernel
theorem dX0_init_29 : decode cX0_init 29 = .ok (.bipush 8, 2) := by decide +kernel
theorem dX0_init_31 : decode cX0_init 31 = .ok (.newarray .int, 2) := by decide +kernel
theorem dX0_init_33 : decode cX0_init 33 = .ok (.putfield 21, 3) := by decide +kernel
theorem dX0_init_36 : decode cX0_init 36 = .ok (.aload_n 0, 1) := by decide +kernel
theorem dX0_init_37 : decode cX0_init 37 = .ok (.bipush 8, 2) := by decide +kernel
theorem dX0_init_39 : decode cX0_init 39 = .ok (.newarray .int, 2) := by decide +kernel
theorem dX0_init_41 : decode cX0_init 41 = .ok (.putfield 24, 3) := by decide +kernel
theorem dX0_init_44 : decode cX0_init 44 = .ok (.aload_n 0, 1) := by decide +kernel
theorem dX0_init_45 : decode cX0_init 45 = .ok (.invokevirtual 27, 3) := by decide +kernel
theorem dX0_init_48 : decode cX0_init 48 = .ok (.return_, 1) := by decide +kernel
theorem dX0_empty_0 : decode cX0_empty 0 = .ok (.aload_n 0, 1) := by decide +kernel
theorem dX0_empty_1 : decode cX0_empty 1 = .ok (.getfield 9, 3) := by decide +kernel
theorem dX0_empty_4 : decode cX0_empty 4 = .ok (.iconst 0, 1) := by decide +kernel
theorem dX0_empty_5 : decode cX0_empty 5 = .ok (.invokestatic 30, 3) := by decide +kernel
theorem dX0_empty_8 : decode cX0_empty 8 = .ok (.aload_n 0, 1) := by decide +kernel
theorem dX0_empty_9 : decode cX0_empty 9 = .ok (.getfield 15, 3) := by decide +kernel
theorem dX0_empty_12 : decode cX0_empty 12 = .ok (.sipush 999, 3) := by decide +kernel
theorem dX0_empty_15 : decode cX0_empty 15 = .ok (.invokestatic 30, 3) := by decide +kernel
theorem dX0_empty_18 : decode cX0_empty 18 = .ok (.aload_n 0, 1) := by decide +kernel
theorem dX0_empty_19 : decode cX0_empty 19 = .ok (.getfield 18, 3) := by decide +kernel
theorem dX0_empty_22 : decode cX0_empty 22 = .ok (.iconst 0, 1) := by decide +kernel
theorem dX0_empty_23 : decode cX0_empty 23 = .ok (.invokestatic 30, 3) := by decide +kernel
theorem dX0_empty_26 : decode cX0_empty 26 = .ok (.aload_n 0, 1) := by decide +kernel
theorem dX0_empty_27 : decode cX0_empty 27 = .ok (.iconst 0, 1) := by decide +kernel
theorem dX0_empty_28 : decode cX0_empty 28 = .ok (.putfield 36, 3) := by decide +kernel
theorem dX0_empty_31 : decode cX0_empty 31 = .ok (.aload_n 0, 1) := by decide +kernel
theorem dX0_empty_32 : decode cX0_empty 32 = .ok (.iconst 0, 1) := by decide +kernel
theorem dX0_empty_33 : decode cX0_empty 33 = .ok (.putfield 40, 3) := by decide +kernel
theorem dX0_empty_36 : decode cX0_empty 36 = .ok (.return_, 1) := by decide +kernel
theorem dX0_read_0 : decode cX0_read 0 = .ok (.aload_n 0, 1) := by decide +kernel
theorem dX0_read_1 : decode cX0_read 1 = .ok (.invokevirtual 27, 3) := by decide +kernel
theorem dX0_read_4 : decode cX0_read 4 = .ok (.aload_n 0, 1) := by decide +kernel
theorem dX0_read_5 : decode cX0_read 5 = .ok (.getfield 40, 3) := by decide +kernel
theorem dX0_read_8 : decode cX0_read 8 = .ok (.sipush 400, 3) := by decide +kernel
theorem dX0_read_11 : decode cX0_read 11 = .ok (.if_icmp .ge 42, 3) := by decide +kernel
theorem dX0_read_14 : decode cX0_read 14 = .ok (.aload_n 1, 1) := by decide +kernel
theorem dX0_read_15 : decode cX0_read 15 = .ok (.iconst 0, 1) := by decide +kernel
theorem dX0_read_16 : decode cX0_read 16 = .ok (.invokevirtual 45, 3) := by decide +kernel
theorem dX0_read_19 : decode cX0_read 19 = .ok (.ifCond .ne 34, 3) := by decide +kernel
theorem dX0_read_22 : decode cX0_read 22 = .ok (.aload_n 0, 1) := by decide +kernel
theorem dX0_read_23 : decode cX0_read 23 = .ok (.aload_n 1, 1) := by decide +kernel
theorem dX0_read_24 : decode cX0_read 24 = .ok (.invokevirtual 49, 3) := by decide +kernel
theorem dX0_read_27 : decode cX0_read 27 = .ok (.ifCond .eq 11, 3) := by decide +kernel
theorem dX0_read_30 : decode cX0_read 30 = .ok (.aload_n 1, 1) := by decide +kernel
theorem dX0_read_31 : decode cX0_read 31 = .ok (.iconst 1, 1) := by decide +kernel
theorem dX0_read_32 : decode cX0_read 32 = .ok (.invokevirtual 53, 3) := by decide +kernel
theorem dX0_read_35 : decode cX0_read 35 = .ok (.ifCond .ne 5, 3) := by decide +kernel
theorem dX0_read_38 : decode cX0_read 38 = .ok (.iconst 0, 1) := by decide +kernel
theorem dX0_read_39 : decode cX0_read 39 = .ok (.ireturn, 1) := by decide +kernel
theorem dX0_read_40 : decode cX0_read 40 = .ok (.aload_n 0, 1) := by decide +kernel
theorem dX0_read_41 : decode cX0_read 41 = .ok (.dup, 1) := by decide +kernel
theorem dX0_read_42 : decode cX0_read 42 = .ok (.getfield 40, 3) := by decide +kernel
theorem dX0_read_45 : decode cX0_read 45 = .ok (.iconst 1, 1) := by decide +kernel
theorem dX0_read_46 : decode cX0_read 46 = .ok (.iadd, 1) := by decide +kernel
theorem dX0_read_47 : decode cX0_read 47 = .ok (.putfield 40, 3) := by decide +kernel
theorem dX0_read_50 : decode cX0_read 50 = .ok (.goto (-46), 3) := by decide +kernel
theorem dX0_read_53 : decode cX0_read 53 = .ok (.aload_n 1, 1) := by decide +kernel
theorem dX0_read_54 : decode cX0_read 54 = .ok (.iconst 0, 1) := by decide +kernel
theorem dX0_read_55 : decode cX0_read 55 = .ok (.invokevirtual 45, 3) := by decide +kernel
theorem dX0_read_58 : decode cX0_read 58 = .ok (.ireturn, 1) := by decide +kernel
theorem dX0_readItem_0 : decode cX0_readItem 0 = .ok (.aload_n 1, 1) := by decide +kernel
theorem dX0_readItem_1 : decode cX0_readItem 1 = .ok (.bipush 6, 2) := by decide +kernel
theorem dX0_readItem_3 : decode cX0_readItem 3 = .ok (.invokevirtual 53, 3) := by decide +kernel
theorem dX0_readItem_6 : decode cX0_readItem 6 = .ok (.ifCond .eq 9, 3) := by decide +kernel
theorem dX0_readItem_9 : decode cX0_readItem 9 = .ok (.aload_n 0, 1) := by decide +kernel
theorem dX0_readItem_10 : decode cX0_readItem 10 = .ok (.aload_n 1, 1) := by decide +kernel
theorem dX0_readItem_11 : decode cX0_readItem 11 = .ok (.invokevirtual 56, 3) := by decide +kernel
theorem dX0_readItem_14 : decode cX0_readItem 14 = .ok (.ireturn, 1) := by decide +kernel
theorem dX0_readItem_15 : decode cX0_readItem 15 = .ok (.aload_n 1, 1) := by decide +kernel
theorem dX0_readItem_16 : decode cX0_readItem 16 = .ok (.bipush 7, 2) := by decide +kernel
theorem dX0_readItem_18 : decode cX0_readItem 18 = .ok (.invokevirtual 53, 3) := by decide +kernel
theorem dX0_readItem_21 : decode cX0_readItem 21 = .ok (.ifCond .eq 9, 3) := by decide +kernel
theorem dX0_readItem_24 : decode cX0_readItem 24 = .ok (.aload_n 0, 1) := by decide +kernel
theorem dX0_readItem_25 : decode cX0_readItem 25 = .ok (.aload_n 1, 1) := by decide +kernel
theorem dX0_readItem_26 : decode cX0_readItem 26 = .ok (.invokevirtual 59, 3) := by decide +kernel
theorem dX0_readItem_29 : decode cX0_readItem 29 = .ok (.ireturn, 1) := by decide +kernel
theorem dX0_readItem_30 : decode cX0_readItem 30 = .ok (.aload_n 0, 1) := by decide +kernel
theorem dX0_readItem_31 : decode cX0_readItem 31 = .ok (.getfield 36, 3) := by decide +kernel
theorem dX0_readItem_34 : decode cX0_readItem 34 = .ok (.bipush 8, 2) := by decide +kernel
theorem dX0_readItem_36 : decode cX0_readItem 36 = .ok (.if_icmp .ge 24, 3) := by decide +kernel
theorem dX0_readItem_39 : decode cX0_readItem 39 = .ok (.aload_n 1, 1) := by decide +kernel
theorem dX0_readItem_40 : decode cX0_readItem 40 = .ok (.bipush 8, 2) := by decide +kernel
theorem dX0_readItem_42 : decode cX0_readItem 42 = .ok (.invokevirtual 53, 3) := by decide +kernel
theorem dX0_readItem_45 : decode cX0_readItem 45 = .ok (.ifCond .eq 15, 3) := by decide +kernel
theorem dX0_readItem_48 : decode cX0_readItem 48 = .ok (.aload_n 0, 1) := by decide +kernel
theorem dX0_readItem_49 : decode cX0_readItem 49 = .ok (.aload_n 1, 1) := by decide +kernel
theorem dX0_readItem_50 : decode cX0_readItem 50 = .ok (.invokevirtual 62, 3) := by decide +kernel
theorem dX0_readItem_53 : decode cX0_readItem 53 = .ok (.ifCond .eq 7, 3) := by decide +kernel
theorem dX0_readItem_56 : decode cX0_readItem 56 = .ok (.iconst 1, 1) := by decide +kernel
theorem dX0_readItem_57 : decode cX0_readItem 57 = .ok (.goto 4, 3) := by decide +kernel
theorem dX0_readItem_60 : decode cX0_readItem 60 = .ok (.iconst 0, 1) := by decide +kernel
theorem dX0_readItem_61 : decode cX0_readItem 61 = .ok (.ireturn, 1) := by decide +kernel
theorem dX0_readStuff_0 : decode cX0_readStuff 0 = .ok (.aload_n 1, 1) := by decide +kernel
theorem dX0_readStuff_1 : decode cX0_readStuff 1 = .ok (.iconst 3, 1) := by decide +kernel
theorem dX0_readStuff_2 : decode cX0_readStuff 2 = .ok (.invokevirtual 53, 3) := by decide +kernel
theorem dX0_readStuff_5 : decode cX0_readStuff 5 = .ok (.ifCond .ne 5, 3) := by decide +kernel
theorem dX0_readStuff_8 : decode cX0_readStuff 8 = .ok (.iconst 0, 1) := by decide +kernel
theorem dX0_readStuff_9 : decode cX0_readStuff 9 = .ok (.ireturn, 1) := by decide +kernel
theorem dX0_readStuff_10 : decode cX0_readStuff 10 = .ok (.aload_n 1, 1) := by decide +kernel
theorem dX0_readStuff_11 : decode cX0_readStuff 11 = .ok (.getfield 65, 3) := by decide +kernel
theorem dX0_readStuff_14 : decode cX0_readStuff 14 = .ok (.istore_n 2, 1) := by decide +kernel
theorem dX0_readStuff_15 : decode cX0_readStuff 15 = .ok (.aload_n 1, 1) := by decide +kernel
theorem dX0_readStuff_16 : decode cX0_readStuff 16 = .ok (.iconst 0, 1) := by decide +kernel
theorem dX0_readStuff_17 : decode cX0_readStuff 17 = .ok (.sipush 999, 3) := by decide +kernel
theorem dX0_readStuff_20 : decode cX0_readStuff 20 = .ok (.invokevirtual 68, 3) := by decide +kernel
theorem dX0_readStuff_23 : decode cX0_readStuff 23 = .ok (.ifCond .ne 5, 3) := by decide +kernel
theorem dX0_readStuff_26 : decode cX0_readStuff 26 = .ok (.iconst 0, 1) := by decide +kernel
theorem dX0_readStuff_27 : decode cX0_readStuff 27 = .ok (.ireturn, 1) := by decide +kernel
theorem dX0_readStuff_28 : decode cX0_readStuff 28 = .ok (.aload_n 1, 1) := by decide +kernel
theorem dX0_readStuff_29 : decode cX0_readStuff 29 = .ok (.getfield 65, 3) := by decide +kernel
theorem dX0_readStuff_32 : decode cX0_readStuff 32 = .ok (.istore_n 3, 1) := by decide +kernel
theorem dX0_readStuff_33 : decode cX0_readStuff 33 = .ok (.aload_n 1, 1) := by decide +kernel
theorem dX0_readStuff_34 : decode cX0_readStuff 34 = .ok (.iload_n 3, 1) := by decide +kernel
theorem dX0_readStuff_35 : decode cX0_readStuff 35 = .ok (.sipush 999, 3) := by decide +kernel
theorem dX0_readStuff_38 : decode cX0_readStuff 38 = .ok (.invokevirtual 68, 3) := by decide +kernel
theorem dX0_readStuff_41 : decode cX0_readStuff 41 = .ok (.ifCond .ne 5, 3) := by decide +kernel
theorem dX0_readStuff_44 : decode cX0_readStuff 44 = .ok (.iconst 0, 1) := by decide +kernel
theorem dX0_readStuff_45 : decode cX0_readStuff 45 = .ok (.ireturn, 1) := by decide +kernel
theorem dX0_readStuff_46 : decode cX0_readStuff 46 = .ok (.aload_n 0, 1) := by decide +kernel
theorem dX0_readStuff_47 : decode cX0_readStuff 47 = .ok (.getfield 9, 3) := by decide +kernel
theorem dX0_readStuff_50 : decode cX0_readStuff 50 = .ok (.iload_n 2, 1) := by decide +kernel
theorem dX0_readStuff_51 : decode cX0_readStuff 51 = .ok (.iload_n 3, 1) := by decide +kernel
theorem dX0_readStuff_52 : decode cX0_readStuff 52 = .ok (.iastore, 1) := by decide +kernel
theorem dX0_readStuff_53 : decode cX0_readStuff 53 = .ok (.aload_n 0, 1) := by decide +kernel
theorem dX0_readStuff_54 : decode cX0_readStuff 54 = .ok (.getfield 15, 3) := by decide +kernel
theorem dX0_readStuff_57 : decode cX0_readStuff 57 = .ok (.iload_n 2, 1) := by decide +kernel
theorem dX0_readStuff_58 : decode cX0_readStuff 58 = .ok (.aload_n 1, 1) := by decide +kernel
theorem dX0_readStuff_59 : decode cX0_readStuff 59 = .ok (.getfield 65, 3) := by decide +kernel
theorem dX0_readStuff_62 : decode cX0_readStuff 62 = .ok (.iastore, 1) := by decide +kernel
theorem dX0_readStuff_63 : decode cX0_readStuff 63 = .ok (.iconst 1, 1) := by decide +kernel
theorem dX0_readStuff_64 : decode cX0_readStuff 64 = .ok (.ireturn, 1) := by decide +kernel
theorem dX0_readAlike_0 : decode cX0_readAlike 0 = .ok (.aload_n 1, 1) := by decide +kernel
theorem dX0_readAlike_1 : decode cX0_readAlike 1 = .ok (.iconst 3, 1) := by decide +kernel
theorem dX0_readAlike_2 : decode cX0_readAlike 2 = .ok (.invokevirtual 53, 3) := by decide +kernel
theorem dX0_readAlike_5 : decode cX0_readAlike 5 = .ok (.ifCond .ne 5, 3) := by decide +kernel
theorem dX0_readAlike_8 : decode cX0_readAlike 8 = .ok (.iconst 0, 1) := by decide +kernel
theorem dX0_readAlike_9 : decode cX0_readAlike 9 = .ok (.ireturn, 1) := by decide +kernel
theorem dX0_readAlike_10 : decode cX0_readAlike 10 = .ok (.aload_n 1, 1) := by decide +kernel
theorem dX0_readAlike_11 : decode cX0_readAlike 11 = .ok (.getfield 65, 3) := by decide +kernel
theorem dX0_readAlike_14 : decode cX0_readAlike 14 = .ok (.istore_n 2, 1) := by decide +kernel
theorem dX0_readAlike_15 : decode cX0_readAlike 15 = .ok (.aload_n 1, 1) := by decide +kernel
theorem dX0_readAlike_16 : decode cX0_readAlike 16 = .ok (.iload_n 2, 1) := by decide +kernel
theorem dX0_readAlike_17 : decode cX0_readAlike 17 = .ok (.invokevirtual 72, 3) := by decide +kernel
theorem dX0_readAlike_20 : decode cX0_readAlike 20 = .ok (.ifCond .ne 5, 3) := by decide +kernel
theorem dX0_readAlike_23 : decode cX0_readAlike 23 = .ok (.iconst 0, 1) := by decide +kernel
theorem dX0_readAlike_24 : decode cX0_readAlike 24 = .ok (.ireturn, 1) := by decide +kernel
theorem dX0_readAlike_25 : decode cX0_readAlike 25 = .ok (.aload_n 0, 1) := by decide +kernel
theorem dX0_readAlike_26 : decode cX0_readAlike 26 = .ok (.getfield 18, 3) := by decide +kernel
theorem dX0_readAlike_29 : decode cX0_readAlike 29 = .ok (.iload_n 2, 1) := by decide +kernel
theorem dX0_readAlike_30 : decode cX0_readAlike 30 = .ok (.dup2, 1) := by decide +kernel
theorem dX0_readAlike_31 : decode cX0_readAlike 31 = .ok (.iaload, 1) := by decide +kernel
theorem dX0_readAlike_32 : decode cX0_readAlike 32 = .ok (.iconst 1, 1) := by decide +kernel
theorem dX0_readAlike_33 : decode cX0_readAlike 33 = .ok (.aload_n 1, 1) := by decide +kernel
theorem dX0_readAlike_34 : decode cX0_readAlike 34 = .ok (.getfield 65, 3) := by decide +kernel
theorem dX0_readAlike_37 : decode cX0_readAlike 37 = .ok (.ishl, 1) := by decide +kernel
theorem dX0_readAlike_38 : decode cX0_readAlike 38 = .ok (.ior, 1) := by decide +kernel
theorem dX0_readAlike_39 : decode cX0_readAlike 39 = .ok (.iastore, 1) := by decide +kernel
theorem dX0_readAlike_40 : decode cX0_readAlike 40 = .ok (.aload_n 0, 1) := by decide +kernel
theorem dX0_readAlike_41 : decode cX0_readAlike 41 = .ok (.getfield 18, 3) := by decide +kernel
theorem dX0_readAlike_44 : decode cX0_readAlike 44 = .ok (.aload_n 1, 1) := by decide +kernel
theorem dX0_readAlike_45 : decode cX0_readAlike 45 = .ok (.getfield 65, 3) := by decide +kernel
theorem dX0_readAlike_48 : decode cX0_readAlike 48 = .ok (.dup2, 1) := by decide +kernel
theorem dX0_readAlike_49 : decode cX0_readAlike 49 = .ok (.iaload, 1) := by decide +kernel
theorem dX0_readAlike_50 : decode cX0_readAlike 50 = .ok (.iconst 1, 1) := by decide +kernel
theorem dX0_readAlike_51 : decode cX0_readAlike 51 = .ok (.iload_n 2, 1) := by decide +kernel
theorem dX0_readAlike_52 : decode cX0_readAlike 52 = .ok (.ishl, 1) := by decide +kernel
theorem dX0_readAlike_53 : decode cX0_readAlike 53 = .ok (.ior, 1) := by decide +kernel
theorem dX0_readAlike_54 : decode cX0_readAlike 54 = .ok (.iastore, 1) := by decide +kernel
theorem dX0_readAlike_55 : decode cX0_readAlike 55 = .ok (.iconst 1, 1) := by decide +kernel
theorem dX0_readAlike_56 : decode cX0_readAlike 56 = .ok (.ireturn, 1) := by decide +kernel
theorem dX0_readBill_0 : decode cX0_readBill 0 = .ok (.aload_n 1, 1) := by decide +kernel
theorem dX0_readBill_1 : decode cX0_readBill 1 = .ok (.iconst 0, 1) := by decide +kernel
theorem dX0_readBill_2 : decode cX0_readBill 2 = .ok (.sipush 999, 3) := by decide +kernel
theorem dX0_readBill_5 : decode cX0_readBill 5 = .ok (.invokevirtual 68, 3) := by decide +kernel
theorem dX0_readBill_8 : decode cX0_readBill 8 = .ok (.ifCond .ne 5, 3) := by decide +kernel
theorem dX0_readBill_11 : decode cX0_readBill 11 = .ok (.iconst 0, 1) := by decide +kernel
theorem dX0_readBill_12 : decode cX0_readBill 12 = .ok (.ireturn, 1) := by decide +kernel
theorem dX0_readBill_13 : decode cX0_readBill 13 = .ok (.aload_n 0, 1) := by decide +kernel
theorem dX0_readBill_14 : decode cX0_readBill 14 = .ok (.getfield 21, 3) := by decide +kernel
theorem dX0_readBill_17 : decode cX0_readBill 17 = .ok (.aload_n 0, 1) := by decide +kernel
theorem dX0_readBill_18 : decode cX0_readBill 18 = .ok (.getfield 36, 3) := by decide +kernel
theorem dX0_readBill_21 : decode cX0_readBill 21 = .ok (.aload_n 1, 1) := by decide +kernel
theorem dX0_readBill_22 : decode cX0_readBill 22 = .ok (.getfield 65, 3) := by decide +kernel
theorem dX0_readBill_25 : decode cX0_readBill 25 = .ok (.iastore, 1) := by decide +kernel
theorem dX0_readBill_26 : decode cX0_readBill 26 = .ok (.aload_n 1, 1) := by decide +kernel
theorem dX0_readBill_27 : decode cX0_readBill 27 = .ok (.iconst 3, 1) := by decide +kernel
theorem dX0_readBill_28 : decode cX0_readBill 28 = .ok (.invokevirtual 53, 3) := by decide +kernel
theorem dX0_readBill_31 : decode cX0_readBill 31 = .ok (.ifCond .ne 5, 3) := by decide +kernel
theorem dX0_readBill_34 : decode cX0_readBill 34 = .ok (.iconst 0, 1) := by decide +kernel
theorem dX0_readBill_35 : decode cX0_readBill 35 = .ok (.ireturn, 1) := by decide +kernel
theorem dX0_readBill_36 : decode cX0_readBill 36 = .ok (.aload_n 0, 1) := by decide +kernel
theorem dX0_readBill_37 : decode cX0_readBill 37 = .ok (.getfield 24, 3) := by decide +kernel
theorem dX0_readBill_40 : decode cX0_readBill 40 = .ok (.aload_n 0, 1) := by decide +kernel
theorem dX0_readBill_41 : decode cX0_readBill 41 = .ok (.getfield 36, 3) := by decide +kernel
theorem dX0_readBill_44 : decode cX0_readBill 44 = .ok (.aload_n 1, 1) := by decide +kernel
theorem dX0_readBill_45 : decode cX0_readBill 45 = .ok (.getfield 65, 3) := by decide +kernel
theorem dX0_readBill_48 : decode cX0_readBill 48 = .ok (.iastore, 1) := by decide +kernel
theorem dX0_readBill_49 : decode cX0_readBill 49 = .ok (.aload_n 0, 1) := by decide +kernel
theorem dX0_readBill_50 : decode cX0_readBill 50 = .ok (.dup, 1) := by decide +kernel
theorem dX0_readBill_51 : decode cX0_readBill 51 = .ok (.getfield 36, 3) := by decide +kernel
theorem dX0_readBill_54 : decode cX0_readBill 54 = .ok (.iconst 1, 1) := by decide +kernel
theorem dX0_readBill_55 : decode cX0_readBill 55 = .ok (.iadd, 1) := by decide +kernel
theorem dX0_readBill_56 : decode cX0_readBill 56 = .ok (.putfield 36, 3) := by decide +kernel
theorem dX0_readBill_59 : decode cX0_readBill 59 = .ok (.iconst 1, 1) := by decide +kernel
theorem dX0_readBill_60 : decode cX0_readBill 60 = .ok (.ireturn, 1) := by decide +kernel
theorem dX1_init_0 : decode cX1_init 0 = .ok (.aload_n 0, 1) := by decide +kernel
theorem dX1_init_1 : decode cX1_init 1 = .ok (.invokespecial 3, 3) := by decide +kernel
theorem dX1_init_4 : decode cX1_init 4 = .ok (.aload_n 0, 1) := by decide +kernel
theorem dX1_init_5 : decode cX1_init 5 = .ok (.bipush 10, 2) := by decide +kernel
theorem dX1_init_7 : decode cX1_init 7 = .ok (.newarray .int, 2) := by decide +kernel
theorem dX1_init_9 : decode cX1_init 9 = .ok (.putfield 9, 3) := by decide +kernel
theorem dX1_init_12 : decode cX1_init 12 = .ok (.aload_n 0, 1) := by decide +kernel
theorem dX1_init_13 : decode cX1_init 13 = .ok (.bipush 10, 2) := by decide +kernel
theorem dX1_init_15 : decode cX1_init 15 = .ok (.newarray .int, 2) := by decide +kernel
theorem dX1_init_17 : decode cX1_init 17 = .ok (.putfield 15, 3) := by decide +kernel
theorem dX1_init_20 : decode cX1_init 20 = .ok (.return_, 1) := by decide +kernel
theorem dX1_read_0 : decode cX1_read 0 = .ok (.aload_n 1, 1) := by decide +kernel
theorem dX1_read_1 : decode cX1_read 1 = .ok (.iconst 4, 1) := by decide +kernel
theorem dX1_read_2 : decode cX1_read 2 = .ok (.invokevirtual 20, 3) := by decide +kernel
theorem dX1_read_5 : decode cX1_read 5 = .ok (.ifCond .eq 12, 3) := by decide +kernel
theorem dX1_read_8 : decode cX1_read 8 = .ok (.aload_n 1, 1) := by decide +kernel
theorem dX1_read_9 : decode cX1_read 9 = .ok (.iconst 0, 1) := by decide +kernel
theorem dX1_read_10 : decode cX1_read 10 = .ok (.iconst 5, 1) := by decide +kernel
theorem dX1_read_11 : decode cX1_read 11 = .ok (.invokevirtual 24, 3) := by decide +kernel
theorem dX1_read_14 : decode cX1_read 14 = .ok (.ifCond .ne 5, 3) := by decide +kernel
theorem dX1_read_17 : decode cX1_read 17 = .ok (.iconst 0, 1) := by decide +kernel
theorem dX1_read_18 : decode cX1_read 18 = .ok (.ireturn, 1) := by decide +kernel
theorem dX1_read_19 : decode cX1_read 19 = .ok (.aload_n 0, 1) := by decide +kernel
theorem dX1_read_20 : decode cX1_read 20 = .ok (.aload_n 1, 1) := by decide +kernel
theorem dX1_read_21 : decode cX1_read 21 = .ok (.getfield 28, 3) := by decide +kernel
theorem dX1_read_24 : decode cX1_read 24 = .ok (.putfield 32, 3) := by decide +kernel
theorem dX1_read_27 : decode cX1_read 27 = .ok (.aload_n 0, 1) := by decide +kernel
theorem dX1_read_28 : decode cX1_read 28 = .ok (.aload_n 1, 1) := by decide +kernel
theorem dX1_read_29 : decode cX1_read 29 = .ok (.iconst 5, 1) := by decide +kernel
theorem dX1_read_30 : decode cX1_read 30 = .ok (.invokevirtual 20, 3) := by decide +kernel
theorem dX1_read_33 : decode cX1_read 33 = .ok (.putfield 35, 3) := by decide +kernel
theorem dX1_read_36 : decode cX1_read 36 = .ok (.aload_n 0, 1) := by decide +kernel
theorem dX1_read_37 : decode cX1_read 37 = .ok (.aload_n 1, 1) := by decide +kernel
theorem dX1_read_38 : decode cX1_read 38 = .ok (.invokevirtual 39, 3) := by decide +kernel
theorem dX1_read_41 : decode cX1_read 41 = .ok (.ifCond .eq 23, 3) := by decide +kernel
theorem dX1_read_44 : decode cX1_read 44 = .ok (.aload_n 1, 1) := by decide +kernel
theorem dX1_read_45 : decode cX1_read 45 = .ok (.iconst 1, 1) := by decide +kernel
theorem dX1_read_46 : decode cX1_read 46 = .ok (.invokevirtual 20, 3) := by decide +kernel
theorem dX1_read_49 : decode cX1_read 49 = .ok (.ifCond .eq 15, 3) := by decide +kernel
theorem dX1_read_52 : decode cX1_read 52 = .ok (.aload_n 1, 1) := by decide +kernel
theorem dX1_read_53 : decode cX1_read 53 = .ok (.iconst 0, 1) := by decide +kernel
theorem dX1_read_54 : decode cX1_read 54 = .ok (.invokevirtual 43, 3) := by decide +kernel
theorem dX1_read_57 : decode cX1_read 57 = .ok (.ifCond .eq 7, 3) := by decide +kernel
theorem dX1_read_60 : decode cX1_read 60 = .ok (.iconst 1, 1) := by decide +kernel
theorem dX1_read_61 : decode cX1_read 61 = .ok (.goto 4, 3) := by decide +kernel
theorem dX1_read_64 : decode cX1_read 64 = .ok (.iconst 0, 1) := by decide +kernel
theorem dX1_read_65 : decode cX1_read 65 = .ok (.ireturn, 1) := by decide +kernel
theorem dX1_readCoats_0 : decode cX1_readCoats 0 = .ok (.aload_n 0, 1) := by decide +kernel
theorem dX1_readCoats_1 : decode cX1_readCoats 1 = .ok (.iconst 0, 1) := by decide +kernel
theorem dX1_readCoats_2 : decode cX1_readCoats 2 = .ok (.putfield 46, 3) := by decide +kernel
theorem dX1_readCoats_5 : decode cX1_readCoats 5 = .ok (.aload_n 0, 1) := by decide +kernel
theorem dX1_readCoats_6 : decode cX1_readCoats 6 = .ok (.getfield 46, 3) := by decide +kernel
theorem dX1_readCoats_9 : decode cX1_readCoats 9 = .ok (.bipush 10, 2) := by decide +kernel
theorem dX1_readCoats_11 : decode cX1_readCoats 11 = .ok (.if_icmp .ge 62, 3) := by decide +kernel
theorem dX1_readCoats_14 : decode cX1_readCoats 14 = .ok (.aload_n 1, 1) := by decide +kernel
theorem dX1_readCoats_15 : decode cX1_readCoats 15 = .ok (.iconst 3, 1) := by decide +kernel
theorem dX1_readCoats_16 : decode cX1_readCoats 16 = .ok (.invokevirtual 20, 3) := by decide +kernel
theorem dX1_readCoats_19 : decode cX1_readCoats 19 = .ok (.ifCond .eq 54, 3) := by decide +kernel
theorem dX1_readCoats_22 : decode cX1_readCoats 22 = .ok (.aload_n 0, 1) := by decide +kernel
theorem dX1_readCoats_23 : decode cX1_readCoats 23 = .ok (.getfield 9, 3) := by decide +kernel
theorem dX1_readCoats_26 : decode cX1_readCoats 26 = .ok (.aload_n 0, 1) := by decide +kernel
theorem dX1_readCoats_27 : decode cX1_readCoats 27 = .ok (.getfield 46, 3) := by decide +kernel
theorem dX1_readCoats_30 : decode cX1_readCoats 30 = .ok (.aload_n 1, 1) := by decide +kernel
theorem dX1_readCoats_31 : decode cX1_readCoats 31 = .ok (.getfield 28, 3) := by decide +kernel
theorem dX1_readCoats_34 : decode cX1_readCoats 34 = .ok (.iastore, 1) := by decide +kernel
theorem dX1_readCoats_35 : decode cX1_readCoats 35 = .ok (.aload_n 1, 1) := by decide +kernel
theorem dX1_readCoats_36 : decode cX1_readCoats 36 = .ok (.iconst 0, 1) := by decide +kernel
theorem dX1_readCoats_37 : decode cX1_readCoats 37 = .ok (.bipush 9, 2) := by decide +kernel
theorem dX1_readCoats_39 : decode cX1_readCoats 39 = .ok (.invokevirtual 24, 3) := by decide +kernel
theorem dX1_readCoats_42 : decode cX1_readCoats 42 = .ok (.ifCond .ne 5, 3) := by decide +kernel
theorem dX1_readCoats_45 : decode cX1_readCoats 45 = .ok (.iconst 0, 1) := by decide +kernel
theorem dX1_readCoats_46 : decode cX1_readCoats 46 = .ok (.ireturn, 1) := by decide +kernel
theorem dX1_readCoats_47 : decode cX1_readCoats 47 = .ok (.aload_n 0, 1) := by decide +kernel
theorem dX1_readCoats_48 : decode cX1_readCoats 48 = .ok (.getfield 15, 3) := by decide +kernel
theorem dX1_readCoats_51 : decode cX1_readCoats 51 = .ok (.aload_n 0, 1) := by decide +kernel
theorem dX1_readCoats_52 : decode cX1_readCoats 52 = .ok (.getfield 46, 3) := by decide +kernel
theorem dX1_readCoats_55 : decode cX1_readCoats 55 = .ok (.aload_n 1, 1) := by decide +kernel
theorem dX1_readCoats_56 : decode cX1_readCoats 56 = .ok (.getfield 28, 3) := by decide +kernel
theorem dX1_readCoats_59 : decode cX1_readCoats 59 = .ok (.iastore, 1) := by decide +kernel
theorem dX1_readCoats_60 : decode cX1_readCoats 60 = .ok (.aload_n 0, 1) := by decide +kernel
theorem dX1_readCoats_61 : decode cX1_readCoats 61 = .ok (.dup, 1) := by decide +kernel
theorem dX1_readCoats_62 : decode cX1_readCoats 62 = .ok (.getfield 46, 3) := by decide +kernel
theorem dX1_readCoats_65 : decode cX1_readCoats 65 = .ok (.iconst 1, 1) := by decide +kernel
theorem dX1_readCoats_66 : decode cX1_readCoats 66 = .ok (.iadd, 1) := by decide +kernel
theorem dX1_readCoats_67 : decode cX1_readCoats 67 = .ok (.putfield 46, 3) := by decide +kernel
theorem dX1_readCoats_70 : decode cX1_readCoats 70 = .ok (.goto (-65), 3) := by decide +kernel
theorem dX1_readCoats_73 : decode cX1_readCoats 73 = .ok (.aload_n 0, 1) := by decide +kernel
theorem dX1_readCoats_74 : decode cX1_readCoats 74 = .ok (.getfield 46, 3) := by decide +kernel
theorem dX1_readCoats_77 : decode cX1_readCoats 77 = .ok (.ifCond .le 7, 3) := by decide +kernel
theorem dX1_readCoats_80 : decode cX1_readCoats 80 = .ok (.iconst 1, 1) := by decide +kernel
theorem dX1_readCoats_81 : decode cX1_readCoats 81 = .ok (.goto 4, 3) := by decide +kernel
theorem dX1_readCoats_84 : decode cX1_readCoats 84 = .ok (.iconst 0, 1) := by decide +kernel
theorem dX1_readCoats_85 : decode cX1_readCoats 85 = .ok (.ireturn, 1) := by decide +kernel
theorem dX1_copy_0 : decode cX1_copy 0 = .ok (.aload_n 0, 1) := by decide +kernel
theorem dX1_copy_1 : decode cX1_copy 1 = .ok (.aload_n 1, 1) := by decide +kernel
theorem dX1_copy_2 : decode cX1_copy 2 = .ok (.getfield 32, 3) := by decide +kernel
theorem dX1_copy_5 : decode cX1_copy 5 = .ok (.putfield 32, 3) := by decide +kernel
theorem dX1_copy_8 : decode cX1_copy 8 = .ok (.aload_n 0, 1) := by decide +kernel
theorem dX1_copy_9 : decode cX1_copy 9 = .ok (.aload_n 1, 1) := by decide +kernel
theorem dX1_copy_10 : decode cX1_copy 10 = .ok (.getfield 46, 3) := by decide +kernel
theorem dX1_copy_13 : decode cX1_copy 13 = .ok (.putfield 46, 3) := by decide +kernel
theorem dX1_copy_16 : decode cX1_copy 16 = .ok (.aload_n 0, 1) := by decide +kernel
theorem dX1_copy_17 : decode cX1_copy 17 = .ok (.aload_n 1, 1) := by decide +kernel
theorem dX1_copy_18 : decode cX1_copy 18 = .ok (.getfield 35, 3) := by decide +kernel
theorem dX1_copy_21 : decode cX1_copy 21 = .ok (.putfield 35, 3) := by decide +kernel
theorem dX1_copy_24 : decode cX1_copy 24 = .ok (.aload_n 1, 1) := by decide +kernel
theorem dX1_copy_25 : decode cX1_copy 25 = .ok (.getfield 9, 3) := by decide +kernel
theorem dX1_copy_28 : decode cX1_copy 28 = .ok (.iconst 0, 1) := by decide +kernel
theorem dX1_copy_29 : decode cX1_copy 29 = .ok (.aload_n 0, 1) := by decide +kernel
theorem dX1_copy_30 : decode cX1_copy 30 = .ok (.getfield 9, 3) := by decide +kernel
theorem dX1_copy_33 : decode cX1_copy 33 = .ok (.iconst 0, 1) := by decide +kernel
theorem dX1_copy_34 : decode cX1_copy 34 = .ok (.bipush 10, 2) := by decide +kernel
theorem dX1_copy_36 : decode cX1_copy 36 = .ok (.invokestatic 49, 3) := by decide +kernel
theorem dX1_copy_39 : decode cX1_copy 39 = .ok (.aload_n 1, 1) := by decide +kernel
theorem dX1_copy_40 : decode cX1_copy 40 = .ok (.getfield 15, 3) := by decide +kernel
theorem dX1_copy_43 : decode cX1_copy 43 = .ok (.iconst 0, 1) := by decide +kernel
theorem dX1_copy_44 : decode cX1_copy 44 = .ok (.aload_n 0, 1) := by decide +kernel
theorem dX1_copy_45 : decode cX1_copy 45 = .ok (.getfield 15, 3) := by decide +kernel
theorem dX1_copy_48 : decode cX1_copy 48 = .ok (.iconst 0, 1) := by decide +kernel
theorem dX1_copy_49 : decode cX1_copy 49 = .ok (.bipush 10, 2) := by decide +kernel
theorem dX1_copy_51 : decode cX1_copy 51 = .ok (.invokestatic 49, 3) := by decide +kernel
theorem dX1_copy_54 : decode cX1_copy 54 = .ok (.return_, 1) := by decide +kernel
theorem dX2_init_0 : decode cX2_init 0 = .ok (.aload_n 0, 1) := by decide +kernel
theorem dX2_init_1 : decode cX2_init 1 = .ok (.invokespecial 3, 3) := by decide +kernel
theorem dX2_init_4 : decode cX2_init 4 = .ok (.aload_n 0, 1) := by decide +kernel
theorem dX2_init_5 : decode cX2_init 5 = .ok (.bipush 121, 2) := by decide +kernel
theorem dX2_init_7 : decode cX2_init 7 = .ok (.newarray .int, 2) := by decide +kernel
theorem dX2_init_9 : decode cX2_init 9 = .ok (.putfield 11, 3) := by decide +kernel
theorem dX2_init_12 : decode cX2_init 12 = .ok (.aload_n 0, 1) := by decide +kernel
theorem dX2_init_13 : decode cX2_init 13 = .ok (.bipush 121, 2) := by decide +kernel
theorem dX2_init_15 : decode cX2_init 15 = .ok (.newarray .long, 2) := by decide +kernel
theorem dX2_init_17 : decode cX2_init 17 = .ok (.putfield 15, 3) := by decide +kernel
theorem dX2_init_20 : decode cX2_init 20 = .ok (.return_, 1) := by decide +kernel
theorem dX2_lay_0 : decode cX2_lay 0 = .ok (.aload_n 0, 1) := by decide +kernel
theorem dX2_lay_1 : decode cX2_lay 1 = .ok (.aload_n 1, 1) := by decide +kernel
theorem dX2_lay_2 : decode cX2_lay 2 = .ok (.putfield 19, 3) := by decide +kernel
theorem dX2_lay_5 : decode cX2_lay 5 = .ok (.aload_n 0, 1) := by decide +kernel
theorem dX2_lay_6 : decode cX2_lay 6 = .ok (.aload_n 2, 1) := by decide +kernel
theorem dX2_lay_7 : decode cX2_lay 7 = .ok (.putfield 23, 3) := by decide +kernel
theorem dX2_lay_10 : decode cX2_lay 10 = .ok (.aload_n 0, 1) := by decide +kernel
theorem dX2_lay_11 : decode cX2_lay 11 = .ok (.aload_n 3, 1) := by decide +kernel
theorem dX2_lay_12 : decode cX2_lay 12 = .ok (.putfield 26, 3) := by decide +kernel
theorem dX2_lay_15 : decode cX2_lay 15 = .ok (.aload_n 0, 1) := by decide +kernel
theorem dX2_lay_16 : decode cX2_lay 16 = .ok (.iload 4, 2) := by decide +kernel
theorem dX2_lay_18 : decode cX2_lay 18 = .ok (.putfield 29, 3) := by decide +kernel
theorem dX2_lay_21 : decode cX2_lay 21 = .ok (.aload_n 0, 1) := by decide +kernel
theorem dX2_lay_22 : decode cX2_lay 22 = .ok (.iload 5, 2) := by decide +kernel
theorem dX2_lay_24 : decode cX2_lay 24 = .ok (.putfield 33, 3) := by decide +kernel
theorem dX2_lay_27 : decode cX2_lay 27 = .ok (.aload_n 0, 1) := by decide +kernel
theorem dX2_lay_28 : decode cX2_lay 28 = .ok (.getfield 19, 3) := by decide +kernel
theorem dX2_lay_31 : decode cX2_lay 31 = .ok (.getfield 36, 3) := by decide +kernel
theorem dX2_lay_34 : decode cX2_lay 34 = .ok (.istore 6, 2) := by decide +kernel
theorem dX2_lay_36 : decode cX2_lay 36 = .ok (.iload 6, 2) := by decide +kernel
theorem dX2_lay_38 : decode cX2_lay 38 = .ok (.ifCond .lt 37, 3) := by decide +kernel
theorem dX2_lay_41 : decode cX2_lay 41 = .ok (.aload_n 0, 1) := by decide +kernel
theorem dX2_lay_42 : decode cX2_lay 42 = .ok (.getfield 23, 3) := by decide +kernel
theorem dX2_lay_45 : decode cX2_lay 45 = .ok (.getfield 36, 3) := by decide +kernel
theorem dX2_lay_48 : decode cX2_lay 48 = .ok (.istore 7, 2) := by decide +kernel
theorem dX2_lay_50 : decode cX2_lay 50 = .ok (.iload 7, 2) := by decide +kernel
theorem dX2_lay_52 : decode cX2_lay 52 = .ok (.ifCond .lt 17, 3) := by decide +kernel
theorem dX2_lay_55 : decode cX2_lay 55 = .ok (.aload_n 0, 1) := by decide +kernel
theorem dX2_lay_56 : decode cX2_lay 56 = .ok (.iload 6, 2) := by decide +kernel
theorem dX2_lay_58 : decode cX2_lay 58 = .ok (.iload 7, 2) := by decide +kernel
theorem dX2_lay_60 : decode cX2_lay 60 = .ok (.invokevirtual 41, 3) := by decide +kernel
theorem dX2_lay_63 : decode cX2_lay 63 = .ok (.iinc 7 (-1), 3) := by decide +kernel
theorem dX2_lay_66 : decode cX2_lay 66 = .ok (.goto (-16), 3) := by decide +kernel
theorem dX2_lay_69 : decode cX2_lay 69 = .ok (.iinc 6 (-1), 3) := by decide +kernel
theorem dX2_lay_72 : decode cX2_lay 72 = .ok (.goto (-36), 3) := by decide +kernel
theorem dX2_lay_75 : decode cX2_lay 75 = .ok (.return_, 1) := by decide +kernel
theorem dX2_leastCost_0 : decode cX2_leastCost 0 = .ok (.aload_n 0, 1) := by decide +kernel
theorem dX2_leastCost_1 : decode cX2_leastCost 1 = .ok (.getfield 11, 3) := by decide +kernel
theorem dX2_leastCost_4 : decode cX2_leastCost 4 = .ok (.iconst 0, 1) := by decide +kernel
theorem dX2_leastCost_5 : decode cX2_leastCost 5 = .ok (.iaload, 1) := by decide +kernel
theorem dX2_leastCost_6 : decode cX2_leastCost 6 = .ok (.ireturn, 1) := by decide +kernel
theorem dX2_leastWays_0 : decode cX2_leastWays 0 = .ok (.aload_n 0, 1) := by decide +kernel
theorem dX2_leastWays_1 : decode cX2_leastWays 1 = .ok (.getfield 15, 3) := by decide +kernel
theorem dX2_leastWays_4 : decode cX2_leastWays 4 = .ok (.iconst 0, 1) := by decide +kernel
theorem dX2_leastWays_5 : decode cX2_leastWays 5 = .ok (.laload, 1) := by decide +kernel
theorem dX2_leastWays_6 : decode cX2_leastWays 6 = .ok (.lreturn, 1) := by decide +kernel
theorem dX2_beside_0 : decode cX2_beside 0 = .ok (.iconst 0, 1) := by decide +kernel
theorem dX2_beside_1 : decode cX2_beside 1 = .ok (.istore_n 2, 1) := by decide +kernel
theorem dX2_beside_2 : decode cX2_beside 2 = .ok (.bipush (-9), 2) := by decide +kernel
theorem dX2_beside_4 : decode cX2_beside 4 = .ok (.istore_n 3, 1) := by decide +kernel
theorem dX2_beside_5 : decode cX2_beside 5 = .ok (.iconst 0, 1) := by decide +kernel
theorem dX2_beside_6 : decode cX2_beside 6 = .ok (.istore 4, 2) := by decide +kernel
theorem dX2_beside_8 : decode cX2_beside 8 = .ok (.iload 4, 2) := by decide +kernel
theorem dX2_beside_10 : decode cX2_beside 10 = .ok (.iload_n 1, 1) := by decide +kernel
theorem dX2_beside_11 : decode cX2_beside 11 = .ok (.if_icmp .gt 27, 3) := by decide +kernel
theorem dX2_beside_14 : decode cX2_beside 14 = .ok (.aload_n 0, 1) := by decide +kernel
theorem dX2_beside_15 : decode cX2_beside 15 = .ok (.iload 4, 2) := by decide +kernel
theorem dX2_beside_17 : decode cX2_beside 17 = .ok (.iload_n 2, 1) := by decide +kernel
theorem dX2_beside_18 : decode cX2_beside 18 = .ok (.invokevirtual 45, 3) := by decide +kernel
theorem dX2_beside_21 : decode cX2_beside 21 = .ok (.istore_n 3, 1) := by decide +kernel
theorem dX2_beside_22 : decode cX2_beside 22 = .ok (.iload_n 3, 1) := by decide +kernel
theorem dX2_beside_23 : decode cX2_beside 23 = .ok (.bipush (-9), 2) := by decide +kernel
theorem dX2_beside_25 : decode cX2_beside 25 = .ok (.if_icmp .eq 7, 3) := by decide +kernel
theorem dX2_beside_28 : decode cX2_beside 28 = .ok (.iload_n 3, 1) := by decide +kernel
theorem dX2_beside_29 : decode cX2_beside 29 = .ok (.iconst 1, 1) := by decide +kernel
theorem dX2_beside_30 : decode cX2_beside 30 = .ok (.iadd, 1) := by decide +kernel
theorem dX2_beside_31 : decode cX2_beside 31 = .ok (.istore_n 2, 1) := by decide +kernel
theorem dX2_beside_32 : decode cX2_beside 32 = .ok (.iinc 4 1, 3) := by decide +kernel
theorem dX2_beside_35 : decode cX2_beside 35 = .ok (.goto (-27), 3) := by decide +kernel
theorem dX2_beside_38 : decode cX2_beside 38 = .ok (.iload_n 3, 1) := by decide +kernel
theorem dX2_beside_39 : decode cX2_beside 39 = .ok (.ireturn, 1) := by decide +kernel
theorem dX2_nearest_0 : decode cX2_nearest 0 = .ok (.iload_n 2, 1) := by decide +kernel
theorem dX2_nearest_1 : decode cX2_nearest 1 = .ok (.istore_n 3, 1) := by decide +kernel
theorem dX2_nearest_2 : decode cX2_nearest 2 = .ok (.iload_n 3, 1) := by decide +kernel
theorem dX2_nearest_3 : decode cX2_nearest 3 = .ok (.aload_n 0, 1) := by decide +kernel
theorem dX2_nearest_4 : decode cX2_nearest 4 = .ok (.getfield 23, 3) := by decide +kernel
theorem dX2_nearest_7 : decode cX2_nearest 7 = .ok (.getfield 36, 3) := by decide +kernel
theorem dX2_nearest_10 : decode cX2_nearest 10 = .ok (.if_icmp .ge 41, 3) := by decide +kernel
theorem dX2_nearest_13 : decode cX2_nearest 13 = .ok (.aload_n 0, 1) := by decide +kernel
theorem dX2_nearest_14 : decode cX2_nearest 14 = .ok (.iload_n 1, 1) := by decide +kernel
theorem dX2_nearest_15 : decode cX2_nearest 15 = .ok (.iload_n 3, 1) := by decide +kernel
theorem dX2_nearest_16 : decode cX2_nearest 16 = .ok (.invokevirtual 49, 3) := by decide +kernel
theorem dX2_nearest_19 : decode cX2_nearest 19 = .ok (.ifCond .eq 26, 3) := by decide +kernel
theorem dX2_nearest_22 : decode cX2_nearest 22 = .ok (.aload_n 0, 1) := by decide +kernel
theorem dX2_nearest_23 : decode cX2_nearest 23 = .ok (.iload_n 1, 1) := by decide +kernel
theorem dX2_nearest_24 : decode cX2_nearest 24 = .ok (.iload_n 3, 1) := by decide +kernel
theorem dX2_nearest_25 : decode cX2_nearest 25 = .ok (.iload_n 2, 1) := by decide +kernel
theorem dX2_nearest_26 : decode cX2_nearest 26 = .ok (.invokevirtual 53, 3) := by decide +kernel
theorem dX2_nearest_29 : decode cX2_nearest 29 = .ok (.aload_n 0, 1) := by decide +kernel
theorem dX2_nearest_30 : decode cX2_nearest 30 = .ok (.getfield 11, 3) := by decide +kernel
theorem dX2_nearest_33 : decode cX2_nearest 33 = .ok (.iload_n 1, 1) := by decide +kernel
theorem dX2_nearest_34 : decode cX2_nearest 34 = .ok (.bipush 11, 2) := by decide +kernel
theorem dX2_nearest_36 : decode cX2_nearest 36 = .ok (.imul, 1) := by decide +kernel
theorem dX2_nearest_37 : decode cX2_nearest 37 = .ok (.iload_n 2, 1) := by decide +kernel
theorem dX2_nearest_38 : decode cX2_nearest 38 = .ok (.iadd, 1) := by decide +kernel
theorem dX2_nearest_39 : decode cX2_nearest 39 = .ok (.iaload, 1) := by decide +kernel
theorem dX2_nearest_40 : decode cX2_nearest 40 = .ok (.if_icmp .ne 5, 3) := by decide +kernel
theorem dX2_nearest_43 : decode cX2_nearest 43 = .ok (.iload_n 3, 1) := by decide +kernel
theorem dX2_nearest_44 : decode cX2_nearest 44 = .ok (.ireturn, 1) := by decide +kernel
theorem dX2_nearest_45 : decode cX2_nearest 45 = .ok (.iinc 3 1, 3) := by decide +kernel
theorem dX2_nearest_48 : decode cX2_nearest 48 = .ok (.goto (-46), 3) := by decide +kernel
theorem dX2_nearest_51 : decode cX2_nearest 51 = .ok (.bipush (-9), 2) := by decide +kernel
theorem dX2_nearest_53 : decode cX2_nearest 53 = .ok (.ireturn, 1) := by decide +kernel
theorem dX2_fill_0 : decode cX2_fill 0 = .ok (.iload_n 1, 1) := by decide +kernel
theorem dX2_fill_1 : decode cX2_fill 1 = .ok (.bipush 11, 2) := by decide +kernel
theorem dX2_fill_3 : decode cX2_fill 3 = .ok (.imul, 1) := by decide +kernel
theorem dX2_fill_4 : decode cX2_fill 4 = .ok (.iload_n 2, 1) := by decide +kernel
theorem dX2_fill_5 : decode cX2_fill 5 = .ok (.iadd, 1) := by decide +kernel
theorem dX2_fill_6 : decode cX2_fill 6 = .ok (.istore_n 3, 1) := by decide +kernel
theorem dX2_fill_7 : decode cX2_fill 7 = .ok (.iload_n 1, 1) := by decide +kernel
theorem dX2_fill_8 : decode cX2_fill 8 = .ok (.aload_n 0, 1) := by decide +kernel
theorem dX2_fill_9 : decode cX2_fill 9 = .ok (.getfield 19, 3) := by decide +kernel
theorem dX2_fill_12 : decode cX2_fill 12 = .ok (.getfield 36, 3) := by decide +kernel
theorem dX2_fill_15 : decode cX2_fill 15 = .ok (.if_icmp .ne 31, 3) := by decide +kernel
theorem dX2_fill_18 : decode cX2_fill 18 = .ok (.aload_n 0, 1) := by decide +kernel
theorem dX2_fill_19 : decode cX2_fill 19 = .ok (.getfield 11, 3) := by decide +kernel
theorem dX2_fill_22 : decode cX2_fill 22 = .ok (.iload_n 3, 1) := by decide +kernel
theorem dX2_fill_23 : decode cX2_fill 23 = .ok (.aload_n 0, 1) := by decide +kernel
theorem dX2_fill_24 : decode cX2_fill 24 = .ok (.getfield 29, 3) := by decide +kernel
theorem dX2_fill_27 : decode cX2_fill 27 = .ok (.aload_n 0, 1) := by decide +kernel
theorem dX2_fill_28 : decode cX2_fill 28 = .ok (.getfield 23, 3) := by decide +kernel
theorem dX2_fill_31 : decode cX2_fill 31 = .ok (.getfield 36, 3) := by decide +kernel
theorem dX2_fill_34 : decode cX2_fill 34 = .ok (.iload_n 2, 1) := by decide +kernel
theorem dX2_fill_35 : decode cX2_fill 35 = .ok (.isub, 1) := by decide +kernel
theorem dX2_fill_36 : decode cX2_fill 36 = .ok (.imul, 1) := by decide +kernel
theorem dX2_fill_37 : decode cX2_fill 37 = .ok (.iastore, 1) := by decide +kernel
theorem dX2_fill_38 : decode cX2_fill 38 = .ok (.aload_n 0, 1) := by decide +kernel
theorem dX2_fill_39 : decode cX2_fill 39 = .ok (.getfield 15, 3) := by decide +kernel
theorem dX2_fill_42 : decode cX2_fill 42 = .ok (.iload_n 3, 1) := by decide +kernel
theorem dX2_fill_43 : decode cX2_fill 43 = .ok (.lconst 1, 1) := by decide +kernel
theorem dX2_fill_44 : decode cX2_fill 44 = .ok (.lastore, 1) := by decide +kernel
theorem dX2_fill_45 : decode cX2_fill 45 = .ok (.return_, 1) := by decide +kernel
theorem dX2_fill_46 : decode cX2_fill 46 = .ok (.aload_n 0, 1) := by decide +kernel
theorem dX2_fill_47 : decode cX2_fill 47 = .ok (.getfield 29, 3) := by decide +kernel
theorem dX2_fill_50 : decode cX2_fill 50 = .ok (.aload_n 0, 1) := by decide +kernel
theorem dX2_fill_51 : decode cX2_fill 51 = .ok (.getfield 11, 3) := by decide +kernel
theorem dX2_fill_54 : decode cX2_fill 54 = .ok (.iload_n 3, 1) := by decide +kernel
theorem dX2_fill_55 : decode cX2_fill 55 = .ok (.bipush 11, 2) := by decide +kernel
theorem dX2_fill_57 : decode cX2_fill 57 = .ok (.iadd, 1) := by decide +kernel
theorem dX2_fill_58 : decode cX2_fill 58 = .ok (.iaload, 1) := by decide +kernel
theorem dX2_fill_59 : decode cX2_fill 59 = .ok (.iadd, 1) := by decide +kernel
theorem dX2_fill_60 : decode cX2_fill 60 = .ok (.istore 4, 2) := by decide +kernel
theorem dX2_fill_62 : decode cX2_fill 62 = .ok (.aload_n 0, 1) := by decide +kernel
theorem dX2_fill_63 : decode cX2_fill 63 = .ok (.getfield 15, 3) := by decide +kernel
theorem dX2_fill_66 : decode cX2_fill 66 = .ok (.iload_n 3, 1) := by decide +kernel
theorem dX2_fill_67 : decode cX2_fill 67 = .ok (.bipush 11, 2) := by decide +kernel
theorem dX2_fill_69 : decode cX2_fill 69 = .ok (.iadd, 1) := by decide +kernel
theorem dX2_fill_70 : decode cX2_fill 70 = .ok (.laload, 1) := by decide +kernel
theorem dX2_fill_71 : decode cX2_fill 71 = .ok (.lstore 5, 2) := by decide +kernel
theorem dX2_fill_73 : decode cX2_fill 73 = .ok (.iload_n 2, 1) := by decide +kernel
theorem dX2_fill_74 : decode cX2_fill 74 = .ok (.istore 7, 2) := by decide +kernel
theorem dX2_fill_76 : decode cX2_fill 76 = .ok (.iload 7, 2) := by decide +kernel
theorem dX2_fill_78 : decode cX2_fill 78 = .ok (.aload_n 0, 1) := by decide +kernel
theorem dX2_fill_79 : decode cX2_fill 79 = .ok (.getfield 23, 3) := by decide +kernel
theorem dX2_fill_82 : decode cX2_fill 82 = .ok (.getfield 36, 3) := by decide +kernel
theorem dX2_fill_85 : decode cX2_fill 85 = .ok (.if_icmp .ge 74, 3) := by decide +kernel
theorem dX2_fill_88 : decode cX2_fill 88 = .ok (.aload_n 0, 1) := by decide +kernel
theorem dX2_fill_89 : decode cX2_fill 89 = .ok (.iload_n 1, 1) := by decide +kernel
theorem dX2_fill_90 : decode cX2_fill 90 = .ok (.iload 7, 2) := by decide +kernel
theorem dX2_fill_92 : decode cX2_fill 92 = .ok (.invokevirtual 49, 3) := by decide +kernel
theorem dX2_fill_95 : decode cX2_fill 95 = .ok (.ifCond .ne 6, 3) := by decide +kernel
theorem dX2_fill_98 : decode cX2_fill 98 = .ok (.goto 55, 3) := by decide +kernel
theorem dX2_fill_101 : decode cX2_fill 101 = .ok (.aload_n 0, 1) := by decide +kernel
theorem dX2_fill_102 : decode cX2_fill 102 = .ok (.iload_n 1, 1) := by decide +kernel
theorem dX2_fill_103 : decode cX2_fill 103 = .ok (.iload 7, 2) := by decide +kernel
theorem dX2_fill_105 : decode cX2_fill 105 = .ok (.iload_n 2, 1) := by decide +kernel
theorem dX2_fill_106 : decode cX2_fill 106 = .ok (.invokevirtual 53, 3) := by decide +kernel
theorem dX2_fill_109 : decode cX2_fill 109 = .ok (.istore 8, 2) := by decide +kernel
theorem dX2_fill_111 : decode cX2_fill 111 = .ok (.iload 8, 2) := by decide +kernel
theorem dX2_fill_113 : decode cX2_fill 113 = .ok (.iload 4, 2) := by decide +kernel
theorem dX2_fill_115 : decode cX2_fill 115 = .ok (.if_icmp .ge 10, 3) := by decide +kernel
theorem dX2_fill_118 : decode cX2_fill 118 = .ok (.iload 8, 2) := by decide +kernel
theorem dX2_fill_120 : decode cX2_fill 120 = .ok (.istore 4, 2) := by decide +kernel
theorem dX2_fill_122 : decode cX2_fill 122 = .ok (.lconst 0, 1) := by decide +kernel
theorem dX2_fill_123 : decode cX2_fill 123 = .ok (.lstore 5, 2) := by decide +kernel
theorem dX2_fill_125 : decode cX2_fill 125 = .ok (.iload 8, 2) := by decide +kernel
theorem dX2_fill_127 : decode cX2_fill 127 = .ok (.iload 4, 2) := by decide +kernel
theorem dX2_fill_129 : decode cX2_fill 129 = .ok (.if_icmp .ne 24, 3) := by decide +kernel
theorem dX2_fill_132 : decode cX2_fill 132 = .ok (.lload 5, 2) := by decide +kernel
theorem dX2_fill_134 : decode cX2_fill 134 = .ok (.aload_n 0, 1) := by decide +kernel
theorem dX2_fill_135 : decode cX2_fill 135 = .ok (.getfield 15, 3) := by decide +kernel
theorem dX2_fill_138 : decode cX2_fill 138 = .ok (.iload_n 1, 1) := by decide +kernel
theorem dX2_fill_139 : decode cX2_fill 139 = .ok (.iconst 1, 1) := by decide +kernel
theorem dX2_fill_140 : decode cX2_fill 140 = .ok (.iadd, 1) := by decide +kernel
theorem dX2_fill_141 : decode cX2_fill 141 = .ok (.bipush 11, 2) := by decide +kernel
theorem dX2_fill_143 : decode cX2_fill 143 = .ok (.imul, 1) := by decide +kernel
theorem dX2_fill_144 : decode cX2_fill 144 = .ok (.iload 7, 2) := by decide +kernel
theorem dX2_fill_146 : decode cX2_fill 146 = .ok (.iadd, 1) := by decide +kernel
theorem dX2_fill_147 : decode cX2_fill 147 = .ok (.iconst 1, 1) := by decide +kernel
theorem dX2_fill_148 : decode cX2_fill 148 = .ok (.iadd, 1) := by decide +kernel
theorem dX2_fill_149 : decode cX2_fill 149 = .ok (.laload, 1) := by decide +kernel
theorem dX2_fill_150 : decode cX2_fill 150 = .ok (.ladd, 1) := by decide +kernel
theorem dX2_fill_151 : decode cX2_fill 151 = .ok (.lstore 5, 2) := by decide +kernel
theorem dX2_fill_153 : decode cX2_fill 153 = .ok (.iinc 7 1, 3) := by decide +kernel
theorem dX2_fill_156 : decode cX2_fill 156 = .ok (.goto (-80), 3) := by decide +kernel
theorem dX2_fill_159 : decode cX2_fill 159 = .ok (.aload_n 0, 1) := by decide +kernel
theorem dX2_fill_160 : decode cX2_fill 160 = .ok (.getfield 11, 3) := by decide +kernel
theorem dX2_fill_163 : decode cX2_fill 163 = .ok (.iload_n 3, 1) := by decide +kernel
theorem dX2_fill_164 : decode cX2_fill 164 = .ok (.iload 4, 2) := by decide +kernel
theorem dX2_fill_166 : decode cX2_fill 166 = .ok (.iastore, 1) := by decide +kernel
theorem dX2_fill_167 : decode cX2_fill 167 = .ok (.aload_n 0, 1) := by decide +kernel
theorem dX2_fill_168 : decode cX2_fill 168 = .ok (.getfield 15, 3) := by decide +kernel
theorem dX2_fill_171 : decode cX2_fill 171 = .ok (.iload_n 3, 1) := by decide +kernel
theorem dX2_fill_172 : decode cX2_fill 172 = .ok (.lload 5, 2) := by decide +kernel
theorem dX2_fill_174 : decode cX2_fill 174 = .ok (.lastore, 1) := by decide +kernel
theorem dX2_fill_175 : decode cX2_fill 175 = .ok (.return_, 1) := by decide +kernel
theorem dX2_isSame_0 : decode cX2_isSame 0 = .ok (.aload_n 0, 1) := by decide +kernel
theorem dX2_isSame_1 : decode cX2_isSame 1 = .ok (.getfield 26, 3) := by decide +kernel
theorem dX2_isSame_4 : decode cX2_isSame 4 = .ok (.aload_n 0, 1) := by decide +kernel
theorem dX2_isSame_5 : decode cX2_isSame 5 = .ok (.getfield 19, 3) := by decide +kernel
theorem dX2_isSame_8 : decode cX2_isSame 8 = .ok (.getfield 57, 3) := by decide +kernel
theorem dX2_isSame_11 : decode cX2_isSame 11 = .ok (.iload_n 1, 1) := by decide +kernel
theorem dX2_isSame_12 : decode cX2_isSame 12 = .ok (.iaload, 1) := by decide +kernel
theorem dX2_isSame_13 : decode cX2_isSame 13 = .ok (.iaload, 1) := by decide +kernel
theorem dX2_isSame_14 : decode cX2_isSame 14 = .ok (.aload_n 0, 1) := by decide +kernel
theorem dX2_isSame_15 : decode cX2_isSame 15 = .ok (.getfield 23, 3) := by decide +kernel
theorem dX2_isSame_18 : decode cX2_isSame 18 = .ok (.getfield 57, 3) := by decide +kernel
theorem dX2_isSame_21 : decode cX2_isSame 21 = .ok (.iload_n 2, 1) := by decide +kernel
theorem dX2_isSame_22 : decode cX2_isSame 22 = .ok (.iaload, 1) := by decide +kernel
theorem dX2_isSame_23 : decode cX2_isSame 23 = .ok (.ishr, 1) := by decide +kernel
theorem dX2_isSame_24 : decode cX2_isSame 24 = .ok (.iconst 1, 1) := by decide +kernel
theorem dX2_isSame_25 : decode cX2_isSame 25 = .ok (.iand, 1) := by decide +kernel
theorem dX2_isSame_26 : decode cX2_isSame 26 = .ok (.ifCond .eq 7, 3) := by decide +kernel
theorem dX2_isSame_29 : decode cX2_isSame 29 = .ok (.iconst 1, 1) := by decide +kernel
theorem dX2_isSame_30 : decode cX2_isSame 30 = .ok (.goto 4, 3) := by decide +kernel
theorem dX2_isSame_33 : decode cX2_isSame 33 = .ok (.iconst 0, 1) := by decide +kernel
theorem dX2_isSame_34 : decode cX2_isSame 34 = .ok (.ireturn, 1) := by decide +kernel
theorem dX2_costBeside_0 : decode cX2_costBeside 0 = .ok (.aload_n 0, 1) := by decide +kernel
theorem dX2_costBeside_1 : decode cX2_costBeside 1 = .ok (.getfield 19, 3) := by decide +kernel
theorem dX2_costBeside_4 : decode cX2_costBeside 4 = .ok (.getfield 60, 3) := by decide +kernel
theorem dX2_costBeside_7 : decode cX2_costBeside 7 = .ok (.iload_n 1, 1) := by decide +kernel
theorem dX2_costBeside_8 : decode cX2_costBeside 8 = .ok (.iaload, 1) := by decide +kernel
theorem dX2_costBeside_9 : decode cX2_costBeside 9 = .ok (.aload_n 0, 1) := by decide +kernel
theorem dX2_costBeside_10 : decode cX2_costBeside 10 = .ok (.getfield 23, 3) := by decide +kernel
theorem dX2_costBeside_13 : decode cX2_costBeside 13 = .ok (.getfield 60, 3) := by decide +kernel
theorem dX2_costBeside_16 : decode cX2_costBeside 16 = .ok (.iload_n 2, 1) := by decide +kernel
theorem dX2_costBeside_17 : decode cX2_costBeside 17 = .ok (.iaload, 1) := by decide +kernel
theorem dX2_costBeside_18 : decode cX2_costBeside 18 = .ok (.isub, 1) := by decide +kernel
theorem dX2_costBeside_19 : decode cX2_costBeside 19 = .ok (.invokestatic 63, 3) := by decide +kernel
theorem dX2_costBeside_22 : decode cX2_costBeside 22 = .ok (.istore 4, 2) := by decide +kernel
theorem dX2_costBeside_24 : decode cX2_costBeside 24 = .ok (.aload_n 0, 1) := by decide +kernel
theorem dX2_costBeside_25 : decode cX2_costBeside 25 = .ok (.getfield 29, 3) := by decide +kernel
theorem dX2_costBeside_28 : decode cX2_costBeside 28 = .ok (.iload_n 2, 1) := by decide +kernel
theorem dX2_costBeside_29 : decode cX2_costBeside 29 = .ok (.iload_n 3, 1) := by decide +kernel
theorem dX2_costBeside_30 : decode cX2_costBeside 30 = .ok (.isub, 1) := by decide +kernel
theorem dX2_costBeside_31 : decode cX2_costBeside 31 = .ok (.imul, 1) := by decide +kernel
theorem dX2_costBeside_32 : decode cX2_costBeside 32 = .ok (.aload_n 0, 1) := by decide +kernel
theorem dX2_costBeside_33 : decode cX2_costBeside 33 = .ok (.getfield 33, 3) := by decide +kernel
theorem dX2_costBeside_36 : decode cX2_costBeside 36 = .ok (.iload 4, 2) := by decide +kernel
theorem dX2_costBeside_38 : decode cX2_costBeside 38 = .ok (.imul, 1) := by decide +kernel
theorem dX2_costBeside_39 : decode cX2_costBeside 39 = .ok (.iadd, 1) := by decide +kernel
theorem dX2_costBeside_40 : decode cX2_costBeside 40 = .ok (.aload_n 0, 1) := by decide +kernel
theorem dX2_costBeside_41 : decode cX2_costBeside 41 = .ok (.getfield 11, 3) := by decide +kernel
theorem dX2_costBeside_44 : decode cX2_costBeside 44 = .ok (.iload_n 1, 1) := by decide +kernel
theorem dX2_costBeside_45 : decode cX2_costBeside 45 = .ok (.iconst 1, 1) := by decide +kernel
theorem dX2_costBeside_46 : decode cX2_costBeside 46 = .ok (.iadd, 1) := by decide +kernel
theorem dX2_costBeside_47 : decode cX2_costBeside 47 = .ok (.bipush 11, 2) := by decide +kernel
theorem dX2_costBeside_49 : decode cX2_costBeside 49 = .ok (.imul, 1) := by decide +kernel
theorem dX2_costBeside_50 : decode cX2_costBeside 50 = .ok (.iload_n 2, 1) := by decide +kernel
theorem dX2_costBeside_51 : decode cX2_costBeside 51 = .ok (.iadd, 1) := by decide +kernel
theorem dX2_costBeside_52 : decode cX2_costBeside 52 = .ok (.iconst 1, 1) := by decide +kernel
theorem dX2_costBeside_53 : decode cX2_costBeside 53 = .ok (.iadd, 1) := by decide +kernel
theorem dX2_costBeside_54 : decode cX2_costBeside 54 = .ok (.iaload, 1) := by decide +kernel
theorem dX2_costBeside_55 : decode cX2_costBeside 55 = .ok (.iadd, 1) := by decide +kernel
theorem dX2_costBeside_56 : decode cX2_costBeside 56 = .ok (.ireturn, 1) := by decide +kernel
theorem dX3_init_0 : decode cX3_init 0 = .ok (.aload_n 0, 1) := by decide +kernel
theorem dX3_init_1 : decode cX3_init 1 = .ok (.invokespecial 3, 3) := by decide +kernel
theorem dX3_init_4 : decode cX3_init 4 = .ok (.aload_n 0, 1) := by decide +kernel
theorem dX3_init_5 : decode cX3_init 5 = .ok (.bipush 40, 2) := by decide +kernel
theorem dX3_init_7 : decode cX3_init 7 = .ok (.newarray .int, 2) := by decide +kernel
theorem dX3_init_9 : decode cX3_init 9 = .ok (.putfield 9, 3) := by decide +kernel
theorem dX3_init_12 : decode cX3_init 12 = .ok (.aload_n 0, 1) := by decide +kernel
theorem dX3_init_13 : decode cX3_init 13 = .ok (.bipush 40, 2) := by decide +kernel
theorem dX3_init_15 : decode cX3_init 15 = .ok (.newarray .int, 2) := by decide +kernel
theorem dX3_init_17 : decode cX3_init 17 = .ok (.putfield 15, 3) := by decide +kernel
theorem dX3_init_20 : decode cX3_init 20 = .ok (.aload_n 0, 1) := by decide +kernel
theorem dX3_init_21 : decode cX3_init 21 = .ok (.bipush 40, 2) := by decide +kernel
theorem dX3_init_23 : decode cX3_init 23 = .ok (.newarray .int, 2) := by decide +kernel
theorem dX3_init_25 : decode cX3_init 25 = .ok (.putfield 18, 3) := by decide +kernel
theorem dX3_init_28 : decode cX3_init 28 = .ok (.aload_n 0, 1) := by decide +kernel
theorem dX3_init_29 : decode cX3_init 29 = .ok (.bipush 40, 2) := by decide +kernel
theorem dX3_init_31 : decode cX3_init 31 = .ok (.newarray .int, 2) := by decide +kernel
theorem dX3_init_33 : decode cX3_init 33 = .ok (.putfield 21, 3) := by decide +kernel
theorem dX3_init_36 : decode cX3_init 36 = .ok (.aload_n 0, 1) := by decide +kernel
theorem dX3_init_37 : decode cX3_init 37 = .ok (.sipush 14641, 3) := by decide +kernel
theorem dX3_init_40 : decode cX3_init 40 = .ok (.newarray .byte, 2) := by decide +kernel
theorem dX3_init_42 : decode cX3_init 42 = .ok (.putfield 24, 3) := by decide +kernel
theorem dX3_init_45 : decode cX3_init 45 = .ok (.aload_n 0, 1) := by decide +kernel
theorem dX3_init_46 : decode cX3_init 46 = .ok (.iconst 4, 1) := by decide +kernel
theorem dX3_init_47 : decode cX3_init 47 = .ok (.newarray .int, 2) := by decide +kernel
theorem dX3_init_49 : decode cX3_init 49 = .ok (.putfield 28, 3) := by decide +kernel
theorem dX3_init_52 : decode cX3_init 52 = .ok (.aload_n 0, 1) := by decide +kernel
theorem dX3_init_53 : decode cX3_init 53 = .ok (.iconst 4, 1) := by decide +kernel
theorem dX3_init_54 : decode cX3_init 54 = .ok (.newarray .int, 2) := by decide +kernel
theorem dX3_init_56 : decode cX3_init 56 = .ok (.putfield 31, 3) := by decide +kernel
theorem dX3_init_59 : decode cX3_init 59 = .ok (.aload_n 0, 1) := by decide +kernel
theorem dX3_init_60 : decode cX3_init 60 = .ok (.iconst 4, 1) := by decide +kernel
theorem dX3_init_61 : decode cX3_init 61 = .ok (.newarray .int, 2) := by decide +kernel
theorem dX3_init_63 : decode cX3_init 63 = .ok (.putfield 34, 3) := by decide +kernel
theorem dX3_init_66 : decode cX3_init 66 = .ok (.aload_n 0, 1) := by decide +kernel
theorem dX3_init_67 : decode cX3_init 67 = .ok (.bipush 12, 2) := by decide +kernel
theorem dX3_init_69 : decode cX3_init 69 = .ok (.newarray .int, 2) := by decide +kernel
theorem dX3_init_71 : decode cX3_init 71 = .ok (.putfield 37, 3) := by decide +kernel
theorem dX3_init_74 : decode cX3_init 74 = .ok (.aload_n 0, 1) := by decide +kernel
theorem dX3_init_75 : decode cX3_init 75 = .ok (.bipush 12, 2) := by decide +kernel
theorem dX3_init_77 : decode cX3_init 77 = .ok (.newarray .int, 2) := by decide +kernel
theorem dX3_init_79 : decode cX3_init 79 = .ok (.putfield 40, 3) := by decide +kernel
theorem dX3_init_82 : decode cX3_init 82 = .ok (.return_, 1) := by decide +kernel
theorem dX3_find_0 : decode cX3_find 0 = .ok (.aload_n 0, 1) := by decide +kernel
theorem dX3_find_1 : decode cX3_find 1 = .ok (.aload_n 1, 1) := by decide +kernel
theorem dX3_find_2 : decode cX3_find 2 = .ok (.putfield 43, 3) := by decide +kernel
theorem dX3_find_5 : decode cX3_find 5 = .ok (.aload_n 0, 1) := by decide +kernel
theorem dX3_find_6 : decode cX3_find 6 = .ok (.aload_n 2, 1) := by decide +kernel
theorem dX3_find_7 : decode cX3_find 7 = .ok (.putfield 47, 3) := by decide +kernel
theorem dX3_find_10 : decode cX3_find 10 = .ok (.iconst 1, 1) := by decide +kernel
theorem dX3_find_11 : decode cX3_find 11 = .ok (.istore_n 3, 1) := by decide +kernel
theorem dX3_find_12 : decode cX3_find 12 = .ok (.iconst 0, 1) := by decide +kernel
theorem dX3_find_13 : decode cX3_find 13 = .ok (.istore 4, 2) := by decide +kernel
theorem dX3_find_15 : decode cX3_find 15 = .ok (.iload 4, 2) := by decide +kernel
theorem dX3_find_17 : decode cX3_find 17 = .ok (.aload_n 0, 1) := by decide +kernel
theorem dX3_find_18 : decode cX3_find 18 = .ok (.getfield 43, 3) := by decide +kernel
theorem dX3_find_21 : decode cX3_find 21 = .ok (.getfield 50, 3) := by decide +kernel
theorem dX3_find_24 : decode cX3_find 24 = .ok (.if_icmp .ge 35, 3) := by decide +kernel
theorem dX3_find_27 : decode cX3_find 27 = .ok (.aload_n 0, 1) := by decide +kernel
theorem dX3_find_28 : decode cX3_find 28 = .ok (.getfield 28, 3) := by decide +kernel
theorem dX3_find_31 : decode cX3_find 31 = .ok (.iload 4, 2) := by decide +kernel
theorem dX3_find_33 : decode cX3_find 33 = .ok (.iload_n 3, 1) := by decide +kernel
theorem dX3_find_34 : decode cX3_find 34 = .ok (.iastore, 1) := by decide +kernel
theorem dX3_find_35 : decode cX3_find 35 = .ok (.iload_n 3, 1) := by decide +kernel
theorem dX3_find_36 : decode cX3_find 36 = .ok (.aload_n 0, 1) := by decide +kernel
theorem dX3_find_37 : decode cX3_find 37 = .ok (.getfield 43, 3) := by decide +kernel
theorem dX3_find_40 : decode cX3_find 40 = .ok (.getfield 56, 3) := by decide +kernel
theorem dX3_find_43 : decode cX3_find 43 = .ok (.iload 4, 2) := by decide +kernel
theorem dX3_find_45 : decode cX3_find 45 = .ok (.aaload, 1) := by decide +kernel
theorem dX3_find_46 : decode cX3_find 46 = .ok (.getfield 60, 3) := by decide +kernel
theorem dX3_find_49 : decode cX3_find 49 = .ok (.iconst 1, 1) := by decide +kernel
theorem dX3_find_50 : decode cX3_find 50 = .ok (.iadd, 1) := by decide +kernel
theorem dX3_find_51 : decode cX3_find 51 = .ok (.imul, 1) := by decide +kernel
theorem dX3_find_52 : decode cX3_find 52 = .ok (.istore_n 3, 1) := by decide +kernel
theorem dX3_find_53 : decode cX3_find 53 = .ok (.iinc 4 1, 3) := by decide +kernel
theorem dX3_find_56 : decode cX3_find 56 = .ok (.goto (-41), 3) := by decide +kernel
theorem dX3_find_59 : decode cX3_find 59 = .ok (.aload_n 0, 1) := by decide +kernel
theorem dX3_find_60 : decode cX3_find 60 = .ok (.getfield 43, 3) := by decide +kernel
theorem dX3_find_63 : decode cX3_find 63 = .ok (.getfield 50, 3) := by decide +kernel
theorem dX3_find_66 : decode cX3_find 66 = .ok (.ifCond .le 20, 3) := by decide +kernel
theorem dX3_find_69 : decode cX3_find 69 = .ok (.aload_n 0, 1) := by decide +kernel
theorem dX3_find_70 : decode cX3_find 70 = .ok (.getfield 43, 3) := by decide +kernel
theorem dX3_find_73 : decode cX3_find 73 = .ok (.getfield 56, 3) := by decide +kernel
theorem dX3_find_76 : decode cX3_find 76 = .ok (.iconst 0, 1) := by decide +kernel
theorem dX3_find_77 : decode cX3_find 77 = .ok (.aaload, 1) := by decide +kernel
theorem dX3_find_78 : decode cX3_find 78 = .ok (.getfield 60, 3) := by decide +kernel
theorem dX3_find_81 : decode cX3_find 81 = .ok (.iconst 1, 1) := by decide +kernel
theorem dX3_find_82 : decode cX3_find 82 = .ok (.iadd, 1) := by decide +kernel
theorem dX3_find_83 : decode cX3_find 83 = .ok (.goto 4, 3) := by decide +kernel
theorem dX3_find_86 : decode cX3_find 86 = .ok (.iconst 1, 1) := by decide +kernel
theorem dX3_find_87 : decode cX3_find 87 = .ok (.istore 4, 2) := by decide +kernel
theorem dX3_find_89 : decode cX3_find 89 = .ok (.iload_n 3, 1) := by decide +kernel
theorem dX3_find_90 : decode cX3_find 90 = .ok (.sipush 14641, 3) := by decide +kernel
theorem dX3_find_93 : decode cX3_find 93 = .ok (.if_icmp .gt 15, 3) := by decide +kernel
theorem dX3_find_96 : decode cX3_find 96 = .ok (.iload 4, 2) := by decide +kernel
theorem dX3_find_98 : decode cX3_find 98 = .ok (.iconst 1, 1) := by decide +kernel
theorem dX3_find_99 : decode cX3_find 99 = .ok (.if_icmp .lt 9, 3) := by decide +kernel
theorem dX3_find_102 : decode cX3_find 102 = .ok (.iload 4, 2) := by decide +kernel
theorem dX3_find_104 : decode cX3_find 104 = .ok (.iload_n 3, 1) := by decide +kernel
theorem dX3_find_105 : decode cX3_find 105 = .ok (.if_icmp .le 4, 3) := by decide +kernel
theorem dX3_find_108 : decode cX3_find 108 = .ok (.return_, 1) := by decide +kernel
theorem dX3_find_109 : decode cX3_find 109 = .ok (.iload_n 3, 1) := by decide +kernel
theorem dX3_find_110 : decode cX3_find 110 = .ok (.iload 4, 2) := by decide +kernel
theorem dX3_find_112 : decode cX3_find 112 = .ok (.isub, 1) := by decide +kernel
theorem dX3_find_113 : decode cX3_find 113 = .ok (.istore 5, 2) := by decide +kernel
theorem dX3_find_115 : decode cX3_find 115 = .ok (.iload 5, 2) := by decide +kernel
theorem dX3_find_117 : decode cX3_find 117 = .ok (.ifCond .lt 31, 3) := by decide +kernel
theorem dX3_find_120 : decode cX3_find 120 = .ok (.aload_n 0, 1) := by decide +kernel
theorem dX3_find_121 : decode cX3_find 121 = .ok (.iload 5, 2) := by decide +kernel
theorem dX3_find_123 : decode cX3_find 123 = .ok (.invokevirtual 65, 3) := by decide +kernel
theorem dX3_find_126 : decode cX3_find 126 = .ok (.aload_n 0, 1) := by decide +kernel
theorem dX3_find_127 : decode cX3_find 127 = .ok (.invokevirtual 69, 3) := by decide +kernel
theorem dX3_find_130 : decode cX3_find 130 = .ok (.aload_n 0, 1) := by decide +kernel
theorem dX3_find_131 : decode cX3_find 131 = .ok (.iload 5, 2) := by decide +kernel
theorem dX3_find_133 : decode cX3_find 133 = .ok (.iload 4, 2) := by decide +kernel
theorem dX3_find_135 : decode cX3_find 135 = .ok (.invokevirtual 72, 3) := by decide +kernel
theorem dX3_find_138 : decode cX3_find 138 = .ok (.iload 5, 2) := by decide +kernel
theorem dX3_find_140 : decode cX3_find 140 = .ok (.iload 4, 2) := by decide +kernel
theorem dX3_find_142 : decode cX3_find 142 = .ok (.isub, 1) := by decide +kernel
theorem dX3_find_143 : decode cX3_find 143 = .ok (.istore 5, 2) := by decide +kernel
theorem dX3_find_145 : decode cX3_find 145 = .ok (.goto (-30), 3) := by decide +kernel
theorem dX3_find_148 : decode cX3_find 148 = .ok (.aload_n 0, 1) := by decide +kernel
theorem dX3_find_149 : decode cX3_find 149 = .ok (.invokevirtual 76, 3) := by decide +kernel
theorem dX3_find_152 : decode cX3_find 152 = .ok (.return_, 1) := by decide +kernel
theorem dX3_notIn_0 : decode cX3_notIn 0 = .ok (.iconst 0, 1) := by decide +kernel
theorem dX3_notIn_1 : decode cX3_notIn 1 = .ok (.istore_n 2, 1) := by decide +kernel
theorem dX3_notIn_2 : decode cX3_notIn 2 = .ok (.iconst 0, 1) := by decide +kernel
theorem dX3_notIn_3 : decode cX3_notIn 3 = .ok (.istore_n 3, 1) := by decide +kernel
theorem dX3_notIn_4 : decode cX3_notIn 4 = .ok (.iload_n 3, 1) := by decide +kernel
theorem dX3_notIn_5 : decode cX3_notIn 5 = .ok (.aload_n 0, 1) := by decide +kernel
theorem dX3_notIn_6 : decode cX3_notIn 6 = .ok (.getfield 79, 3) := by decide +kernel
theorem dX3_notIn_9 : decode cX3_notIn 9 = .ok (.if_icmp .ge 23, 3) := by decide +kernel
theorem dX3_notIn_12 : decode cX3_notIn 12 = .ok (.aload_n 0, 1) := by decide +kernel
theorem dX3_notIn_13 : decode cX3_notIn 13 = .ok (.getfield 15, 3) := by decide +kernel
theorem dX3_notIn_16 : decode cX3_notIn 16 = .ok (.iload_n 3, 1) := by decide +kernel
theorem dX3_notIn_17 : decode cX3_notIn 17 = .ok (.iaload, 1) := by decide +kernel
theorem dX3_notIn_18 : decode cX3_notIn 18 = .ok (.iload_n 1, 1) := by decide +kernel
theorem dX3_notIn_19 : decode cX3_notIn 19 = .ok (.iand, 1) := by decide +kernel
theorem dX3_notIn_20 : decode cX3_notIn 20 = .ok (.ifCond .ne 6, 3) := by decide +kernel
theorem dX3_notIn_23 : decode cX3_notIn 23 = .ok (.iinc 2 1, 3) := by decide +kernel
theorem dX3_notIn_26 : decode cX3_notIn 26 = .ok (.iinc 3 1, 3) := by decide +kernel
theorem dX3_notIn_29 : decode cX3_notIn 29 = .ok (.goto (-25), 3) := by decide +kernel
theorem dX3_notIn_32 : decode cX3_notIn 32 = .ok (.iload_n 2, 1) := by decide +kernel
theorem dX3_notIn_33 : decode cX3_notIn 33 = .ok (.ireturn, 1) := by decide +kernel
theorem dX3_findServing_0 : decode cX3_findServing 0 = .ok (.aload_n 0, 1) := by decide +kernel
theorem dX3_findServing_1 : decode cX3_findServing 1 = .ok (.iconst 0, 1) := by decide +kernel
theorem dX3_findServing_2 : decode cX3_findServing 2 = .ok (.putfield 80, 3) := by decide +kernel
theorem dX3_findServing_5 : decode cX3_findServing 5 = .ok (.iconst 0, 1) := by decide +kernel
theorem dX3_findServing_6 : decode cX3_findServing 6 = .ok (.istore_n 1, 1) := by decide +kernel
theorem dX3_findServing_7 : decode cX3_findServing 7 = .ok (.iload_n 1, 1) := by decide +kernel
theorem dX3_findServing_8 : decode cX3_findServing 8 = .ok (.bipush 12, 2) := by decide +kernel
theorem dX3_findServing_10 : decode cX3_findServing 10 = .ok (.if_icmp .ge 50, 3) := by decide +kernel
theorem dX3_findServing_13 : decode cX3_findServing 13 = .ok (.aload_n 0, 1) := by decide +kernel
theorem dX3_findServing_14 : decode cX3_findServing 14 = .ok (.iload_n 1, 1) := by decide +kernel
theorem dX3_findServing_15 : decode cX3_findServing 15 = .ok (.iconst 1, 1) := by decide +kernel
theorem dX3_findServing_16 : decode cX3_findServing 16 = .ok (.invokevirtual 83, 3) := by decide +kernel
theorem dX3_findServing_19 : decode cX3_findServing 19 = .ok (.istore_n 2, 1) := by decide +kernel
theorem dX3_findServing_20 : decode cX3_findServing 20 = .ok (.iload_n 2, 1) := by decide +kernel
theorem dX3_findServing_21 : decode cX3_findServing 21 = .ok (.ifCond .le 33, 3) := by decide +kernel
theorem dX3_findServing_24 : decode cX3_findServing 24 = .ok (.aload_n 0, 1) := by decide +kernel
theorem dX3_findServing_25 : decode cX3_findServing 25 = .ok (.getfield 37, 3) := by decide +kernel
theorem dX3_findServing_28 : decode cX3_findServing 28 = .ok (.aload_n 0, 1) := by decide +kernel
theorem dX3_findServing_29 : decode cX3_findServing 29 = .ok (.getfield 80, 3) := by decide +kernel
theorem dX3_findServing_32 : decode cX3_findServing 32 = .ok (.iload_n 1, 1) := by decide +kernel
theorem dX3_findServing_33 : decode cX3_findServing 33 = .ok (.iastore, 1) := by decide +kernel
theorem dX3_findServing_34 : decode cX3_findServing 34 = .ok (.aload_n 0, 1) := by decide +kernel
theorem dX3_findServing_35 : decode cX3_findServing 35 = .ok (.getfield 40, 3) := by decide +kernel
theorem dX3_findServing_38 : decode cX3_findServing 38 = .ok (.aload_n 0, 1) := by decide +kernel
theorem dX3_findServing_39 : decode cX3_findServing 39 = .ok (.getfield 80, 3) := by decide +kernel
theorem dX3_findServing_42 : decode cX3_findServing 42 = .ok (.iload_n 2, 1) := by decide +kernel
theorem dX3_findServing_43 : decode cX3_findServing 43 = .ok (.iastore, 1) := by decide +kernel
theorem dX3_findServing_44 : decode cX3_findServing 44 = .ok (.aload_n 0, 1) := by decide +kernel
theorem dX3_findServing_45 : decode cX3_findServing 45 = .ok (.dup, 1) := by decide +kernel
theorem dX3_findServing_46 : decode cX3_findServing 46 = .ok (.getfield 80, 3) := by decide +kernel
theorem dX3_findServing_49 : decode cX3_findServing 49 = .ok (.iconst 1, 1) := by decide +kernel
theorem dX3_findServing_50 : decode cX3_findServing 50 = .ok (.iadd, 1) := by decide +kernel
theorem dX3_findServing_51 : decode cX3_findServing 51 = .ok (.putfield 80, 3) := by decide +kernel
theorem dX3_findServing_54 : decode cX3_findServing 54 = .ok (.iinc 1 1, 3) := by decide +kernel
theorem dX3_findServing_57 : decode cX3_findServing 57 = .ok (.goto (-50), 3) := by decide +kernel
theorem dX3_findServing_60 : decode cX3_findServing 60 = .ok (.return_, 1) := by decide +kernel
theorem dX3_fillRow_0 : decode cX3_fillRow 0 = .ok (.iload_n 2, 1) := by decide +kernel
theorem dX3_fillRow_1 : decode cX3_fillRow 1 = .ok (.iconst 1, 1) := by decide +kernel
theorem dX3_fillRow_2 : decode cX3_fillRow 2 = .ok (.isub, 1) := by decide +kernel
theorem dX3_fillRow_3 : decode cX3_fillRow 3 = .ok (.istore_n 3, 1) := by decide +kernel
theorem dX3_fillRow_4 : decode cX3_fillRow 4 = .ok (.iload_n 3, 1) := by decide +kernel
theorem dX3_fillRow_5 : decode cX3_fillRow 5 = .ok (.ifCond .lt 182, 3) := by decide +kernel
theorem dX3_fillRow_8 : decode cX3_fillRow 8 = .ok (.iload_n 1, 1) := by decide +kernel
theorem dX3_fillRow_9 : decode cX3_fillRow 9 = .ok (.iload_n 3, 1) := by decide +kernel
theorem dX3_fillRow_10 : decode cX3_fillRow 10 = .ok (.iadd, 1) := by decide +kernel
theorem dX3_fillRow_11 : decode cX3_fillRow 11 = .ok (.istore 4, 2) := by decide +kernel
theorem dX3_fillRow_13 : decode cX3_fillRow 13 = .ok (.iload_n 3, 1) := by decide +kernel
theorem dX3_fillRow_14 : decode cX3_fillRow 14 = .ok (.iload_n 2, 1) := by decide +kernel
theorem dX3_fillRow_15 : decode cX3_fillRow 15 = .ok (.iconst 1, 1) := by decide +kernel
theorem dX3_fillRow_16 : decode cX3_fillRow 16 = .ok (.isub, 1) := by decide +kernel
theorem dX3_fillRow_17 : decode cX3_fillRow 17 = .ok (.if_icmp .ge 7, 3) := by decide +kernel
theorem dX3_fillRow_20 : decode cX3_fillRow 20 = .ok (.iconst 1, 1) := by decide +kernel
theorem dX3_fillRow_21 : decode cX3_fillRow 21 = .ok (.goto 4, 3) := by decide +kernel
theorem dX3_fillRow_24 : decode cX3_fillRow 24 = .ok (.iconst 0, 1) := by decide +kernel
theorem dX3_fillRow_25 : decode cX3_fillRow 25 = .ok (.istore 5, 2) := by decide +kernel
theorem dX3_fillRow_27 : decode cX3_fillRow 27 = .ok (.iload 5, 2) := by decide +kernel
theorem dX3_fillRow_29 : decode cX3_fillRow 29 = .ok (.ifCond .eq 22, 3) := by decide +kernel
theorem dX3_fillRow_32 : decode cX3_fillRow 32 = .ok (.iconst 1, 1) := by decide +kernel
theorem dX3_fillRow_33 : decode cX3_fillRow 33 = .ok (.aload_n 0, 1) := by decide +kernel
theorem dX3_fillRow_34 : decode cX3_fillRow 34 = .ok (.getfield 43, 3) := by decide +kernel
theorem dX3_fillRow_37 : decode cX3_fillRow 37 = .ok (.getfield 56, 3) := by decide +kernel
theorem dX3_fillRow_40 : decode cX3_fillRow 40 = .ok (.iconst 0, 1) := by decide +kernel
theorem dX3_fillRow_41 : decode cX3_fillRow 41 = .ok (.aaload, 1) := by decide +kernel
theorem dX3_fillRow_42 : decode cX3_fillRow 42 = .ok (.getfield 87, 3) := by decide +kernel
theorem dX3_fillRow_45 : decode cX3_fillRow 45 = .ok (.iload_n 3, 1) := by decide +kernel
theorem dX3_fillRow_46 : decode cX3_fillRow 46 = .ok (.iaload, 1) := by decide +kernel
theorem dX3_fillRow_47 : decode cX3_fillRow 47 = .ok (.ishl, 1) := by decide +kernel
theorem dX3_fillRow_48 : decode cX3_fillRow 48 = .ok (.goto 4, 3) := by decide +kernel
theorem dX3_fillRow_51 : decode cX3_fillRow 51 = .ok (.iconst 0, 1) := by decide +kernel
theorem dX3_fillRow_52 : decode cX3_fillRow 52 = .ok (.istore 6, 2) := by decide +kernel
theorem dX3_fillRow_54 : decode cX3_fillRow 54 = .ok (.iload 5, 2) := by decide +kernel
theorem dX3_fillRow_56 : decode cX3_fillRow 56 = .ok (.ifCond .eq 15, 3) := by decide +kernel
theorem dX3_fillRow_59 : decode cX3_fillRow 59 = .ok (.aload_n 0, 1) := by decide +kernel
theorem dX3_fillRow_60 : decode cX3_fillRow 60 = .ok (.getfield 24, 3) := by decide +kernel
theorem dX3_fillRow_63 : decode cX3_fillRow 63 = .ok (.iload 4, 2) := by decide +kernel
theorem dX3_fillRow_65 : decode cX3_fillRow 65 = .ok (.iconst 1, 1) := by decide +kernel
theorem dX3_fillRow_66 : decode cX3_fillRow 66 = .ok (.iadd, 1) := by decide +kernel
theorem dX3_fillRow_67 : decode cX3_fillRow 67 = .ok (.baload, 1) := by decide +kernel
theorem dX3_fillRow_68 : decode cX3_fillRow 68 = .ok (.goto 5, 3) := by decide +kernel
theorem dX3_fillRow_71 : decode cX3_fillRow 71 = .ok (.bipush 40, 2) := by decide +kernel
theorem dX3_fillRow_73 : decode cX3_fillRow 73 = .ok (.istore 7, 2) := by decide +kernel
theorem dX3_fillRow_75 : decode cX3_fillRow 75 = .ok (.iconst 0, 1) := by decide +kernel
theorem dX3_fillRow_76 : decode cX3_fillRow 76 = .ok (.istore 8, 2) := by decide +kernel
theorem dX3_fillRow_78 : decode cX3_fillRow 78 = .ok (.iload 8, 2) := by decide +kernel
theorem dX3_fillRow_80 : decode cX3_fillRow 80 = .ok (.aload_n 0, 1) := by decide +kernel
theorem dX3_fillRow_81 : decode cX3_fillRow 81 = .ok (.getfield 80, 3) := by decide +kernel
theorem dX3_fillRow_84 : decode cX3_fillRow 84 = .ok (.if_icmp .ge 69, 3) := by decide +kernel
theorem dX3_fillRow_87 : decode cX3_fillRow 87 = .ok (.aload_n 0, 1) := by decide +kernel
theorem dX3_fillRow_88 : decode cX3_fillRow 88 = .ok (.getfield 40, 3) := by decide +kernel
theorem dX3_fillRow_91 : decode cX3_fillRow 91 = .ok (.iload 8, 2) := by decide +kernel
theorem dX3_fillRow_93 : decode cX3_fillRow 93 = .ok (.iaload, 1) := by decide +kernel
theorem dX3_fillRow_94 : decode cX3_fillRow 94 = .ok (.aload_n 0, 1) := by decide +kernel
theorem dX3_fillRow_95 : decode cX3_fillRow 95 = .ok (.getfield 47, 3) := by decide +kernel
theorem dX3_fillRow_98 : decode cX3_fillRow 98 = .ok (.aload_n 0, 1) := by decide +kernel
theorem dX3_fillRow_99 : decode cX3_fillRow 99 = .ok (.getfield 37, 3) := by decide +kernel
theorem dX3_fillRow_102 : decode cX3_fillRow 102 = .ok (.iload 8, 2) := by decide +kernel
theorem dX3_fillRow_104 : decode cX3_fillRow 104 = .ok (.iaload, 1) := by decide +kernel
theorem dX3_fillRow_105 : decode cX3_fillRow 105 = .ok (.iaload, 1) := by decide +kernel
theorem dX3_fillRow_106 : decode cX3_fillRow 106 = .ok (.iload 6, 2) := by decide +kernel
theorem dX3_fillRow_108 : decode cX3_fillRow 108 = .ok (.iand, 1) := by decide +kernel
theorem dX3_fillRow_109 : decode cX3_fillRow 109 = .ok (.ifCond .eq 7, 3) := by decide +kernel
theorem dX3_fillRow_112 : decode cX3_fillRow 112 = .ok (.iconst 1, 1) := by decide +kernel
theorem dX3_fillRow_113 : decode cX3_fillRow 113 = .ok (.goto 4, 3) := by decide +kernel
theorem dX3_fillRow_116 : decode cX3_fillRow 116 = .ok (.iconst 0, 1) := by decide +kernel
theorem dX3_fillRow_117 : decode cX3_fillRow 117 = .ok (.iadd, 1) := by decide +kernel
theorem dX3_fillRow_118 : decode cX3_fillRow 118 = .ok (.istore 9, 2) := by decide +kernel
theorem dX3_fillRow_120 : decode cX3_fillRow 120 = .ok (.aload_n 0, 1) := by decide +kernel
theorem dX3_fillRow_121 : decode cX3_fillRow 121 = .ok (.getfield 24, 3) := by decide +kernel
theorem dX3_fillRow_124 : decode cX3_fillRow 124 = .ok (.iload 4, 2) := by decide +kernel
theorem dX3_fillRow_126 : decode cX3_fillRow 126 = .ok (.iload 9, 2) := by decide +kernel
theorem dX3_fillRow_128 : decode cX3_fillRow 128 = .ok (.iadd, 1) := by decide +kernel
theorem dX3_fillRow_129 : decode cX3_fillRow 129 = .ok (.baload, 1) := by decide +kernel
theorem dX3_fillRow_130 : decode cX3_fillRow 130 = .ok (.iload 7, 2) := by decide +kernel
theorem dX3_fillRow_132 : decode cX3_fillRow 132 = .ok (.if_icmp .ge 15, 3) := by decide +kernel
theorem dX3_fillRow_135 : decode cX3_fillRow 135 = .ok (.aload_n 0, 1) := by decide +kernel
theorem dX3_fillRow_136 : decode cX3_fillRow 136 = .ok (.getfield 24, 3) := by decide +kernel
theorem dX3_fillRow_139 : decode cX3_fillRow 139 = .ok (.iload 4, 2) := by decide +kernel
theorem dX3_fillRow_141 : decode cX3_fillRow 141 = .ok (.iload 9, 2) := by decide +kernel
theorem dX3_fillRow_143 : decode cX3_fillRow 143 = .ok (.iadd, 1) := by decide +kernel
theorem dX3_fillRow_144 : decode cX3_fillRow 144 = .ok (.baload, 1) := by decide +kernel
theorem dX3_fillRow_145 : decode cX3_fillRow 145 = .ok (.istore 7, 2) := by decide +kernel
theorem dX3_fillRow_147 : decode cX3_fillRow 147 = .ok (.iinc 8 1, 3) := by decide +kernel
theorem dX3_fillRow_150 : decode cX3_fillRow 150 = .ok (.goto (-72), 3) := by decide +kernel
theorem dX3_fillRow_153 : decode cX3_fillRow 153 = .ok (.aload_n 0, 1) := by decide +kernel
theorem dX3_fillRow_154 : decode cX3_fillRow 154 = .ok (.getfield 24, 3) := by decide +kernel
theorem dX3_fillRow_157 : decode cX3_fillRow 157 = .ok (.iload 4, 2) := by decide +kernel
theorem dX3_fillRow_159 : decode cX3_fillRow 159 = .ok (.iload 5, 2) := by decide +kernel
theorem dX3_fillRow_161 : decode cX3_fillRow 161 = .ok (.ifCond .ne 10, 3) := by decide +kernel
theorem dX3_fillRow_164 : decode cX3_fillRow 164 = .ok (.aload_n 0, 1) := by decide +kernel
theorem dX3_fillRow_165 : decode cX3_fillRow 165 = .ok (.getfield 80, 3) := by decide +kernel
theorem dX3_fillRow_168 : decode cX3_fillRow 168 = .ok (.ifCond .le 11, 3) := by decide +kernel
theorem dX3_fillRow_171 : decode cX3_fillRow 171 = .ok (.iload 7, 2) := by decide +kernel
theorem dX3_fillRow_173 : decode cX3_fillRow 173 = .ok (.iconst 1, 1) := by decide +kernel
theorem dX3_fillRow_174 : decode cX3_fillRow 174 = .ok (.iadd, 1) := by decide +kernel
theorem dX3_fillRow_175 : decode cX3_fillRow 175 = .ok (.i2b, 1) := by decide +kernel
theorem dX3_fillRow_176 : decode cX3_fillRow 176 = .ok (.goto 4, 3) := by decide +kernel
theorem dX3_fillRow_179 : decode cX3_fillRow 179 = .ok (.iconst 0, 1) := by decide +kernel
theorem dX3_fillRow_180 : decode cX3_fillRow 180 = .ok (.bastore, 1) := by decide +kernel
theorem dX3_fillRow_181 : decode cX3_fillRow 181 = .ok (.iinc 3 (-1), 3) := by decide +kernel
theorem dX3_fillRow_184 : decode cX3_fillRow 184 = .ok (.goto (-180), 3) := by decide +kernel
theorem dX3_fillRow_187 : decode cX3_fillRow 187 = .ok (.return_, 1) := by decide +kernel
theorem dX3_walk_0 : decode cX3_walk 0 = .ok (.iconst 0, 1) := by decide +kernel
theorem dX3_walk_1 : decode cX3_walk 1 = .ok (.istore_n 1, 1) := by decide +kernel
theorem dX3_walk_2 : decode cX3_walk 2 = .ok (.aload_n 0, 1) := by decide +kernel
theorem dX3_walk_3 : decode cX3_walk 3 = .ok (.iconst 0, 1) := by decide +kernel
theorem dX3_walk_4 : decode cX3_walk 4 = .ok (.putfield 79, 3) := by decide +kernel
theorem dX3_walk_7 : decode cX3_walk 7 = .ok (.aload_n 0, 1) := by decide +kernel
theorem dX3_walk_8 : decode cX3_walk 8 = .ok (.getfield 79, 3) := by decide +kernel
theorem dX3_walk_11 : decode cX3_walk 11 = .ok (.bipush 40, 2) := by decide +kernel
theorem dX3_walk_13 : decode cX3_walk 13 = .ok (.if_icmp .ge 60, 3) := by decide +kernel
theorem dX3_walk_16 : decode cX3_walk 16 = .ok (.aload_n 0, 1) := by decide +kernel
theorem dX3_walk_17 : decode cX3_walk 17 = .ok (.getfield 24, 3) := by decide +kernel
theorem dX3_walk_20 : decode cX3_walk 20 = .ok (.iload_n 1, 1) := by decide +kernel
theorem dX3_walk_21 : decode cX3_walk 21 = .ok (.baload, 1) := by decide +kernel
theorem dX3_walk_22 : decode cX3_walk 22 = .ok (.ifCond .le 51, 3) := by decide +kernel
theorem dX3_walk_25 : decode cX3_walk 25 = .ok (.aload_n 0, 1) := by decide +kernel
theorem dX3_walk_26 : decode cX3_walk 26 = .ok (.iload_n 1, 1) := by decide +kernel
theorem dX3_walk_27 : decode cX3_walk 27 = .ok (.invokevirtual 65, 3) := by decide +kernel
theorem dX3_walk_30 : decode cX3_walk 30 = .ok (.aload_n 0, 1) := by decide +kernel
theorem dX3_walk_31 : decode cX3_walk 31 = .ok (.iload_n 1, 1) := by decide +kernel
theorem dX3_walk_32 : decode cX3_walk 32 = .ok (.invokevirtual 88, 3) := by decide +kernel
theorem dX3_walk_35 : decode cX3_walk 35 = .ok (.istore_n 2, 1) := by decide +kernel
theorem dX3_walk_36 : decode cX3_walk 36 = .ok (.aload_n 0, 1) := by decide +kernel
theorem dX3_walk_37 : decode cX3_walk 37 = .ok (.getfield 9, 3) := by decide +kernel
theorem dX3_walk_40 : decode cX3_walk 40 = .ok (.aload_n 0, 1) := by decide +kernel
theorem dX3_walk_41 : decode cX3_walk 41 = .ok (.getfield 79, 3) := by decide +kernel
theorem dX3_walk_44 : decode cX3_walk 44 = .ok (.iload_n 2, 1) := by decide +kernel
theorem dX3_walk_45 : decode cX3_walk 45 = .ok (.iastore, 1) := by decide +kernel
theorem dX3_walk_46 : decode cX3_walk 46 = .ok (.aload_n 0, 1) := by decide +kernel
theorem dX3_walk_47 : decode cX3_walk 47 = .ok (.iload_n 2, 1) := by decide +kernel
theorem dX3_walk_48 : decode cX3_walk 48 = .ok (.invokevirtual 92, 3) := by decide +kernel
theorem dX3_walk_51 : decode cX3_walk 51 = .ok (.aload_n 0, 1) := by decide +kernel
theorem dX3_walk_52 : decode cX3_walk 52 = .ok (.dup, 1) := by decide +kernel
theorem dX3_walk_53 : decode cX3_walk 53 = .ok (.getfield 79, 3) := by decide +kernel
theorem dX3_walk_56 : decode cX3_walk 56 = .ok (.iconst 1, 1) := by decide +kernel
theorem dX3_walk_57 : decode cX3_walk 57 = .ok (.iadd, 1) := by decide +kernel
theorem dX3_walk_58 : decode cX3_walk 58 = .ok (.putfield 79, 3) := by decide +kernel
theorem dX3_walk_61 : decode cX3_walk 61 = .ok (.iload_n 1, 1) := by decide +kernel
theorem dX3_walk_62 : decode cX3_walk 62 = .ok (.aload_n 0, 1) := by decide +kernel
theorem dX3_walk_63 : decode cX3_walk 63 = .ok (.iload_n 2, 1) := by decide +kernel
theorem dX3_walk_64 : decode cX3_walk 64 = .ok (.iconst 0, 1) := by decide +kernel
theorem dX3_walk_65 : decode cX3_walk 65 = .ok (.invokevirtual 83, 3) := by decide +kernel
theorem dX3_walk_68 : decode cX3_walk 68 = .ok (.iadd, 1) := by decide +kernel
theorem dX3_walk_69 : decode cX3_walk 69 = .ok (.istore_n 1, 1) := by decide +kernel
theorem dX3_walk_70 : decode cX3_walk 70 = .ok (.goto (-63), 3) := by decide +kernel
theorem dX3_walk_73 : decode cX3_walk 73 = .ok (.return_, 1) := by decide +kernel
theorem dX3_firstColour_0 : decode cX3_firstColour 0 = .ok (.iconst 0, 1) := by decide +kernel
theorem dX3_firstColour_1 : decode cX3_firstColour 1 = .ok (.istore_n 2, 1) := by decide +kernel
theorem dX3_firstColour_2 : decode cX3_firstColour 2 = .ok (.iload_n 2, 1) := by decide +kernel
theorem dX3_firstColour_3 : decode cX3_firstColour 3 = .ok (.bipush 12, 2) := by decide +kernel
theorem dX3_firstColour_5 : decode cX3_firstColour 5 = .ok (.if_icmp .ge 41, 3) := by decide +kernel
theorem dX3_firstColour_8 : decode cX3_firstColour 8 = .ok (.aload_n 0, 1) := by decide +kernel
theorem dX3_firstColour_9 : decode cX3_firstColour 9 = .ok (.iload_n 2, 1) := by decide +kernel
theorem dX3_firstColour_10 : decode cX3_firstColour 10 = .ok (.iconst 0, 1) := by decide +kernel
theorem dX3_firstColour_11 : decode cX3_firstColour 11 = .ok (.invokevirtual 83, 3) := by decide +kernel
theorem dX3_firstColour_14 : decode cX3_firstColour 14 = .ok (.istore_n 3, 1) := by decide +kernel
theorem dX3_firstColour_15 : decode cX3_firstColour 15 = .ok (.iload_n 3, 1) := by decide +kernel
theorem dX3_firstColour_16 : decode cX3_firstColour 16 = .ok (.ifCond .le 24, 3) := by decide +kernel
theorem dX3_firstColour_19 : decode cX3_firstColour 19 = .ok (.aload_n 0, 1) := by decide +kernel
theorem dX3_firstColour_20 : decode cX3_firstColour 20 = .ok (.getfield 24, 3) := by decide +kernel
theorem dX3_firstColour_23 : decode cX3_firstColour 23 = .ok (.iload_n 1, 1) := by decide +kernel
theorem dX3_firstColour_24 : decode cX3_firstColour 24 = .ok (.iload_n 3, 1) := by decide +kernel
theorem dX3_firstColour_25 : decode cX3_firstColour 25 = .ok (.iadd, 1) := by decide +kernel
theorem dX3_firstColour_26 : decode cX3_firstColour 26 = .ok (.baload, 1) := by decide +kernel
theorem dX3_firstColour_27 : decode cX3_firstColour 27 = .ok (.aload_n 0, 1) := by decide +kernel
theorem dX3_firstColour_28 : decode cX3_firstColour 28 = .ok (.getfield 24, 3) := by decide +kernel
theorem dX3_firstColour_31 : decode cX3_firstColour 31 = .ok (.iload_n 1, 1) := by decide +kernel
theorem dX3_firstColour_32 : decode cX3_firstColour 32 = .ok (.baload, 1) := by decide +kernel
theorem dX3_firstColour_33 : decode cX3_firstColour 33 = .ok (.iconst 1, 1) := by decide +kernel
theorem dX3_firstColour_34 : decode cX3_firstColour 34 = .ok (.isub, 1) := by decide +kernel
theorem dX3_firstColour_35 : decode cX3_firstColour 35 = .ok (.if_icmp .ne 5, 3) := by decide +kernel
theorem dX3_firstColour_38 : decode cX3_firstColour 38 = .ok (.iload_n 2, 1) := by decide +kernel
theorem dX3_firstColour_39 : decode cX3_firstColour 39 = .ok (.ireturn, 1) := by decide +kernel
theorem dX3_firstColour_40 : decode cX3_firstColour 40 = .ok (.iinc 2 1, 3) := by decide +kernel
theorem dX3_firstColour_43 : decode cX3_firstColour 43 = .ok (.goto (-41), 3) := by decide +kernel
theorem dX3_firstColour_46 : decode cX3_firstColour 46 = .ok (.iconst 0, 1) := by decide +kernel
theorem dX3_firstColour_47 : decode cX3_firstColour 47 = .ok (.ireturn, 1) := by decide +kernel
theorem dX3_paint_0 : decode cX3_paint 0 = .ok (.aload_n 0, 1) := by decide +kernel
theorem dX3_paint_1 : decode cX3_paint 1 = .ok (.getfield 15, 3) := by decide +kernel
theorem dX3_paint_4 : decode cX3_paint 4 = .ok (.aload_n 0, 1) := by decide +kernel
theorem dX3_paint_5 : decode cX3_paint 5 = .ok (.getfield 79, 3) := by decide +kernel
theorem dX3_paint_8 : decode cX3_paint 8 = .ok (.iconst 0, 1) := by decide +kernel
theorem dX3_paint_9 : decode cX3_paint 9 = .ok (.iastore, 1) := by decide +kernel
theorem dX3_paint_10 : decode cX3_paint 10 = .ok (.aload_n 0, 1) := by decide +kernel
theorem dX3_paint_11 : decode cX3_paint 11 = .ok (.getfield 18, 3) := by decide +kernel
theorem dX3_paint_14 : decode cX3_paint 14 = .ok (.aload_n 0, 1) := by decide +kernel
theorem dX3_paint_15 : decode cX3_paint 15 = .ok (.getfield 79, 3) := by decide +kernel
theorem dX3_paint_18 : decode cX3_paint 18 = .ok (.iconst 0, 1) := by decide +kernel
theorem dX3_paint_19 : decode cX3_paint 19 = .ok (.iastore, 1) := by decide +kernel
theorem dX3_paint_20 : decode cX3_paint 20 = .ok (.iconst 0, 1) := by decide +kernel
theorem dX3_paint_21 : decode cX3_paint 21 = .ok (.istore_n 2, 1) := by decide +kernel
theorem dX3_paint_22 : decode cX3_paint 22 = .ok (.iload_n 2, 1) := by decide +kernel
theorem dX3_paint_23 : decode cX3_paint 23 = .ok (.aload_n 0, 1) := by decide +kernel
theorem dX3_paint_24 : decode cX3_paint 24 = .ok (.getfield 43, 3) := by decide +kernel
theorem dX3_paint_27 : decode cX3_paint 27 = .ok (.getfield 50, 3) := by decide +kernel
theorem dX3_paint_30 : decode cX3_paint 30 = .ok (.if_icmp .ge 100, 3) := by decide +kernel
theorem dX3_paint_33 : decode cX3_paint 33 = .ok (.aload_n 0, 1) := by decide +kernel
theorem dX3_paint_34 : decode cX3_paint 34 = .ok (.getfield 47, 3) := by decide +kernel
theorem dX3_paint_37 : decode cX3_paint 37 = .ok (.iload_n 1, 1) := by decide +kernel
theorem dX3_paint_38 : decode cX3_paint 38 = .ok (.iaload, 1) := by decide +kernel
theorem dX3_paint_39 : decode cX3_paint 39 = .ok (.aload_n 0, 1) := by decide +kernel
theorem dX3_paint_40 : decode cX3_paint 40 = .ok (.getfield 34, 3) := by decide +kernel
theorem dX3_paint_43 : decode cX3_paint 43 = .ok (.iload_n 2, 1) := by decide +kernel
theorem dX3_paint_44 : decode cX3_paint 44 = .ok (.iaload, 1) := by decide +kernel
theorem dX3_paint_45 : decode cX3_paint 45 = .ok (.iand, 1) := by decide +kernel
theorem dX3_paint_46 : decode cX3_paint 46 = .ok (.ifCond .eq 78, 3) := by decide +kernel
theorem dX3_paint_49 : decode cX3_paint 49 = .ok (.aload_n 0, 1) := by decide +kernel
theorem dX3_paint_50 : decode cX3_paint 50 = .ok (.getfield 15, 3) := by decide +kernel
theorem dX3_paint_53 : decode cX3_paint 53 = .ok (.aload_n 0, 1) := by decide +kernel
theorem dX3_paint_54 : decode cX3_paint 54 = .ok (.getfield 79, 3) := by decide +kernel
theorem dX3_paint_57 : decode cX3_paint 57 = .ok (.dup2, 1) := by decide +kernel
theorem dX3_paint_58 : decode cX3_paint 58 = .ok (.iaload, 1) := by decide +kernel
theorem dX3_paint_59 : decode cX3_paint 59 = .ok (.iconst 1, 1) := by decide +kernel
theorem dX3_paint_60 : decode cX3_paint 60 = .ok (.iload_n 2, 1) := by decide +kernel
theorem dX3_paint_61 : decode cX3_paint 61 = .ok (.ishl, 1) := by decide +kernel
theorem dX3_paint_62 : decode cX3_paint 62 = .ok (.ior, 1) := by decide +kernel
theorem dX3_paint_63 : decode cX3_paint 63 = .ok (.iastore, 1) := by decide +kernel
theorem dX3_paint_64 : decode cX3_paint 64 = .ok (.aload_n 0, 1) := by decide +kernel
theorem dX3_paint_65 : decode cX3_paint 65 = .ok (.getfield 18, 3) := by decide +kernel
theorem dX3_paint_68 : decode cX3_paint 68 = .ok (.aload_n 0, 1) := by decide +kernel
theorem dX3_paint_69 : decode cX3_paint 69 = .ok (.getfield 79, 3) := by decide +kernel
theorem dX3_paint_72 : decode cX3_paint 72 = .ok (.aload_n 0, 1) := by decide +kernel
theorem dX3_paint_73 : decode cX3_paint 73 = .ok (.getfield 18, 3) := by decide +kernel
theorem dX3_paint_76 : decode cX3_paint 76 = .ok (.aload_n 0, 1) := by decide +kernel
theorem dX3_paint_77 : decode cX3_paint 77 = .ok (.getfield 79, 3) := by decide +kernel
theorem dX3_paint_80 : decode cX3_paint 80 = .ok (.iaload, 1) := by decide +kernel
theorem dX3_paint_81 : decode cX3_paint 81 = .ok (.aload_n 0, 1) := by decide +kernel
theorem dX3_paint_82 : decode cX3_paint 82 = .ok (.getfield 43, 3) := by decide +kernel
theorem dX3_paint_85 : decode cX3_paint 85 = .ok (.getfield 56, 3) := by decide +kernel
theorem dX3_paint_88 : decode cX3_paint 88 = .ok (.iload_n 2, 1) := by decide +kernel
theorem dX3_paint_89 : decode cX3_paint 89 = .ok (.aaload, 1) := by decide +kernel
theorem dX3_paint_90 : decode cX3_paint 90 = .ok (.getfield 95, 3) := by decide +kernel
theorem dX3_paint_93 : decode cX3_paint 93 = .ok (.aload_n 0, 1) := by decide +kernel
theorem dX3_paint_94 : decode cX3_paint 94 = .ok (.getfield 31, 3) := by decide +kernel
theorem dX3_paint_97 : decode cX3_paint 97 = .ok (.iload_n 2, 1) := by decide +kernel
theorem dX3_paint_98 : decode cX3_paint 98 = .ok (.iaload, 1) := by decide +kernel
theorem dX3_paint_99 : decode cX3_paint 99 = .ok (.iaload, 1) := by decide +kernel
theorem dX3_paint_100 : decode cX3_paint 100 = .ok (.invokestatic 96, 3) := by decide +kernel
theorem dX3_paint_103 : decode cX3_paint 103 = .ok (.iastore, 1) := by decide +kernel
theorem dX3_paint_104 : decode cX3_paint 104 = .ok (.aload_n 0, 1) := by decide +kernel
theorem dX3_paint_105 : decode cX3_paint 105 = .ok (.getfield 21, 3) := by decide +kernel
theorem dX3_paint_108 : decode cX3_paint 108 = .ok (.iload_n 2, 1) := by decide +kernel
theorem dX3_paint_109 : decode cX3_paint 109 = .ok (.bipush 10, 2) := by decide +kernel
theorem dX3_paint_111 : decode cX3_paint 111 = .ok (.imul, 1) := by decide +kernel
theorem dX3_paint_112 : decode cX3_paint 112 = .ok (.aload_n 0, 1) := by decide +kernel
theorem dX3_paint_113 : decode cX3_paint 113 = .ok (.getfield 31, 3) := by decide +kernel
theorem dX3_paint_116 : decode cX3_paint 116 = .ok (.iload_n 2, 1) := by decide +kernel
theorem dX3_paint_117 : decode cX3_paint 117 = .ok (.iaload, 1) := by decide +kernel
theorem dX3_paint_118 : decode cX3_paint 118 = .ok (.iadd, 1) := by decide +kernel
theorem dX3_paint_119 : decode cX3_paint 119 = .ok (.aload_n 0, 1) := by decide +kernel
theorem dX3_paint_120 : decode cX3_paint 120 = .ok (.getfield 79, 3) := by decide +kernel
theorem dX3_paint_123 : decode cX3_paint 123 = .ok (.iastore, 1) := by decide +kernel
theorem dX3_paint_124 : decode cX3_paint 124 = .ok (.iinc 2 1, 3) := by decide +kernel
theorem dX3_paint_127 : decode cX3_paint 127 = .ok (.goto (-105), 3) := by decide +kernel
theorem dX3_paint_130 : decode cX3_paint 130 = .ok (.return_, 1) := by decide +kernel
theorem dX3_look_0 : decode cX3_look 0 = .ok (.iload_n 1, 1) := by decide +kernel
theorem dX3_look_1 : decode cX3_look 1 = .ok (.istore_n 2, 1) := by decide +kernel
theorem dX3_look_2 : decode cX3_look 2 = .ok (.iconst 0, 1) := by decide +kernel
theorem dX3_look_3 : decode cX3_look 3 = .ok (.istore_n 3, 1) := by decide +kernel
theorem dX3_look_4 : decode cX3_look 4 = .ok (.iload_n 3, 1) := by decide +kernel
theorem dX3_look_5 : decode cX3_look 5 = .ok (.aload_n 0, 1) := by decide +kernel
theorem dX3_look_6 : decode cX3_look 6 = .ok (.getfield 43, 3) := by decide +kernel
theorem dX3_look_9 : decode cX3_look 9 = .ok (.getfield 50, 3) := by decide +kernel
theorem dX3_look_12 : decode cX3_look 12 = .ok (.if_icmp .ge 86, 3) := by decide +kernel
theorem dX3_look_15 : decode cX3_look 15 = .ok (.aload_n 0, 1) := by decide +kernel
theorem dX3_look_16 : decode cX3_look 16 = .ok (.getfield 43, 3) := by decide +kernel
theorem dX3_look_19 : decode cX3_look 19 = .ok (.getfield 56, 3) := by decide +kernel
theorem dX3_look_22 : decode cX3_look 22 = .ok (.iload_n 3, 1) := by decide +kernel
theorem dX3_look_23 : decode cX3_look 23 = .ok (.aaload, 1) := by decide +kernel
theorem dX3_look_24 : decode cX3_look 24 = .ok (.astore 4, 2) := by decide +kernel
theorem dX3_look_26 : decode cX3_look 26 = .ok (.iconst 1, 1) := by decide +kernel
theorem dX3_look_27 : decode cX3_look 27 = .ok (.aload 4, 2) := by decide +kernel
theorem dX3_look_29 : decode cX3_look 29 = .ok (.getfield 60, 3) := by decide +kernel
theorem dX3_look_32 : decode cX3_look 32 = .ok (.iconst 1, 1) := by decide +kernel
theorem dX3_look_33 : decode cX3_look 33 = .ok (.iadd, 1) := by decide +kernel
theorem dX3_look_34 : decode cX3_look 34 = .ok (.invokestatic 96, 3) := by decide +kernel
theorem dX3_look_37 : decode cX3_look 37 = .ok (.istore 5, 2) := by decide +kernel
theorem dX3_look_39 : decode cX3_look 39 = .ok (.aload_n 0, 1) := by decide +kernel
theorem dX3_look_40 : decode cX3_look 40 = .ok (.getfield 31, 3) := by decide +kernel
theorem dX3_look_43 : decode cX3_look 43 = .ok (.iload_n 3, 1) := by decide +kernel
theorem dX3_look_44 : decode cX3_look 44 = .ok (.iload_n 2, 1) := by decide +kernel
theorem dX3_look_45 : decode cX3_look 45 = .ok (.iload 5, 2) := by decide +kernel
theorem dX3_look_47 : decode cX3_look 47 = .ok (.irem, 1) := by decide +kernel
theorem dX3_look_48 : decode cX3_look 48 = .ok (.iastore, 1) := by decide +kernel
theorem dX3_look_49 : decode cX3_look 49 = .ok (.iload_n 2, 1) := by decide +kernel
theorem dX3_look_50 : decode cX3_look 50 = .ok (.iload 5, 2) := by decide +kernel
theorem dX3_look_52 : decode cX3_look 52 = .ok (.idiv, 1) := by decide +kernel
theorem dX3_look_53 : decode cX3_look 53 = .ok (.istore_n 2, 1) := by decide +kernel
theorem dX3_look_54 : decode cX3_look 54 = .ok (.aload_n 0, 1) := by decide +kernel
theorem dX3_look_55 : decode cX3_look 55 = .ok (.getfield 34, 3) := by decide +kernel
theorem dX3_look_58 : decode cX3_look 58 = .ok (.iload_n 3, 1) := by decide +kernel
theorem dX3_look_59 : decode cX3_look 59 = .ok (.aload_n 0, 1) := by decide +kernel
theorem dX3_look_60 : decode cX3_look 60 = .ok (.getfield 31, 3) := by decide +kernel
theorem dX3_look_63 : decode cX3_look 63 = .ok (.iload_n 3, 1) := by decide +kernel
theorem dX3_look_64 : decode cX3_look 64 = .ok (.iaload, 1) := by decide +kernel
theorem dX3_look_65 : decode cX3_look 65 = .ok (.aload 4, 2) := by decide +kernel
theorem dX3_look_67 : decode cX3_look 67 = .ok (.getfield 60, 3) := by decide +kernel
theorem dX3_look_70 : decode cX3_look 70 = .ok (.if_icmp .ge 20, 3) := by decide +kernel
theorem dX3_look_73 : decode cX3_look 73 = .ok (.iconst 1, 1) := by decide +kernel
theorem dX3_look_74 : decode cX3_look 74 = .ok (.aload 4, 2) := by decide +kernel
theorem dX3_look_76 : decode cX3_look 76 = .ok (.getfield 87, 3) := by decide +kernel
theorem dX3_look_79 : decode cX3_look 79 = .ok (.aload_n 0, 1) := by decide +kernel
theorem dX3_look_80 : decode cX3_look 80 = .ok (.getfield 31, 3) := by decide +kernel
theorem dX3_look_83 : decode cX3_look 83 = .ok (.iload_n 3, 1) := by decide +kernel
theorem dX3_look_84 : decode cX3_look 84 = .ok (.iaload, 1) := by decide +kernel
theorem dX3_look_85 : decode cX3_look 85 = .ok (.iaload, 1) := by decide +kernel
theorem dX3_look_86 : decode cX3_look 86 = .ok (.ishl, 1) := by decide +kernel
theorem dX3_look_87 : decode cX3_look 87 = .ok (.goto 4, 3) := by decide +kernel
theorem dX3_look_90 : decode cX3_look 90 = .ok (.iconst 0, 1) := by decide +kernel
theorem dX3_look_91 : decode cX3_look 91 = .ok (.iastore, 1) := by decide +kernel
theorem dX3_look_92 : decode cX3_look 92 = .ok (.iinc 3 1, 3) := by decide +kernel
theorem dX3_look_95 : decode cX3_look 95 = .ok (.goto (-91), 3) := by decide +kernel
theorem dX3_look_98 : decode cX3_look 98 = .ok (.return_, 1) := by decide +kernel
theorem dX3_strideOf_0 : decode cX3_strideOf 0 = .ok (.iconst 0, 1) := by decide +kernel
theorem dX3_strideOf_1 : decode cX3_strideOf 1 = .ok (.istore_n 3, 1) := by decide +kernel
theorem dX3_strideOf_2 : decode cX3_strideOf 2 = .ok (.iload_n 2, 1) := by decide +kernel
theorem dX3_strideOf_3 : decode cX3_strideOf 3 = .ok (.istore 4, 2) := by decide +kernel
theorem dX3_strideOf_5 : decode cX3_strideOf 5 = .ok (.iload 4, 2) := by decide +kernel
theorem dX3_strideOf_7 : decode cX3_strideOf 7 = .ok (.aload_n 0, 1) := by decide +kernel
theorem dX3_strideOf_8 : decode cX3_strideOf 8 = .ok (.getfield 43, 3) := by decide +kernel
theorem dX3_strideOf_11 : decode cX3_strideOf 11 = .ok (.getfield 50, 3) := by decide +kernel
theorem dX3_strideOf_14 : decode cX3_strideOf 14 = .ok (.if_icmp .ge 36, 3) := by decide +kernel
theorem dX3_strideOf_17 : decode cX3_strideOf 17 = .ok (.aload_n 0, 1) := by decide +kernel
theorem dX3_strideOf_18 : decode cX3_strideOf 18 = .ok (.getfield 47, 3) := by decide +kernel
theorem dX3_strideOf_21 : decode cX3_strideOf 21 = .ok (.iload_n 1, 1) := by decide +kernel
theorem dX3_strideOf_22 : decode cX3_strideOf 22 = .ok (.iaload, 1) := by decide +kernel
theorem dX3_strideOf_23 : decode cX3_strideOf 23 = .ok (.aload_n 0, 1) := by decide +kernel
theorem dX3_strideOf_24 : decode cX3_strideOf 24 = .ok (.getfield 34, 3) := by decide +kernel
theorem dX3_strideOf_27 : decode cX3_strideOf 27 = .ok (.iload 4, 2) := by decide +kernel
theorem dX3_strideOf_29 : decode cX3_strideOf 29 = .ok (.iaload, 1) := by decide +kernel
theorem dX3_strideOf_30 : decode cX3_strideOf 30 = .ok (.iand, 1) := by decide +kernel
theorem dX3_strideOf_31 : decode cX3_strideOf 31 = .ok (.ifCond .eq 13, 3) := by decide +kernel
theorem dX3_strideOf_34 : decode cX3_strideOf 34 = .ok (.iload_n 3, 1) := by decide +kernel
theorem dX3_strideOf_35 : decode cX3_strideOf 35 = .ok (.aload_n 0, 1) := by decide +kernel
theorem dX3_strideOf_36 : decode cX3_strideOf 36 = .ok (.getfield 28, 3) := by decide +kernel
theorem dX3_strideOf_39 : decode cX3_strideOf 39 = .ok (.iload 4, 2) := by decide +kernel
theorem dX3_strideOf_41 : decode cX3_strideOf 41 = .ok (.iaload, 1) := by decide +kernel
theorem dX3_strideOf_42 : decode cX3_strideOf 42 = .ok (.iadd, 1) := by decide +kernel
theorem dX3_strideOf_43 : decode cX3_strideOf 43 = .ok (.istore_n 3, 1) := by decide +kernel
theorem dX3_strideOf_44 : decode cX3_strideOf 44 = .ok (.iinc 4 1, 3) := by decide +kernel
theorem dX3_strideOf_47 : decode cX3_strideOf 47 = .ok (.goto (-42), 3) := by decide +kernel
theorem dX3_strideOf_50 : decode cX3_strideOf 50 = .ok (.iload_n 3, 1) := by decide +kernel
theorem dX3_strideOf_51 : decode cX3_strideOf 51 = .ok (.ireturn, 1) := by decide +kernel
theorem dX4_init_0 : decode cX4_init 0 = .ok (.aload_n 0, 1) := by decide +kernel
theorem dX4_init_1 : decode cX4_init 1 = .ok (.invokespecial 3, 3) := by decide +kernel
theorem dX4_init_4 : decode cX4_init 4 = .ok (.aload_n 0, 1) := by decide +kernel
theorem dX4_init_5 : decode cX4_init 5 = .ok (.iconst 4, 1) := by decide +kernel
theorem dX4_init_6 : decode cX4_init 6 = .ok (.anewarray 9, 3) := by decide +kernel
theorem dX4_init_9 : decode cX4_init 9 = .ok (.putfield 11, 3) := by decide +kernel
theorem dX4_init_12 : decode cX4_init 12 = .ok (.iconst 0, 1) := by decide +kernel
theorem dX4_init_13 : decode cX4_init 13 = .ok (.istore_n 1, 1) := by decide +kernel
theorem dX4_init_14 : decode cX4_init 14 = .ok (.iload_n 1, 1) := by decide +kernel
theorem dX4_init_15 : decode cX4_init 15 = .ok (.iconst 4, 1) := by decide +kernel
theorem dX4_init_16 : decode cX4_init 16 = .ok (.if_icmp .ge 22, 3) := by decide +kernel
theorem dX4_init_19 : decode cX4_init 19 = .ok (.aload_n 0, 1) := by decide +kernel
theorem dX4_init_20 : decode cX4_init 20 = .ok (.getfield 11, 3) := by decide +kernel
theorem dX4_init_23 : decode cX4_init 23 = .ok (.iload_n 1, 1) := by decide +kernel
theorem dX4_init_24 : decode cX4_init 24 = .ok (.new 9, 3) := by decide +kernel
theorem dX4_init_27 : decode cX4_init 27 = .ok (.dup, 1) := by decide +kernel
theorem dX4_init_28 : decode cX4_init 28 = .ok (.invokespecial 17, 3) := by decide +kernel
theorem dX4_init_31 : decode cX4_init 31 = .ok (.aastore, 1) := by decide +kernel
theorem dX4_init_32 : decode cX4_init 32 = .ok (.iinc 1 1, 3) := by decide +kernel
theorem dX4_init_35 : decode cX4_init 35 = .ok (.goto (-21), 3) := by decide +kernel
theorem dX4_init_38 : decode cX4_init 38 = .ok (.return_, 1) := by decide +kernel
theorem dX4_takeOut_0 : decode cX4_takeOut 0 = .ok (.aload_n 0, 1) := by decide +kernel
theorem dX4_takeOut_1 : decode cX4_takeOut 1 = .ok (.getfield 11, 3) := by decide +kernel
theorem dX4_takeOut_4 : decode cX4_takeOut 4 = .ok (.iload_n 1, 1) := by decide +kernel
theorem dX4_takeOut_5 : decode cX4_takeOut 5 = .ok (.aaload, 1) := by decide +kernel
theorem dX4_takeOut_6 : decode cX4_takeOut 6 = .ok (.astore_n 2, 1) := by decide +kernel
theorem dX4_takeOut_7 : decode cX4_takeOut 7 = .ok (.iload_n 1, 1) := by decide +kernel
theorem dX4_takeOut_8 : decode cX4_takeOut 8 = .ok (.istore_n 3, 1) := by decide +kernel
theorem dX4_takeOut_9 : decode cX4_takeOut 9 = .ok (.iload_n 3, 1) := by decide +kernel
theorem dX4_takeOut_10 : decode cX4_takeOut 10 = .ok (.iconst 1, 1) := by decide +kernel
theorem dX4_takeOut_11 : decode cX4_takeOut 11 = .ok (.iadd, 1) := by decide +kernel
theorem dX4_takeOut_12 : decode cX4_takeOut 12 = .ok (.aload_n 0, 1) := by decide +kernel
theorem dX4_takeOut_13 : decode cX4_takeOut 13 = .ok (.getfield 18, 3) := by decide +kernel
theorem dX4_takeOut_16 : decode cX4_takeOut 16 = .ok (.if_icmp .ge 23, 3) := by decide +kernel
theorem dX4_takeOut_19 : decode cX4_takeOut 19 = .ok (.aload_n 0, 1) := by decide +kernel
theorem dX4_takeOut_20 : decode cX4_takeOut 20 = .ok (.getfield 11, 3) := by decide +kernel
theorem dX4_takeOut_23 : decode cX4_takeOut 23 = .ok (.iload_n 3, 1) := by decide +kernel
theorem dX4_takeOut_24 : decode cX4_takeOut 24 = .ok (.aload_n 0, 1) := by decide +kernel
theorem dX4_takeOut_25 : decode cX4_takeOut 25 = .ok (.getfield 11, 3) := by decide +kernel
theorem dX4_takeOut_28 : decode cX4_takeOut 28 = .ok (.iload_n 3, 1) := by decide +kernel
theorem dX4_takeOut_29 : decode cX4_takeOut 29 = .ok (.iconst 1, 1) := by decide +kernel
theorem dX4_takeOut_30 : decode cX4_takeOut 30 = .ok (.iadd, 1) := by decide +kernel
theorem dX4_takeOut_31 : decode cX4_takeOut 31 = .ok (.aaload, 1) := by decide +kernel
theorem dX4_takeOut_32 : decode cX4_takeOut 32 = .ok (.aastore, 1) := by decide +kernel
theorem dX4_takeOut_33 : decode cX4_takeOut 33 = .ok (.iinc 3 1, 3) := by decide +kernel
theorem dX4_takeOut_36 : decode cX4_takeOut 36 = .ok (.goto (-27), 3) := by decide +kernel
theorem dX4_takeOut_39 : decode cX4_takeOut 39 = .ok (.aload_n 0, 1) := by decide +kernel
theorem dX4_takeOut_40 : decode cX4_takeOut 40 = .ok (.dup, 1) := by decide +kernel
theorem dX4_takeOut_41 : decode cX4_takeOut 41 = .ok (.getfield 18, 3) := by decide +kernel
theorem dX4_takeOut_44 : decode cX4_takeOut 44 = .ok (.iconst 1, 1) := by decide +kernel
theorem dX4_takeOut_45 : decode cX4_takeOut 45 = .ok (.isub, 1) := by decide +kernel
theorem dX4_takeOut_46 : decode cX4_takeOut 46 = .ok (.putfield 18, 3) := by decide +kernel
theorem dX4_takeOut_49 : decode cX4_takeOut 49 = .ok (.aload_n 0, 1) := by decide +kernel
theorem dX4_takeOut_50 : decode cX4_takeOut 50 = .ok (.getfield 11, 3) := by decide +kernel
theorem dX4_takeOut_53 : decode cX4_takeOut 53 = .ok (.aload_n 0, 1) := by decide +kernel
theorem dX4_takeOut_54 : decode cX4_takeOut 54 = .ok (.getfield 18, 3) := by decide +kernel
theorem dX4_takeOut_57 : decode cX4_takeOut 57 = .ok (.aload_n 2, 1) := by decide +kernel
theorem dX4_takeOut_58 : decode cX4_takeOut 58 = .ok (.aastore, 1) := by decide +kernel
theorem dX4_takeOut_59 : decode cX4_takeOut 59 = .ok (.return_, 1) := by decide +kernel
theorem dX4_copy_0 : decode cX4_copy 0 = .ok (.aload_n 0, 1) := by decide +kernel
theorem dX4_copy_1 : decode cX4_copy 1 = .ok (.aload_n 1, 1) := by decide +kernel
theorem dX4_copy_2 : decode cX4_copy 2 = .ok (.getfield 18, 3) := by decide +kernel
theorem dX4_copy_5 : decode cX4_copy 5 = .ok (.putfield 18, 3) := by decide +kernel
theorem dX4_copy_8 : decode cX4_copy 8 = .ok (.iconst 0, 1) := by decide +kernel
theorem dX4_copy_9 : decode cX4_copy 9 = .ok (.istore_n 2, 1) := by decide +kernel
theorem dX4_copy_10 : decode cX4_copy 10 = .ok (.iload_n 2, 1) := by decide +kernel
theorem dX4_copy_11 : decode cX4_copy 11 = .ok (.aload_n 0, 1) := by decide +kernel
theorem dX4_copy_12 : decode cX4_copy 12 = .ok (.getfield 18, 3) := by decide +kernel
theorem dX4_copy_15 : decode cX4_copy 15 = .ok (.if_icmp .ge 24, 3) := by decide +kernel
theorem dX4_copy_18 : decode cX4_copy 18 = .ok (.aload_n 0, 1) := by decide +kernel
theorem dX4_copy_19 : decode cX4_copy 19 = .ok (.getfield 11, 3) := by decide +kernel
theorem dX4_copy_22 : decode cX4_copy 22 = .ok (.iload_n 2, 1) := by decide +kernel
theorem dX4_copy_23 : decode cX4_copy 23 = .ok (.aaload, 1) := by decide +kernel
theorem dX4_copy_24 : decode cX4_copy 24 = .ok (.aload_n 1, 1) := by decide +kernel
theorem dX4_copy_25 : decode cX4_copy 25 = .ok (.getfield 11, 3) := by decide +kernel
theorem dX4_copy_28 : decode cX4_copy 28 = .ok (.iload_n 2, 1) := by decide +kernel
theorem dX4_copy_29 : decode cX4_copy 29 = .ok (.aaload, 1) := by decide +kernel
theorem dX4_copy_30 : decode cX4_copy 30 = .ok (.invokevirtual 22, 3) := by decide +kernel
theorem dX4_copy_33 : decode cX4_copy 33 = .ok (.iinc 2 1, 3) := by decide +kernel
theorem dX4_copy_36 : decode cX4_copy 36 = .ok (.goto (-26), 3) := by decide +kernel
theorem dX4_copy_39 : decode cX4_copy 39 = .ok (.return_, 1) := by decide +kernel
theorem dX4_coats_0 : decode cX4_coats 0 = .ok (.iconst 0, 1) := by decide +kernel
theorem dX4_coats_1 : decode cX4_coats 1 = .ok (.istore_n 1, 1) := by decide +kernel
theorem dX4_coats_2 : decode cX4_coats 2 = .ok (.iconst 0, 1) := by decide +kernel
theorem dX4_coats_3 : decode cX4_coats 3 = .ok (.istore_n 2, 1) := by decide +kernel
theorem dX4_coats_4 : decode cX4_coats 4 = .ok (.iload_n 2, 1) := by decide +kernel
theorem dX4_coats_5 : decode cX4_coats 5 = .ok (.aload_n 0, 1) := by decide +kernel
theorem dX4_coats_6 : decode cX4_coats 6 = .ok (.getfield 18, 3) := by decide +kernel
theorem dX4_coats_9 : decode cX4_coats 9 = .ok (.if_icmp .ge 21, 3) := by decide +kernel
theorem dX4_coats_12 : decode cX4_coats 12 = .ok (.iload_n 1, 1) := by decide +kernel
theorem dX4_coats_13 : decode cX4_coats 13 = .ok (.aload_n 0, 1) := by decide +kernel
theorem dX4_coats_14 : decode cX4_coats 14 = .ok (.getfield 11, 3) := by decide +kernel
theorem dX4_coats_17 : decode cX4_coats 17 = .ok (.iload_n 2, 1) := by decide +kernel
theorem dX4_coats_18 : decode cX4_coats 18 = .ok (.aaload, 1) := by decide +kernel
theorem dX4_coats_19 : decode cX4_coats 19 = .ok (.getfield 26, 3) := by decide +kernel
theorem dX4_coats_22 : decode cX4_coats 22 = .ok (.iadd, 1) := by decide +kernel
theorem dX4_coats_23 : decode cX4_coats 23 = .ok (.istore_n 1, 1) := by decide +kernel
theorem dX4_coats_24 : decode cX4_coats 24 = .ok (.iinc 2 1, 3) := by decide +kernel
theorem dX4_coats_27 : decode cX4_coats 27 = .ok (.goto (-23), 3) := by decide +kernel
theorem dX4_coats_30 : decode cX4_coats 30 = .ok (.iload_n 1, 1) := by decide +kernel
theorem dX4_coats_31 : decode cX4_coats 31 = .ok (.ireturn, 1) := by decide +kernel
theorem dX4_inRoom_0 : decode cX4_inRoom 0 = .ok (.iconst 0, 1) := by decide +kernel
theorem dX4_inRoom_1 : decode cX4_inRoom 1 = .ok (.istore_n 2, 1) := by decide +kernel
theorem dX4_inRoom_2 : decode cX4_inRoom 2 = .ok (.iconst 0, 1) := by decide +kernel
theorem dX4_inRoom_3 : decode cX4_inRoom 3 = .ok (.istore_n 3, 1) := by decide +kernel
theorem dX4_inRoom_4 : decode cX4_inRoom 4 = .ok (.iload_n 3, 1) := by decide +kernel
theorem dX4_inRoom_5 : decode cX4_inRoom 5 = .ok (.aload_n 0, 1) := by decide +kernel
theorem dX4_inRoom_6 : decode cX4_inRoom 6 = .ok (.getfield 18, 3) := by decide +kernel
theorem dX4_inRoom_9 : decode cX4_inRoom 9 = .ok (.if_icmp .ge 28, 3) := by decide +kernel
theorem dX4_inRoom_12 : decode cX4_inRoom 12 = .ok (.aload_n 0, 1) := by decide +kernel
theorem dX4_inRoom_13 : decode cX4_inRoom 13 = .ok (.getfield 11, 3) := by decide +kernel
end
section
theorem dX4_inRoom_16 : decode cX4_inRoom 16 = .ok (.iload_n 3, 1) := by decide +kernel
theorem dX4_inRoom_17 : decode cX4_inRoom 17 = .ok (.aaload, 1) := by decide +kernel
theorem dX4_inRoom_18 : decode cX4_inRoom 18 = .ok (.getfield 29, 3) := by decide +kernel
theorem dX4_inRoom_21 : decode cX4_inRoom 21 = .ok (.iload_n 1, 1) := by decide +kernel
theorem dX4_inRoom_22 : decode cX4_inRoom 22 = .ok (.if_icmp .ne 9, 3) := by decide +kernel
theorem dX4_inRoom_25 : decode cX4_inRoom 25 = .ok (.iload_n 2, 1) := by decide +kernel
theorem dX4_inRoom_26 : decode cX4_inRoom 26 = .ok (.iconst 1, 1) := by decide +kernel
theorem dX4_inRoom_27 : decode cX4_inRoom 27 = .ok (.iload_n 3, 1) := by decide +kernel
theorem dX4_inRoom_28 : decode cX4_inRoom 28 = .ok (.ishl, 1) := by decide +kernel
theorem dX4_inRoom_29 : decode cX4_inRoom 29 = .ok (.ior, 1) := by decide +kernel
theorem dX4_inRoom_30 : decode cX4_inRoom 30 = .ok (.istore_n 2, 1) := by decide +kernel
theorem dX4_inRoom_31 : decode cX4_inRoom 31 = .ok (.iinc 3 1, 3) := by decide +kernel
theorem dX4_inRoom_34 : decode cX4_inRoom 34 = .ok (.goto (-30), 3) := by decide +kernel
theorem dX4_inRoom_37 : decode cX4_inRoom 37 = .ok (.iload_n 2, 1) := by decide +kernel
theorem dX4_inRoom_38 : decode cX4_inRoom 38 = .ok (.ireturn, 1) := by decide +kernel
theorem dX5_init_0 : decode cX5_init 0 = .ok (.aload_n 0, 1) := by decide +kernel
theorem dX5_init_1 : decode cX5_init 1 = .ok (.invokespecial 3, 3) := by decide +kernel
theorem dX5_init_4 : decode cX5_init 4 = .ok (.aload_n 0, 1) := by decide +kernel
theorem dX5_init_5 : decode cX5_init 5 = .ok (.sipush 400, 3) := by decide +kernel
theorem dX5_init_8 : decode cX5_init 8 = .ok (.newarray .byte, 2) := by decide +kernel
theorem dX5_init_10 : decode cX5_init 10 = .ok (.putfield 9, 3) := by decide +kernel
theorem dX5_init_13 : decode cX5_init 13 = .ok (.aload_n 0, 1) := by decide +kernel
theorem dX5_init_14 : decode cX5_init 14 = .ok (.sipush 401, 3) := by decide +kernel
theorem dX5_init_17 : decode cX5_init 17 = .ok (.newarray .int, 2) := by decide +kernel
theorem dX5_init_19 : decode cX5_init 19 = .ok (.putfield 15, 3) := by decide +kernel
theorem dX5_init_22 : decode cX5_init 22 = .ok (.aload_n 0, 1) := by decide +kernel
theorem dX5_init_23 : decode cX5_init 23 = .ok (.sipush 401, 3) := by decide +kernel
theorem dX5_init_26 : decode cX5_init 26 = .ok (.newarray .int, 2) := by decide +kernel
theorem dX5_init_28 : decode cX5_init 28 = .ok (.putfield 19, 3) := by decide +kernel
theorem dX5_init_31 : decode cX5_init 31 = .ok (.aload_n 0, 1) := by decide +kernel
theorem dX5_init_32 : decode cX5_init 32 = .ok (.sipush 401, 3) := by decide +kernel
theorem dX5_init_35 : decode cX5_init 35 = .ok (.newarray .int, 2) := by decide +kernel
theorem dX5_init_37 : decode cX5_init 37 = .ok (.putfield 22, 3) := by decide +kernel
theorem dX5_init_40 : decode cX5_init 40 = .ok (.return_, 1) := by decide +kernel
theorem dX5_add_0 : decode cX5_add 0 = .ok (.iload_n 3, 1) := by decide +kernel
theorem dX5_add_1 : decode cX5_add 1 = .ok (.sipush 400, 3) := by decide +kernel
theorem dX5_add_4 : decode cX5_add 4 = .ok (.aload_n 0, 1) := by decide +kernel
theorem dX5_add_5 : decode cX5_add 5 = .ok (.getfield 25, 3) := by decide +kernel
theorem dX5_add_8 : decode cX5_add 8 = .ok (.isub, 1) := by decide +kernel
theorem dX5_add_9 : decode cX5_add 9 = .ok (.if_icmp .le 5, 3) := by decide +kernel
theorem dX5_add_12 : decode cX5_add 12 = .ok (.iconst 0, 1) := by decide +kernel
theorem dX5_add_13 : decode cX5_add 13 = .ok (.ireturn, 1) := by decide +kernel
theorem dX5_add_14 : decode cX5_add 14 = .ok (.iload_n 3, 1) := by decide +kernel
theorem dX5_add_15 : decode cX5_add 15 = .ok (.iconst 1, 1) := by decide +kernel
theorem dX5_add_16 : decode cX5_add 16 = .ok (.isub, 1) := by decide +kernel
theorem dX5_add_17 : decode cX5_add 17 = .ok (.istore 4, 2) := by decide +kernel
theorem dX5_add_19 : decode cX5_add 19 = .ok (.iload 4, 2) := by decide +kernel
theorem dX5_add_21 : decode cX5_add 21 = .ok (.ifCond .lt 37, 3) := by decide +kernel
theorem dX5_add_24 : decode cX5_add 24 = .ok (.aload_n 0, 1) := by decide +kernel
theorem dX5_add_25 : decode cX5_add 25 = .ok (.getfield 9, 3) := by decide +kernel
theorem dX5_add_28 : decode cX5_add 28 = .ok (.aload_n 0, 1) := by decide +kernel
theorem dX5_add_29 : decode cX5_add 29 = .ok (.getfield 25, 3) := by decide +kernel
theorem dX5_add_32 : decode cX5_add 32 = .ok (.lload_n 1, 1) := by decide +kernel
theorem dX5_add_33 : decode cX5_add 33 = .ok (.bipush 8, 2) := by decide +kernel
theorem dX5_add_35 : decode cX5_add 35 = .ok (.iload 4, 2) := by decide +kernel
theorem dX5_add_37 : decode cX5_add 37 = .ok (.imul, 1) := by decide +kernel
theorem dX5_add_38 : decode cX5_add 38 = .ok (.lushr, 1) := by decide +kernel
theorem dX5_add_39 : decode cX5_add 39 = .ok (.l2i, 1) := by decide +kernel
theorem dX5_add_40 : decode cX5_add 40 = .ok (.i2b, 1) := by decide +kernel
theorem dX5_add_41 : decode cX5_add 41 = .ok (.bastore, 1) := by decide +kernel
theorem dX5_add_42 : decode cX5_add 42 = .ok (.aload_n 0, 1) := by decide +kernel
theorem dX5_add_43 : decode cX5_add 43 = .ok (.dup, 1) := by decide +kernel
theorem dX5_add_44 : decode cX5_add 44 = .ok (.getfield 25, 3) := by decide +kernel
theorem dX5_add_47 : decode cX5_add 47 = .ok (.iconst 1, 1) := by decide +kernel
theorem dX5_add_48 : decode cX5_add 48 = .ok (.iadd, 1) := by decide +kernel
theorem dX5_add_49 : decode cX5_add 49 = .ok (.putfield 25, 3) := by decide +kernel
theorem dX5_add_52 : decode cX5_add 52 = .ok (.iinc 4 (-1), 3) := by decide +kernel
theorem dX5_add_55 : decode cX5_add 55 = .ok (.goto (-36), 3) := by decide +kernel
theorem dX5_add_58 : decode cX5_add 58 = .ok (.iconst 1, 1) := by decide +kernel
theorem dX5_add_59 : decode cX5_add 59 = .ok (.ireturn, 1) := by decide +kernel
theorem dX5_split_0 : decode cX5_split 0 = .ok (.aload_n 0, 1) := by decide +kernel
theorem dX5_split_1 : decode cX5_split 1 = .ok (.iconst 0, 1) := by decide +kernel
theorem dX5_split_2 : decode cX5_split 2 = .ok (.putfield 29, 3) := by decide +kernel
theorem dX5_split_5 : decode cX5_split 5 = .ok (.aload_n 0, 1) := by decide +kernel
theorem dX5_split_6 : decode cX5_split 6 = .ok (.iconst 0, 1) := by decide +kernel
theorem dX5_split_7 : decode cX5_split 7 = .ok (.putfield 32, 3) := by decide +kernel
theorem dX5_split_10 : decode cX5_split 10 = .ok (.iconst 0, 1) := by decide +kernel
theorem dX5_split_11 : decode cX5_split 11 = .ok (.istore_n 1, 1) := by decide +kernel
theorem dX5_split_12 : decode cX5_split 12 = .ok (.iload_n 1, 1) := by decide +kernel
theorem dX5_split_13 : decode cX5_split 13 = .ok (.aload_n 0, 1) := by decide +kernel
theorem dX5_split_14 : decode cX5_split 14 = .ok (.getfield 25, 3) := by decide +kernel
theorem dX5_split_17 : decode cX5_split 17 = .ok (.if_icmp .ge 42, 3) := by decide +kernel
theorem dX5_split_20 : decode cX5_split 20 = .ok (.aload_n 0, 1) := by decide +kernel
theorem dX5_split_21 : decode cX5_split 21 = .ok (.iload_n 1, 1) := by decide +kernel
theorem dX5_split_22 : decode cX5_split 22 = .ok (.invokevirtual 35, 3) := by decide +kernel
theorem dX5_split_25 : decode cX5_split 25 = .ok (.ifCond .eq 28, 3) := by decide +kernel
theorem dX5_split_28 : decode cX5_split 28 = .ok (.aload_n 0, 1) := by decide +kernel
theorem dX5_split_29 : decode cX5_split 29 = .ok (.getfield 22, 3) := by decide +kernel
theorem dX5_split_32 : decode cX5_split 32 = .ok (.aload_n 0, 1) := by decide +kernel
theorem dX5_split_33 : decode cX5_split 33 = .ok (.getfield 29, 3) := by decide +kernel
theorem dX5_split_36 : decode cX5_split 36 = .ok (.iload_n 1, 1) := by decide +kernel
theorem dX5_split_37 : decode cX5_split 37 = .ok (.iastore, 1) := by decide +kernel
theorem dX5_split_38 : decode cX5_split 38 = .ok (.aload_n 0, 1) := by decide +kernel
theorem dX5_split_39 : decode cX5_split 39 = .ok (.iload_n 1, 1) := by decide +kernel
theorem dX5_split_40 : decode cX5_split 40 = .ok (.invokevirtual 39, 3) := by decide +kernel
theorem dX5_split_43 : decode cX5_split 43 = .ok (.aload_n 0, 1) := by decide +kernel
theorem dX5_split_44 : decode cX5_split 44 = .ok (.dup, 1) := by decide +kernel
theorem dX5_split_45 : decode cX5_split 45 = .ok (.getfield 29, 3) := by decide +kernel
theorem dX5_split_48 : decode cX5_split 48 = .ok (.iconst 1, 1) := by decide +kernel
theorem dX5_split_49 : decode cX5_split 49 = .ok (.iadd, 1) := by decide +kernel
theorem dX5_split_50 : decode cX5_split 50 = .ok (.putfield 29, 3) := by decide +kernel
theorem dX5_split_53 : decode cX5_split 53 = .ok (.iinc 1 1, 3) := by decide +kernel
theorem dX5_split_56 : decode cX5_split 56 = .ok (.goto (-44), 3) := by decide +kernel
theorem dX5_split_59 : decode cX5_split 59 = .ok (.aload_n 0, 1) := by decide +kernel
theorem dX5_split_60 : decode cX5_split 60 = .ok (.getfield 15, 3) := by decide +kernel
theorem dX5_split_63 : decode cX5_split 63 = .ok (.aload_n 0, 1) := by decide +kernel
theorem dX5_split_64 : decode cX5_split 64 = .ok (.getfield 29, 3) := by decide +kernel
theorem dX5_split_67 : decode cX5_split 67 = .ok (.iconst 0, 1) := by decide +kernel
theorem dX5_split_68 : decode cX5_split 68 = .ok (.iastore, 1) := by decide +kernel
theorem dX5_split_69 : decode cX5_split 69 = .ok (.aload_n 0, 1) := by decide +kernel
theorem dX5_split_70 : decode cX5_split 70 = .ok (.getfield 22, 3) := by decide +kernel
theorem dX5_split_73 : decode cX5_split 73 = .ok (.aload_n 0, 1) := by decide +kernel
theorem dX5_split_74 : decode cX5_split 74 = .ok (.getfield 29, 3) := by decide +kernel
theorem dX5_split_77 : decode cX5_split 77 = .ok (.aload_n 0, 1) := by decide +kernel
theorem dX5_split_78 : decode cX5_split 78 = .ok (.getfield 25, 3) := by decide +kernel
theorem dX5_split_81 : decode cX5_split 81 = .ok (.iastore, 1) := by decide +kernel
theorem dX5_split_82 : decode cX5_split 82 = .ok (.return_, 1) := by decide +kernel
theorem dX5_isAt_0 : decode cX5_isAt 0 = .ok (.aload_n 0, 1) := by decide +kernel
theorem dX5_isAt_1 : decode cX5_isAt 1 = .ok (.getfield 15, 3) := by decide +kernel
theorem dX5_isAt_4 : decode cX5_isAt 4 = .ok (.aload_n 0, 1) := by decide +kernel
theorem dX5_isAt_5 : decode cX5_isAt 5 = .ok (.getfield 32, 3) := by decide +kernel
theorem dX5_isAt_8 : decode cX5_isAt 8 = .ok (.iaload, 1) := by decide +kernel
theorem dX5_isAt_9 : decode cX5_isAt 9 = .ok (.iload_n 1, 1) := by decide +kernel
theorem dX5_isAt_10 : decode cX5_isAt 10 = .ok (.if_icmp .ne 7, 3) := by decide +kernel
theorem dX5_isAt_13 : decode cX5_isAt 13 = .ok (.iconst 1, 1) := by decide +kernel
theorem dX5_isAt_14 : decode cX5_isAt 14 = .ok (.goto 4, 3) := by decide +kernel
theorem dX5_isAt_17 : decode cX5_isAt 17 = .ok (.iconst 0, 1) := by decide +kernel
theorem dX5_isAt_18 : decode cX5_isAt 18 = .ok (.ireturn, 1) := by decide +kernel
theorem dX5_fault_0 : decode cX5_fault 0 = .ok (.aload_n 0, 1) := by decide +kernel
theorem dX5_fault_1 : decode cX5_fault 1 = .ok (.getfield 22, 3) := by decide +kernel
theorem dX5_fault_4 : decode cX5_fault 4 = .ok (.aload_n 0, 1) := by decide +kernel
theorem dX5_fault_5 : decode cX5_fault 5 = .ok (.getfield 32, 3) := by decide +kernel
theorem dX5_fault_8 : decode cX5_fault 8 = .ok (.iaload, 1) := by decide +kernel
theorem dX5_fault_9 : decode cX5_fault 9 = .ok (.ireturn, 1) := by decide +kernel
theorem dX5_take_0 : decode cX5_take 0 = .ok (.aload_n 0, 1) := by decide +kernel
theorem dX5_take_1 : decode cX5_take 1 = .ok (.getfield 15, 3) := by decide +kernel
theorem dX5_take_4 : decode cX5_take 4 = .ok (.aload_n 0, 1) := by decide +kernel
theorem dX5_take_5 : decode cX5_take 5 = .ok (.getfield 32, 3) := by decide +kernel
theorem dX5_take_8 : decode cX5_take 8 = .ok (.iaload, 1) := by decide +kernel
theorem dX5_take_9 : decode cX5_take 9 = .ok (.iload_n 1, 1) := by decide +kernel
theorem dX5_take_10 : decode cX5_take 10 = .ok (.if_icmp .ne 14, 3) := by decide +kernel
theorem dX5_take_13 : decode cX5_take 13 = .ok (.aload_n 0, 1) := by decide +kernel
theorem dX5_take_14 : decode cX5_take 14 = .ok (.getfield 32, 3) := by decide +kernel
theorem dX5_take_17 : decode cX5_take 17 = .ok (.aload_n 0, 1) := by decide +kernel
theorem dX5_take_18 : decode cX5_take 18 = .ok (.getfield 29, 3) := by decide +kernel
theorem dX5_take_21 : decode cX5_take 21 = .ok (.if_icmp .lt 5, 3) := by decide +kernel
theorem dX5_take_24 : decode cX5_take 24 = .ok (.iconst 0, 1) := by decide +kernel
theorem dX5_take_25 : decode cX5_take 25 = .ok (.ireturn, 1) := by decide +kernel
theorem dX5_take_26 : decode cX5_take 26 = .ok (.aload_n 0, 1) := by decide +kernel
theorem dX5_take_27 : decode cX5_take 27 = .ok (.aload_n 0, 1) := by decide +kernel
theorem dX5_take_28 : decode cX5_take 28 = .ok (.getfield 19, 3) := by decide +kernel
theorem dX5_take_31 : decode cX5_take 31 = .ok (.aload_n 0, 1) := by decide +kernel
theorem dX5_take_32 : decode cX5_take 32 = .ok (.getfield 32, 3) := by decide +kernel
theorem dX5_take_35 : decode cX5_take 35 = .ok (.iaload, 1) := by decide +kernel
theorem dX5_take_36 : decode cX5_take 36 = .ok (.putfield 43, 3) := by decide +kernel
theorem dX5_take_39 : decode cX5_take 39 = .ok (.aload_n 0, 1) := by decide +kernel
theorem dX5_take_40 : decode cX5_take 40 = .ok (.dup, 1) := by decide +kernel
theorem dX5_take_41 : decode cX5_take 41 = .ok (.getfield 32, 3) := by decide +kernel
theorem dX5_take_44 : decode cX5_take 44 = .ok (.iconst 1, 1) := by decide +kernel
theorem dX5_take_45 : decode cX5_take 45 = .ok (.iadd, 1) := by decide +kernel
theorem dX5_take_46 : decode cX5_take 46 = .ok (.putfield 32, 3) := by decide +kernel
theorem dX5_take_49 : decode cX5_take 49 = .ok (.iconst 1, 1) := by decide +kernel
theorem dX5_take_50 : decode cX5_take 50 = .ok (.ireturn, 1) := by decide +kernel
theorem dX5_takeNumber_0 : decode cX5_takeNumber 0 = .ok (.aload_n 0, 1) := by decide +kernel
theorem dX5_takeNumber_1 : decode cX5_takeNumber 1 = .ok (.getfield 19, 3) := by decide +kernel
theorem dX5_takeNumber_4 : decode cX5_takeNumber 4 = .ok (.aload_n 0, 1) := by decide +kernel
theorem dX5_takeNumber_5 : decode cX5_takeNumber 5 = .ok (.getfield 32, 3) := by decide +kernel
theorem dX5_takeNumber_8 : decode cX5_takeNumber 8 = .ok (.iaload, 1) := by decide +kernel
theorem dX5_takeNumber_9 : decode cX5_takeNumber 9 = .ok (.iload_n 1, 1) := by decide +kernel
theorem dX5_takeNumber_10 : decode cX5_takeNumber 10 = .ok (.if_icmp .lt 28, 3) := by decide +kernel
theorem dX5_takeNumber_13 : decode cX5_takeNumber 13 = .ok (.aload_n 0, 1) := by decide +kernel
theorem dX5_takeNumber_14 : decode cX5_takeNumber 14 = .ok (.getfield 19, 3) := by decide +kernel
theorem dX5_takeNumber_17 : decode cX5_takeNumber 17 = .ok (.aload_n 0, 1) := by decide +kernel
theorem dX5_takeNumber_18 : decode cX5_takeNumber 18 = .ok (.getfield 32, 3) := by decide +kernel
theorem dX5_takeNumber_21 : decode cX5_takeNumber 21 = .ok (.iaload, 1) := by decide +kernel
theorem dX5_takeNumber_22 : decode cX5_takeNumber 22 = .ok (.iload_n 2, 1) := by decide +kernel
theorem dX5_takeNumber_23 : decode cX5_takeNumber 23 = .ok (.if_icmp .gt 15, 3) := by decide +kernel
theorem dX5_takeNumber_26 : decode cX5_takeNumber 26 = .ok (.aload_n 0, 1) := by decide +kernel
theorem dX5_takeNumber_27 : decode cX5_takeNumber 27 = .ok (.iconst 2, 1) := by decide +kernel
theorem dX5_takeNumber_28 : decode cX5_takeNumber 28 = .ok (.invokevirtual 46, 3) := by decide +kernel
theorem dX5_takeNumber_31 : decode cX5_takeNumber 31 = .ok (.ifCond .eq 7, 3) := by decide +kernel
theorem dX5_takeNumber_34 : decode cX5_takeNumber 34 = .ok (.iconst 1, 1) := by decide +kernel
theorem dX5_takeNumber_35 : decode cX5_takeNumber 35 = .ok (.goto 4, 3) := by decide +kernel
theorem dX5_takeNumber_38 : decode cX5_takeNumber 38 = .ok (.iconst 0, 1) := by decide +kernel
theorem dX5_takeNumber_39 : decode cX5_takeNumber 39 = .ok (.ireturn, 1) := by decide +kernel
theorem dX5_takeColourBut_0 : decode cX5_takeColourBut 0 = .ok (.aload_n 0, 1) := by decide +kernel
theorem dX5_takeColourBut_1 : decode cX5_takeColourBut 1 = .ok (.getfield 19, 3) := by decide +kernel
theorem dX5_takeColourBut_4 : decode cX5_takeColourBut 4 = .ok (.aload_n 0, 1) := by decide +kernel
theorem dX5_takeColourBut_5 : decode cX5_takeColourBut 5 = .ok (.getfield 32, 3) := by decide +kernel
theorem dX5_takeColourBut_8 : decode cX5_takeColourBut 8 = .ok (.iaload, 1) := by decide +kernel
theorem dX5_takeColourBut_9 : decode cX5_takeColourBut 9 = .ok (.iload_n 1, 1) := by decide +kernel
theorem dX5_takeColourBut_10 : decode cX5_takeColourBut 10 = .ok (.if_icmp .eq 15, 3) := by decide +kernel
theorem dX5_takeColourBut_13 : decode cX5_takeColourBut 13 = .ok (.aload_n 0, 1) := by decide +kernel
theorem dX5_takeColourBut_14 : decode cX5_takeColourBut 14 = .ok (.iconst 3, 1) := by decide +kernel
theorem dX5_takeColourBut_15 : decode cX5_takeColourBut 15 = .ok (.invokevirtual 46, 3) := by decide +kernel
theorem dX5_takeColourBut_18 : decode cX5_takeColourBut 18 = .ok (.ifCond .eq 7, 3) := by decide +kernel
theorem dX5_takeColourBut_21 : decode cX5_takeColourBut 21 = .ok (.iconst 1, 1) := by decide +kernel
theorem dX5_takeColourBut_22 : decode cX5_takeColourBut 22 = .ok (.goto 4, 3) := by decide +kernel
theorem dX5_takeColourBut_25 : decode cX5_takeColourBut 25 = .ok (.iconst 0, 1) := by decide +kernel
theorem dX5_takeColourBut_26 : decode cX5_takeColourBut 26 = .ok (.ireturn, 1) := by decide +kernel
theorem dX5_beginsToken_0 : decode cX5_beginsToken 0 = .ok (.aload_n 0, 1) := by decide +kernel
theorem dX5_beginsToken_1 : decode cX5_beginsToken 1 = .ok (.getfield 9, 3) := by decide +kernel
theorem dX5_beginsToken_4 : decode cX5_beginsToken 4 = .ok (.iload_n 1, 1) := by decide +kernel
theorem dX5_beginsToken_5 : decode cX5_beginsToken 5 = .ok (.baload, 1) := by decide +kernel
theorem dX5_beginsToken_6 : decode cX5_beginsToken 6 = .ok (.bipush 32, 2) := by decide +kernel
theorem dX5_beginsToken_8 : decode cX5_beginsToken 8 = .ok (.if_icmp .ne 5, 3) := by decide +kernel
theorem dX5_beginsToken_11 : decode cX5_beginsToken 11 = .ok (.iconst 0, 1) := by decide +kernel
theorem dX5_beginsToken_12 : decode cX5_beginsToken 12 = .ok (.ireturn, 1) := by decide +kernel
theorem dX5_beginsToken_13 : decode cX5_beginsToken 13 = .ok (.iload_n 1, 1) := by decide +kernel
theorem dX5_beginsToken_14 : decode cX5_beginsToken 14 = .ok (.ifCond .ne 5, 3) := by decide +kernel
theorem dX5_beginsToken_17 : decode cX5_beginsToken 17 = .ok (.iconst 1, 1) := by decide +kernel
theorem dX5_beginsToken_18 : decode cX5_beginsToken 18 = .ok (.ireturn, 1) := by decide +kernel
theorem dX5_beginsToken_19 : decode cX5_beginsToken 19 = .ok (.aload_n 0, 1) := by decide +kernel
theorem dX5_beginsToken_20 : decode cX5_beginsToken 20 = .ok (.getfield 9, 3) := by decide +kernel
theorem dX5_beginsToken_23 : decode cX5_beginsToken 23 = .ok (.iload_n 1, 1) := by decide +kernel
theorem dX5_beginsToken_24 : decode cX5_beginsToken 24 = .ok (.iconst 1, 1) := by decide +kernel
theorem dX5_beginsToken_25 : decode cX5_beginsToken 25 = .ok (.isub, 1) := by decide +kernel
theorem dX5_beginsToken_26 : decode cX5_beginsToken 26 = .ok (.baload, 1) := by decide +kernel
theorem dX5_beginsToken_27 : decode cX5_beginsToken 27 = .ok (.invokestatic 49, 3) := by decide +kernel
theorem dX5_beginsToken_30 : decode cX5_beginsToken 30 = .ok (.ifCond .eq 19, 3) := by decide +kernel
theorem dX5_beginsToken_33 : decode cX5_beginsToken 33 = .ok (.aload_n 0, 1) := by decide +kernel
theorem dX5_beginsToken_34 : decode cX5_beginsToken 34 = .ok (.getfield 9, 3) := by decide +kernel
theorem dX5_beginsToken_37 : decode cX5_beginsToken 37 = .ok (.iload_n 1, 1) := by decide +kernel
theorem dX5_beginsToken_38 : decode cX5_beginsToken 38 = .ok (.baload, 1) := by decide +kernel
theorem dX5_beginsToken_39 : decode cX5_beginsToken 39 = .ok (.invokestatic 49, 3) := by decide +kernel
theorem dX5_beginsToken_42 : decode cX5_beginsToken 42 = .ok (.ifCond .eq 7, 3) := by decide +kernel
theorem dX5_beginsToken_45 : decode cX5_beginsToken 45 = .ok (.iconst 1, 1) := by decide +kernel
theorem dX5_beginsToken_46 : decode cX5_beginsToken 46 = .ok (.goto 4, 3) := by decide +kernel
theorem dX5_beginsToken_49 : decode cX5_beginsToken 49 = .ok (.iconst 0, 1) := by decide +kernel
theorem dX5_beginsToken_50 : decode cX5_beginsToken 50 = .ok (.istore_n 2, 1) := by decide +kernel
theorem dX5_beginsToken_51 : decode cX5_beginsToken 51 = .ok (.aload_n 0, 1) := by decide +kernel
theorem dX5_beginsToken_52 : decode cX5_beginsToken 52 = .ok (.getfield 9, 3) := by decide +kernel
theorem dX5_beginsToken_55 : decode cX5_beginsToken 55 = .ok (.iload_n 1, 1) := by decide +kernel
theorem dX5_beginsToken_56 : decode cX5_beginsToken 56 = .ok (.iconst 1, 1) := by decide +kernel
theorem dX5_beginsToken_57 : decode cX5_beginsToken 57 = .ok (.isub, 1) := by decide +kernel
theorem dX5_beginsToken_58 : decode cX5_beginsToken 58 = .ok (.baload, 1) := by decide +kernel
theorem dX5_beginsToken_59 : decode cX5_beginsToken 59 = .ok (.invokestatic 52, 3) := by decide +kernel
theorem dX5_beginsToken_62 : decode cX5_beginsToken 62 = .ok (.ifCond .eq 19, 3) := by decide +kernel
theorem dX5_beginsToken_65 : decode cX5_beginsToken 65 = .ok (.aload_n 0, 1) := by decide +kernel
theorem dX5_beginsToken_66 : decode cX5_beginsToken 66 = .ok (.getfield 9, 3) := by decide +kernel
theorem dX5_beginsToken_69 : decode cX5_beginsToken 69 = .ok (.iload_n 1, 1) := by decide +kernel
theorem dX5_beginsToken_70 : decode cX5_beginsToken 70 = .ok (.baload, 1) := by decide +kernel
theorem dX5_beginsToken_71 : decode cX5_beginsToken 71 = .ok (.invokestatic 52, 3) := by decide +kernel
theorem dX5_beginsToken_74 : decode cX5_beginsToken 74 = .ok (.ifCond .eq 7, 3) := by decide +kernel
theorem dX5_beginsToken_77 : decode cX5_beginsToken 77 = .ok (.iconst 1, 1) := by decide +kernel
theorem dX5_beginsToken_78 : decode cX5_beginsToken 78 = .ok (.goto 4, 3) := by decide +kernel
theorem dX5_beginsToken_81 : decode cX5_beginsToken 81 = .ok (.iconst 0, 1) := by decide +kernel
theorem dX5_beginsToken_82 : decode cX5_beginsToken 82 = .ok (.istore_n 3, 1) := by decide +kernel
theorem dX5_beginsToken_83 : decode cX5_beginsToken 83 = .ok (.iload_n 2, 1) := by decide +kernel
theorem dX5_beginsToken_84 : decode cX5_beginsToken 84 = .ok (.ifCond .ne 11, 3) := by decide +kernel
theorem dX5_beginsToken_87 : decode cX5_beginsToken 87 = .ok (.iload_n 3, 1) := by decide +kernel
theorem dX5_beginsToken_88 : decode cX5_beginsToken 88 = .ok (.ifCond .ne 7, 3) := by decide +kernel
theorem dX5_beginsToken_91 : decode cX5_beginsToken 91 = .ok (.iconst 1, 1) := by decide +kernel
theorem dX5_beginsToken_92 : decode cX5_beginsToken 92 = .ok (.goto 4, 3) := by decide +kernel
theorem dX5_beginsToken_95 : decode cX5_beginsToken 95 = .ok (.iconst 0, 1) := by decide +kernel
theorem dX5_beginsToken_96 : decode cX5_beginsToken 96 = .ok (.ireturn, 1) := by decide +kernel
theorem dX5_readToken_0 : decode cX5_readToken 0 = .ok (.aload_n 0, 1) := by decide +kernel
theorem dX5_readToken_1 : decode cX5_readToken 1 = .ok (.getfield 19, 3) := by decide +kernel
theorem dX5_readToken_4 : decode cX5_readToken 4 = .ok (.aload_n 0, 1) := by decide +kernel
theorem dX5_readToken_5 : decode cX5_readToken 5 = .ok (.getfield 29, 3) := by decide +kernel
theorem dX5_readToken_8 : decode cX5_readToken 8 = .ok (.iconst 0, 1) := by decide +kernel
theorem dX5_readToken_9 : decode cX5_readToken 9 = .ok (.iastore, 1) := by decide +kernel
theorem dX5_readToken_10 : decode cX5_readToken 10 = .ok (.aload_n 0, 1) := by decide +kernel
theorem dX5_readToken_11 : decode cX5_readToken 11 = .ok (.getfield 9, 3) := by decide +kernel
theorem dX5_readToken_14 : decode cX5_readToken 14 = .ok (.iload_n 1, 1) := by decide +kernel
theorem dX5_readToken_15 : decode cX5_readToken 15 = .ok (.baload, 1) := by decide +kernel
theorem dX5_readToken_16 : decode cX5_readToken 16 = .ok (.invokestatic 52, 3) := by decide +kernel
theorem dX5_readToken_19 : decode cX5_readToken 19 = .ok (.ifCond .eq 11, 3) := by decide +kernel
theorem dX5_readToken_22 : decode cX5_readToken 22 = .ok (.aload_n 0, 1) := by decide +kernel
theorem dX5_readToken_23 : decode cX5_readToken 23 = .ok (.iload_n 1, 1) := by decide +kernel
theorem dX5_readToken_24 : decode cX5_readToken 24 = .ok (.invokevirtual 55, 3) := by decide +kernel
theorem dX5_readToken_27 : decode cX5_readToken 27 = .ok (.goto 49, 3) := by decide +kernel
theorem dX5_readToken_30 : decode cX5_readToken 30 = .ok (.aload_n 0, 1) := by decide +kernel
theorem dX5_readToken_31 : decode cX5_readToken 31 = .ok (.getfield 9, 3) := by decide +kernel
theorem dX5_readToken_34 : decode cX5_readToken 34 = .ok (.iload_n 1, 1) := by decide +kernel
theorem dX5_readToken_35 : decode cX5_readToken 35 = .ok (.baload, 1) := by decide +kernel
theorem dX5_readToken_36 : decode cX5_readToken 36 = .ok (.invokestatic 49, 3) := by decide +kernel
theorem dX5_readToken_39 : decode cX5_readToken 39 = .ok (.ifCond .eq 11, 3) := by decide +kernel
theorem dX5_readToken_42 : decode cX5_readToken 42 = .ok (.aload_n 0, 1) := by decide +kernel
theorem dX5_readToken_43 : decode cX5_readToken 43 = .ok (.iload_n 1, 1) := by decide +kernel
theorem dX5_readToken_44 : decode cX5_readToken 44 = .ok (.invokevirtual 58, 3) := by decide +kernel
theorem dX5_readToken_47 : decode cX5_readToken 47 = .ok (.goto 29, 3) := by decide +kernel
theorem dX5_readToken_50 : decode cX5_readToken 50 = .ok (.aload_n 0, 1) := by decide +kernel
theorem dX5_readToken_51 : decode cX5_readToken 51 = .ok (.getfield 15, 3) := by decide +kernel
theorem dX5_readToken_54 : decode cX5_readToken 54 = .ok (.aload_n 0, 1) := by decide +kernel
theorem dX5_readToken_55 : decode cX5_readToken 55 = .ok (.getfield 29, 3) := by decide +kernel
theorem dX5_readToken_58 : decode cX5_readToken 58 = .ok (.aload_n 0, 1) := by decide +kernel
theorem dX5_readToken_59 : decode cX5_readToken 59 = .ok (.getfield 9, 3) := by decide +kernel
theorem dX5_readToken_62 : decode cX5_readToken 62 = .ok (.iload_n 1, 1) := by decide +kernel
theorem dX5_readToken_63 : decode cX5_readToken 63 = .ok (.baload, 1) := by decide +kernel
theorem dX5_readToken_64 : decode cX5_readToken 64 = .ok (.bipush 59, 2) := by decide +kernel
theorem dX5_readToken_66 : decode cX5_readToken 66 = .ok (.if_icmp .ne 7, 3) := by decide +kernel
theorem dX5_readToken_69 : decode cX5_readToken 69 = .ok (.iconst 1, 1) := by decide +kernel
theorem dX5_readToken_70 : decode cX5_readToken 70 = .ok (.goto 5, 3) := by decide +kernel
theorem dX5_readToken_73 : decode cX5_readToken 73 = .ok (.bipush 9, 2) := by decide +kernel
theorem dX5_readToken_75 : decode cX5_readToken 75 = .ok (.iastore, 1) := by decide +kernel
theorem dX5_readToken_76 : decode cX5_readToken 76 = .ok (.return_, 1) := by decide +kernel
theorem dX5_readNumber_0 : decode cX5_readNumber 0 = .ok (.iconst 0, 1) := by decide +kernel
theorem dX5_readNumber_1 : decode cX5_readNumber 1 = .ok (.istore_n 2, 1) := by decide +kernel
theorem dX5_readNumber_2 : decode cX5_readNumber 2 = .ok (.iload_n 1, 1) := by decide +kernel
theorem dX5_readNumber_3 : decode cX5_readNumber 3 = .ok (.istore_n 3, 1) := by decide +kernel
theorem dX5_readNumber_4 : decode cX5_readNumber 4 = .ok (.iload_n 3, 1) := by decide +kernel
theorem dX5_readNumber_5 : decode cX5_readNumber 5 = .ok (.aload_n 0, 1) := by decide +kernel
theorem dX5_readNumber_6 : decode cX5_readNumber 6 = .ok (.getfield 25, 3) := by decide +kernel
theorem dX5_readNumber_9 : decode cX5_readNumber 9 = .ok (.if_icmp .ge 43, 3) := by decide +kernel
theorem dX5_readNumber_12 : decode cX5_readNumber 12 = .ok (.aload_n 0, 1) := by decide +kernel
theorem dX5_readNumber_13 : decode cX5_readNumber 13 = .ok (.getfield 9, 3) := by decide +kernel
theorem dX5_readNumber_16 : decode cX5_readNumber 16 = .ok (.iload_n 3, 1) := by decide +kernel
theorem dX5_readNumber_17 : decode cX5_readNumber 17 = .ok (.baload, 1) := by decide +kernel
theorem dX5_readNumber_18 : decode cX5_readNumber 18 = .ok (.invokestatic 52, 3) := by decide +kernel
theorem dX5_readNumber_21 : decode cX5_readNumber 21 = .ok (.ifCond .eq 31, 3) := by decide +kernel
theorem dX5_readNumber_24 : decode cX5_readNumber 24 = .ok (.iload_n 2, 1) := by decide +kernel
theorem dX5_readNumber_25 : decode cX5_readNumber 25 = .ok (.sipush 999, 3) := by decide +kernel
theorem dX5_readNumber_28 : decode cX5_readNumber 28 = .ok (.if_icmp .gt 18, 3) := by decide +kernel
theorem dX5_readNumber_31 : decode cX5_readNumber 31 = .ok (.bipush 10, 2) := by decide +kernel
theorem dX5_readNumber_33 : decode cX5_readNumber 33 = .ok (.iload_n 2, 1) := by decide +kernel
theorem dX5_readNumber_34 : decode cX5_readNumber 34 = .ok (.imul, 1) := by decide +kernel
theorem dX5_readNumber_35 : decode cX5_readNumber 35 = .ok (.aload_n 0, 1) := by decide +kernel
theorem dX5_readNumber_36 : decode cX5_readNumber 36 = .ok (.getfield 9, 3) := by decide +kernel
theorem dX5_readNumber_39 : decode cX5_readNumber 39 = .ok (.iload_n 3, 1) := by decide +kernel
theorem dX5_readNumber_40 : decode cX5_readNumber 40 = .ok (.baload, 1) := by decide +kernel
theorem dX5_readNumber_41 : decode cX5_readNumber 41 = .ok (.iadd, 1) := by decide +kernel
theorem dX5_readNumber_42 : decode cX5_readNumber 42 = .ok (.bipush 48, 2) := by decide +kernel
theorem dX5_readNumber_44 : decode cX5_readNumber 44 = .ok (.isub, 1) := by decide +kernel
theorem dX5_readNumber_45 : decode cX5_readNumber 45 = .ok (.istore_n 2, 1) := by decide +kernel
theorem dX5_readNumber_46 : decode cX5_readNumber 46 = .ok (.iinc 3 1, 3) := by decide +kernel
theorem dX5_readNumber_49 : decode cX5_readNumber 49 = .ok (.goto (-45), 3) := by decide +kernel
theorem dX5_readNumber_52 : decode cX5_readNumber 52 = .ok (.aload_n 0, 1) := by decide +kernel
theorem dX5_readNumber_53 : decode cX5_readNumber 53 = .ok (.getfield 9, 3) := by decide +kernel
theorem dX5_readNumber_56 : decode cX5_readNumber 56 = .ok (.iload_n 1, 1) := by decide +kernel
theorem dX5_readNumber_57 : decode cX5_readNumber 57 = .ok (.baload, 1) := by decide +kernel
theorem dX5_readNumber_58 : decode cX5_readNumber 58 = .ok (.bipush 48, 2) := by decide +kernel
theorem dX5_readNumber_60 : decode cX5_readNumber 60 = .ok (.if_icmp .ne 14, 3) := by decide +kernel
theorem dX5_readNumber_63 : decode cX5_readNumber 63 = .ok (.iload_n 3, 1) := by decide +kernel
theorem dX5_readNumber_64 : decode cX5_readNumber 64 = .ok (.iload_n 1, 1) := by decide +kernel
theorem dX5_readNumber_65 : decode cX5_readNumber 65 = .ok (.iconst 1, 1) := by decide +kernel
theorem dX5_readNumber_66 : decode cX5_readNumber 66 = .ok (.iadd, 1) := by decide +kernel
theorem dX5_readNumber_67 : decode cX5_readNumber 67 = .ok (.if_icmp .le 7, 3) := by decide +kernel
theorem dX5_readNumber_70 : decode cX5_readNumber 70 = .ok (.iconst 1, 1) := by decide +kernel
theorem dX5_readNumber_71 : decode cX5_readNumber 71 = .ok (.goto 4, 3) := by decide +kernel
theorem dX5_readNumber_74 : decode cX5_readNumber 74 = .ok (.iconst 0, 1) := by decide +kernel
theorem dX5_readNumber_75 : decode cX5_readNumber 75 = .ok (.istore 4, 2) := by decide +kernel
theorem dX5_readNumber_77 : decode cX5_readNumber 77 = .ok (.aload_n 0, 1) := by decide +kernel
theorem dX5_readNumber_78 : decode cX5_readNumber 78 = .ok (.getfield 15, 3) := by decide +kernel
theorem dX5_readNumber_81 : decode cX5_readNumber 81 = .ok (.aload_n 0, 1) := by decide +kernel
theorem dX5_readNumber_82 : decode cX5_readNumber 82 = .ok (.getfield 29, 3) := by decide +kernel
theorem dX5_readNumber_85 : decode cX5_readNumber 85 = .ok (.iload_n 2, 1) := by decide +kernel
theorem dX5_readNumber_86 : decode cX5_readNumber 86 = .ok (.sipush 999, 3) := by decide +kernel
theorem dX5_readNumber_89 : decode cX5_readNumber 89 = .ok (.if_icmp .gt 8, 3) := by decide +kernel
theorem dX5_readNumber_92 : decode cX5_readNumber 92 = .ok (.iload 4, 2) := by decide +kernel
theorem dX5_readNumber_94 : decode cX5_readNumber 94 = .ok (.ifCond .eq 8, 3) := by decide +kernel
theorem dX5_readNumber_97 : decode cX5_readNumber 97 = .ok (.bipush 9, 2) := by decide +kernel
theorem dX5_readNumber_99 : decode cX5_readNumber 99 = .ok (.goto 4, 3) := by decide +kernel
theorem dX5_readNumber_102 : decode cX5_readNumber 102 = .ok (.iconst 2, 1) := by decide +kernel
theorem dX5_readNumber_103 : decode cX5_readNumber 103 = .ok (.iastore, 1) := by decide +kernel
theorem dX5_readNumber_104 : decode cX5_readNumber 104 = .ok (.aload_n 0, 1) := by decide +kernel
theorem dX5_readNumber_105 : decode cX5_readNumber 105 = .ok (.getfield 19, 3) := by decide +kernel
theorem dX5_readNumber_108 : decode cX5_readNumber 108 = .ok (.aload_n 0, 1) := by decide +kernel
theorem dX5_readNumber_109 : decode cX5_readNumber 109 = .ok (.getfield 29, 3) := by decide +kernel
theorem dX5_readNumber_112 : decode cX5_readNumber 112 = .ok (.iload_n 2, 1) := by decide +kernel
theorem dX5_readNumber_113 : decode cX5_readNumber 113 = .ok (.iastore, 1) := by decide +kernel
theorem dX5_readNumber_114 : decode cX5_readNumber 114 = .ok (.return_, 1) := by decide +kernel
theorem dX5_readWord_0 : decode cX5_readWord 0 = .ok (.iload_n 1, 1) := by decide +kernel
theorem dX5_readWord_1 : decode cX5_readWord 1 = .ok (.istore_n 2, 1) := by decide +kernel
theorem dX5_readWord_2 : decode cX5_readWord 2 = .ok (.iload_n 2, 1) := by decide +kernel
theorem dX5_readWord_3 : decode cX5_readWord 3 = .ok (.aload_n 0, 1) := by decide +kernel
theorem dX5_readWord_4 : decode cX5_readWord 4 = .ok (.getfield 25, 3) := by decide +kernel
theorem dX5_readWord_7 : decode cX5_readWord 7 = .ok (.if_icmp .ge 21, 3) := by decide +kernel
theorem dX5_readWord_10 : decode cX5_readWord 10 = .ok (.aload_n 0, 1) := by decide +kernel
theorem dX5_readWord_11 : decode cX5_readWord 11 = .ok (.getfield 9, 3) := by decide +kernel
theorem dX5_readWord_14 : decode cX5_readWord 14 = .ok (.iload_n 2, 1) := by decide +kernel
theorem dX5_readWord_15 : decode cX5_readWord 15 = .ok (.baload, 1) := by decide +kernel
theorem dX5_readWord_16 : decode cX5_readWord 16 = .ok (.invokestatic 49, 3) := by decide +kernel
theorem dX5_readWord_19 : decode cX5_readWord 19 = .ok (.ifCond .eq 9, 3) := by decide +kernel
theorem dX5_readWord_22 : decode cX5_readWord 22 = .ok (.iinc 2 1, 3) := by decide +kernel
theorem dX5_readWord_25 : decode cX5_readWord 25 = .ok (.goto (-23), 3) := by decide +kernel
theorem dX5_readWord_28 : decode cX5_readWord 28 = .ok (.iload_n 2, 1) := by decide +kernel
theorem dX5_readWord_29 : decode cX5_readWord 29 = .ok (.iload_n 1, 1) := by decide +kernel
theorem dX5_readWord_30 : decode cX5_readWord 30 = .ok (.iconst 1, 1) := by decide +kernel
theorem dX5_readWord_31 : decode cX5_readWord 31 = .ok (.iadd, 1) := by decide +kernel
theorem dX5_readWord_32 : decode cX5_readWord 32 = .ok (.if_icmp .le 19, 3) := by decide +kernel
theorem dX5_readWord_35 : decode cX5_readWord 35 = .ok (.aload_n 0, 1) := by decide +kernel
theorem dX5_readWord_36 : decode cX5_readWord 36 = .ok (.getfield 15, 3) := by decide +kernel
theorem dX5_readWord_39 : decode cX5_readWord 39 = .ok (.aload_n 0, 1) := by decide +kernel
theorem dX5_readWord_40 : decode cX5_readWord 40 = .ok (.getfield 29, 3) := by decide +kernel
theorem dX5_readWord_43 : decode cX5_readWord 43 = .ok (.aload_n 0, 1) := by decide +kernel
theorem dX5_readWord_44 : decode cX5_readWord 44 = .ok (.iload_n 1, 1) := by decide +kernel
theorem dX5_readWord_45 : decode cX5_readWord 45 = .ok (.iload_n 2, 1) := by decide +kernel
theorem dX5_readWord_46 : decode cX5_readWord 46 = .ok (.invokevirtual 61, 3) := by decide +kernel
theorem dX5_readWord_49 : decode cX5_readWord 49 = .ok (.iastore, 1) := by decide +kernel
theorem dX5_readWord_50 : decode cX5_readWord 50 = .ok (.return_, 1) := by decide +kernel
theorem dX5_readWord_51 : decode cX5_readWord 51 = .ok (.aload_n 0, 1) := by decide +kernel
theorem dX5_readWord_52 : decode cX5_readWord 52 = .ok (.getfield 9, 3) := by decide +kernel
theorem dX5_readWord_55 : decode cX5_readWord 55 = .ok (.iload_n 1, 1) := by decide +kernel
theorem dX5_readWord_56 : decode cX5_readWord 56 = .ok (.baload, 1) := by decide +kernel
theorem dX5_readWord_57 : decode cX5_readWord 57 = .ok (.bipush 97, 2) := by decide +kernel
theorem dX5_readWord_59 : decode cX5_readWord 59 = .ok (.isub, 1) := by decide +kernel
theorem dX5_readWord_60 : decode cX5_readWord 60 = .ok (.istore_n 3, 1) := by decide +kernel
theorem dX5_readWord_61 : decode cX5_readWord 61 = .ok (.aload_n 0, 1) := by decide +kernel
theorem dX5_readWord_62 : decode cX5_readWord 62 = .ok (.getfield 15, 3) := by decide +kernel
theorem dX5_readWord_65 : decode cX5_readWord 65 = .ok (.aload_n 0, 1) := by decide +kernel
theorem dX5_readWord_66 : decode cX5_readWord 66 = .ok (.getfield 29, 3) := by decide +kernel
theorem dX5_readWord_69 : decode cX5_readWord 69 = .ok (.iload_n 3, 1) := by decide +kernel
theorem dX5_readWord_70 : decode cX5_readWord 70 = .ok (.bipush 12, 2) := by decide +kernel
theorem dX5_readWord_72 : decode cX5_readWord 72 = .ok (.if_icmp .ge 7, 3) := by decide +kernel
theorem dX5_readWord_75 : decode cX5_readWord 75 = .ok (.iconst 3, 1) := by decide +kernel
theorem dX5_readWord_76 : decode cX5_readWord 76 = .ok (.goto 5, 3) := by decide +kernel
theorem dX5_readWord_79 : decode cX5_readWord 79 = .ok (.bipush 9, 2) := by decide +kernel
theorem dX5_readWord_81 : decode cX5_readWord 81 = .ok (.iastore, 1) := by decide +kernel
theorem dX5_readWord_82 : decode cX5_readWord 82 = .ok (.aload_n 0, 1) := by decide +kernel
theorem dX5_readWord_83 : decode cX5_readWord 83 = .ok (.getfield 19, 3) := by decide +kernel
theorem dX5_readWord_86 : decode cX5_readWord 86 = .ok (.aload_n 0, 1) := by decide +kernel
theorem dX5_readWord_87 : decode cX5_readWord 87 = .ok (.getfield 29, 3) := by decide +kernel
theorem dX5_readWord_90 : decode cX5_readWord 90 = .ok (.iload_n 3, 1) := by decide +kernel
theorem dX5_readWord_91 : decode cX5_readWord 91 = .ok (.iastore, 1) := by decide +kernel
theorem dX5_readWord_92 : decode cX5_readWord 92 = .ok (.return_, 1) := by decide +kernel
theorem dX5_kindOfWord_0 : decode cX5_kindOfWord 0 = .ok (.aload_n 0, 1) := by decide +kernel
theorem dX5_kindOfWord_1 : decode cX5_kindOfWord 1 = .ok (.ldc 65, 2) := by decide +kernel
theorem dX5_kindOfWord_3 : decode cX5_kindOfWord 3 = .ok (.iload_n 1, 1) := by decide +kernel
theorem dX5_kindOfWord_4 : decode cX5_kindOfWord 4 = .ok (.iload_n 2, 1) := by decide +kernel
theorem dX5_kindOfWord_5 : decode cX5_kindOfWord 5 = .ok (.invokevirtual 67, 3) := by decide +kernel
theorem dX5_kindOfWord_8 : decode cX5_kindOfWord 8 = .ok (.ifCond .eq 5, 3) := by decide +kernel
theorem dX5_kindOfWord_11 : decode cX5_kindOfWord 11 = .ok (.iconst 4, 1) := by decide +kernel
theorem dX5_kindOfWord_12 : decode cX5_kindOfWord 12 = .ok (.ireturn, 1) := by decide +kernel
theorem dX5_kindOfWord_13 : decode cX5_kindOfWord 13 = .ok (.aload_n 0, 1) := by decide +kernel
theorem dX5_kindOfWord_14 : decode cX5_kindOfWord 14 = .ok (.ldc 71, 2) := by decide +kernel
theorem dX5_kindOfWord_16 : decode cX5_kindOfWord 16 = .ok (.iload_n 1, 1) := by decide +kernel
theorem dX5_kindOfWord_17 : decode cX5_kindOfWord 17 = .ok (.iload_n 2, 1) := by decide +kernel
theorem dX5_kindOfWord_18 : decode cX5_kindOfWord 18 = .ok (.invokevirtual 67, 3) := by decide +kernel
theorem dX5_kindOfWord_21 : decode cX5_kindOfWord 21 = .ok (.ifCond .eq 5, 3) := by decide +kernel
theorem dX5_kindOfWord_24 : decode cX5_kindOfWord 24 = .ok (.iconst 5, 1) := by decide +kernel
theorem dX5_kindOfWord_25 : decode cX5_kindOfWord 25 = .ok (.ireturn, 1) := by decide +kernel
theorem dX5_kindOfWord_26 : decode cX5_kindOfWord 26 = .ok (.aload_n 0, 1) := by decide +kernel
theorem dX5_kindOfWord_27 : decode cX5_kindOfWord 27 = .ok (.ldc 73, 2) := by decide +kernel
theorem dX5_kindOfWord_29 : decode cX5_kindOfWord 29 = .ok (.iload_n 1, 1) := by decide +kernel
theorem dX5_kindOfWord_30 : decode cX5_kindOfWord 30 = .ok (.iload_n 2, 1) := by decide +kernel
theorem dX5_kindOfWord_31 : decode cX5_kindOfWord 31 = .ok (.invokevirtual 67, 3) := by decide +kernel
theorem dX5_kindOfWord_34 : decode cX5_kindOfWord 34 = .ok (.ifCond .eq 6, 3) := by decide +kernel
theorem dX5_kindOfWord_37 : decode cX5_kindOfWord 37 = .ok (.bipush 6, 2) := by decide +kernel
theorem dX5_kindOfWord_39 : decode cX5_kindOfWord 39 = .ok (.ireturn, 1) := by decide +kernel
theorem dX5_kindOfWord_40 : decode cX5_kindOfWord 40 = .ok (.aload_n 0, 1) := by decide +kernel
theorem dX5_kindOfWord_41 : decode cX5_kindOfWord 41 = .ok (.ldc 75, 2) := by decide +kernel
theorem dX5_kindOfWord_43 : decode cX5_kindOfWord 43 = .ok (.iload_n 1, 1) := by decide +kernel
theorem dX5_kindOfWord_44 : decode cX5_kindOfWord 44 = .ok (.iload_n 2, 1) := by decide +kernel
theorem dX5_kindOfWord_45 : decode cX5_kindOfWord 45 = .ok (.invokevirtual 67, 3) := by decide +kernel
theorem dX5_kindOfWord_48 : decode cX5_kindOfWord 48 = .ok (.ifCond .eq 6, 3) := by decide +kernel
theorem dX5_kindOfWord_51 : decode cX5_kindOfWord 51 = .ok (.bipush 7, 2) := by decide +kernel
theorem dX5_kindOfWord_53 : decode cX5_kindOfWord 53 = .ok (.ireturn, 1) := by decide +kernel
theorem dX5_kindOfWord_54 : decode cX5_kindOfWord 54 = .ok (.aload_n 0, 1) := by decide +kernel
theorem dX5_kindOfWord_55 : decode cX5_kindOfWord 55 = .ok (.ldc 77, 2) := by decide +kernel
theorem dX5_kindOfWord_57 : decode cX5_kindOfWord 57 = .ok (.iload_n 1, 1) := by decide +kernel
theorem dX5_kindOfWord_58 : decode cX5_kindOfWord 58 = .ok (.iload_n 2, 1) := by decide +kernel
theorem dX5_kindOfWord_59 : decode cX5_kindOfWord 59 = .ok (.invokevirtual 67, 3) := by decide +kernel
theorem dX5_kindOfWord_62 : decode cX5_kindOfWord 62 = .ok (.ifCond .eq 8, 3) := by decide +kernel
theorem dX5_kindOfWord_65 : decode cX5_kindOfWord 65 = .ok (.bipush 8, 2) := by decide +kernel
theorem dX5_kindOfWord_67 : decode cX5_kindOfWord 67 = .ok (.goto 5, 3) := by decide +kernel
theorem dX5_kindOfWord_70 : decode cX5_kindOfWord 70 = .ok (.bipush 9, 2) := by decide +kernel
theorem dX5_kindOfWord_72 : decode cX5_kindOfWord 72 = .ok (.ireturn, 1) := by decide +kernel
theorem dX5_isWord_0 : decode cX5_isWord 0 = .ok (.iload_n 3, 1) := by decide +kernel
theorem dX5_isWord_1 : decode cX5_isWord 1 = .ok (.iload_n 2, 1) := by decide +kernel
theorem dX5_isWord_2 : decode cX5_isWord 2 = .ok (.isub, 1) := by decide +kernel
theorem dX5_isWord_3 : decode cX5_isWord 3 = .ok (.aload_n 1, 1) := by decide +kernel
theorem dX5_isWord_4 : decode cX5_isWord 4 = .ok (.invokevirtual 79, 3) := by decide +kernel
theorem dX5_isWord_7 : decode cX5_isWord 7 = .ok (.if_icmp .eq 5, 3) := by decide +kernel
theorem dX5_isWord_10 : decode cX5_isWord 10 = .ok (.iconst 0, 1) := by decide +kernel
theorem dX5_isWord_11 : decode cX5_isWord 11 = .ok (.ireturn, 1) := by decide +kernel
theorem dX5_isWord_12 : decode cX5_isWord 12 = .ok (.iconst 0, 1) := by decide +kernel
theorem dX5_isWord_13 : decode cX5_isWord 13 = .ok (.istore 4, 2) := by decide +kernel
theorem dX5_isWord_15 : decode cX5_isWord 15 = .ok (.iload 4, 2) := by decide +kernel
theorem dX5_isWord_17 : decode cX5_isWord 17 = .ok (.aload_n 1, 1) := by decide +kernel
theorem dX5_isWord_18 : decode cX5_isWord 18 = .ok (.invokevirtual 79, 3) := by decide +kernel
theorem dX5_isWord_21 : decode cX5_isWord 21 = .ok (.if_icmp .ge 29, 3) := by decide +kernel
theorem dX5_isWord_24 : decode cX5_isWord 24 = .ok (.aload_n 0, 1) := by decide +kernel
theorem dX5_isWord_25 : decode cX5_isWord 25 = .ok (.getfield 9, 3) := by decide +kernel
theorem dX5_isWord_28 : decode cX5_isWord 28 = .ok (.iload_n 2, 1) := by decide +kernel
theorem dX5_isWord_29 : decode cX5_isWord 29 = .ok (.iload 4, 2) := by decide +kernel
theorem dX5_isWord_31 : decode cX5_isWord 31 = .ok (.iadd, 1) := by decide +kernel
theorem dX5_isWord_32 : decode cX5_isWord 32 = .ok (.baload, 1) := by decide +kernel
theorem dX5_isWord_33 : decode cX5_isWord 33 = .ok (.aload_n 1, 1) := by decide +kernel
theorem dX5_isWord_34 : decode cX5_isWord 34 = .ok (.iload 4, 2) := by decide +kernel
theorem dX5_isWord_36 : decode cX5_isWord 36 = .ok (.invokevirtual 84, 3) := by decide +kernel
theorem dX5_isWord_39 : decode cX5_isWord 39 = .ok (.if_icmp .eq 5, 3) := by decide +kernel
theorem dX5_isWord_42 : decode cX5_isWord 42 = .ok (.iconst 0, 1) := by decide +kernel
theorem dX5_isWord_43 : decode cX5_isWord 43 = .ok (.ireturn, 1) := by decide +kernel
theorem dX5_isWord_44 : decode cX5_isWord 44 = .ok (.iinc 4 1, 3) := by decide +kernel
theorem dX5_isWord_47 : decode cX5_isWord 47 = .ok (.goto (-32), 3) := by decide +kernel
theorem dX5_isWord_50 : decode cX5_isWord 50 = .ok (.iconst 1, 1) := by decide +kernel
theorem dX5_isWord_51 : decode cX5_isWord 51 = .ok (.ireturn, 1) := by decide +kernel
theorem dX5_isDigit_0 : decode cX5_isDigit 0 = .ok (.iload_n 0, 1) := by decide +kernel
theorem dX5_isDigit_1 : decode cX5_isDigit 1 = .ok (.bipush 48, 2) := by decide +kernel
theorem dX5_isDigit_3 : decode cX5_isDigit 3 = .ok (.if_icmp .lt 13, 3) := by decide +kernel
theorem dX5_isDigit_6 : decode cX5_isDigit 6 = .ok (.iload_n 0, 1) := by decide +kernel
theorem dX5_isDigit_7 : decode cX5_isDigit 7 = .ok (.bipush 57, 2) := by decide +kernel
theorem dX5_isDigit_9 : decode cX5_isDigit 9 = .ok (.if_icmp .gt 7, 3) := by decide +kernel
theorem dX5_isDigit_12 : decode cX5_isDigit 12 = .ok (.iconst 1, 1) := by decide +kernel
theorem dX5_isDigit_13 : decode cX5_isDigit 13 = .ok (.goto 4, 3) := by decide +kernel
theorem dX5_isDigit_16 : decode cX5_isDigit 16 = .ok (.iconst 0, 1) := by decide +kernel
theorem dX5_isDigit_17 : decode cX5_isDigit 17 = .ok (.ireturn, 1) := by decide +kernel
theorem dX5_isLetter_0 : decode cX5_isLetter 0 = .ok (.iload_n 0, 1) := by decide +kernel
theorem dX5_isLetter_1 : decode cX5_isLetter 1 = .ok (.bipush 97, 2) := by decide +kernel
theorem dX5_isLetter_3 : decode cX5_isLetter 3 = .ok (.if_icmp .lt 13, 3) := by decide +kernel
theorem dX5_isLetter_6 : decode cX5_isLetter 6 = .ok (.iload_n 0, 1) := by decide +kernel
theorem dX5_isLetter_7 : decode cX5_isLetter 7 = .ok (.bipush 122, 2) := by decide +kernel
theorem dX5_isLetter_9 : decode cX5_isLetter 9 = .ok (.if_icmp .gt 7, 3) := by decide +kernel
theorem dX5_isLetter_12 : decode cX5_isLetter 12 = .ok (.iconst 1, 1) := by decide +kernel
theorem dX5_isLetter_13 : decode cX5_isLetter 13 = .ok (.goto 4, 3) := by decide +kernel
theorem dX5_isLetter_16 : decode cX5_isLetter 16 = .ok (.iconst 0, 1) := by decide +kernel
theorem dX5_isLetter_17 : decode cX5_isLetter 17 = .ok (.ireturn, 1) := by decide +kernel
theorem dX6_init_0 : decode cX6_init 0 = .ok (.aload_n 0, 1) := by decide +kernel
theorem dX6_init_1 : decode cX6_init 1 = .ok (.invokespecial 3, 3) := by decide +kernel
theorem dX6_init_4 : decode cX6_init 4 = .ok (.aload_n 0, 1) := by decide +kernel
theorem dX6_init_5 : decode cX6_init 5 = .ok (.bipush 40, 2) := by decide +kernel
theorem dX6_init_7 : decode cX6_init 7 = .ok (.newarray .int, 2) := by decide +kernel
theorem dX6_init_9 : decode cX6_init 9 = .ok (.putfield 9, 3) := by decide +kernel
theorem dX6_init_12 : decode cX6_init 12 = .ok (.aload_n 0, 1) := by decide +kernel
theorem dX6_init_13 : decode cX6_init 13 = .ok (.bipush 40, 2) := by decide +kernel
theorem dX6_init_15 : decode cX6_init 15 = .ok (.newarray .int, 2) := by decide +kernel
theorem dX6_init_17 : decode cX6_init 17 = .ok (.putfield 15, 3) := by decide +kernel
theorem dX6_init_20 : decode cX6_init 20 = .ok (.aload_n 0, 1) := by decide +kernel
theorem dX6_init_21 : decode cX6_init 21 = .ok (.bipush 40, 2) := by decide +kernel
theorem dX6_init_23 : decode cX6_init 23 = .ok (.newarray .int, 2) := by decide +kernel
theorem dX6_init_25 : decode cX6_init 25 = .ok (.putfield 18, 3) := by decide +kernel
theorem dX6_init_28 : decode cX6_init 28 = .ok (.aload_n 0, 1) := by decide +kernel
theorem dX6_init_29 : decode cX6_init 29 = .ok (.sipush 369, 3) := by decide +kernel
theorem dX6_init_32 : decode cX6_init 32 = .ok (.newarray .int, 2) := by decide +kernel
theorem dX6_init_34 : decode cX6_init 34 = .ok (.putfield 21, 3) := by decide +kernel
theorem dX6_init_37 : decode cX6_init 37 = .ok (.return_, 1) := by decide +kernel
theorem dX6_find_0 : decode cX6_find 0 = .ok (.aload_n 1, 1) := by decide +kernel
theorem dX6_find_1 : decode cX6_find 1 = .ok (.getfield 24, 3) := by decide +kernel
theorem dX6_find_4 : decode cX6_find 4 = .ok (.istore 4, 2) := by decide +kernel
theorem dX6_find_6 : decode cX6_find 6 = .ok (.iconst 0, 1) := by decide +kernel
theorem dX6_find_7 : decode cX6_find 7 = .ok (.istore 5, 2) := by decide +kernel
theorem dX6_find_9 : decode cX6_find 9 = .ok (.aload_n 0, 1) := by decide +kernel
theorem dX6_find_10 : decode cX6_find 10 = .ok (.iconst 1, 1) := by decide +kernel
theorem dX6_find_11 : decode cX6_find 11 = .ok (.putfield 30, 3) := by decide +kernel
theorem dX6_find_14 : decode cX6_find 14 = .ok (.iconst 0, 1) := by decide +kernel
theorem dX6_find_15 : decode cX6_find 15 = .ok (.istore 6, 2) := by decide +kernel
theorem dX6_find_17 : decode cX6_find 17 = .ok (.iload 6, 2) := by decide +kernel
theorem dX6_find_19 : decode cX6_find 19 = .ok (.iload 4, 2) := by decide +kernel
theorem dX6_find_21 : decode cX6_find 21 = .ok (.if_icmp .ge 91, 3) := by decide +kernel
theorem dX6_find_24 : decode cX6_find 24 = .ok (.aload_n 1, 1) := by decide +kernel
theorem dX6_find_25 : decode cX6_find 25 = .ok (.getfield 34, 3) := by decide +kernel
theorem dX6_find_28 : decode cX6_find 28 = .ok (.iload 6, 2) := by decide +kernel
theorem dX6_find_30 : decode cX6_find 30 = .ok (.iaload, 1) := by decide +kernel
theorem dX6_find_31 : decode cX6_find 31 = .ok (.istore 7, 2) := by decide +kernel
theorem dX6_find_33 : decode cX6_find 33 = .ok (.aload_n 0, 1) := by decide +kernel
theorem dX6_find_34 : decode cX6_find 34 = .ok (.getfield 9, 3) := by decide +kernel
theorem dX6_find_37 : decode cX6_find 37 = .ok (.iload 6, 2) := by decide +kernel
theorem dX6_find_39 : decode cX6_find 39 = .ok (.iload 5, 2) := by decide +kernel
theorem dX6_find_41 : decode cX6_find 41 = .ok (.aload_n 2, 1) := by decide +kernel
theorem dX6_find_42 : decode cX6_find 42 = .ok (.getfield 37, 3) := by decide +kernel
theorem dX6_find_45 : decode cX6_find 45 = .ok (.iload 7, 2) := by decide +kernel
theorem dX6_find_47 : decode cX6_find 47 = .ok (.iaload, 1) := by decide +kernel
theorem dX6_find_48 : decode cX6_find 48 = .ok (.invokestatic 42, 3) := by decide +kernel
theorem dX6_find_51 : decode cX6_find 51 = .ok (.iastore, 1) := by decide +kernel
theorem dX6_find_52 : decode cX6_find 52 = .ok (.aload_n 0, 1) := by decide +kernel
theorem dX6_find_53 : decode cX6_find 53 = .ok (.aload_n 0, 1) := by decide +kernel
theorem dX6_find_54 : decode cX6_find 54 = .ok (.getfield 30, 3) := by decide +kernel
theorem dX6_find_57 : decode cX6_find 57 = .ok (.ifCond .eq 24, 3) := by decide +kernel
theorem dX6_find_60 : decode cX6_find 60 = .ok (.aload_n 0, 1) := by decide +kernel
theorem dX6_find_61 : decode cX6_find 61 = .ok (.getfield 9, 3) := by decide +kernel
theorem dX6_find_64 : decode cX6_find 64 = .ok (.iload 6, 2) := by decide +kernel
theorem dX6_find_66 : decode cX6_find 66 = .ok (.iaload, 1) := by decide +kernel
theorem dX6_find_67 : decode cX6_find 67 = .ok (.aload_n 2, 1) := by decide +kernel
theorem dX6_find_68 : decode cX6_find 68 = .ok (.getfield 48, 3) := by decide +kernel
theorem dX6_find_71 : decode cX6_find 71 = .ok (.iload 7, 2) := by decide +kernel
theorem dX6_find_73 : decode cX6_find 73 = .ok (.iaload, 1) := by decide +kernel
theorem dX6_find_74 : decode cX6_find 74 = .ok (.if_icmp .gt 7, 3) := by decide +kernel
theorem dX6_find_77 : decode cX6_find 77 = .ok (.iconst 1, 1) := by decide +kernel
theorem dX6_find_78 : decode cX6_find 78 = .ok (.goto 4, 3) := by decide +kernel
theorem dX6_find_81 : decode cX6_find 81 = .ok (.iconst 0, 1) := by decide +kernel
theorem dX6_find_82 : decode cX6_find 82 = .ok (.putfield 30, 3) := by decide +kernel
theorem dX6_find_85 : decode cX6_find 85 = .ok (.aload_n 0, 1) := by decide +kernel
theorem dX6_find_86 : decode cX6_find 86 = .ok (.getfield 9, 3) := by decide +kernel
theorem dX6_find_89 : decode cX6_find 89 = .ok (.iload 6, 2) := by decide +kernel
theorem dX6_find_91 : decode cX6_find 91 = .ok (.iaload, 1) := by decide +kernel
theorem dX6_find_92 : decode cX6_find 92 = .ok (.iload_n 3, 1) := by decide +kernel
theorem dX6_find_93 : decode cX6_find 93 = .ok (.aload_n 1, 1) := by decide +kernel
theorem dX6_find_94 : decode cX6_find 94 = .ok (.getfield 51, 3) := by decide +kernel
theorem dX6_find_97 : decode cX6_find 97 = .ok (.iload 6, 2) := by decide +kernel
theorem dX6_find_99 : decode cX6_find 99 = .ok (.iaload, 1) := by decide +kernel
theorem dX6_find_100 : decode cX6_find 100 = .ok (.imul, 1) := by decide +kernel
theorem dX6_find_101 : decode cX6_find 101 = .ok (.iadd, 1) := by decide +kernel
theorem dX6_find_102 : decode cX6_find 102 = .ok (.iconst 1, 1) := by decide +kernel
theorem dX6_find_103 : decode cX6_find 103 = .ok (.iadd, 1) := by decide +kernel
theorem dX6_find_104 : decode cX6_find 104 = .ok (.istore 5, 2) := by decide +kernel
theorem dX6_find_106 : decode cX6_find 106 = .ok (.iinc 6 1, 3) := by decide +kernel
theorem dX6_find_109 : decode cX6_find 109 = .ok (.goto (-92), 3) := by decide +kernel
theorem dX6_find_112 : decode cX6_find 112 = .ok (.sipush 999, 3) := by decide +kernel
theorem dX6_find_115 : decode cX6_find 115 = .ok (.istore 5, 2) := by decide +kernel
theorem dX6_find_117 : decode cX6_find 117 = .ok (.iload 4, 2) := by decide +kernel
theorem dX6_find_119 : decode cX6_find 119 = .ok (.iconst 1, 1) := by decide +kernel
theorem dX6_find_120 : decode cX6_find 120 = .ok (.isub, 1) := by decide +kernel
theorem dX6_find_121 : decode cX6_find 121 = .ok (.istore 6, 2) := by decide +kernel
theorem dX6_find_123 : decode cX6_find 123 = .ok (.iload 6, 2) := by decide +kernel
theorem dX6_find_125 : decode cX6_find 125 = .ok (.ifCond .lt 65, 3) := by decide +kernel
theorem dX6_find_128 : decode cX6_find 128 = .ok (.aload_n 0, 1) := by decide +kernel
theorem dX6_find_129 : decode cX6_find 129 = .ok (.getfield 15, 3) := by decide +kernel
theorem dX6_find_132 : decode cX6_find 132 = .ok (.iload 6, 2) := by decide +kernel
theorem dX6_find_134 : decode cX6_find 134 = .ok (.iload 5, 2) := by decide +kernel
theorem dX6_find_136 : decode cX6_find 136 = .ok (.aload_n 2, 1) := by decide +kernel
theorem dX6_find_137 : decode cX6_find 137 = .ok (.getfield 48, 3) := by decide +kernel
theorem dX6_find_140 : decode cX6_find 140 = .ok (.aload_n 1, 1) := by decide +kernel
theorem dX6_find_141 : decode cX6_find 141 = .ok (.getfield 34, 3) := by decide +kernel
theorem dX6_find_144 : decode cX6_find 144 = .ok (.iload 6, 2) := by decide +kernel
theorem dX6_find_146 : decode cX6_find 146 = .ok (.iaload, 1) := by decide +kernel
theorem dX6_find_147 : decode cX6_find 147 = .ok (.iaload, 1) := by decide +kernel
theorem dX6_find_148 : decode cX6_find 148 = .ok (.invokestatic 54, 3) := by decide +kernel
theorem dX6_find_151 : decode cX6_find 151 = .ok (.iastore, 1) := by decide +kernel
theorem dX6_find_152 : decode cX6_find 152 = .ok (.aload_n 0, 1) := by decide +kernel
theorem dX6_find_153 : decode cX6_find 153 = .ok (.getfield 15, 3) := by decide +kernel
theorem dX6_find_156 : decode cX6_find 156 = .ok (.iload 6, 2) := by decide +kernel
theorem dX6_find_158 : decode cX6_find 158 = .ok (.iaload, 1) := by decide +kernel
theorem dX6_find_159 : decode cX6_find 159 = .ok (.iconst 1, 1) := by decide +kernel
theorem dX6_find_160 : decode cX6_find 160 = .ok (.isub, 1) := by decide +kernel
theorem dX6_find_161 : decode cX6_find 161 = .ok (.iload 6, 2) := by decide +kernel
theorem dX6_find_163 : decode cX6_find 163 = .ok (.ifCond .le 17, 3) := by decide +kernel
theorem dX6_find_166 : decode cX6_find 166 = .ok (.iload_n 3, 1) := by decide +kernel
theorem dX6_find_167 : decode cX6_find 167 = .ok (.aload_n 1, 1) := by decide +kernel
theorem dX6_find_168 : decode cX6_find 168 = .ok (.getfield 51, 3) := by decide +kernel
theorem dX6_find_171 : decode cX6_find 171 = .ok (.iload 6, 2) := by decide +kernel
theorem dX6_find_173 : decode cX6_find 173 = .ok (.iconst 1, 1) := by decide +kernel
theorem dX6_find_174 : decode cX6_find 174 = .ok (.isub, 1) := by decide +kernel
theorem dX6_find_175 : decode cX6_find 175 = .ok (.iaload, 1) := by decide +kernel
theorem dX6_find_176 : decode cX6_find 176 = .ok (.imul, 1) := by decide +kernel
theorem dX6_find_177 : decode cX6_find 177 = .ok (.goto 4, 3) := by decide +kernel
theorem dX6_find_180 : decode cX6_find 180 = .ok (.iconst 0, 1) := by decide +kernel
theorem dX6_find_181 : decode cX6_find 181 = .ok (.isub, 1) := by decide +kernel
theorem dX6_find_182 : decode cX6_find 182 = .ok (.istore 5, 2) := by decide +kernel
theorem dX6_find_184 : decode cX6_find 184 = .ok (.iinc 6 (-1), 3) := by decide +kernel
theorem dX6_find_187 : decode cX6_find 187 = .ok (.goto (-64), 3) := by decide +kernel
theorem dX6_find_190 : decode cX6_find 190 = .ok (.return_, 1) := by decide +kernel
theorem dX6_match_0 : decode cX6_match 0 = .ok (.aload_n 1, 1) := by decide +kernel
theorem dX6_match_1 : decode cX6_match 1 = .ok (.getfield 24, 3) := by decide +kernel
theorem dX6_match_4 : decode cX6_match 4 = .ok (.istore_n 3, 1) := by decide +kernel
theorem dX6_match_5 : decode cX6_match 5 = .ok (.iconst 0, 1) := by decide +kernel
theorem dX6_match_6 : decode cX6_match 6 = .ok (.istore 4, 2) := by decide +kernel
theorem dX6_match_8 : decode cX6_match 8 = .ok (.iload 4, 2) := by decide +kernel
theorem dX6_match_10 : decode cX6_match 10 = .ok (.bipush 9, 2) := by decide +kernel
theorem dX6_match_12 : decode cX6_match 12 = .ok (.if_icmp .ge 22, 3) := by decide +kernel
theorem dX6_match_15 : decode cX6_match 15 = .ok (.aload_n 0, 1) := by decide +kernel
theorem dX6_match_16 : decode cX6_match 16 = .ok (.getfield 21, 3) := by decide +kernel
theorem dX6_match_19 : decode cX6_match 19 = .ok (.iload_n 3, 1) := by decide +kernel
theorem dX6_match_20 : decode cX6_match 20 = .ok (.bipush 9, 2) := by decide +kernel
theorem dX6_match_22 : decode cX6_match 22 = .ok (.imul, 1) := by decide +kernel
theorem dX6_match_23 : decode cX6_match 23 = .ok (.iload 4, 2) := by decide +kernel
theorem dX6_match_25 : decode cX6_match 25 = .ok (.iadd, 1) := by decide +kernel
theorem dX6_match_26 : decode cX6_match 26 = .ok (.iconst 0, 1) := by decide +kernel
theorem dX6_match_27 : decode cX6_match 27 = .ok (.iastore, 1) := by decide +kernel
theorem dX6_match_28 : decode cX6_match 28 = .ok (.iinc 4 1, 3) := by decide +kernel
theorem dX6_match_31 : decode cX6_match 31 = .ok (.goto (-23), 3) := by decide +kernel
theorem dX6_match_34 : decode cX6_match 34 = .ok (.iload_n 3, 1) := by decide +kernel
theorem dX6_match_35 : decode cX6_match 35 = .ok (.iconst 1, 1) := by decide +kernel
theorem dX6_match_36 : decode cX6_match 36 = .ok (.isub, 1) := by decide +kernel
theorem dX6_match_37 : decode cX6_match 37 = .ok (.istore 4, 2) := by decide +kernel
theorem dX6_match_39 : decode cX6_match 39 = .ok (.iload 4, 2) := by decide +kernel
theorem dX6_match_41 : decode cX6_match 41 = .ok (.ifCond .lt 56, 3) := by decide +kernel
theorem dX6_match_44 : decode cX6_match 44 = .ok (.iconst 0, 1) := by decide +kernel
theorem dX6_match_45 : decode cX6_match 45 = .ok (.istore 5, 2) := by decide +kernel
theorem dX6_match_47 : decode cX6_match 47 = .ok (.iload 5, 2) := by decide +kernel
theorem dX6_match_49 : decode cX6_match 49 = .ok (.aload_n 2, 1) := by decide +kernel
theorem dX6_match_50 : decode cX6_match 50 = .ok (.getfield 57, 3) := by decide +kernel
theorem dX6_match_53 : decode cX6_match 53 = .ok (.if_icmp .gt 38, 3) := by decide +kernel
theorem dX6_match_56 : decode cX6_match 56 = .ok (.aload_n 0, 1) := by decide +kernel
theorem dX6_match_57 : decode cX6_match 57 = .ok (.getfield 21, 3) := by decide +kernel
theorem dX6_match_60 : decode cX6_match 60 = .ok (.iload 4, 2) := by decide +kernel
theorem dX6_match_62 : decode cX6_match 62 = .ok (.bipush 9, 2) := by decide +kernel
theorem dX6_match_64 : decode cX6_match 64 = .ok (.imul, 1) := by decide +kernel
theorem dX6_match_65 : decode cX6_match 65 = .ok (.iload 5, 2) := by decide +kernel
theorem dX6_match_67 : decode cX6_match 67 = .ok (.iadd, 1) := by decide +kernel
theorem dX6_match_68 : decode cX6_match 68 = .ok (.aload_n 0, 1) := by decide +kernel
theorem dX6_match_69 : decode cX6_match 69 = .ok (.iload 4, 2) := by decide +kernel
theorem dX6_match_71 : decode cX6_match 71 = .ok (.iload 5, 2) := by decide +kernel
theorem dX6_match_73 : decode cX6_match 73 = .ok (.aload_n 1, 1) := by decide +kernel
theorem dX6_match_74 : decode cX6_match 74 = .ok (.getfield 34, 3) := by decide +kernel
theorem dX6_match_77 : decode cX6_match 77 = .ok (.iload 4, 2) := by decide +kernel
theorem dX6_match_79 : decode cX6_match 79 = .ok (.iaload, 1) := by decide +kernel
theorem dX6_match_80 : decode cX6_match 80 = .ok (.aload_n 2, 1) := by decide +kernel
theorem dX6_match_81 : decode cX6_match 81 = .ok (.invokevirtual 60, 3) := by decide +kernel
theorem dX6_match_84 : decode cX6_match 84 = .ok (.iastore, 1) := by decide +kernel
theorem dX6_match_85 : decode cX6_match 85 = .ok (.iinc 5 1, 3) := by decide +kernel
theorem dX6_match_88 : decode cX6_match 88 = .ok (.goto (-41), 3) := by decide +kernel
theorem dX6_match_91 : decode cX6_match 91 = .ok (.iinc 4 (-1), 3) := by decide +kernel
theorem dX6_match_94 : decode cX6_match 94 = .ok (.goto (-55), 3) := by decide +kernel
theorem dX6_match_97 : decode cX6_match 97 = .ok (.iconst 0, 1) := by decide +kernel
theorem dX6_match_98 : decode cX6_match 98 = .ok (.istore 4, 2) := by decide +kernel
theorem dX6_match_100 : decode cX6_match 100 = .ok (.iconst 0, 1) := by decide +kernel
theorem dX6_match_101 : decode cX6_match 101 = .ok (.istore 5, 2) := by decide +kernel
theorem dX6_match_103 : decode cX6_match 103 = .ok (.iload 5, 2) := by decide +kernel
theorem dX6_match_105 : decode cX6_match 105 = .ok (.iload_n 3, 1) := by decide +kernel
theorem dX6_match_106 : decode cX6_match 106 = .ok (.if_icmp .ge 56, 3) := by decide +kernel
theorem dX6_match_109 : decode cX6_match 109 = .ok (.aload_n 0, 1) := by decide +kernel
theorem dX6_match_110 : decode cX6_match 110 = .ok (.getfield 18, 3) := by decide +kernel
theorem dX6_match_113 : decode cX6_match 113 = .ok (.iload 5, 2) := by decide +kernel
theorem dX6_match_115 : decode cX6_match 115 = .ok (.aload_n 0, 1) := by decide +kernel
theorem dX6_match_116 : decode cX6_match 116 = .ok (.iload 5, 2) := by decide +kernel
theorem dX6_match_118 : decode cX6_match 118 = .ok (.iload 4, 2) := by decide +kernel
theorem dX6_match_120 : decode cX6_match 120 = .ok (.aload_n 1, 1) := by decide +kernel
theorem dX6_match_121 : decode cX6_match 121 = .ok (.getfield 34, 3) := by decide +kernel
theorem dX6_match_124 : decode cX6_match 124 = .ok (.iload 5, 2) := by decide +kernel
theorem dX6_match_126 : decode cX6_match 126 = .ok (.iaload, 1) := by decide +kernel
theorem dX6_match_127 : decode cX6_match 127 = .ok (.aload_n 2, 1) := by decide +kernel
theorem dX6_match_128 : decode cX6_match 128 = .ok (.invokevirtual 64, 3) := by decide +kernel
theorem dX6_match_131 : decode cX6_match 131 = .ok (.iastore, 1) := by decide +kernel
theorem dX6_match_132 : decode cX6_match 132 = .ok (.aload_n 0, 1) := by decide +kernel
theorem dX6_match_133 : decode cX6_match 133 = .ok (.getfield 18, 3) := by decide +kernel
theorem dX6_match_136 : decode cX6_match 136 = .ok (.iload 5, 2) := by decide +kernel
theorem dX6_match_138 : decode cX6_match 138 = .ok (.iaload, 1) := by decide +kernel
theorem dX6_match_139 : decode cX6_match 139 = .ok (.ifCond .ne 8, 3) := by decide +kernel
theorem dX6_match_142 : decode cX6_match 142 = .ok (.iload 4, 2) := by decide +kernel
theorem dX6_match_144 : decode cX6_match 144 = .ok (.goto 10, 3) := by decide +kernel
theorem dX6_match_147 : decode cX6_match 147 = .ok (.aload_n 0, 1) := by decide +kernel
theorem dX6_match_148 : decode cX6_match 148 = .ok (.getfield 18, 3) := by decide +kernel
theorem dX6_match_151 : decode cX6_match 151 = .ok (.iload 5, 2) := by decide +kernel
theorem dX6_match_153 : decode cX6_match 153 = .ok (.iaload, 1) := by decide +kernel
theorem dX6_match_154 : decode cX6_match 154 = .ok (.istore 4, 2) := by decide +kernel
theorem dX6_match_156 : decode cX6_match 156 = .ok (.iinc 5 1, 3) := by decide +kernel
theorem dX6_match_159 : decode cX6_match 159 = .ok (.goto (-56), 3) := by decide +kernel
theorem dX6_match_162 : decode cX6_match 162 = .ok (.aload_n 0, 1) := by decide +kernel
theorem dX6_match_163 : decode cX6_match 163 = .ok (.iload_n 3, 1) := by decide +kernel
theorem dX6_match_164 : decode cX6_match 164 = .ok (.ifCond .ne 7, 3) := by decide +kernel
theorem dX6_match_167 : decode cX6_match 167 = .ok (.iconst 0, 1) := by decide +kernel
theorem dX6_match_168 : decode cX6_match 168 = .ok (.goto 9, 3) := by decide +kernel
theorem dX6_match_171 : decode cX6_match 171 = .ok (.aload_n 0, 1) := by decide +kernel
theorem dX6_match_172 : decode cX6_match 172 = .ok (.getfield 21, 3) := by decide +kernel
theorem dX6_match_175 : decode cX6_match 175 = .ok (.iconst 0, 1) := by decide +kernel
theorem dX6_match_176 : decode cX6_match 176 = .ok (.iaload, 1) := by decide +kernel
theorem dX6_match_177 : decode cX6_match 177 = .ok (.putfield 67, 3) := by decide +kernel
theorem dX6_match_180 : decode cX6_match 180 = .ok (.return_, 1) := by decide +kernel
theorem dX6_mostFrom_0 : decode cX6_mostFrom 0 = .ok (.aload_n 0, 1) := by decide +kernel
theorem dX6_mostFrom_1 : decode cX6_mostFrom 1 = .ok (.getfield 21, 3) := by decide +kernel
theorem dX6_mostFrom_4 : decode cX6_mostFrom 4 = .ok (.iload_n 1, 1) := by decide +kernel
theorem dX6_mostFrom_5 : decode cX6_mostFrom 5 = .ok (.iconst 1, 1) := by decide +kernel
theorem dX6_mostFrom_6 : decode cX6_mostFrom 6 = .ok (.iadd, 1) := by decide +kernel
theorem dX6_mostFrom_7 : decode cX6_mostFrom 7 = .ok (.bipush 9, 2) := by decide +kernel
theorem dX6_mostFrom_9 : decode cX6_mostFrom 9 = .ok (.imul, 1) := by decide +kernel
theorem dX6_mostFrom_10 : decode cX6_mostFrom 10 = .ok (.iload_n 2, 1) := by decide +kernel
theorem dX6_mostFrom_11 : decode cX6_mostFrom 11 = .ok (.iadd, 1) := by decide +kernel
theorem dX6_mostFrom_12 : decode cX6_mostFrom 12 = .ok (.iaload, 1) := by decide +kernel
theorem dX6_mostFrom_13 : decode cX6_mostFrom 13 = .ok (.istore 5, 2) := by decide +kernel
theorem dX6_mostFrom_15 : decode cX6_mostFrom 15 = .ok (.iconst 1, 1) := by decide +kernel
theorem dX6_mostFrom_16 : decode cX6_mostFrom 16 = .ok (.istore 6, 2) := by decide +kernel
theorem dX6_mostFrom_18 : decode cX6_mostFrom 18 = .ok (.iload 6, 2) := by decide +kernel
theorem dX6_mostFrom_20 : decode cX6_mostFrom 20 = .ok (.aload 4, 2) := by decide +kernel
theorem dX6_mostFrom_22 : decode cX6_mostFrom 22 = .ok (.getfield 57, 3) := by decide +kernel
theorem dX6_mostFrom_25 : decode cX6_mostFrom 25 = .ok (.if_icmp .gt 46, 3) := by decide +kernel
theorem dX6_mostFrom_28 : decode cX6_mostFrom 28 = .ok (.aload_n 0, 1) := by decide +kernel
theorem dX6_mostFrom_29 : decode cX6_mostFrom 29 = .ok (.iload_n 1, 1) := by decide +kernel
theorem dX6_mostFrom_30 : decode cX6_mostFrom 30 = .ok (.iload_n 2, 1) := by decide +kernel
theorem dX6_mostFrom_31 : decode cX6_mostFrom 31 = .ok (.iload 6, 2) := by decide +kernel
theorem dX6_mostFrom_33 : decode cX6_mostFrom 33 = .ok (.iload_n 3, 1) := by decide +kernel
theorem dX6_mostFrom_34 : decode cX6_mostFrom 34 = .ok (.aload 4, 2) := by decide +kernel
theorem dX6_mostFrom_36 : decode cX6_mostFrom 36 = .ok (.invokevirtual 70, 3) := by decide +kernel
theorem dX6_mostFrom_39 : decode cX6_mostFrom 39 = .ok (.ifCond .eq 26, 3) := by decide +kernel
theorem dX6_mostFrom_42 : decode cX6_mostFrom 42 = .ok (.iload 5, 2) := by decide +kernel
theorem dX6_mostFrom_44 : decode cX6_mostFrom 44 = .ok (.iconst 1, 1) := by decide +kernel
theorem dX6_mostFrom_45 : decode cX6_mostFrom 45 = .ok (.aload_n 0, 1) := by decide +kernel
theorem dX6_mostFrom_46 : decode cX6_mostFrom 46 = .ok (.getfield 21, 3) := by decide +kernel
theorem dX6_mostFrom_49 : decode cX6_mostFrom 49 = .ok (.iload_n 1, 1) := by decide +kernel
theorem dX6_mostFrom_50 : decode cX6_mostFrom 50 = .ok (.iconst 1, 1) := by decide +kernel
theorem dX6_mostFrom_51 : decode cX6_mostFrom 51 = .ok (.iadd, 1) := by decide +kernel
theorem dX6_mostFrom_52 : decode cX6_mostFrom 52 = .ok (.bipush 9, 2) := by decide +kernel
theorem dX6_mostFrom_54 : decode cX6_mostFrom 54 = .ok (.imul, 1) := by decide +kernel
theorem dX6_mostFrom_55 : decode cX6_mostFrom 55 = .ok (.iload 6, 2) := by decide +kernel
theorem dX6_mostFrom_57 : decode cX6_mostFrom 57 = .ok (.iadd, 1) := by decide +kernel
theorem dX6_mostFrom_58 : decode cX6_mostFrom 58 = .ok (.iaload, 1) := by decide +kernel
theorem dX6_mostFrom_59 : decode cX6_mostFrom 59 = .ok (.iadd, 1) := by decide +kernel
theorem dX6_mostFrom_60 : decode cX6_mostFrom 60 = .ok (.invokestatic 42, 3) := by decide +kernel
theorem dX6_mostFrom_63 : decode cX6_mostFrom 63 = .ok (.istore 5, 2) := by decide +kernel
theorem dX6_mostFrom_65 : decode cX6_mostFrom 65 = .ok (.iinc 6 1, 3) := by decide +kernel
theorem dX6_mostFrom_68 : decode cX6_mostFrom 68 = .ok (.goto (-50), 3) := by decide +kernel
theorem dX6_mostFrom_71 : decode cX6_mostFrom 71 = .ok (.iload 5, 2) := by decide +kernel
theorem dX6_mostFrom_73 : decode cX6_mostFrom 73 = .ok (.ireturn, 1) := by decide +kernel
theorem dX6_leastBill_0 : decode cX6_leastBill 0 = .ok (.aload_n 0, 1) := by decide +kernel
theorem dX6_leastBill_1 : decode cX6_leastBill 1 = .ok (.getfield 21, 3) := by decide +kernel
theorem dX6_leastBill_4 : decode cX6_leastBill 4 = .ok (.iload_n 1, 1) := by decide +kernel
theorem dX6_leastBill_5 : decode cX6_leastBill 5 = .ok (.bipush 9, 2) := by decide +kernel
theorem dX6_leastBill_7 : decode cX6_leastBill 7 = .ok (.imul, 1) := by decide +kernel
theorem dX6_leastBill_8 : decode cX6_leastBill 8 = .ok (.iload_n 2, 1) := by decide +kernel
theorem dX6_leastBill_9 : decode cX6_leastBill 9 = .ok (.iadd, 1) := by decide +kernel
theorem dX6_leastBill_10 : decode cX6_leastBill 10 = .ok (.iaload, 1) := by decide +kernel
theorem dX6_leastBill_11 : decode cX6_leastBill 11 = .ok (.istore 5, 2) := by decide +kernel
theorem dX6_leastBill_13 : decode cX6_leastBill 13 = .ok (.aload_n 0, 1) := by decide +kernel
theorem dX6_leastBill_14 : decode cX6_leastBill 14 = .ok (.getfield 21, 3) := by decide +kernel
theorem dX6_leastBill_17 : decode cX6_leastBill 17 = .ok (.iload_n 1, 1) := by decide +kernel
theorem dX6_leastBill_18 : decode cX6_leastBill 18 = .ok (.iconst 1, 1) := by decide +kernel
theorem dX6_leastBill_19 : decode cX6_leastBill 19 = .ok (.iadd, 1) := by decide +kernel
theorem dX6_leastBill_20 : decode cX6_leastBill 20 = .ok (.bipush 9, 2) := by decide +kernel
theorem dX6_leastBill_22 : decode cX6_leastBill 22 = .ok (.imul, 1) := by decide +kernel
theorem dX6_leastBill_23 : decode cX6_leastBill 23 = .ok (.iload_n 2, 1) := by decide +kernel
theorem dX6_leastBill_24 : decode cX6_leastBill 24 = .ok (.iadd, 1) := by decide +kernel
theorem dX6_leastBill_25 : decode cX6_leastBill 25 = .ok (.iaload, 1) := by decide +kernel
theorem dX6_leastBill_26 : decode cX6_leastBill 26 = .ok (.iload 5, 2) := by decide +kernel
theorem dX6_leastBill_28 : decode cX6_leastBill 28 = .ok (.if_icmp .ne 5, 3) := by decide +kernel
theorem dX6_leastBill_31 : decode cX6_leastBill 31 = .ok (.iconst 0, 1) := by decide +kernel
theorem dX6_leastBill_32 : decode cX6_leastBill 32 = .ok (.ireturn, 1) := by decide +kernel
theorem dX6_leastBill_33 : decode cX6_leastBill 33 = .ok (.iconst 1, 1) := by decide +kernel
theorem dX6_leastBill_34 : decode cX6_leastBill 34 = .ok (.istore 6, 2) := by decide +kernel
theorem dX6_leastBill_36 : decode cX6_leastBill 36 = .ok (.iload 6, 2) := by decide +kernel
theorem dX6_leastBill_38 : decode cX6_leastBill 38 = .ok (.aload 4, 2) := by decide +kernel
theorem dX6_leastBill_40 : decode cX6_leastBill 40 = .ok (.getfield 57, 3) := by decide +kernel
theorem dX6_leastBill_43 : decode cX6_leastBill 43 = .ok (.if_icmp .gt 47, 3) := by decide +kernel
theorem dX6_leastBill_46 : decode cX6_leastBill 46 = .ok (.aload_n 0, 1) := by decide +kernel
theorem dX6_leastBill_47 : decode cX6_leastBill 47 = .ok (.iload_n 1, 1) := by decide +kernel
theorem dX6_leastBill_48 : decode cX6_leastBill 48 = .ok (.iload_n 2, 1) := by decide +kernel
theorem dX6_leastBill_49 : decode cX6_leastBill 49 = .ok (.iload 6, 2) := by decide +kernel
theorem dX6_leastBill_51 : decode cX6_leastBill 51 = .ok (.iload_n 3, 1) := by decide +kernel
theorem dX6_leastBill_52 : decode cX6_leastBill 52 = .ok (.aload 4, 2) := by decide +kernel
theorem dX6_leastBill_54 : decode cX6_leastBill 54 = .ok (.invokevirtual 70, 3) := by decide +kernel
theorem dX6_leastBill_57 : decode cX6_leastBill 57 = .ok (.ifCond .eq 27, 3) := by decide +kernel
theorem dX6_leastBill_60 : decode cX6_leastBill 60 = .ok (.iconst 1, 1) := by decide +kernel
theorem dX6_leastBill_61 : decode cX6_leastBill 61 = .ok (.aload_n 0, 1) := by decide +kernel
theorem dX6_leastBill_62 : decode cX6_leastBill 62 = .ok (.getfield 21, 3) := by decide +kernel
theorem dX6_leastBill_65 : decode cX6_leastBill 65 = .ok (.iload_n 1, 1) := by decide +kernel
theorem dX6_leastBill_66 : decode cX6_leastBill 66 = .ok (.iconst 1, 1) := by decide +kernel
theorem dX6_leastBill_67 : decode cX6_leastBill 67 = .ok (.iadd, 1) := by decide +kernel
theorem dX6_leastBill_68 : decode cX6_leastBill 68 = .ok (.bipush 9, 2) := by decide +kernel
theorem dX6_leastBill_70 : decode cX6_leastBill 70 = .ok (.imul, 1) := by decide +kernel
theorem dX6_leastBill_71 : decode cX6_leastBill 71 = .ok (.iload 6, 2) := by decide +kernel
theorem dX6_leastBill_73 : decode cX6_leastBill 73 = .ok (.iadd, 1) := by decide +kernel
theorem dX6_leastBill_74 : decode cX6_leastBill 74 = .ok (.iaload, 1) := by decide +kernel
theorem dX6_leastBill_75 : decode cX6_leastBill 75 = .ok (.iadd, 1) := by decide +kernel
theorem dX6_leastBill_76 : decode cX6_leastBill 76 = .ok (.iload 5, 2) := by decide +kernel
theorem dX6_leastBill_78 : decode cX6_leastBill 78 = .ok (.if_icmp .ne 6, 3) := by decide +kernel
theorem dX6_leastBill_81 : decode cX6_leastBill 81 = .ok (.iload 6, 2) := by decide +kernel
theorem dX6_leastBill_83 : decode cX6_leastBill 83 = .ok (.ireturn, 1) := by decide +kernel
theorem dX6_leastBill_84 : decode cX6_leastBill 84 = .ok (.iinc 6 1, 3) := by decide +kernel
theorem dX6_leastBill_87 : decode cX6_leastBill 87 = .ok (.goto (-51), 3) := by decide +kernel
theorem dX6_leastBill_90 : decode cX6_leastBill 90 = .ok (.iconst 0, 1) := by decide +kernel
theorem dX6_leastBill_91 : decode cX6_leastBill 91 = .ok (.ireturn, 1) := by decide +kernel
theorem dX6_fits_0 : decode cX6_fits 0 = .ok (.aload 5, 2) := by decide +kernel
theorem dX6_fits_2 : decode cX6_fits 2 = .ok (.getfield 74, 3) := by decide +kernel
theorem dX6_fits_5 : decode cX6_fits 5 = .ok (.iload_n 3, 1) := by decide +kernel
theorem dX6_fits_6 : decode cX6_fits 6 = .ok (.iconst 1, 1) := by decide +kernel
theorem dX6_fits_7 : decode cX6_fits 7 = .ok (.isub, 1) := by decide +kernel
theorem dX6_fits_8 : decode cX6_fits 8 = .ok (.iaload, 1) := by decide +kernel
theorem dX6_fits_9 : decode cX6_fits 9 = .ok (.istore 6, 2) := by decide +kernel
theorem dX6_fits_11 : decode cX6_fits 11 = .ok (.iload_n 2, 1) := by decide +kernel
theorem dX6_fits_12 : decode cX6_fits 12 = .ok (.ifCond .eq 17, 3) := by decide +kernel
theorem dX6_fits_15 : decode cX6_fits 15 = .ok (.iload 6, 2) := by decide +kernel
theorem dX6_fits_17 : decode cX6_fits 17 = .ok (.aload 5, 2) := by decide +kernel
theorem dX6_fits_19 : decode cX6_fits 19 = .ok (.getfield 74, 3) := by decide +kernel
theorem dX6_fits_22 : decode cX6_fits 22 = .ok (.iload_n 2, 1) := by decide +kernel
theorem dX6_fits_23 : decode cX6_fits 23 = .ok (.iconst 1, 1) := by decide +kernel
theorem dX6_fits_24 : decode cX6_fits 24 = .ok (.isub, 1) := by decide +kernel
theorem dX6_fits_25 : decode cX6_fits 25 = .ok (.iaload, 1) := by decide +kernel
theorem dX6_fits_26 : decode cX6_fits 26 = .ok (.if_icmp .le 7, 3) := by decide +kernel
theorem dX6_fits_29 : decode cX6_fits 29 = .ok (.iconst 1, 1) := by decide +kernel
theorem dX6_fits_30 : decode cX6_fits 30 = .ok (.goto 4, 3) := by decide +kernel
theorem dX6_fits_33 : decode cX6_fits 33 = .ok (.iconst 0, 1) := by decide +kernel
theorem dX6_fits_34 : decode cX6_fits 34 = .ok (.istore 7, 2) := by decide +kernel
theorem dX6_fits_36 : decode cX6_fits 36 = .ok (.aload_n 0, 1) := by decide +kernel
theorem dX6_fits_37 : decode cX6_fits 37 = .ok (.getfield 30, 3) := by decide +kernel
theorem dX6_fits_40 : decode cX6_fits 40 = .ok (.ifCond .eq 48, 3) := by decide +kernel
theorem dX6_fits_43 : decode cX6_fits 43 = .ok (.iload 7, 2) := by decide +kernel
theorem dX6_fits_45 : decode cX6_fits 45 = .ok (.ifCond .eq 43, 3) := by decide +kernel
theorem dX6_fits_48 : decode cX6_fits 48 = .ok (.aload 5, 2) := by decide +kernel
theorem dX6_fits_50 : decode cX6_fits 50 = .ok (.getfield 77, 3) := by decide +kernel
theorem dX6_fits_53 : decode cX6_fits 53 = .ok (.iload_n 3, 1) := by decide +kernel
theorem dX6_fits_54 : decode cX6_fits 54 = .ok (.iconst 1, 1) := by decide +kernel
theorem dX6_fits_55 : decode cX6_fits 55 = .ok (.isub, 1) := by decide +kernel
theorem dX6_fits_56 : decode cX6_fits 56 = .ok (.iaload, 1) := by decide +kernel
theorem dX6_fits_57 : decode cX6_fits 57 = .ok (.iload 4, 2) := by decide +kernel
theorem dX6_fits_59 : decode cX6_fits 59 = .ok (.if_icmp .ne 29, 3) := by decide +kernel
theorem dX6_fits_62 : decode cX6_fits 62 = .ok (.iload 6, 2) := by decide +kernel
theorem dX6_fits_64 : decode cX6_fits 64 = .ok (.aload_n 0, 1) := by decide +kernel
theorem dX6_fits_65 : decode cX6_fits 65 = .ok (.getfield 9, 3) := by decide +kernel
theorem dX6_fits_68 : decode cX6_fits 68 = .ok (.iload_n 1, 1) := by decide +kernel
theorem dX6_fits_69 : decode cX6_fits 69 = .ok (.iaload, 1) := by decide +kernel
theorem dX6_fits_70 : decode cX6_fits 70 = .ok (.if_icmp .lt 18, 3) := by decide +kernel
theorem dX6_fits_73 : decode cX6_fits 73 = .ok (.iload 6, 2) := by decide +kernel
theorem dX6_fits_75 : decode cX6_fits 75 = .ok (.aload_n 0, 1) := by decide +kernel
theorem dX6_fits_76 : decode cX6_fits 76 = .ok (.getfield 15, 3) := by decide +kernel
theorem dX6_fits_79 : decode cX6_fits 79 = .ok (.iload_n 1, 1) := by decide +kernel
theorem dX6_fits_80 : decode cX6_fits 80 = .ok (.iaload, 1) := by decide +kernel
theorem dX6_fits_81 : decode cX6_fits 81 = .ok (.if_icmp .gt 7, 3) := by decide +kernel
theorem dX6_fits_84 : decode cX6_fits 84 = .ok (.iconst 1, 1) := by decide +kernel
theorem dX6_fits_85 : decode cX6_fits 85 = .ok (.goto 4, 3) := by decide +kernel
theorem dX6_fits_88 : decode cX6_fits 88 = .ok (.iconst 0, 1) := by decide +kernel
theorem dX6_fits_89 : decode cX6_fits 89 = .ok (.ireturn, 1) := by decide +kernel
theorem dX7_init_0 : decode cX7_init 0 = .ok (.aload_n 0, 1) := by decide +kernel
theorem dX7_init_1 : decode cX7_init 1 = .ok (.invokespecial 3, 3) := by decide +kernel
theorem dX7_init_4 : decode cX7_init 4 = .ok (.aload_n 0, 1) := by decide +kernel
theorem dX7_init_5 : decode cX7_init 5 = .ok (.new 9, 3) := by decide +kernel
theorem dX7_init_8 : decode cX7_init 8 = .ok (.dup, 1) := by decide +kernel
theorem dX7_init_9 : decode cX7_init 9 = .ok (.invokespecial 11, 3) := by decide +kernel
theorem dX7_init_12 : decode cX7_init 12 = .ok (.putfield 12, 3) := by decide +kernel
theorem dX7_init_15 : decode cX7_init 15 = .ok (.aload_n 0, 1) := by decide +kernel
theorem dX7_init_16 : decode cX7_init 16 = .ok (.new 16, 3) := by decide +kernel
theorem dX7_init_19 : decode cX7_init 19 = .ok (.dup, 1) := by decide +kernel
theorem dX7_init_20 : decode cX7_init 20 = .ok (.invokespecial 18, 3) := by decide +kernel
theorem dX7_init_23 : decode cX7_init 23 = .ok (.putfield 19, 3) := by decide +kernel
theorem dX7_init_26 : decode cX7_init 26 = .ok (.aload_n 0, 1) := by decide +kernel
theorem dX7_init_27 : decode cX7_init 27 = .ok (.iconst 2, 1) := by decide +kernel
theorem dX7_init_28 : decode cX7_init 28 = .ok (.anewarray 16, 3) := by decide +kernel
theorem dX7_init_31 : decode cX7_init 31 = .ok (.putfield 23, 3) := by decide +kernel
theorem dX7_init_34 : decode cX7_init 34 = .ok (.aload_n 0, 1) := by decide +kernel
theorem dX7_init_35 : decode cX7_init 35 = .ok (.iconst 5, 1) := by decide +kernel
theorem dX7_init_36 : decode cX7_init 36 = .ok (.newarray .int, 2) := by decide +kernel
theorem dX7_init_38 : decode cX7_init 38 = .ok (.dup, 1) := by decide +kernel
theorem dX7_init_39 : decode cX7_init 39 = .ok (.iconst 0, 1) := by decide +kernel
theorem dX7_init_40 : decode cX7_init 40 = .ok (.bipush 10, 2) := by decide +kernel
theorem dX7_init_42 : decode cX7_init 42 = .ok (.iastore, 1) := by decide +kernel
theorem dX7_init_43 : decode cX7_init 43 = .ok (.dup, 1) := by decide +kernel
theorem dX7_init_44 : decode cX7_init 44 = .ok (.iconst 1, 1) := by decide +kernel
theorem dX7_init_45 : decode cX7_init 45 = .ok (.iconst 1, 1) := by decide +kernel
theorem dX7_init_46 : decode cX7_init 46 = .ok (.iastore, 1) := by decide +kernel
theorem dX7_init_47 : decode cX7_init 47 = .ok (.dup, 1) := by decide +kernel
theorem dX7_init_48 : decode cX7_init 48 = .ok (.iconst 2, 1) := by decide +kernel
theorem dX7_init_49 : decode cX7_init 49 = .ok (.iconst 0, 1) := by decide +kernel
theorem dX7_init_50 : decode cX7_init 50 = .ok (.iastore, 1) := by decide +kernel
theorem dX7_init_51 : decode cX7_init 51 = .ok (.dup, 1) := by decide +kernel
theorem dX7_init_52 : decode cX7_init 52 = .ok (.iconst 3, 1) := by decide +kernel
theorem dX7_init_53 : decode cX7_init 53 = .ok (.iconst 2, 1) := by decide +kernel
theorem dX7_init_54 : decode cX7_init 54 = .ok (.iastore, 1) := by decide +kernel
theorem dX7_init_55 : decode cX7_init 55 = .ok (.dup, 1) := by decide +kernel
theorem dX7_init_56 : decode cX7_init 56 = .ok (.iconst 4, 1) := by decide +kernel
theorem dX7_init_57 : decode cX7_init 57 = .ok (.iconst 3, 1) := by decide +kernel
theorem dX7_init_58 : decode cX7_init 58 = .ok (.iastore, 1) := by decide +kernel
theorem dX7_init_59 : decode cX7_init 59 = .ok (.putfield 27, 3) := by decide +kernel
theorem dX7_init_62 : decode cX7_init 62 = .ok (.aload_n 0, 1) := by decide +kernel
theorem dX7_init_63 : decode cX7_init 63 = .ok (.bipush 12, 2) := by decide +kernel
theorem dX7_init_65 : decode cX7_init 65 = .ok (.newarray .int, 2) := by decide +kernel
theorem dX7_init_67 : decode cX7_init 67 = .ok (.putfield 31, 3) := by decide +kernel
theorem dX7_init_70 : decode cX7_init 70 = .ok (.aload_n 0, 1) := by decide +kernel
theorem dX7_init_71 : decode cX7_init 71 = .ok (.new 34, 3) := by decide +kernel
theorem dX7_init_74 : decode cX7_init 74 = .ok (.dup, 1) := by decide +kernel
theorem dX7_init_75 : decode cX7_init 75 = .ok (.invokespecial 36, 3) := by decide +kernel
theorem dX7_init_78 : decode cX7_init 78 = .ok (.putfield 37, 3) := by decide +kernel
theorem dX7_init_81 : decode cX7_init 81 = .ok (.aload_n 0, 1) := by decide +kernel
theorem dX7_init_82 : decode cX7_init 82 = .ok (.new 41, 3) := by decide +kernel
theorem dX7_init_85 : decode cX7_init 85 = .ok (.dup, 1) := by decide +kernel
theorem dX7_init_86 : decode cX7_init 86 = .ok (.invokespecial 43, 3) := by decide +kernel
theorem dX7_init_89 : decode cX7_init 89 = .ok (.putfield 44, 3) := by decide +kernel
theorem dX7_init_92 : decode cX7_init 92 = .ok (.aload_n 0, 1) := by decide +kernel
theorem dX7_init_93 : decode cX7_init 93 = .ok (.new 48, 3) := by decide +kernel
theorem dX7_init_96 : decode cX7_init 96 = .ok (.dup, 1) := by decide +kernel
theorem dX7_init_97 : decode cX7_init 97 = .ok (.invokespecial 50, 3) := by decide +kernel
theorem dX7_init_100 : decode cX7_init 100 = .ok (.putfield 51, 3) := by decide +kernel
theorem dX7_init_103 : decode cX7_init 103 = .ok (.aload_n 0, 1) := by decide +kernel
theorem dX7_init_104 : decode cX7_init 104 = .ok (.new 55, 3) := by decide +kernel
theorem dX7_init_107 : decode cX7_init 107 = .ok (.dup, 1) := by decide +kernel
theorem dX7_init_108 : decode cX7_init 108 = .ok (.invokespecial 57, 3) := by decide +kernel
theorem dX7_init_111 : decode cX7_init 111 = .ok (.putfield 58, 3) := by decide +kernel
theorem dX7_init_114 : decode cX7_init 114 = .ok (.aload_n 0, 1) := by decide +kernel
theorem dX7_init_115 : decode cX7_init 115 = .ok (.new 55, 3) := by decide +kernel
theorem dX7_init_118 : decode cX7_init 118 = .ok (.dup, 1) := by decide +kernel
theorem dX7_init_119 : decode cX7_init 119 = .ok (.invokespecial 57, 3) := by decide +kernel
theorem dX7_init_122 : decode cX7_init 122 = .ok (.putfield 62, 3) := by decide +kernel
theorem dX7_init_125 : decode cX7_init 125 = .ok (.iconst 0, 1) := by decide +kernel
theorem dX7_init_126 : decode cX7_init 126 = .ok (.istore_n 1, 1) := by decide +kernel
theorem dX7_init_127 : decode cX7_init 127 = .ok (.iload_n 1, 1) := by decide +kernel
theorem dX7_init_128 : decode cX7_init 128 = .ok (.iconst 2, 1) := by decide +kernel
theorem dX7_init_129 : decode cX7_init 129 = .ok (.if_icmp .ge 22, 3) := by decide +kernel
theorem dX7_init_132 : decode cX7_init 132 = .ok (.aload_n 0, 1) := by decide +kernel
theorem dX7_init_133 : decode cX7_init 133 = .ok (.getfield 23, 3) := by decide +kernel
theorem dX7_init_136 : decode cX7_init 136 = .ok (.iload_n 1, 1) := by decide +kernel
theorem dX7_init_137 : decode cX7_init 137 = .ok (.new 16, 3) := by decide +kernel
theorem dX7_init_140 : decode cX7_init 140 = .ok (.dup, 1) := by decide +kernel
theorem dX7_init_141 : decode cX7_init 141 = .ok (.invokespecial 18, 3) := by decide +kernel
theorem dX7_init_144 : decode cX7_init 144 = .ok (.aastore, 1) := by decide +kernel
theorem dX7_init_145 : decode cX7_init 145 = .ok (.iinc 1 1, 3) := by decide +kernel
theorem dX7_init_148 : decode cX7_init 148 = .ok (.goto (-21), 3) := by decide +kernel
theorem dX7_init_151 : decode cX7_init 151 = .ok (.return_, 1) := by decide +kernel
theorem dX7_type_0 : decode cX7_type 0 = .ok (.iload_n 3, 1) := by decide +kernel
theorem dX7_type_1 : decode cX7_type 1 = .ok (.iconst 1, 1) := by decide +kernel
theorem dX7_type_2 : decode cX7_type 2 = .ok (.if_icmp .lt 9, 3) := by decide +kernel
theorem dX7_type_5 : decode cX7_type 5 = .ok (.iload_n 3, 1) := by decide +kernel
theorem dX7_type_6 : decode cX7_type 6 = .ok (.bipush 8, 2) := by decide +kernel
theorem dX7_type_8 : decode cX7_type 8 = .ok (.if_icmp .le 5, 3) := by decide +kernel
theorem dX7_type_11 : decode cX7_type 11 = .ok (.iconst (-1), 1) := by decide +kernel
theorem dX7_type_12 : decode cX7_type 12 = .ok (.ireturn, 1) := by decide +kernel
theorem dX7_type_13 : decode cX7_type 13 = .ok (.aload_n 0, 1) := by decide +kernel
theorem dX7_type_14 : decode cX7_type 14 = .ok (.getfield 12, 3) := by decide +kernel
theorem dX7_type_17 : decode cX7_type 17 = .ok (.lload_n 1, 1) := by decide +kernel
theorem dX7_type_18 : decode cX7_type 18 = .ok (.iload_n 3, 1) := by decide +kernel
theorem dX7_type_19 : decode cX7_type 19 = .ok (.invokevirtual 65, 3) := by decide +kernel
theorem dX7_type_22 : decode cX7_type 22 = .ok (.ifCond .eq 13, 3) := by decide +kernel
theorem dX7_type_25 : decode cX7_type 25 = .ok (.aload_n 0, 1) := by decide +kernel
theorem dX7_type_26 : decode cX7_type 26 = .ok (.getfield 12, 3) := by decide +kernel
theorem dX7_type_29 : decode cX7_type 29 = .ok (.getfield 69, 3) := by decide +kernel
theorem dX7_type_32 : decode cX7_type 32 = .ok (.goto 5, 3) := by decide +kernel
theorem dX7_type_35 : decode cX7_type 35 = .ok (.bipush (-3), 2) := by decide +kernel
theorem dX7_type_37 : decode cX7_type 37 = .ok (.ireturn, 1) := by decide +kernel
theorem dX7_clear_0 : decode cX7_clear 0 = .ok (.aload_n 0, 1) := by decide +kernel
theorem dX7_clear_1 : decode cX7_clear 1 = .ok (.getfield 12, 3) := by decide +kernel
theorem dX7_clear_4 : decode cX7_clear 4 = .ok (.getfield 69, 3) := by decide +kernel
theorem dX7_clear_7 : decode cX7_clear 7 = .ok (.istore_n 1, 1) := by decide +kernel
theorem dX7_clear_8 : decode cX7_clear 8 = .ok (.aload_n 0, 1) := by decide +kernel
theorem dX7_clear_9 : decode cX7_clear 9 = .ok (.getfield 12, 3) := by decide +kernel
theorem dX7_clear_12 : decode cX7_clear 12 = .ok (.iconst 0, 1) := by decide +kernel
theorem dX7_clear_13 : decode cX7_clear 13 = .ok (.putfield 69, 3) := by decide +kernel
theorem dX7_clear_16 : decode cX7_clear 16 = .ok (.iload_n 1, 1) := by decide +kernel
theorem dX7_clear_17 : decode cX7_clear 17 = .ok (.ireturn, 1) := by decide +kernel
theorem dX7_chip_0 : decode cX7_chip 0 = .ok (.aload_n 0, 1) := by decide +kernel
theorem dX7_chip_1 : decode cX7_chip 1 = .ok (.getfield 19, 3) := by decide +kernel
theorem dX7_chip_4 : decode cX7_chip 4 = .ok (.getfield 73, 3) := by decide +kernel
theorem dX7_chip_7 : decode cX7_chip 7 = .ok (.iconst 4, 1) := by decide +kernel
theorem dX7_chip_8 : decode cX7_chip 8 = .ok (.if_icmp .lt 6, 3) := by decide +kernel
theorem dX7_chip_11 : decode cX7_chip 11 = .ok (.bipush (-3), 2) := by decide +kernel
theorem dX7_chip_13 : decode cX7_chip 13 = .ok (.ireturn, 1) := by decide +kernel
theorem dX7_chip_14 : decode cX7_chip 14 = .ok (.aload_n 0, 1) := by decide +kernel
theorem dX7_chip_15 : decode cX7_chip 15 = .ok (.getfield 12, 3) := by decide +kernel
theorem dX7_chip_18 : decode cX7_chip 18 = .ok (.invokevirtual 76, 3) := by decide +kernel
theorem dX7_chip_21 : decode cX7_chip 21 = .ok (.aload_n 0, 1) := by decide +kernel
theorem dX7_chip_22 : decode cX7_chip 22 = .ok (.getfield 19, 3) := by decide +kernel
theorem dX7_chip_25 : decode cX7_chip 25 = .ok (.getfield 79, 3) := by decide +kernel
theorem dX7_chip_28 : decode cX7_chip 28 = .ok (.aload_n 0, 1) := by decide +kernel
theorem dX7_chip_29 : decode cX7_chip 29 = .ok (.getfield 19, 3) := by decide +kernel
theorem dX7_chip_32 : decode cX7_chip 32 = .ok (.getfield 73, 3) := by decide +kernel
theorem dX7_chip_35 : decode cX7_chip 35 = .ok (.aaload, 1) := by decide +kernel
theorem dX7_chip_36 : decode cX7_chip 36 = .ok (.aload_n 0, 1) := by decide +kernel
theorem dX7_chip_37 : decode cX7_chip 37 = .ok (.getfield 12, 3) := by decide +kernel
theorem dX7_chip_40 : decode cX7_chip 40 = .ok (.invokevirtual 83, 3) := by decide +kernel
theorem dX7_chip_43 : decode cX7_chip 43 = .ok (.ifCond .ne 14, 3) := by decide +kernel
theorem dX7_chip_46 : decode cX7_chip 46 = .ok (.bipush (-10), 2) := by decide +kernel
theorem dX7_chip_48 : decode cX7_chip 48 = .ok (.aload_n 0, 1) := by decide +kernel
theorem dX7_chip_49 : decode cX7_chip 49 = .ok (.getfield 12, 3) := by decide +kernel
theorem dX7_chip_52 : decode cX7_chip 52 = .ok (.invokevirtual 89, 3) := by decide +kernel
theorem dX7_chip_55 : decode cX7_chip 55 = .ok (.isub, 1) := by decide +kernel
theorem dX7_chip_56 : decode cX7_chip 56 = .ok (.ireturn, 1) := by decide +kernel
theorem dX7_chip_57 : decode cX7_chip 57 = .ok (.aload_n 0, 1) := by decide +kernel
theorem dX7_chip_58 : decode cX7_chip 58 = .ok (.getfield 12, 3) := by decide +kernel
theorem dX7_chip_61 : decode cX7_chip 61 = .ok (.iconst 0, 1) := by decide +kernel
theorem dX7_chip_62 : decode cX7_chip 62 = .ok (.putfield 69, 3) := by decide +kernel
theorem dX7_chip_65 : decode cX7_chip 65 = .ok (.aload_n 0, 1) := by decide +kernel
theorem dX7_chip_66 : decode cX7_chip 66 = .ok (.getfield 19, 3) := by decide +kernel
theorem dX7_chip_69 : decode cX7_chip 69 = .ok (.dup, 1) := by decide +kernel
theorem dX7_chip_70 : decode cX7_chip 70 = .ok (.getfield 73, 3) := by decide +kernel
theorem dX7_chip_73 : decode cX7_chip 73 = .ok (.iconst 1, 1) := by decide +kernel
theorem dX7_chip_74 : decode cX7_chip 74 = .ok (.iadd, 1) := by decide +kernel
theorem dX7_chip_75 : decode cX7_chip 75 = .ok (.putfield 73, 3) := by decide +kernel
theorem dX7_chip_78 : decode cX7_chip 78 = .ok (.aload_n 0, 1) := by decide +kernel
theorem dX7_chip_79 : decode cX7_chip 79 = .ok (.iconst 0, 1) := by decide +kernel
theorem dX7_chip_80 : decode cX7_chip 80 = .ok (.putfield 93, 3) := by decide +kernel
theorem dX7_chip_83 : decode cX7_chip 83 = .ok (.aload_n 0, 1) := by decide +kernel
theorem dX7_chip_84 : decode cX7_chip 84 = .ok (.getfield 19, 3) := by decide +kernel
theorem dX7_chip_87 : decode cX7_chip 87 = .ok (.getfield 73, 3) := by decide +kernel
theorem dX7_chip_90 : decode cX7_chip 90 = .ok (.iconst 1, 1) := by decide +kernel
theorem dX7_chip_91 : decode cX7_chip 91 = .ok (.isub, 1) := by decide +kernel
theorem dX7_chip_92 : decode cX7_chip 92 = .ok (.ireturn, 1) := by decide +kernel
theorem dX7_book_0 : decode cX7_book 0 = .ok (.aload_n 0, 1) := by decide +kernel
theorem dX7_book_1 : decode cX7_book 1 = .ok (.getfield 12, 3) := by decide +kernel
theorem dX7_book_4 : decode cX7_book 4 = .ok (.invokevirtual 76, 3) := by decide +kernel
theorem dX7_book_7 : decode cX7_book 7 = .ok (.aload_n 0, 1) := by decide +kernel
theorem dX7_book_8 : decode cX7_book 8 = .ok (.getfield 62, 3) := by decide +kernel
theorem dX7_book_11 : decode cX7_book 11 = .ok (.aload_n 0, 1) := by decide +kernel
theorem dX7_book_12 : decode cX7_book 12 = .ok (.getfield 12, 3) := by decide +kernel
theorem dX7_book_15 : decode cX7_book 15 = .ok (.invokevirtual 97, 3) := by decide +kernel
theorem dX7_book_18 : decode cX7_book 18 = .ok (.ifCond .ne 14, 3) := by decide +kernel
theorem dX7_book_21 : decode cX7_book 21 = .ok (.bipush (-10), 2) := by decide +kernel
theorem dX7_book_23 : decode cX7_book 23 = .ok (.aload_n 0, 1) := by decide +kernel
theorem dX7_book_24 : decode cX7_book 24 = .ok (.getfield 12, 3) := by decide +kernel
theorem dX7_book_27 : decode cX7_book 27 = .ok (.invokevirtual 89, 3) := by decide +kernel
theorem dX7_book_30 : decode cX7_book 30 = .ok (.isub, 1) := by decide +kernel
theorem dX7_book_31 : decode cX7_book 31 = .ok (.ireturn, 1) := by decide +kernel
theorem dX7_book_32 : decode cX7_book 32 = .ok (.aload_n 0, 1) := by decide +kernel
theorem dX7_book_33 : decode cX7_book 33 = .ok (.getfield 58, 3) := by decide +kernel
theorem dX7_book_36 : decode cX7_book 36 = .ok (.astore_n 1, 1) := by decide +kernel
theorem dX7_book_37 : decode cX7_book 37 = .ok (.aload_n 0, 1) := by decide +kernel
theorem dX7_book_38 : decode cX7_book 38 = .ok (.aload_n 0, 1) := by decide +kernel
theorem dX7_book_39 : decode cX7_book 39 = .ok (.getfield 62, 3) := by decide +kernel
theorem dX7_book_42 : decode cX7_book 42 = .ok (.putfield 58, 3) := by decide +kernel
theorem dX7_book_45 : decode cX7_book 45 = .ok (.aload_n 0, 1) := by decide +kernel
theorem dX7_book_46 : decode cX7_book 46 = .ok (.aload_n 1, 1) := by decide +kernel
theorem dX7_book_47 : decode cX7_book 47 = .ok (.putfield 62, 3) := by decide +kernel
theorem dX7_book_50 : decode cX7_book 50 = .ok (.aload_n 0, 1) := by decide +kernel
theorem dX7_book_51 : decode cX7_book 51 = .ok (.getfield 12, 3) := by decide +kernel
theorem dX7_book_54 : decode cX7_book 54 = .ok (.iconst 0, 1) := by decide +kernel
theorem dX7_book_55 : decode cX7_book 55 = .ok (.putfield 69, 3) := by decide +kernel
theorem dX7_book_58 : decode cX7_book 58 = .ok (.aload_n 0, 1) := by decide +kernel
theorem dX7_book_59 : decode cX7_book 59 = .ok (.iconst 0, 1) := by decide +kernel
theorem dX7_book_60 : decode cX7_book 60 = .ok (.putfield 93, 3) := by decide +kernel
theorem dX7_book_63 : decode cX7_book 63 = .ok (.aload_n 0, 1) := by decide +kernel
theorem dX7_book_64 : decode cX7_book 64 = .ok (.getfield 58, 3) := by decide +kernel
theorem dX7_book_67 : decode cX7_book 67 = .ok (.getfield 98, 3) := by decide +kernel
theorem dX7_book_70 : decode cX7_book 70 = .ok (.ireturn, 1) := by decide +kernel
theorem dX7_drop_0 : decode cX7_drop 0 = .ok (.aload_n 0, 1) := by decide +kernel
theorem dX7_drop_1 : decode cX7_drop 1 = .ok (.iload_n 1, 1) := by decide +kernel
theorem dX7_drop_2 : decode cX7_drop 2 = .ok (.invokevirtual 101, 3) := by decide +kernel
theorem dX7_drop_5 : decode cX7_drop 5 = .ok (.ifCond .ne 5, 3) := by decide +kernel
theorem dX7_drop_8 : decode cX7_drop 8 = .ok (.iconst (-1), 1) := by decide +kernel
theorem dX7_drop_9 : decode cX7_drop 9 = .ok (.ireturn, 1) := by decide +kernel
theorem dX7_drop_10 : decode cX7_drop 10 = .ok (.aload_n 0, 1) := by decide +kernel
theorem dX7_drop_11 : decode cX7_drop 11 = .ok (.getfield 19, 3) := by decide +kernel
theorem dX7_drop_14 : decode cX7_drop 14 = .ok (.iload_n 1, 1) := by decide +kernel
theorem dX7_drop_15 : decode cX7_drop 15 = .ok (.invokevirtual 105, 3) := by decide +kernel
theorem dX7_drop_18 : decode cX7_drop 18 = .ok (.aload_n 0, 1) := by decide +kernel
theorem dX7_drop_19 : decode cX7_drop 19 = .ok (.iconst 0, 1) := by decide +kernel
theorem dX7_drop_20 : decode cX7_drop 20 = .ok (.putfield 93, 3) := by decide +kernel
theorem dX7_drop_23 : decode cX7_drop 23 = .ok (.aload_n 0, 1) := by decide +kernel
theorem dX7_drop_24 : decode cX7_drop 24 = .ok (.getfield 19, 3) := by decide +kernel
theorem dX7_drop_27 : decode cX7_drop 27 = .ok (.getfield 73, 3) := by decide +kernel
theorem dX7_drop_30 : decode cX7_drop 30 = .ok (.ireturn, 1) := by decide +kernel
theorem dX7_about_0 : decode cX7_about 0 = .ok (.aload_n 0, 1) := by decide +kernel
theorem dX7_about_1 : decode cX7_about 1 = .ok (.iload_n 1, 1) := by decide +kernel
theorem dX7_about_2 : decode cX7_about 2 = .ok (.invokevirtual 101, 3) := by decide +kernel
theorem dX7_about_5 : decode cX7_about 5 = .ok (.ifCond .ne 5, 3) := by decide +kernel
theorem dX7_about_8 : decode cX7_about 8 = .ok (.iconst (-1), 1) := by decide +kernel
theorem dX7_about_9 : decode cX7_about 9 = .ok (.ireturn, 1) := by decide +kernel
theorem dX7_about_10 : decode cX7_about 10 = .ok (.aload_n 0, 1) := by decide +kernel
theorem dX7_about_11 : decode cX7_about 11 = .ok (.getfield 19, 3) := by decide +kernel
theorem dX7_about_14 : decode cX7_about 14 = .ok (.getfield 79, 3) := by decide +kernel
theorem dX7_about_17 : decode cX7_about 17 = .ok (.iload_n 1, 1) := by decide +kernel
theorem dX7_about_18 : decode cX7_about 18 = .ok (.aaload, 1) := by decide +kernel
theorem dX7_about_19 : decode cX7_about 19 = .ok (.astore_n 3, 1) := by decide +kernel
theorem dX7_about_20 : decode cX7_about 20 = .ok (.iload_n 2, 1) := by decide +kernel
theorem dX7_about_21 : decode cX7_about 21 = .ok (.tableswitch 50 0 2 #[27, 32, 45], 27) := by decide +kernel
theorem dX7_about_48 : decode cX7_about 48 = .ok (.aload_n 3, 1) := by decide +kernel
theorem dX7_about_49 : decode cX7_about 49 = .ok (.getfield 109, 3) := by decide +kernel
theorem dX7_about_52 : decode cX7_about 52 = .ok (.ireturn, 1) := by decide +kernel
theorem dX7_about_53 : decode cX7_about 53 = .ok (.aload_n 3, 1) := by decide +kernel
theorem dX7_about_54 : decode cX7_about 54 = .ok (.getfield 112, 3) := by decide +kernel
theorem dX7_about_57 : decode cX7_about 57 = .ok (.ifCond .eq 7, 3) := by decide +kernel
theorem dX7_about_60 : decode cX7_about 60 = .ok (.iconst 1, 1) := by decide +kernel
theorem dX7_about_61 : decode cX7_about 61 = .ok (.goto 4, 3) := by decide +kernel
theorem dX7_about_64 : decode cX7_about 64 = .ok (.iconst 0, 1) := by decide +kernel
theorem dX7_about_65 : decode cX7_about 65 = .ok (.ireturn, 1) := by decide +kernel
theorem dX7_about_66 : decode cX7_about 66 = .ok (.aload_n 3, 1) := by decide +kernel
theorem dX7_about_67 : decode cX7_about 67 = .ok (.getfield 115, 3) := by decide +kernel
theorem dX7_about_70 : decode cX7_about 70 = .ok (.ireturn, 1) := by decide +kernel
theorem dX7_about_71 : decode cX7_about 71 = .ok (.iconst (-1), 1) := by decide +kernel
theorem dX7_about_72 : decode cX7_about 72 = .ok (.ireturn, 1) := by decide +kernel
theorem dX7_coat_0 : decode cX7_coat 0 = .ok (.aload_n 0, 1) := by decide +kernel
theorem dX7_coat_1 : decode cX7_coat 1 = .ok (.iload_n 1, 1) := by decide +kernel
theorem dX7_coat_2 : decode cX7_coat 2 = .ok (.iload_n 2, 1) := by decide +kernel
theorem dX7_coat_3 : decode cX7_coat 3 = .ok (.invokevirtual 118, 3) := by decide +kernel
theorem dX7_coat_6 : decode cX7_coat 6 = .ok (.ifCond .ne 5, 3) := by decide +kernel
theorem dX7_coat_9 : decode cX7_coat 9 = .ok (.iconst (-1), 1) := by decide +kernel
theorem dX7_coat_10 : decode cX7_coat 10 = .ok (.ireturn, 1) := by decide +kernel
theorem dX7_coat_11 : decode cX7_coat 11 = .ok (.iload_n 3, 1) := by decide +kernel
theorem dX7_coat_12 : decode cX7_coat 12 = .ok (.tableswitch 69 0 2 #[28, 43, 58], 28) := by decide +kernel
theorem dX7_coat_40 : decode cX7_coat 40 = .ok (.aload_n 0, 1) := by decide +kernel
theorem dX7_coat_41 : decode cX7_coat 41 = .ok (.getfield 19, 3) := by decide +kernel
theorem dX7_coat_44 : decode cX7_coat 44 = .ok (.getfield 79, 3) := by decide +kernel
theorem dX7_coat_47 : decode cX7_coat 47 = .ok (.iload_n 1, 1) := by decide +kernel
theorem dX7_coat_48 : decode cX7_coat 48 = .ok (.aaload, 1) := by decide +kernel
theorem dX7_coat_49 : decode cX7_coat 49 = .ok (.getfield 122, 3) := by decide +kernel
theorem dX7_coat_52 : decode cX7_coat 52 = .ok (.iload_n 2, 1) := by decide +kernel
theorem dX7_coat_53 : decode cX7_coat 53 = .ok (.iaload, 1) := by decide +kernel
theorem dX7_coat_54 : decode cX7_coat 54 = .ok (.ireturn, 1) := by decide +kernel
theorem dX7_coat_55 : decode cX7_coat 55 = .ok (.aload_n 0, 1) := by decide +kernel
theorem dX7_coat_56 : decode cX7_coat 56 = .ok (.getfield 19, 3) := by decide +kernel
theorem dX7_coat_59 : decode cX7_coat 59 = .ok (.getfield 79, 3) := by decide +kernel
theorem dX7_coat_62 : decode cX7_coat 62 = .ok (.iload_n 1, 1) := by decide +kernel
theorem dX7_coat_63 : decode cX7_coat 63 = .ok (.aaload, 1) := by decide +kernel
theorem dX7_coat_64 : decode cX7_coat 64 = .ok (.getfield 125, 3) := by decide +kernel
theorem dX7_coat_67 : decode cX7_coat 67 = .ok (.iload_n 2, 1) := by decide +kernel
theorem dX7_coat_68 : decode cX7_coat 68 = .ok (.iaload, 1) := by decide +kernel
theorem dX7_coat_69 : decode cX7_coat 69 = .ok (.ireturn, 1) := by decide +kernel
theorem dX7_coat_70 : decode cX7_coat 70 = .ok (.aload_n 0, 1) := by decide +kernel
theorem dX7_coat_71 : decode cX7_coat 71 = .ok (.invokevirtual 128, 3) := by decide +kernel
theorem dX7_coat_74 : decode cX7_coat 74 = .ok (.aload_n 0, 1) := by decide +kernel
theorem dX7_coat_75 : decode cX7_coat 75 = .ok (.iload_n 1, 1) := by decide +kernel
theorem dX7_coat_76 : decode cX7_coat 76 = .ok (.iload_n 2, 1) := by decide +kernel
theorem dX7_coat_77 : decode cX7_coat 77 = .ok (.invokevirtual 131, 3) := by decide +kernel
theorem dX7_coat_80 : decode cX7_coat 80 = .ok (.ireturn, 1) := by decide +kernel
theorem dX7_coat_81 : decode cX7_coat 81 = .ok (.iconst (-1), 1) := by decide +kernel
theorem dX7_coat_82 : decode cX7_coat 82 = .ok (.ireturn, 1) := by decide +kernel
theorem dX7_colour_0 : decode cX7_colour 0 = .ok (.iload_n 1, 1) := by decide +kernel
theorem dX7_colour_1 : decode cX7_colour 1 = .ok (.ifCond .lt 9, 3) := by decide +kernel
theorem dX7_colour_4 : decode cX7_colour 4 = .ok (.iload_n 1, 1) := by decide +kernel
theorem dX7_colour_5 : decode cX7_colour 5 = .ok (.bipush 12, 2) := by decide +kernel
theorem dX7_colour_7 : decode cX7_colour 7 = .ok (.if_icmp .lt 5, 3) := by decide +kernel
theorem dX7_colour_10 : decode cX7_colour 10 = .ok (.iconst (-1), 1) := by decide +kernel
theorem dX7_colour_11 : decode cX7_colour 11 = .ok (.ireturn, 1) := by decide +kernel
theorem dX7_colour_12 : decode cX7_colour 12 = .ok (.iload_n 2, 1) := by decide +kernel
theorem dX7_colour_13 : decode cX7_colour 13 = .ok (.tableswitch 57 0 2 #[27, 37, 47], 27) := by decide +kernel
theorem dX7_colour_40 : decode cX7_colour 40 = .ok (.aload_n 0, 1) := by decide +kernel
theorem dX7_colour_41 : decode cX7_colour 41 = .ok (.getfield 58, 3) := by decide +kernel
theorem dX7_colour_44 : decode cX7_colour 44 = .ok (.getfield 135, 3) := by decide +kernel
theorem dX7_colour_47 : decode cX7_colour 47 = .ok (.iload_n 1, 1) := by decide +kernel
theorem dX7_colour_48 : decode cX7_colour 48 = .ok (.iaload, 1) := by decide +kernel
theorem dX7_colour_49 : decode cX7_colour 49 = .ok (.ireturn, 1) := by decide +kernel
theorem dX7_colour_50 : decode cX7_colour 50 = .ok (.aload_n 0, 1) := by decide +kernel
theorem dX7_colour_51 : decode cX7_colour 51 = .ok (.getfield 58, 3) := by decide +kernel
theorem dX7_colour_54 : decode cX7_colour 54 = .ok (.getfield 138, 3) := by decide +kernel
theorem dX7_colour_57 : decode cX7_colour 57 = .ok (.iload_n 1, 1) := by decide +kernel
theorem dX7_colour_58 : decode cX7_colour 58 = .ok (.iaload, 1) := by decide +kernel
theorem dX7_colour_59 : decode cX7_colour 59 = .ok (.ireturn, 1) := by decide +kernel
theorem dX7_colour_60 : decode cX7_colour 60 = .ok (.aload_n 0, 1) := by decide +kernel
theorem dX7_colour_61 : decode cX7_colour 61 = .ok (.getfield 58, 3) := by decide +kernel
theorem dX7_colour_64 : decode cX7_colour 64 = .ok (.getfield 141, 3) := by decide +kernel
theorem dX7_colour_67 : decode cX7_colour 67 = .ok (.iload_n 1, 1) := by decide +kernel
theorem dX7_colour_68 : decode cX7_colour 68 = .ok (.iaload, 1) := by decide +kernel
theorem dX7_colour_69 : decode cX7_colour 69 = .ok (.ireturn, 1) := by decide +kernel
theorem dX7_colour_70 : decode cX7_colour 70 = .ok (.iconst (-1), 1) := by decide +kernel
theorem dX7_colour_71 : decode cX7_colour 71 = .ok (.ireturn, 1) := by decide +kernel
theorem dX7_tune_0 : decode cX7_tune 0 = .ok (.iload_n 1, 1) := by decide +kernel
theorem dX7_tune_1 : decode cX7_tune 1 = .ok (.ifCond .lt 30, 3) := by decide +kernel
theorem dX7_tune_4 : decode cX7_tune 4 = .ok (.iload_n 1, 1) := by decide +kernel
theorem dX7_tune_5 : decode cX7_tune 5 = .ok (.aload_n 0, 1) := by decide +kernel
theorem dX7_tune_6 : decode cX7_tune 6 = .ok (.getfield 27, 3) := by decide +kernel
theorem dX7_tune_9 : decode cX7_tune 9 = .ok (.arraylength, 1) := by decide +kernel
theorem dX7_tune_10 : decode cX7_tune 10 = .ok (.if_icmp .ge 21, 3) := by decide +kernel
theorem dX7_tune_13 : decode cX7_tune 13 = .ok (.iload_n 2, 1) := by decide +kernel
theorem dX7_tune_14 : decode cX7_tune 14 = .ok (.getstatic 144, 3) := by decide +kernel
theorem dX7_tune_17 : decode cX7_tune 17 = .ok (.iload_n 1, 1) := by decide +kernel
theorem dX7_tune_18 : decode cX7_tune 18 = .ok (.iaload, 1) := by decide +kernel
theorem dX7_tune_19 : decode cX7_tune 19 = .ok (.if_icmp .lt 12, 3) := by decide +kernel
theorem dX7_tune_22 : decode cX7_tune 22 = .ok (.iload_n 2, 1) := by decide +kernel
theorem dX7_tune_23 : decode cX7_tune 23 = .ok (.getstatic 147, 3) := by decide +kernel
theorem dX7_tune_26 : decode cX7_tune 26 = .ok (.iload_n 1, 1) := by decide +kernel
theorem dX7_tune_27 : decode cX7_tune 27 = .ok (.iaload, 1) := by decide +kernel
theorem dX7_tune_28 : decode cX7_tune 28 = .ok (.if_icmp .le 5, 3) := by decide +kernel
theorem dX7_tune_31 : decode cX7_tune 31 = .ok (.iconst (-1), 1) := by decide +kernel
theorem dX7_tune_32 : decode cX7_tune 32 = .ok (.ireturn, 1) := by decide +kernel
theorem dX7_tune_33 : decode cX7_tune 33 = .ok (.aload_n 0, 1) := by decide +kernel
theorem dX7_tune_34 : decode cX7_tune 34 = .ok (.getfield 27, 3) := by decide +kernel
theorem dX7_tune_37 : decode cX7_tune 37 = .ok (.iload_n 1, 1) := by decide +kernel
theorem dX7_tune_38 : decode cX7_tune 38 = .ok (.iaload, 1) := by decide +kernel
theorem dX7_tune_39 : decode cX7_tune 39 = .ok (.istore_n 3, 1) := by decide +kernel
theorem dX7_tune_40 : decode cX7_tune 40 = .ok (.aload_n 0, 1) := by decide +kernel
theorem dX7_tune_41 : decode cX7_tune 41 = .ok (.getfield 27, 3) := by decide +kernel
theorem dX7_tune_44 : decode cX7_tune 44 = .ok (.iload_n 1, 1) := by decide +kernel
theorem dX7_tune_45 : decode cX7_tune 45 = .ok (.iload_n 2, 1) := by decide +kernel
theorem dX7_tune_46 : decode cX7_tune 46 = .ok (.iastore, 1) := by decide +kernel
theorem dX7_tune_47 : decode cX7_tune 47 = .ok (.iload_n 1, 1) := by decide +kernel
theorem dX7_tune_48 : decode cX7_tune 48 = .ok (.iconst 2, 1) := by decide +kernel
theorem dX7_tune_49 : decode cX7_tune 49 = .ok (.if_icmp .ne 13, 3) := by decide +kernel
theorem dX7_tune_52 : decode cX7_tune 52 = .ok (.iload_n 3, 1) := by decide +kernel
theorem dX7_tune_53 : decode cX7_tune 53 = .ok (.iload_n 2, 1) := by decide +kernel
theorem dX7_tune_54 : decode cX7_tune 54 = .ok (.if_icmp .eq 8, 3) := by decide +kernel
theorem dX7_tune_57 : decode cX7_tune 57 = .ok (.aload_n 0, 1) := by decide +kernel
theorem dX7_tune_58 : decode cX7_tune 58 = .ok (.iconst 0, 1) := by decide +kernel
theorem dX7_tune_59 : decode cX7_tune 59 = .ok (.putfield 93, 3) := by decide +kernel
theorem dX7_tune_62 : decode cX7_tune 62 = .ok (.iload_n 3, 1) := by decide +kernel
theorem dX7_tune_63 : decode cX7_tune 63 = .ok (.ireturn, 1) := by decide +kernel
theorem dX7_least_0 : decode cX7_least 0 = .ok (.aload_n 0, 1) := by decide +kernel
theorem dX7_least_1 : decode cX7_least 1 = .ok (.iload_n 1, 1) := by decide +kernel
theorem dX7_least_2 : decode cX7_least 2 = .ok (.iload_n 2, 1) := by decide +kernel
theorem dX7_least_3 : decode cX7_least 3 = .ok (.invokevirtual 150, 3) := by decide +kernel
theorem dX7_least_6 : decode cX7_least 6 = .ok (.ifCond .ne 5, 3) := by decide +kernel
theorem dX7_least_9 : decode cX7_least 9 = .ok (.iconst (-1), 1) := by decide +kernel
theorem dX7_least_10 : decode cX7_least 10 = .ok (.ireturn, 1) := by decide +kernel
theorem dX7_least_11 : decode cX7_least 11 = .ok (.aload_n 0, 1) := by decide +kernel
theorem dX7_least_12 : decode cX7_least 12 = .ok (.iload_n 1, 1) := by decide +kernel
theorem dX7_least_13 : decode cX7_least 13 = .ok (.iload_n 2, 1) := by decide +kernel
theorem dX7_least_14 : decode cX7_least 14 = .ok (.invokevirtual 153, 3) := by decide +kernel
theorem dX7_least_17 : decode cX7_least 17 = .ok (.aload_n 0, 1) := by decide +kernel
theorem dX7_least_18 : decode cX7_least 18 = .ok (.getfield 37, 3) := by decide +kernel
theorem dX7_least_21 : decode cX7_least 21 = .ok (.invokevirtual 157, 3) := by decide +kernel
theorem dX7_least_24 : decode cX7_least 24 = .ok (.ireturn, 1) := by decide +kernel
theorem dX7_ways_0 : decode cX7_ways 0 = .ok (.aload_n 0, 1) := by decide +kernel
theorem dX7_ways_1 : decode cX7_ways 1 = .ok (.iload_n 1, 1) := by decide +kernel
theorem dX7_ways_2 : decode cX7_ways 2 = .ok (.iload_n 2, 1) := by decide +kernel
theorem dX7_ways_3 : decode cX7_ways 3 = .ok (.invokevirtual 150, 3) := by decide +kernel
theorem dX7_ways_6 : decode cX7_ways 6 = .ok (.ifCond .ne 7, 3) := by decide +kernel
theorem dX7_ways_9 : decode cX7_ways 9 = .ok (.ldc2_w 160, 3) := by decide +kernel
theorem dX7_ways_12 : decode cX7_ways 12 = .ok (.lreturn, 1) := by decide +kernel
theorem dX7_ways_13 : decode cX7_ways 13 = .ok (.aload_n 0, 1) := by decide +kernel
theorem dX7_ways_14 : decode cX7_ways 14 = .ok (.iload_n 1, 1) := by decide +kernel
theorem dX7_ways_15 : decode cX7_ways 15 = .ok (.iload_n 2, 1) := by decide +kernel
theorem dX7_ways_16 : decode cX7_ways 16 = .ok (.invokevirtual 153, 3) := by decide +kernel
theorem dX7_ways_19 : decode cX7_ways 19 = .ok (.aload_n 0, 1) := by decide +kernel
theorem dX7_ways_20 : decode cX7_ways 20 = .ok (.getfield 37, 3) := by decide +kernel
end
section
theorem dX7_ways_23 : decode cX7_ways 23 = .ok (.invokevirtual 162, 3) := by decide +kernel
theorem dX7_ways_26 : decode cX7_ways 26 = .ok (.lreturn, 1) := by decide +kernel
theorem dX7_laid_0 : decode cX7_laid 0 = .ok (.aload_n 0, 1) := by decide +kernel
theorem dX7_laid_1 : decode cX7_laid 1 = .ok (.iload_n 1, 1) := by decide +kernel
theorem dX7_laid_2 : decode cX7_laid 2 = .ok (.iload_n 2, 1) := by decide +kernel
theorem dX7_laid_3 : decode cX7_laid 3 = .ok (.invokevirtual 150, 3) := by decide +kernel
theorem dX7_laid_6 : decode cX7_laid 6 = .ok (.ifCond .eq 12, 3) := by decide +kernel
theorem dX7_laid_9 : decode cX7_laid 9 = .ok (.aload_n 0, 1) := by decide +kernel
theorem dX7_laid_10 : decode cX7_laid 10 = .ok (.iload_n 1, 1) := by decide +kernel
theorem dX7_laid_11 : decode cX7_laid 11 = .ok (.iload_n 3, 1) := by decide +kernel
theorem dX7_laid_12 : decode cX7_laid 12 = .ok (.invokevirtual 118, 3) := by decide +kernel
theorem dX7_laid_15 : decode cX7_laid 15 = .ok (.ifCond .ne 5, 3) := by decide +kernel
theorem dX7_laid_18 : decode cX7_laid 18 = .ok (.iconst (-1), 1) := by decide +kernel
theorem dX7_laid_19 : decode cX7_laid 19 = .ok (.ireturn, 1) := by decide +kernel
theorem dX7_laid_20 : decode cX7_laid 20 = .ok (.aload_n 0, 1) := by decide +kernel
theorem dX7_laid_21 : decode cX7_laid 21 = .ok (.iload_n 1, 1) := by decide +kernel
theorem dX7_laid_22 : decode cX7_laid 22 = .ok (.iload_n 2, 1) := by decide +kernel
theorem dX7_laid_23 : decode cX7_laid 23 = .ok (.invokevirtual 153, 3) := by decide +kernel
theorem dX7_laid_26 : decode cX7_laid 26 = .ok (.aload_n 0, 1) := by decide +kernel
theorem dX7_laid_27 : decode cX7_laid 27 = .ok (.getfield 37, 3) := by decide +kernel
theorem dX7_laid_30 : decode cX7_laid 30 = .ok (.iload_n 3, 1) := by decide +kernel
theorem dX7_laid_31 : decode cX7_laid 31 = .ok (.invokevirtual 166, 3) := by decide +kernel
theorem dX7_laid_34 : decode cX7_laid 34 = .ok (.ireturn, 1) := by decide +kernel
theorem dX7_painting_0 : decode cX7_painting 0 = .ok (.aload_n 0, 1) := by decide +kernel
theorem dX7_painting_1 : decode cX7_painting 1 = .ok (.invokevirtual 128, 3) := by decide +kernel
theorem dX7_painting_4 : decode cX7_painting 4 = .ok (.iload_n 1, 1) := by decide +kernel
theorem dX7_painting_5 : decode cX7_painting 5 = .ok (.iconst (-1), 1) := by decide +kernel
theorem dX7_painting_6 : decode cX7_painting 6 = .ok (.if_icmp .ne 11, 3) := by decide +kernel
theorem dX7_painting_9 : decode cX7_painting 9 = .ok (.aload_n 0, 1) := by decide +kernel
theorem dX7_painting_10 : decode cX7_painting 10 = .ok (.getfield 44, 3) := by decide +kernel
theorem dX7_painting_13 : decode cX7_painting 13 = .ok (.getfield 170, 3) := by decide +kernel
theorem dX7_painting_16 : decode cX7_painting 16 = .ok (.ireturn, 1) := by decide +kernel
theorem dX7_painting_17 : decode cX7_painting 17 = .ok (.aload_n 0, 1) := by decide +kernel
theorem dX7_painting_18 : decode cX7_painting 18 = .ok (.iload_n 1, 1) := by decide +kernel
theorem dX7_painting_19 : decode cX7_painting 19 = .ok (.invokevirtual 171, 3) := by decide +kernel
theorem dX7_painting_22 : decode cX7_painting 22 = .ok (.ifCond .eq 15, 3) := by decide +kernel
theorem dX7_painting_25 : decode cX7_painting 25 = .ok (.aload_n 0, 1) := by decide +kernel
theorem dX7_painting_26 : decode cX7_painting 26 = .ok (.getfield 44, 3) := by decide +kernel
theorem dX7_painting_29 : decode cX7_painting 29 = .ok (.getfield 174, 3) := by decide +kernel
theorem dX7_painting_32 : decode cX7_painting 32 = .ok (.iload_n 1, 1) := by decide +kernel
theorem dX7_painting_33 : decode cX7_painting 33 = .ok (.iaload, 1) := by decide +kernel
theorem dX7_painting_34 : decode cX7_painting 34 = .ok (.goto 4, 3) := by decide +kernel
theorem dX7_painting_37 : decode cX7_painting 37 = .ok (.iconst (-1), 1) := by decide +kernel
theorem dX7_painting_38 : decode cX7_painting 38 = .ok (.ireturn, 1) := by decide +kernel
theorem dX7_had_0 : decode cX7_had 0 = .ok (.aload_n 0, 1) := by decide +kernel
theorem dX7_had_1 : decode cX7_had 1 = .ok (.invokevirtual 128, 3) := by decide +kernel
theorem dX7_had_4 : decode cX7_had 4 = .ok (.aload_n 0, 1) := by decide +kernel
theorem dX7_had_5 : decode cX7_had 5 = .ok (.iload_n 1, 1) := by decide +kernel
theorem dX7_had_6 : decode cX7_had 6 = .ok (.invokevirtual 171, 3) := by decide +kernel
theorem dX7_had_9 : decode cX7_had 9 = .ok (.ifCond .eq 15, 3) := by decide +kernel
theorem dX7_had_12 : decode cX7_had 12 = .ok (.aload_n 0, 1) := by decide +kernel
theorem dX7_had_13 : decode cX7_had 13 = .ok (.getfield 44, 3) := by decide +kernel
theorem dX7_had_16 : decode cX7_had 16 = .ok (.getfield 175, 3) := by decide +kernel
theorem dX7_had_19 : decode cX7_had 19 = .ok (.iload_n 1, 1) := by decide +kernel
theorem dX7_had_20 : decode cX7_had 20 = .ok (.iaload, 1) := by decide +kernel
theorem dX7_had_21 : decode cX7_had 21 = .ok (.goto 4, 3) := by decide +kernel
theorem dX7_had_24 : decode cX7_had 24 = .ok (.iconst (-1), 1) := by decide +kernel
theorem dX7_had_25 : decode cX7_had 25 = .ok (.ireturn, 1) := by decide +kernel
theorem dX7_face_0 : decode cX7_face 0 = .ok (.aload_n 0, 1) := by decide +kernel
theorem dX7_face_1 : decode cX7_face 1 = .ok (.iload_n 1, 1) := by decide +kernel
theorem dX7_face_2 : decode cX7_face 2 = .ok (.invokevirtual 101, 3) := by decide +kernel
theorem dX7_face_5 : decode cX7_face 5 = .ok (.ifCond .ne 5, 3) := by decide +kernel
theorem dX7_face_8 : decode cX7_face 8 = .ok (.iconst (-1), 1) := by decide +kernel
theorem dX7_face_9 : decode cX7_face 9 = .ok (.ireturn, 1) := by decide +kernel
theorem dX7_face_10 : decode cX7_face 10 = .ok (.aload_n 0, 1) := by decide +kernel
theorem dX7_face_11 : decode cX7_face 11 = .ok (.invokevirtual 128, 3) := by decide +kernel
theorem dX7_face_14 : decode cX7_face 14 = .ok (.iload_n 2, 1) := by decide +kernel
theorem dX7_face_15 : decode cX7_face 15 = .ok (.tableswitch 54 0 3 #[29, 35, 42, 48], 29) := by decide +kernel
theorem dX7_face_44 : decode cX7_face 44 = .ok (.aload_n 0, 1) := by decide +kernel
theorem dX7_face_45 : decode cX7_face 45 = .ok (.iload_n 1, 1) := by decide +kernel
theorem dX7_face_46 : decode cX7_face 46 = .ok (.invokevirtual 178, 3) := by decide +kernel
theorem dX7_face_49 : decode cX7_face 49 = .ok (.ireturn, 1) := by decide +kernel
theorem dX7_face_50 : decode cX7_face 50 = .ok (.aload_n 0, 1) := by decide +kernel
theorem dX7_face_51 : decode cX7_face 51 = .ok (.iload_n 1, 1) := by decide +kernel
theorem dX7_face_52 : decode cX7_face 52 = .ok (.iconst 0, 1) := by decide +kernel
theorem dX7_face_53 : decode cX7_face 53 = .ok (.invokevirtual 131, 3) := by decide +kernel
theorem dX7_face_56 : decode cX7_face 56 = .ok (.ireturn, 1) := by decide +kernel
theorem dX7_face_57 : decode cX7_face 57 = .ok (.aload_n 0, 1) := by decide +kernel
theorem dX7_face_58 : decode cX7_face 58 = .ok (.iload_n 1, 1) := by decide +kernel
theorem dX7_face_59 : decode cX7_face 59 = .ok (.invokevirtual 181, 3) := by decide +kernel
theorem dX7_face_62 : decode cX7_face 62 = .ok (.ireturn, 1) := by decide +kernel
theorem dX7_face_63 : decode cX7_face 63 = .ok (.aload_n 0, 1) := by decide +kernel
theorem dX7_face_64 : decode cX7_face 64 = .ok (.iload_n 1, 1) := by decide +kernel
theorem dX7_face_65 : decode cX7_face 65 = .ok (.invokevirtual 184, 3) := by decide +kernel
theorem dX7_face_68 : decode cX7_face 68 = .ok (.ireturn, 1) := by decide +kernel
theorem dX7_face_69 : decode cX7_face 69 = .ok (.iconst (-1), 1) := by decide +kernel
theorem dX7_face_70 : decode cX7_face 70 = .ok (.ireturn, 1) := by decide +kernel
theorem dX7_span_0 : decode cX7_span 0 = .ok (.aload_n 0, 1) := by decide +kernel
theorem dX7_span_1 : decode cX7_span 1 = .ok (.invokevirtual 128, 3) := by decide +kernel
theorem dX7_span_4 : decode cX7_span 4 = .ok (.aload_n 0, 1) := by decide +kernel
theorem dX7_span_5 : decode cX7_span 5 = .ok (.iload_n 1, 1) := by decide +kernel
theorem dX7_span_6 : decode cX7_span 6 = .ok (.invokevirtual 171, 3) := by decide +kernel
theorem dX7_span_9 : decode cX7_span 9 = .ok (.ifCond .eq 12, 3) := by decide +kernel
theorem dX7_span_12 : decode cX7_span 12 = .ok (.iload_n 2, 1) := by decide +kernel
theorem dX7_span_13 : decode cX7_span 13 = .ok (.ifCond .lt 8, 3) := by decide +kernel
theorem dX7_span_16 : decode cX7_span 16 = .ok (.iload_n 2, 1) := by decide +kernel
theorem dX7_span_17 : decode cX7_span 17 = .ok (.iconst 1, 1) := by decide +kernel
theorem dX7_span_18 : decode cX7_span 18 = .ok (.if_icmp .le 5, 3) := by decide +kernel
theorem dX7_span_21 : decode cX7_span 21 = .ok (.iconst (-1), 1) := by decide +kernel
theorem dX7_span_22 : decode cX7_span 22 = .ok (.ireturn, 1) := by decide +kernel
theorem dX7_span_23 : decode cX7_span 23 = .ok (.aload_n 0, 1) := by decide +kernel
theorem dX7_span_24 : decode cX7_span 24 = .ok (.getfield 51, 3) := by decide +kernel
theorem dX7_span_27 : decode cX7_span 27 = .ok (.aload_n 0, 1) := by decide +kernel
theorem dX7_span_28 : decode cX7_span 28 = .ok (.getfield 44, 3) := by decide +kernel
theorem dX7_span_31 : decode cX7_span 31 = .ok (.aload_n 0, 1) := by decide +kernel
theorem dX7_span_32 : decode cX7_span 32 = .ok (.getfield 58, 3) := by decide +kernel
theorem dX7_span_35 : decode cX7_span 35 = .ok (.aload_n 0, 1) := by decide +kernel
theorem dX7_span_36 : decode cX7_span 36 = .ok (.getfield 27, 3) := by decide +kernel
theorem dX7_span_39 : decode cX7_span 39 = .ok (.iconst 3, 1) := by decide +kernel
theorem dX7_span_40 : decode cX7_span 40 = .ok (.iaload, 1) := by decide +kernel
theorem dX7_span_41 : decode cX7_span 41 = .ok (.invokevirtual 187, 3) := by decide +kernel
theorem dX7_span_44 : decode cX7_span 44 = .ok (.aload_n 0, 1) := by decide +kernel
theorem dX7_span_45 : decode cX7_span 45 = .ok (.getfield 51, 3) := by decide +kernel
theorem dX7_span_48 : decode cX7_span 48 = .ok (.getfield 191, 3) := by decide +kernel
theorem dX7_span_51 : decode cX7_span 51 = .ok (.ifCond .ne 6, 3) := by decide +kernel
theorem dX7_span_54 : decode cX7_span 54 = .ok (.bipush (-9), 2) := by decide +kernel
theorem dX7_span_56 : decode cX7_span 56 = .ok (.ireturn, 1) := by decide +kernel
theorem dX7_span_57 : decode cX7_span 57 = .ok (.iload_n 2, 1) := by decide +kernel
theorem dX7_span_58 : decode cX7_span 58 = .ok (.ifCond .ne 15, 3) := by decide +kernel
theorem dX7_span_61 : decode cX7_span 61 = .ok (.aload_n 0, 1) := by decide +kernel
theorem dX7_span_62 : decode cX7_span 62 = .ok (.getfield 51, 3) := by decide +kernel
theorem dX7_span_65 : decode cX7_span 65 = .ok (.getfield 194, 3) := by decide +kernel
theorem dX7_span_68 : decode cX7_span 68 = .ok (.iload_n 1, 1) := by decide +kernel
theorem dX7_span_69 : decode cX7_span 69 = .ok (.iaload, 1) := by decide +kernel
theorem dX7_span_70 : decode cX7_span 70 = .ok (.goto 12, 3) := by decide +kernel
theorem dX7_span_73 : decode cX7_span 73 = .ok (.aload_n 0, 1) := by decide +kernel
theorem dX7_span_74 : decode cX7_span 74 = .ok (.getfield 51, 3) := by decide +kernel
theorem dX7_span_77 : decode cX7_span 77 = .ok (.getfield 197, 3) := by decide +kernel
theorem dX7_span_80 : decode cX7_span 80 = .ok (.iload_n 1, 1) := by decide +kernel
theorem dX7_span_81 : decode cX7_span 81 = .ok (.iaload, 1) := by decide +kernel
theorem dX7_span_82 : decode cX7_span 82 = .ok (.ireturn, 1) := by decide +kernel
theorem dX7_day_0 : decode cX7_day 0 = .ok (.aload_n 0, 1) := by decide +kernel
theorem dX7_day_1 : decode cX7_day 1 = .ok (.iload_n 1, 1) := by decide +kernel
theorem dX7_day_2 : decode cX7_day 2 = .ok (.invokevirtual 101, 3) := by decide +kernel
theorem dX7_day_5 : decode cX7_day 5 = .ok (.ifCond .eq 14, 3) := by decide +kernel
theorem dX7_day_8 : decode cX7_day 8 = .ok (.iload_n 2, 1) := by decide +kernel
theorem dX7_day_9 : decode cX7_day 9 = .ok (.ifCond .lt 10, 3) := by decide +kernel
theorem dX7_day_12 : decode cX7_day 12 = .ok (.iload_n 2, 1) := by decide +kernel
theorem dX7_day_13 : decode cX7_day 13 = .ok (.sipush 999, 3) := by decide +kernel
theorem dX7_day_16 : decode cX7_day 16 = .ok (.if_icmp .le 5, 3) := by decide +kernel
theorem dX7_day_19 : decode cX7_day 19 = .ok (.iconst (-1), 1) := by decide +kernel
theorem dX7_day_20 : decode cX7_day 20 = .ok (.ireturn, 1) := by decide +kernel
theorem dX7_day_21 : decode cX7_day 21 = .ok (.aload_n 0, 1) := by decide +kernel
theorem dX7_day_22 : decode cX7_day 22 = .ok (.invokevirtual 128, 3) := by decide +kernel
theorem dX7_day_25 : decode cX7_day 25 = .ok (.aload_n 0, 1) := by decide +kernel
theorem dX7_day_26 : decode cX7_day 26 = .ok (.getfield 51, 3) := by decide +kernel
theorem dX7_day_29 : decode cX7_day 29 = .ok (.aload_n 0, 1) := by decide +kernel
theorem dX7_day_30 : decode cX7_day 30 = .ok (.getfield 44, 3) := by decide +kernel
theorem dX7_day_33 : decode cX7_day 33 = .ok (.aload_n 0, 1) := by decide +kernel
theorem dX7_day_34 : decode cX7_day 34 = .ok (.getfield 58, 3) := by decide +kernel
theorem dX7_day_37 : decode cX7_day 37 = .ok (.aload_n 0, 1) := by decide +kernel
theorem dX7_day_38 : decode cX7_day 38 = .ok (.getfield 27, 3) := by decide +kernel
theorem dX7_day_41 : decode cX7_day 41 = .ok (.iconst 3, 1) := by decide +kernel
theorem dX7_day_42 : decode cX7_day 42 = .ok (.iaload, 1) := by decide +kernel
theorem dX7_day_43 : decode cX7_day 43 = .ok (.invokevirtual 187, 3) := by decide +kernel
theorem dX7_day_46 : decode cX7_day 46 = .ok (.aload_n 0, 1) := by decide +kernel
theorem dX7_day_47 : decode cX7_day 47 = .ok (.getfield 51, 3) := by decide +kernel
theorem dX7_day_50 : decode cX7_day 50 = .ok (.getfield 191, 3) := by decide +kernel
theorem dX7_day_53 : decode cX7_day 53 = .ok (.ifCond .eq 12, 3) := by decide +kernel
theorem dX7_day_56 : decode cX7_day 56 = .ok (.aload_n 0, 1) := by decide +kernel
theorem dX7_day_57 : decode cX7_day 57 = .ok (.iload_n 1, 1) := by decide +kernel
theorem dX7_day_58 : decode cX7_day 58 = .ok (.iload_n 2, 1) := by decide +kernel
theorem dX7_day_59 : decode cX7_day 59 = .ok (.invokevirtual 200, 3) := by decide +kernel
theorem dX7_day_62 : decode cX7_day 62 = .ok (.goto 4, 3) := by decide +kernel
theorem dX7_day_65 : decode cX7_day 65 = .ok (.iconst 0, 1) := by decide +kernel
theorem dX7_day_66 : decode cX7_day 66 = .ok (.ireturn, 1) := by decide +kernel
theorem dX7_bill_0 : decode cX7_bill 0 = .ok (.iload_n 1, 1) := by decide +kernel
theorem dX7_bill_1 : decode cX7_bill 1 = .ok (.ifCond .lt 14, 3) := by decide +kernel
theorem dX7_bill_4 : decode cX7_bill 4 = .ok (.iload_n 1, 1) := by decide +kernel
theorem dX7_bill_5 : decode cX7_bill 5 = .ok (.aload_n 0, 1) := by decide +kernel
theorem dX7_bill_6 : decode cX7_bill 6 = .ok (.getfield 58, 3) := by decide +kernel
theorem dX7_bill_9 : decode cX7_bill 9 = .ok (.getfield 203, 3) := by decide +kernel
theorem dX7_bill_12 : decode cX7_bill 12 = .ok (.if_icmp .lt 5, 3) := by decide +kernel
theorem dX7_bill_15 : decode cX7_bill 15 = .ok (.iconst (-1), 1) := by decide +kernel
theorem dX7_bill_16 : decode cX7_bill 16 = .ok (.ireturn, 1) := by decide +kernel
theorem dX7_bill_17 : decode cX7_bill 17 = .ok (.iload_n 2, 1) := by decide +kernel
theorem dX7_bill_18 : decode cX7_bill 18 = .ok (.lookupswitch 46 #[(0, 26), (1, 36)], 26) := by decide +kernel
theorem dX7_bill_44 : decode cX7_bill 44 = .ok (.aload_n 0, 1) := by decide +kernel
theorem dX7_bill_45 : decode cX7_bill 45 = .ok (.getfield 58, 3) := by decide +kernel
theorem dX7_bill_48 : decode cX7_bill 48 = .ok (.getfield 206, 3) := by decide +kernel
theorem dX7_bill_51 : decode cX7_bill 51 = .ok (.iload_n 1, 1) := by decide +kernel
theorem dX7_bill_52 : decode cX7_bill 52 = .ok (.iaload, 1) := by decide +kernel
theorem dX7_bill_53 : decode cX7_bill 53 = .ok (.ireturn, 1) := by decide +kernel
theorem dX7_bill_54 : decode cX7_bill 54 = .ok (.aload_n 0, 1) := by decide +kernel
theorem dX7_bill_55 : decode cX7_bill 55 = .ok (.getfield 58, 3) := by decide +kernel
theorem dX7_bill_58 : decode cX7_bill 58 = .ok (.getfield 209, 3) := by decide +kernel
theorem dX7_bill_61 : decode cX7_bill 61 = .ok (.iload_n 1, 1) := by decide +kernel
theorem dX7_bill_62 : decode cX7_bill 62 = .ok (.iaload, 1) := by decide +kernel
theorem dX7_bill_63 : decode cX7_bill 63 = .ok (.ireturn, 1) := by decide +kernel
theorem dX7_bill_64 : decode cX7_bill 64 = .ok (.iconst (-1), 1) := by decide +kernel
theorem dX7_bill_65 : decode cX7_bill 65 = .ok (.ireturn, 1) := by decide +kernel
theorem dX7_billed_0 : decode cX7_billed 0 = .ok (.aload_n 0, 1) := by decide +kernel
theorem dX7_billed_1 : decode cX7_billed 1 = .ok (.invokevirtual 128, 3) := by decide +kernel
theorem dX7_billed_4 : decode cX7_billed 4 = .ok (.iload_n 1, 1) := by decide +kernel
theorem dX7_billed_5 : decode cX7_billed 5 = .ok (.iconst (-1), 1) := by decide +kernel
theorem dX7_billed_6 : decode cX7_billed 6 = .ok (.if_icmp .eq 13, 3) := by decide +kernel
theorem dX7_billed_9 : decode cX7_billed 9 = .ok (.aload_n 0, 1) := by decide +kernel
theorem dX7_billed_10 : decode cX7_billed 10 = .ok (.iload_n 1, 1) := by decide +kernel
theorem dX7_billed_11 : decode cX7_billed 11 = .ok (.invokevirtual 171, 3) := by decide +kernel
theorem dX7_billed_14 : decode cX7_billed 14 = .ok (.ifCond .ne 5, 3) := by decide +kernel
theorem dX7_billed_17 : decode cX7_billed 17 = .ok (.iconst (-1), 1) := by decide +kernel
theorem dX7_billed_18 : decode cX7_billed 18 = .ok (.ireturn, 1) := by decide +kernel
theorem dX7_billed_19 : decode cX7_billed 19 = .ok (.aload_n 0, 1) := by decide +kernel
theorem dX7_billed_20 : decode cX7_billed 20 = .ok (.getfield 51, 3) := by decide +kernel
theorem dX7_billed_23 : decode cX7_billed 23 = .ok (.aload_n 0, 1) := by decide +kernel
theorem dX7_billed_24 : decode cX7_billed 24 = .ok (.getfield 44, 3) := by decide +kernel
theorem dX7_billed_27 : decode cX7_billed 27 = .ok (.aload_n 0, 1) := by decide +kernel
theorem dX7_billed_28 : decode cX7_billed 28 = .ok (.getfield 58, 3) := by decide +kernel
theorem dX7_billed_31 : decode cX7_billed 31 = .ok (.aload_n 0, 1) := by decide +kernel
theorem dX7_billed_32 : decode cX7_billed 32 = .ok (.getfield 27, 3) := by decide +kernel
theorem dX7_billed_35 : decode cX7_billed 35 = .ok (.iconst 3, 1) := by decide +kernel
theorem dX7_billed_36 : decode cX7_billed 36 = .ok (.iaload, 1) := by decide +kernel
theorem dX7_billed_37 : decode cX7_billed 37 = .ok (.invokevirtual 187, 3) := by decide +kernel
theorem dX7_billed_40 : decode cX7_billed 40 = .ok (.aload_n 0, 1) := by decide +kernel
theorem dX7_billed_41 : decode cX7_billed 41 = .ok (.getfield 51, 3) := by decide +kernel
theorem dX7_billed_44 : decode cX7_billed 44 = .ok (.aload_n 0, 1) := by decide +kernel
theorem dX7_billed_45 : decode cX7_billed 45 = .ok (.getfield 44, 3) := by decide +kernel
theorem dX7_billed_48 : decode cX7_billed 48 = .ok (.aload_n 0, 1) := by decide +kernel
theorem dX7_billed_49 : decode cX7_billed 49 = .ok (.getfield 58, 3) := by decide +kernel
theorem dX7_billed_52 : decode cX7_billed 52 = .ok (.invokevirtual 212, 3) := by decide +kernel
theorem dX7_billed_55 : decode cX7_billed 55 = .ok (.iload_n 1, 1) := by decide +kernel
theorem dX7_billed_56 : decode cX7_billed 56 = .ok (.iconst (-1), 1) := by decide +kernel
theorem dX7_billed_57 : decode cX7_billed 57 = .ok (.if_icmp .ne 13, 3) := by decide +kernel
theorem dX7_billed_60 : decode cX7_billed 60 = .ok (.aload_n 0, 1) := by decide +kernel
theorem dX7_billed_61 : decode cX7_billed 61 = .ok (.getfield 51, 3) := by decide +kernel
theorem dX7_billed_64 : decode cX7_billed 64 = .ok (.getfield 216, 3) := by decide +kernel
theorem dX7_billed_67 : decode cX7_billed 67 = .ok (.goto 12, 3) := by decide +kernel
theorem dX7_billed_70 : decode cX7_billed 70 = .ok (.aload_n 0, 1) := by decide +kernel
theorem dX7_billed_71 : decode cX7_billed 71 = .ok (.getfield 51, 3) := by decide +kernel
theorem dX7_billed_74 : decode cX7_billed 74 = .ok (.getfield 219, 3) := by decide +kernel
theorem dX7_billed_77 : decode cX7_billed 77 = .ok (.iload_n 1, 1) := by decide +kernel
theorem dX7_billed_78 : decode cX7_billed 78 = .ok (.iaload, 1) := by decide +kernel
theorem dX7_billed_79 : decode cX7_billed 79 = .ok (.ireturn, 1) := by decide +kernel
theorem dX7_enough_0 : decode cX7_enough 0 = .ok (.iload_n 1, 1) := by decide +kernel
theorem dX7_enough_1 : decode cX7_enough 1 = .ok (.iconst 1, 1) := by decide +kernel
theorem dX7_enough_2 : decode cX7_enough 2 = .ok (.if_icmp .lt 19, 3) := by decide +kernel
theorem dX7_enough_5 : decode cX7_enough 5 = .ok (.iload_n 1, 1) := by decide +kernel
theorem dX7_enough_6 : decode cX7_enough 6 = .ok (.bipush 10, 2) := by decide +kernel
theorem dX7_enough_8 : decode cX7_enough 8 = .ok (.if_icmp .gt 13, 3) := by decide +kernel
theorem dX7_enough_11 : decode cX7_enough 11 = .ok (.iload_n 2, 1) := by decide +kernel
theorem dX7_enough_12 : decode cX7_enough 12 = .ok (.ifCond .lt 9, 3) := by decide +kernel
theorem dX7_enough_15 : decode cX7_enough 15 = .ok (.iload_n 2, 1) := by decide +kernel
theorem dX7_enough_16 : decode cX7_enough 16 = .ok (.bipush 100, 2) := by decide +kernel
theorem dX7_enough_18 : decode cX7_enough 18 = .ok (.if_icmp .le 5, 3) := by decide +kernel
theorem dX7_enough_21 : decode cX7_enough 21 = .ok (.iconst (-1), 1) := by decide +kernel
theorem dX7_enough_22 : decode cX7_enough 22 = .ok (.ireturn, 1) := by decide +kernel
theorem dX7_enough_23 : decode cX7_enough 23 = .ok (.lconst 1, 1) := by decide +kernel
theorem dX7_enough_24 : decode cX7_enough 24 = .ok (.lstore_n 3, 1) := by decide +kernel
theorem dX7_enough_25 : decode cX7_enough 25 = .ok (.lconst 1, 1) := by decide +kernel
theorem dX7_enough_26 : decode cX7_enough 26 = .ok (.lstore 5, 2) := by decide +kernel
theorem dX7_enough_28 : decode cX7_enough 28 = .ok (.iconst 1, 1) := by decide +kernel
theorem dX7_enough_29 : decode cX7_enough 29 = .ok (.istore 7, 2) := by decide +kernel
theorem dX7_enough_31 : decode cX7_enough 31 = .ok (.iload 7, 2) := by decide +kernel
theorem dX7_enough_33 : decode cX7_enough 33 = .ok (.bipush 9, 2) := by decide +kernel
theorem dX7_enough_35 : decode cX7_enough 35 = .ok (.if_icmp .gt 68, 3) := by decide +kernel
theorem dX7_enough_38 : decode cX7_enough 38 = .ok (.lload_n 3, 1) := by decide +kernel
theorem dX7_enough_39 : decode cX7_enough 39 = .ok (.ldc2_w 222, 3) := by decide +kernel
theorem dX7_enough_42 : decode cX7_enough 42 = .ok (.lmul, 1) := by decide +kernel
theorem dX7_enough_43 : decode cX7_enough 43 = .ok (.lstore_n 3, 1) := by decide +kernel
theorem dX7_enough_44 : decode cX7_enough 44 = .ok (.lload 5, 2) := by decide +kernel
theorem dX7_enough_46 : decode cX7_enough 46 = .ok (.aload_n 0, 1) := by decide +kernel
theorem dX7_enough_47 : decode cX7_enough 47 = .ok (.getfield 27, 3) := by decide +kernel
theorem dX7_enough_50 : decode cX7_enough 50 = .ok (.iconst 4, 1) := by decide +kernel
theorem dX7_enough_51 : decode cX7_enough 51 = .ok (.iaload, 1) := by decide +kernel
theorem dX7_enough_52 : decode cX7_enough 52 = .ok (.i2l, 1) := by decide +kernel
theorem dX7_enough_53 : decode cX7_enough 53 = .ok (.lmul, 1) := by decide +kernel
theorem dX7_enough_54 : decode cX7_enough 54 = .ok (.lstore 5, 2) := by decide +kernel
theorem dX7_enough_56 : decode cX7_enough 56 = .ok (.lload_n 3, 1) := by decide +kernel
theorem dX7_enough_57 : decode cX7_enough 57 = .ok (.lconst 0, 1) := by decide +kernel
theorem dX7_enough_58 : decode cX7_enough 58 = .ok (.lcmp, 1) := by decide +kernel
theorem dX7_enough_59 : decode cX7_enough 59 = .ok (.ifCond .le 16, 3) := by decide +kernel
theorem dX7_enough_62 : decode cX7_enough 62 = .ok (.ldc2_w 224, 3) := by decide +kernel
theorem dX7_enough_65 : decode cX7_enough 65 = .ok (.lload_n 3, 1) := by decide +kernel
theorem dX7_enough_66 : decode cX7_enough 66 = .ok (.lload 5, 2) := by decide +kernel
theorem dX7_enough_68 : decode cX7_enough 68 = .ok (.lsub, 1) := by decide +kernel
theorem dX7_enough_69 : decode cX7_enough 69 = .ok (.lmul, 1) := by decide +kernel
theorem dX7_enough_70 : decode cX7_enough 70 = .ok (.lload_n 3, 1) := by decide +kernel
theorem dX7_enough_71 : decode cX7_enough 71 = .ok (.ldiv, 1) := by decide +kernel
theorem dX7_enough_72 : decode cX7_enough 72 = .ok (.goto 4, 3) := by decide +kernel
theorem dX7_enough_75 : decode cX7_enough 75 = .ok (.lconst 0, 1) := by decide +kernel
theorem dX7_enough_76 : decode cX7_enough 76 = .ok (.lstore 8, 2) := by decide +kernel
theorem dX7_enough_78 : decode cX7_enough 78 = .ok (.iload_n 1, 1) := by decide +kernel
theorem dX7_enough_79 : decode cX7_enough 79 = .ok (.lload 8, 2) := by decide +kernel
theorem dX7_enough_81 : decode cX7_enough 81 = .ok (.invokestatic 226, 3) := by decide +kernel
theorem dX7_enough_84 : decode cX7_enough 84 = .ok (.iload_n 2, 1) := by decide +kernel
theorem dX7_enough_85 : decode cX7_enough 85 = .ok (.i2l, 1) := by decide +kernel
theorem dX7_enough_86 : decode cX7_enough 86 = .ok (.ldc2_w 230, 3) := by decide +kernel
theorem dX7_enough_89 : decode cX7_enough 89 = .ok (.lmul, 1) := by decide +kernel
theorem dX7_enough_90 : decode cX7_enough 90 = .ok (.lcmp, 1) := by decide +kernel
theorem dX7_enough_91 : decode cX7_enough 91 = .ok (.ifCond .lt 6, 3) := by decide +kernel
theorem dX7_enough_94 : decode cX7_enough 94 = .ok (.iload 7, 2) := by decide +kernel
theorem dX7_enough_96 : decode cX7_enough 96 = .ok (.ireturn, 1) := by decide +kernel
theorem dX7_enough_97 : decode cX7_enough 97 = .ok (.iinc 7 1, 3) := by decide +kernel
theorem dX7_enough_100 : decode cX7_enough 100 = .ok (.goto (-69), 3) := by decide +kernel
theorem dX7_enough_103 : decode cX7_enough 103 = .ok (.bipush (-9), 2) := by decide +kernel
theorem dX7_enough_105 : decode cX7_enough 105 = .ok (.ireturn, 1) := by decide +kernel
theorem dX7_next_0 : decode cX7_next 0 = .ok (.aload_n 0, 1) := by decide +kernel
theorem dX7_next_1 : decode cX7_next 1 = .ok (.invokevirtual 128, 3) := by decide +kernel
theorem dX7_next_4 : decode cX7_next 4 = .ok (.bipush (-9), 2) := by decide +kernel
theorem dX7_next_6 : decode cX7_next 6 = .ok (.istore_n 1, 1) := by decide +kernel
theorem dX7_next_7 : decode cX7_next 7 = .ok (.iconst (-1), 1) := by decide +kernel
theorem dX7_next_8 : decode cX7_next 8 = .ok (.istore_n 2, 1) := by decide +kernel
theorem dX7_next_9 : decode cX7_next 9 = .ok (.iconst 0, 1) := by decide +kernel
theorem dX7_next_10 : decode cX7_next 10 = .ok (.istore_n 3, 1) := by decide +kernel
theorem dX7_next_11 : decode cX7_next 11 = .ok (.iload_n 3, 1) := by decide +kernel
theorem dX7_next_12 : decode cX7_next 12 = .ok (.bipush 6, 2) := by decide +kernel
theorem dX7_next_14 : decode cX7_next 14 = .ok (.if_icmp .ge 50, 3) := by decide +kernel
theorem dX7_next_17 : decode cX7_next 17 = .ok (.aload_n 0, 1) := by decide +kernel
theorem dX7_next_18 : decode cX7_next 18 = .ok (.getfield 19, 3) := by decide +kernel
theorem dX7_next_21 : decode cX7_next 21 = .ok (.iload_n 3, 1) := by decide +kernel
theorem dX7_next_22 : decode cX7_next 22 = .ok (.invokevirtual 232, 3) := by decide +kernel
theorem dX7_next_25 : decode cX7_next 25 = .ok (.istore 4, 2) := by decide +kernel
theorem dX7_next_27 : decode cX7_next 27 = .ok (.iload 4, 2) := by decide +kernel
theorem dX7_next_29 : decode cX7_next 29 = .ok (.ifCond .ne 7, 3) := by decide +kernel
theorem dX7_next_32 : decode cX7_next 32 = .ok (.iconst (-1), 1) := by decide +kernel
theorem dX7_next_33 : decode cX7_next 33 = .ok (.goto 12, 3) := by decide +kernel
theorem dX7_next_36 : decode cX7_next 36 = .ok (.aload_n 0, 1) := by decide +kernel
theorem dX7_next_37 : decode cX7_next 37 = .ok (.getfield 44, 3) := by decide +kernel
theorem dX7_next_40 : decode cX7_next 40 = .ok (.iload 4, 2) := by decide +kernel
theorem dX7_next_42 : decode cX7_next 42 = .ok (.invokevirtual 235, 3) := by decide +kernel
theorem dX7_next_45 : decode cX7_next 45 = .ok (.istore 5, 2) := by decide +kernel
theorem dX7_next_47 : decode cX7_next 47 = .ok (.iload 5, 2) := by decide +kernel
theorem dX7_next_49 : decode cX7_next 49 = .ok (.iload_n 2, 1) := by decide +kernel
theorem dX7_next_50 : decode cX7_next 50 = .ok (.if_icmp .le 8, 3) := by decide +kernel
theorem dX7_next_53 : decode cX7_next 53 = .ok (.iload_n 3, 1) := by decide +kernel
theorem dX7_next_54 : decode cX7_next 54 = .ok (.istore_n 1, 1) := by decide +kernel
theorem dX7_next_55 : decode cX7_next 55 = .ok (.iload 5, 2) := by decide +kernel
theorem dX7_next_57 : decode cX7_next 57 = .ok (.istore_n 2, 1) := by decide +kernel
theorem dX7_next_58 : decode cX7_next 58 = .ok (.iinc 3 1, 3) := by decide +kernel
theorem dX7_next_61 : decode cX7_next 61 = .ok (.goto (-50), 3) := by decide +kernel
theorem dX7_next_64 : decode cX7_next 64 = .ok (.iload_n 1, 1) := by decide +kernel
theorem dX7_next_65 : decode cX7_next 65 = .ok (.ireturn, 1) := by decide +kernel
theorem dX7_rank_0 : decode cX7_rank 0 = .ok (.aload_n 0, 1) := by decide +kernel
theorem dX7_rank_1 : decode cX7_rank 1 = .ok (.iload_n 2, 1) := by decide +kernel
theorem dX7_rank_2 : decode cX7_rank 2 = .ok (.iload_n 3, 1) := by decide +kernel
theorem dX7_rank_3 : decode cX7_rank 3 = .ok (.invokevirtual 118, 3) := by decide +kernel
theorem dX7_rank_6 : decode cX7_rank 6 = .ok (.ifCond .ne 6, 3) := by decide +kernel
theorem dX7_rank_9 : decode cX7_rank 9 = .ok (.ldc 238, 2) := by decide +kernel
theorem dX7_rank_11 : decode cX7_rank 11 = .ok (.ireturn, 1) := by decide +kernel
theorem dX7_rank_12 : decode cX7_rank 12 = .ok (.aload_n 0, 1) := by decide +kernel
theorem dX7_rank_13 : decode cX7_rank 13 = .ok (.invokevirtual 128, 3) := by decide +kernel
theorem dX7_rank_16 : decode cX7_rank 16 = .ok (.iload_n 1, 1) := by decide +kernel
theorem dX7_rank_17 : decode cX7_rank 17 = .ok (.tableswitch 81 0 5 #[39, 46, 53, 60, 67, 74], 39) := by decide +kernel
theorem dX7_rank_56 : decode cX7_rank 56 = .ok (.aload_n 0, 1) := by decide +kernel
theorem dX7_rank_57 : decode cX7_rank 57 = .ok (.iload_n 2, 1) := by decide +kernel
theorem dX7_rank_58 : decode cX7_rank 58 = .ok (.iload_n 3, 1) := by decide +kernel
theorem dX7_rank_59 : decode cX7_rank 59 = .ok (.invokevirtual 239, 3) := by decide +kernel
theorem dX7_rank_62 : decode cX7_rank 62 = .ok (.ireturn, 1) := by decide +kernel
theorem dX7_rank_63 : decode cX7_rank 63 = .ok (.aload_n 0, 1) := by decide +kernel
theorem dX7_rank_64 : decode cX7_rank 64 = .ok (.iload_n 2, 1) := by decide +kernel
theorem dX7_rank_65 : decode cX7_rank 65 = .ok (.iload_n 3, 1) := by decide +kernel
theorem dX7_rank_66 : decode cX7_rank 66 = .ok (.invokevirtual 242, 3) := by decide +kernel
theorem dX7_rank_69 : decode cX7_rank 69 = .ok (.ireturn, 1) := by decide +kernel
theorem dX7_rank_70 : decode cX7_rank 70 = .ok (.aload_n 0, 1) := by decide +kernel
theorem dX7_rank_71 : decode cX7_rank 71 = .ok (.iload_n 2, 1) := by decide +kernel
theorem dX7_rank_72 : decode cX7_rank 72 = .ok (.iload_n 3, 1) := by decide +kernel
theorem dX7_rank_73 : decode cX7_rank 73 = .ok (.invokevirtual 245, 3) := by decide +kernel
theorem dX7_rank_76 : decode cX7_rank 76 = .ok (.ireturn, 1) := by decide +kernel
theorem dX7_rank_77 : decode cX7_rank 77 = .ok (.aload_n 0, 1) := by decide +kernel
theorem dX7_rank_78 : decode cX7_rank 78 = .ok (.iload_n 2, 1) := by decide +kernel
theorem dX7_rank_79 : decode cX7_rank 79 = .ok (.iload_n 3, 1) := by decide +kernel
theorem dX7_rank_80 : decode cX7_rank 80 = .ok (.invokevirtual 248, 3) := by decide +kernel
theorem dX7_rank_83 : decode cX7_rank 83 = .ok (.ireturn, 1) := by decide +kernel
theorem dX7_rank_84 : decode cX7_rank 84 = .ok (.aload_n 0, 1) := by decide +kernel
theorem dX7_rank_85 : decode cX7_rank 85 = .ok (.iload_n 2, 1) := by decide +kernel
theorem dX7_rank_86 : decode cX7_rank 86 = .ok (.iload_n 3, 1) := by decide +kernel
theorem dX7_rank_87 : decode cX7_rank 87 = .ok (.invokevirtual 251, 3) := by decide +kernel
theorem dX7_rank_90 : decode cX7_rank 90 = .ok (.ireturn, 1) := by decide +kernel
theorem dX7_rank_91 : decode cX7_rank 91 = .ok (.aload_n 0, 1) := by decide +kernel
theorem dX7_rank_92 : decode cX7_rank 92 = .ok (.iload_n 2, 1) := by decide +kernel
theorem dX7_rank_93 : decode cX7_rank 93 = .ok (.iload_n 3, 1) := by decide +kernel
theorem dX7_rank_94 : decode cX7_rank 94 = .ok (.invokevirtual 254, 3) := by decide +kernel
theorem dX7_rank_97 : decode cX7_rank 97 = .ok (.ireturn, 1) := by decide +kernel
theorem dX7_rank_98 : decode cX7_rank 98 = .ok (.ldc 238, 2) := by decide +kernel
theorem dX7_rank_100 : decode cX7_rank 100 = .ok (.ireturn, 1) := by decide +kernel
theorem dX7_keep_0 : decode cX7_keep 0 = .ok (.iload_n 1, 1) := by decide +kernel
theorem dX7_keep_1 : decode cX7_keep 1 = .ok (.ifCond .lt 8, 3) := by decide +kernel
theorem dX7_keep_4 : decode cX7_keep 4 = .ok (.iload_n 1, 1) := by decide +kernel
theorem dX7_keep_5 : decode cX7_keep 5 = .ok (.iconst 2, 1) := by decide +kernel
theorem dX7_keep_6 : decode cX7_keep 6 = .ok (.if_icmp .lt 5, 3) := by decide +kernel
theorem dX7_keep_9 : decode cX7_keep 9 = .ok (.iconst (-1), 1) := by decide +kernel
theorem dX7_keep_10 : decode cX7_keep 10 = .ok (.ireturn, 1) := by decide +kernel
theorem dX7_keep_11 : decode cX7_keep 11 = .ok (.aload_n 0, 1) := by decide +kernel
theorem dX7_keep_12 : decode cX7_keep 12 = .ok (.getfield 23, 3) := by decide +kernel
theorem dX7_keep_15 : decode cX7_keep 15 = .ok (.iload_n 1, 1) := by decide +kernel
theorem dX7_keep_16 : decode cX7_keep 16 = .ok (.aaload, 1) := by decide +kernel
theorem dX7_keep_17 : decode cX7_keep 17 = .ok (.aload_n 0, 1) := by decide +kernel
theorem dX7_keep_18 : decode cX7_keep 18 = .ok (.getfield 19, 3) := by decide +kernel
theorem dX7_keep_21 : decode cX7_keep 21 = .ok (.invokevirtual 257, 3) := by decide +kernel
theorem dX7_keep_24 : decode cX7_keep 24 = .ok (.aload_n 0, 1) := by decide +kernel
theorem dX7_keep_25 : decode cX7_keep 25 = .ok (.getfield 23, 3) := by decide +kernel
theorem dX7_keep_28 : decode cX7_keep 28 = .ok (.iload_n 1, 1) := by decide +kernel
theorem dX7_keep_29 : decode cX7_keep 29 = .ok (.aaload, 1) := by decide +kernel
theorem dX7_keep_30 : decode cX7_keep 30 = .ok (.iconst 1, 1) := by decide +kernel
theorem dX7_keep_31 : decode cX7_keep 31 = .ok (.putfield 261, 3) := by decide +kernel
theorem dX7_keep_34 : decode cX7_keep 34 = .ok (.aload_n 0, 1) := by decide +kernel
theorem dX7_keep_35 : decode cX7_keep 35 = .ok (.getfield 19, 3) := by decide +kernel
theorem dX7_keep_38 : decode cX7_keep 38 = .ok (.getfield 73, 3) := by decide +kernel
theorem dX7_keep_41 : decode cX7_keep 41 = .ok (.ireturn, 1) := by decide +kernel
theorem dX7_back_0 : decode cX7_back 0 = .ok (.iload_n 1, 1) := by decide +kernel
theorem dX7_back_1 : decode cX7_back 1 = .ok (.ifCond .lt 8, 3) := by decide +kernel
theorem dX7_back_4 : decode cX7_back 4 = .ok (.iload_n 1, 1) := by decide +kernel
theorem dX7_back_5 : decode cX7_back 5 = .ok (.iconst 2, 1) := by decide +kernel
theorem dX7_back_6 : decode cX7_back 6 = .ok (.if_icmp .lt 5, 3) := by decide +kernel
theorem dX7_back_9 : decode cX7_back 9 = .ok (.iconst (-1), 1) := by decide +kernel
theorem dX7_back_10 : decode cX7_back 10 = .ok (.ireturn, 1) := by decide +kernel
theorem dX7_back_11 : decode cX7_back 11 = .ok (.aload_n 0, 1) := by decide +kernel
theorem dX7_back_12 : decode cX7_back 12 = .ok (.getfield 23, 3) := by decide +kernel
theorem dX7_back_15 : decode cX7_back 15 = .ok (.iload_n 1, 1) := by decide +kernel
theorem dX7_back_16 : decode cX7_back 16 = .ok (.aaload, 1) := by decide +kernel
theorem dX7_back_17 : decode cX7_back 17 = .ok (.getfield 261, 3) := by decide +kernel
theorem dX7_back_20 : decode cX7_back 20 = .ok (.ifCond .ne 6, 3) := by decide +kernel
theorem dX7_back_23 : decode cX7_back 23 = .ok (.bipush (-2), 2) := by decide +kernel
theorem dX7_back_25 : decode cX7_back 25 = .ok (.ireturn, 1) := by decide +kernel
theorem dX7_back_26 : decode cX7_back 26 = .ok (.aload_n 0, 1) := by decide +kernel
theorem dX7_back_27 : decode cX7_back 27 = .ok (.getfield 19, 3) := by decide +kernel
theorem dX7_back_30 : decode cX7_back 30 = .ok (.aload_n 0, 1) := by decide +kernel
theorem dX7_back_31 : decode cX7_back 31 = .ok (.getfield 23, 3) := by decide +kernel
theorem dX7_back_34 : decode cX7_back 34 = .ok (.iload_n 1, 1) := by decide +kernel
theorem dX7_back_35 : decode cX7_back 35 = .ok (.aaload, 1) := by decide +kernel
theorem dX7_back_36 : decode cX7_back 36 = .ok (.invokevirtual 257, 3) := by decide +kernel
theorem dX7_back_39 : decode cX7_back 39 = .ok (.aload_n 0, 1) := by decide +kernel
theorem dX7_back_40 : decode cX7_back 40 = .ok (.iconst 0, 1) := by decide +kernel
theorem dX7_back_41 : decode cX7_back 41 = .ok (.putfield 93, 3) := by decide +kernel
theorem dX7_back_44 : decode cX7_back 44 = .ok (.aload_n 0, 1) := by decide +kernel
theorem dX7_back_45 : decode cX7_back 45 = .ok (.getfield 19, 3) := by decide +kernel
theorem dX7_back_48 : decode cX7_back 48 = .ok (.getfield 73, 3) := by decide +kernel
theorem dX7_back_51 : decode cX7_back 51 = .ok (.ireturn, 1) := by decide +kernel
theorem dX7_count_0 : decode cX7_count 0 = .ok (.iload_n 1, 1) := by decide +kernel
theorem dX7_count_1 : decode cX7_count 1 = .ok (.tableswitch 63 0 3 #[31, 39, 47, 55], 31) := by decide +kernel
theorem dX7_count_32 : decode cX7_count 32 = .ok (.aload_n 0, 1) := by decide +kernel
theorem dX7_count_33 : decode cX7_count 33 = .ok (.getfield 19, 3) := by decide +kernel
theorem dX7_count_36 : decode cX7_count 36 = .ok (.getfield 73, 3) := by decide +kernel
theorem dX7_count_39 : decode cX7_count 39 = .ok (.ireturn, 1) := by decide +kernel
theorem dX7_count_40 : decode cX7_count 40 = .ok (.aload_n 0, 1) := by decide +kernel
theorem dX7_count_41 : decode cX7_count 41 = .ok (.getfield 19, 3) := by decide +kernel
theorem dX7_count_44 : decode cX7_count 44 = .ok (.invokevirtual 264, 3) := by decide +kernel
theorem dX7_count_47 : decode cX7_count 47 = .ok (.ireturn, 1) := by decide +kernel
theorem dX7_count_48 : decode cX7_count 48 = .ok (.aload_n 0, 1) := by decide +kernel
theorem dX7_count_49 : decode cX7_count 49 = .ok (.getfield 58, 3) := by decide +kernel
theorem dX7_count_52 : decode cX7_count 52 = .ok (.getfield 203, 3) := by decide +kernel
theorem dX7_count_55 : decode cX7_count 55 = .ok (.ireturn, 1) := by decide +kernel
theorem dX7_count_56 : decode cX7_count 56 = .ok (.aload_n 0, 1) := by decide +kernel
theorem dX7_count_57 : decode cX7_count 57 = .ok (.getfield 12, 3) := by decide +kernel
theorem dX7_count_60 : decode cX7_count 60 = .ok (.getfield 69, 3) := by decide +kernel
theorem dX7_count_63 : decode cX7_count 63 = .ok (.ireturn, 1) := by decide +kernel
theorem dX7_count_64 : decode cX7_count 64 = .ok (.iconst (-1), 1) := by decide +kernel
theorem dX7_count_65 : decode cX7_count 65 = .ok (.ireturn, 1) := by decide +kernel
theorem dX7_trace_0 : decode cX7_trace 0 = .ok (.aload_n 0, 1) := by decide +kernel
theorem dX7_trace_1 : decode cX7_trace 1 = .ok (.getfield 267, 3) := by decide +kernel
theorem dX7_trace_4 : decode cX7_trace 4 = .ok (.lreturn, 1) := by decide +kernel
theorem dX7_isChip_0 : decode cX7_isChip 0 = .ok (.iload_n 1, 1) := by decide +kernel
theorem dX7_isChip_1 : decode cX7_isChip 1 = .ok (.ifCond .lt 18, 3) := by decide +kernel
theorem dX7_isChip_4 : decode cX7_isChip 4 = .ok (.iload_n 1, 1) := by decide +kernel
theorem dX7_isChip_5 : decode cX7_isChip 5 = .ok (.aload_n 0, 1) := by decide +kernel
theorem dX7_isChip_6 : decode cX7_isChip 6 = .ok (.getfield 19, 3) := by decide +kernel
theorem dX7_isChip_9 : decode cX7_isChip 9 = .ok (.getfield 73, 3) := by decide +kernel
theorem dX7_isChip_12 : decode cX7_isChip 12 = .ok (.if_icmp .ge 7, 3) := by decide +kernel
theorem dX7_isChip_15 : decode cX7_isChip 15 = .ok (.iconst 1, 1) := by decide +kernel
theorem dX7_isChip_16 : decode cX7_isChip 16 = .ok (.goto 4, 3) := by decide +kernel
theorem dX7_isChip_19 : decode cX7_isChip 19 = .ok (.iconst 0, 1) := by decide +kernel
theorem dX7_isChip_20 : decode cX7_isChip 20 = .ok (.ireturn, 1) := by decide +kernel
theorem dX7_isCoat_0 : decode cX7_isCoat 0 = .ok (.aload_n 0, 1) := by decide +kernel
theorem dX7_isCoat_1 : decode cX7_isCoat 1 = .ok (.iload_n 1, 1) := by decide +kernel
theorem dX7_isCoat_2 : decode cX7_isCoat 2 = .ok (.invokevirtual 101, 3) := by decide +kernel
theorem dX7_isCoat_5 : decode cX7_isCoat 5 = .ok (.ifCond .eq 27, 3) := by decide +kernel
theorem dX7_isCoat_8 : decode cX7_isCoat 8 = .ok (.iload_n 2, 1) := by decide +kernel
theorem dX7_isCoat_9 : decode cX7_isCoat 9 = .ok (.ifCond .lt 23, 3) := by decide +kernel
theorem dX7_isCoat_12 : decode cX7_isCoat 12 = .ok (.iload_n 2, 1) := by decide +kernel
theorem dX7_isCoat_13 : decode cX7_isCoat 13 = .ok (.aload_n 0, 1) := by decide +kernel
theorem dX7_isCoat_14 : decode cX7_isCoat 14 = .ok (.getfield 19, 3) := by decide +kernel
theorem dX7_isCoat_17 : decode cX7_isCoat 17 = .ok (.getfield 79, 3) := by decide +kernel
theorem dX7_isCoat_20 : decode cX7_isCoat 20 = .ok (.iload_n 1, 1) := by decide +kernel
theorem dX7_isCoat_21 : decode cX7_isCoat 21 = .ok (.aaload, 1) := by decide +kernel
theorem dX7_isCoat_22 : decode cX7_isCoat 22 = .ok (.getfield 115, 3) := by decide +kernel
theorem dX7_isCoat_25 : decode cX7_isCoat 25 = .ok (.if_icmp .ge 7, 3) := by decide +kernel
theorem dX7_isCoat_28 : decode cX7_isCoat 28 = .ok (.iconst 1, 1) := by decide +kernel
theorem dX7_isCoat_29 : decode cX7_isCoat 29 = .ok (.goto 4, 3) := by decide +kernel
theorem dX7_isCoat_32 : decode cX7_isCoat 32 = .ok (.iconst 0, 1) := by decide +kernel
theorem dX7_isCoat_33 : decode cX7_isCoat 33 = .ok (.ireturn, 1) := by decide +kernel
theorem dX7_areTwo_0 : decode cX7_areTwo 0 = .ok (.aload_n 0, 1) := by decide +kernel
theorem dX7_areTwo_1 : decode cX7_areTwo 1 = .ok (.iload_n 1, 1) := by decide +kernel
theorem dX7_areTwo_2 : decode cX7_areTwo 2 = .ok (.invokevirtual 101, 3) := by decide +kernel
theorem dX7_areTwo_5 : decode cX7_areTwo 5 = .ok (.ifCond .eq 20, 3) := by decide +kernel
theorem dX7_areTwo_8 : decode cX7_areTwo 8 = .ok (.aload_n 0, 1) := by decide +kernel
theorem dX7_areTwo_9 : decode cX7_areTwo 9 = .ok (.iload_n 2, 1) := by decide +kernel
theorem dX7_areTwo_10 : decode cX7_areTwo 10 = .ok (.invokevirtual 101, 3) := by decide +kernel
theorem dX7_areTwo_13 : decode cX7_areTwo 13 = .ok (.ifCond .eq 12, 3) := by decide +kernel
theorem dX7_areTwo_16 : decode cX7_areTwo 16 = .ok (.iload_n 1, 1) := by decide +kernel
theorem dX7_areTwo_17 : decode cX7_areTwo 17 = .ok (.iload_n 2, 1) := by decide +kernel
theorem dX7_areTwo_18 : decode cX7_areTwo 18 = .ok (.if_icmp .eq 7, 3) := by decide +kernel
theorem dX7_areTwo_21 : decode cX7_areTwo 21 = .ok (.iconst 1, 1) := by decide +kernel
theorem dX7_areTwo_22 : decode cX7_areTwo 22 = .ok (.goto 4, 3) := by decide +kernel
theorem dX7_areTwo_25 : decode cX7_areTwo 25 = .ok (.iconst 0, 1) := by decide +kernel
theorem dX7_areTwo_26 : decode cX7_areTwo 26 = .ok (.ireturn, 1) := by decide +kernel
theorem dX7_isPainting_0 : decode cX7_isPainting 0 = .ok (.iload_n 1, 1) := by decide +kernel
theorem dX7_isPainting_1 : decode cX7_isPainting 1 = .ok (.ifCond .lt 18, 3) := by decide +kernel
theorem dX7_isPainting_4 : decode cX7_isPainting 4 = .ok (.iload_n 1, 1) := by decide +kernel
theorem dX7_isPainting_5 : decode cX7_isPainting 5 = .ok (.aload_n 0, 1) := by decide +kernel
theorem dX7_isPainting_6 : decode cX7_isPainting 6 = .ok (.getfield 44, 3) := by decide +kernel
theorem dX7_isPainting_9 : decode cX7_isPainting 9 = .ok (.getfield 170, 3) := by decide +kernel
theorem dX7_isPainting_12 : decode cX7_isPainting 12 = .ok (.if_icmp .ge 7, 3) := by decide +kernel
theorem dX7_isPainting_15 : decode cX7_isPainting 15 = .ok (.iconst 1, 1) := by decide +kernel
theorem dX7_isPainting_16 : decode cX7_isPainting 16 = .ok (.goto 4, 3) := by decide +kernel
theorem dX7_isPainting_19 : decode cX7_isPainting 19 = .ok (.iconst 0, 1) := by decide +kernel
theorem dX7_isPainting_20 : decode cX7_isPainting 20 = .ok (.ireturn, 1) := by decide +kernel
theorem dX7_findSame_0 : decode cX7_findSame 0 = .ok (.iconst 0, 1) := by decide +kernel
theorem dX7_findSame_1 : decode cX7_findSame 1 = .ok (.istore_n 1, 1) := by decide +kernel
theorem dX7_findSame_2 : decode cX7_findSame 2 = .ok (.iload_n 1, 1) := by decide +kernel
theorem dX7_findSame_3 : decode cX7_findSame 3 = .ok (.bipush 12, 2) := by decide +kernel
theorem dX7_findSame_5 : decode cX7_findSame 5 = .ok (.if_icmp .ge 41, 3) := by decide +kernel
theorem dX7_findSame_8 : decode cX7_findSame 8 = .ok (.aload_n 0, 1) := by decide +kernel
theorem dX7_findSame_9 : decode cX7_findSame 9 = .ok (.getfield 31, 3) := by decide +kernel
theorem dX7_findSame_12 : decode cX7_findSame 12 = .ok (.iload_n 1, 1) := by decide +kernel
theorem dX7_findSame_13 : decode cX7_findSame 13 = .ok (.iconst 1, 1) := by decide +kernel
theorem dX7_findSame_14 : decode cX7_findSame 14 = .ok (.iload_n 1, 1) := by decide +kernel
theorem dX7_findSame_15 : decode cX7_findSame 15 = .ok (.ishl, 1) := by decide +kernel
theorem dX7_findSame_16 : decode cX7_findSame 16 = .ok (.aload_n 0, 1) := by decide +kernel
theorem dX7_findSame_17 : decode cX7_findSame 17 = .ok (.getfield 27, 3) := by decide +kernel
theorem dX7_findSame_20 : decode cX7_findSame 20 = .ok (.iconst 2, 1) := by decide +kernel
theorem dX7_findSame_21 : decode cX7_findSame 21 = .ok (.iaload, 1) := by decide +kernel
theorem dX7_findSame_22 : decode cX7_findSame 22 = .ok (.ifCond .ne 15, 3) := by decide +kernel
theorem dX7_findSame_25 : decode cX7_findSame 25 = .ok (.aload_n 0, 1) := by decide +kernel
theorem dX7_findSame_26 : decode cX7_findSame 26 = .ok (.getfield 58, 3) := by decide +kernel
theorem dX7_findSame_29 : decode cX7_findSame 29 = .ok (.getfield 141, 3) := by decide +kernel
theorem dX7_findSame_32 : decode cX7_findSame 32 = .ok (.iload_n 1, 1) := by decide +kernel
theorem dX7_findSame_33 : decode cX7_findSame 33 = .ok (.iaload, 1) := by decide +kernel
theorem dX7_findSame_34 : decode cX7_findSame 34 = .ok (.goto 4, 3) := by decide +kernel
theorem dX7_findSame_37 : decode cX7_findSame 37 = .ok (.iconst 0, 1) := by decide +kernel
theorem dX7_findSame_38 : decode cX7_findSame 38 = .ok (.ior, 1) := by decide +kernel
theorem dX7_findSame_39 : decode cX7_findSame 39 = .ok (.iastore, 1) := by decide +kernel
theorem dX7_findSame_40 : decode cX7_findSame 40 = .ok (.iinc 1 1, 3) := by decide +kernel
theorem dX7_findSame_43 : decode cX7_findSame 43 = .ok (.goto (-41), 3) := by decide +kernel
theorem dX7_findSame_46 : decode cX7_findSame 46 = .ok (.return_, 1) := by decide +kernel
theorem dX7_lay_0 : decode cX7_lay 0 = .ok (.aload_n 0, 1) := by decide +kernel
theorem dX7_lay_1 : decode cX7_lay 1 = .ok (.invokevirtual 271, 3) := by decide +kernel
theorem dX7_lay_4 : decode cX7_lay 4 = .ok (.aload_n 0, 1) := by decide +kernel
theorem dX7_lay_5 : decode cX7_lay 5 = .ok (.getfield 37, 3) := by decide +kernel
theorem dX7_lay_8 : decode cX7_lay 8 = .ok (.aload_n 0, 1) := by decide +kernel
theorem dX7_lay_9 : decode cX7_lay 9 = .ok (.getfield 19, 3) := by decide +kernel
theorem dX7_lay_12 : decode cX7_lay 12 = .ok (.getfield 79, 3) := by decide +kernel
theorem dX7_lay_15 : decode cX7_lay 15 = .ok (.iload_n 1, 1) := by decide +kernel
theorem dX7_lay_16 : decode cX7_lay 16 = .ok (.aaload, 1) := by decide +kernel
theorem dX7_lay_17 : decode cX7_lay 17 = .ok (.aload_n 0, 1) := by decide +kernel
theorem dX7_lay_18 : decode cX7_lay 18 = .ok (.getfield 19, 3) := by decide +kernel
theorem dX7_lay_21 : decode cX7_lay 21 = .ok (.getfield 79, 3) := by decide +kernel
theorem dX7_lay_24 : decode cX7_lay 24 = .ok (.iload_n 2, 1) := by decide +kernel
theorem dX7_lay_25 : decode cX7_lay 25 = .ok (.aaload, 1) := by decide +kernel
theorem dX7_lay_26 : decode cX7_lay 26 = .ok (.aload_n 0, 1) := by decide +kernel
theorem dX7_lay_27 : decode cX7_lay 27 = .ok (.getfield 31, 3) := by decide +kernel
theorem dX7_lay_30 : decode cX7_lay 30 = .ok (.aload_n 0, 1) := by decide +kernel
theorem dX7_lay_31 : decode cX7_lay 31 = .ok (.getfield 27, 3) := by decide +kernel
theorem dX7_lay_34 : decode cX7_lay 34 = .ok (.iconst 0, 1) := by decide +kernel
theorem dX7_lay_35 : decode cX7_lay 35 = .ok (.iaload, 1) := by decide +kernel
theorem dX7_lay_36 : decode cX7_lay 36 = .ok (.aload_n 0, 1) := by decide +kernel
theorem dX7_lay_37 : decode cX7_lay 37 = .ok (.getfield 27, 3) := by decide +kernel
theorem dX7_lay_40 : decode cX7_lay 40 = .ok (.iconst 1, 1) := by decide +kernel
theorem dX7_lay_41 : decode cX7_lay 41 = .ok (.iaload, 1) := by decide +kernel
theorem dX7_lay_42 : decode cX7_lay 42 = .ok (.invokevirtual 274, 3) := by decide +kernel
theorem dX7_lay_45 : decode cX7_lay 45 = .ok (.return_, 1) := by decide +kernel
theorem dX7_settle_0 : decode cX7_settle 0 = .ok (.aload_n 0, 1) := by decide +kernel
theorem dX7_settle_1 : decode cX7_settle 1 = .ok (.getfield 93, 3) := by decide +kernel
theorem dX7_settle_4 : decode cX7_settle 4 = .ok (.ifCond .ne 27, 3) := by decide +kernel
theorem dX7_settle_7 : decode cX7_settle 7 = .ok (.aload_n 0, 1) := by decide +kernel
theorem dX7_settle_8 : decode cX7_settle 8 = .ok (.invokevirtual 271, 3) := by decide +kernel
theorem dX7_settle_11 : decode cX7_settle 11 = .ok (.aload_n 0, 1) := by decide +kernel
theorem dX7_settle_12 : decode cX7_settle 12 = .ok (.getfield 44, 3) := by decide +kernel
theorem dX7_settle_15 : decode cX7_settle 15 = .ok (.aload_n 0, 1) := by decide +kernel
theorem dX7_settle_16 : decode cX7_settle 16 = .ok (.getfield 19, 3) := by decide +kernel
theorem dX7_settle_19 : decode cX7_settle 19 = .ok (.aload_n 0, 1) := by decide +kernel
theorem dX7_settle_20 : decode cX7_settle 20 = .ok (.getfield 31, 3) := by decide +kernel
theorem dX7_settle_23 : decode cX7_settle 23 = .ok (.invokevirtual 277, 3) := by decide +kernel
theorem dX7_settle_26 : decode cX7_settle 26 = .ok (.aload_n 0, 1) := by decide +kernel
theorem dX7_settle_27 : decode cX7_settle 27 = .ok (.iconst 1, 1) := by decide +kernel
theorem dX7_settle_28 : decode cX7_settle 28 = .ok (.putfield 93, 3) := by decide +kernel
theorem dX7_settle_31 : decode cX7_settle 31 = .ok (.return_, 1) := by decide +kernel
theorem dX7_paintingOf_0 : decode cX7_paintingOf 0 = .ok (.aload_n 0, 1) := by decide +kernel
theorem dX7_paintingOf_1 : decode cX7_paintingOf 1 = .ok (.getfield 44, 3) := by decide +kernel
theorem dX7_paintingOf_4 : decode cX7_paintingOf 4 = .ok (.getfield 280, 3) := by decide +kernel
theorem dX7_paintingOf_7 : decode cX7_paintingOf 7 = .ok (.iload_n 1, 1) := by decide +kernel
theorem dX7_paintingOf_8 : decode cX7_paintingOf 8 = .ok (.bipush 10, 2) := by decide +kernel
theorem dX7_paintingOf_10 : decode cX7_paintingOf 10 = .ok (.imul, 1) := by decide +kernel
theorem dX7_paintingOf_11 : decode cX7_paintingOf 11 = .ok (.iload_n 2, 1) := by decide +kernel
theorem dX7_paintingOf_12 : decode cX7_paintingOf 12 = .ok (.iadd, 1) := by decide +kernel
theorem dX7_paintingOf_13 : decode cX7_paintingOf 13 = .ok (.iaload, 1) := by decide +kernel
theorem dX7_paintingOf_14 : decode cX7_paintingOf 14 = .ok (.ireturn, 1) := by decide +kernel
theorem dX7_missedBy_0 : decode cX7_missedBy 0 = .ok (.aload_n 0, 1) := by decide +kernel
theorem dX7_missedBy_1 : decode cX7_missedBy 1 = .ok (.getfield 19, 3) := by decide +kernel
theorem dX7_missedBy_4 : decode cX7_missedBy 4 = .ok (.getfield 79, 3) := by decide +kernel
theorem dX7_missedBy_7 : decode cX7_missedBy 7 = .ok (.iload_n 1, 1) := by decide +kernel
theorem dX7_missedBy_8 : decode cX7_missedBy 8 = .ok (.aaload, 1) := by decide +kernel
theorem dX7_missedBy_9 : decode cX7_missedBy 9 = .ok (.getfield 115, 3) := by decide +kernel
theorem dX7_missedBy_12 : decode cX7_missedBy 12 = .ok (.istore_n 2, 1) := by decide +kernel
theorem dX7_missedBy_13 : decode cX7_missedBy 13 = .ok (.aload_n 0, 1) := by decide +kernel
theorem dX7_missedBy_14 : decode cX7_missedBy 14 = .ok (.iload_n 1, 1) := by decide +kernel
theorem dX7_missedBy_15 : decode cX7_missedBy 15 = .ok (.iload_n 2, 1) := by decide +kernel
theorem dX7_missedBy_16 : decode cX7_missedBy 16 = .ok (.iconst 1, 1) := by decide +kernel
theorem dX7_missedBy_17 : decode cX7_missedBy 17 = .ok (.isub, 1) := by decide +kernel
theorem dX7_missedBy_18 : decode cX7_missedBy 18 = .ok (.invokevirtual 131, 3) := by decide +kernel
theorem dX7_missedBy_21 : decode cX7_missedBy 21 = .ok (.aload_n 0, 1) := by decide +kernel
theorem dX7_missedBy_22 : decode cX7_missedBy 22 = .ok (.iload_n 1, 1) := by decide +kernel
theorem dX7_missedBy_23 : decode cX7_missedBy 23 = .ok (.iconst 0, 1) := by decide +kernel
theorem dX7_missedBy_24 : decode cX7_missedBy 24 = .ok (.invokevirtual 131, 3) := by decide +kernel
theorem dX7_missedBy_27 : decode cX7_missedBy 27 = .ok (.isub, 1) := by decide +kernel
theorem dX7_missedBy_28 : decode cX7_missedBy 28 = .ok (.iconst 1, 1) := by decide +kernel
theorem dX7_missedBy_29 : decode cX7_missedBy 29 = .ok (.iadd, 1) := by decide +kernel
theorem dX7_missedBy_30 : decode cX7_missedBy 30 = .ok (.iload_n 2, 1) := by decide +kernel
theorem dX7_missedBy_31 : decode cX7_missedBy 31 = .ok (.isub, 1) := by decide +kernel
theorem dX7_missedBy_32 : decode cX7_missedBy 32 = .ok (.ireturn, 1) := by decide +kernel
theorem dX7_ageOf_0 : decode cX7_ageOf 0 = .ok (.aload_n 0, 1) := by decide +kernel
theorem dX7_ageOf_1 : decode cX7_ageOf 1 = .ok (.iload_n 1, 1) := by decide +kernel
theorem dX7_ageOf_2 : decode cX7_ageOf 2 = .ok (.iconst 0, 1) := by decide +kernel
theorem dX7_ageOf_3 : decode cX7_ageOf 3 = .ok (.invokevirtual 131, 3) := by decide +kernel
theorem dX7_ageOf_6 : decode cX7_ageOf 6 = .ok (.ifCond .ne 5, 3) := by decide +kernel
theorem dX7_ageOf_9 : decode cX7_ageOf 9 = .ok (.iconst 0, 1) := by decide +kernel
theorem dX7_ageOf_10 : decode cX7_ageOf 10 = .ok (.ireturn, 1) := by decide +kernel
theorem dX7_ageOf_11 : decode cX7_ageOf 11 = .ok (.aload_n 0, 1) := by decide +kernel
theorem dX7_ageOf_12 : decode cX7_ageOf 12 = .ok (.getfield 19, 3) := by decide +kernel
theorem dX7_ageOf_15 : decode cX7_ageOf 15 = .ok (.getfield 79, 3) := by decide +kernel
theorem dX7_ageOf_18 : decode cX7_ageOf 18 = .ok (.iload_n 1, 1) := by decide +kernel
theorem dX7_ageOf_19 : decode cX7_ageOf 19 = .ok (.aaload, 1) := by decide +kernel
theorem dX7_ageOf_20 : decode cX7_ageOf 20 = .ok (.getfield 112, 3) := by decide +kernel
theorem dX7_ageOf_23 : decode cX7_ageOf 23 = .ok (.ifCond .eq 7, 3) := by decide +kernel
theorem dX7_ageOf_26 : decode cX7_ageOf 26 = .ok (.iconst 1, 1) := by decide +kernel
theorem dX7_ageOf_27 : decode cX7_ageOf 27 = .ok (.goto 4, 3) := by decide +kernel
theorem dX7_ageOf_30 : decode cX7_ageOf 30 = .ok (.iconst 2, 1) := by decide +kernel
theorem dX7_ageOf_31 : decode cX7_ageOf 31 = .ok (.ireturn, 1) := by decide +kernel
theorem dX7_movedFrom_0 : decode cX7_movedFrom 0 = .ok (.aload_n 0, 1) := by decide +kernel
theorem dX7_movedFrom_1 : decode cX7_movedFrom 1 = .ok (.getfield 19, 3) := by decide +kernel
theorem dX7_movedFrom_4 : decode cX7_movedFrom 4 = .ok (.getfield 79, 3) := by decide +kernel
theorem dX7_movedFrom_7 : decode cX7_movedFrom 7 = .ok (.iload_n 1, 1) := by decide +kernel
theorem dX7_movedFrom_8 : decode cX7_movedFrom 8 = .ok (.aaload, 1) := by decide +kernel
theorem dX7_movedFrom_9 : decode cX7_movedFrom 9 = .ok (.getfield 109, 3) := by decide +kernel
theorem dX7_movedFrom_12 : decode cX7_movedFrom 12 = .ok (.istore_n 2, 1) := by decide +kernel
theorem dX7_movedFrom_13 : decode cX7_movedFrom 13 = .ok (.bipush (-9), 2) := by decide +kernel
theorem dX7_movedFrom_15 : decode cX7_movedFrom 15 = .ok (.istore_n 3, 1) := by decide +kernel
theorem dX7_movedFrom_16 : decode cX7_movedFrom 16 = .ok (.iconst 0, 1) := by decide +kernel
theorem dX7_movedFrom_17 : decode cX7_movedFrom 17 = .ok (.istore 4, 2) := by decide +kernel
theorem dX7_movedFrom_19 : decode cX7_movedFrom 19 = .ok (.iconst 0, 1) := by decide +kernel
theorem dX7_movedFrom_20 : decode cX7_movedFrom 20 = .ok (.istore 5, 2) := by decide +kernel
theorem dX7_movedFrom_22 : decode cX7_movedFrom 22 = .ok (.iload 5, 2) := by decide +kernel
theorem dX7_movedFrom_24 : decode cX7_movedFrom 24 = .ok (.aload_n 0, 1) := by decide +kernel
theorem dX7_movedFrom_25 : decode cX7_movedFrom 25 = .ok (.getfield 19, 3) := by decide +kernel
theorem dX7_movedFrom_28 : decode cX7_movedFrom 28 = .ok (.getfield 73, 3) := by decide +kernel
theorem dX7_movedFrom_31 : decode cX7_movedFrom 31 = .ok (.if_icmp .ge 101, 3) := by decide +kernel
theorem dX7_movedFrom_34 : decode cX7_movedFrom 34 = .ok (.iload 5, 2) := by decide +kernel
theorem dX7_movedFrom_36 : decode cX7_movedFrom 36 = .ok (.iload_n 1, 1) := by decide +kernel
theorem dX7_movedFrom_37 : decode cX7_movedFrom 37 = .ok (.if_icmp .ne 6, 3) := by decide +kernel
theorem dX7_movedFrom_40 : decode cX7_movedFrom 40 = .ok (.goto 86, 3) := by decide +kernel
theorem dX7_movedFrom_43 : decode cX7_movedFrom 43 = .ok (.aload_n 0, 1) := by decide +kernel
theorem dX7_movedFrom_44 : decode cX7_movedFrom 44 = .ok (.iload_n 1, 1) := by decide +kernel
theorem dX7_movedFrom_45 : decode cX7_movedFrom 45 = .ok (.iload 5, 2) := by decide +kernel
theorem dX7_movedFrom_47 : decode cX7_movedFrom 47 = .ok (.invokevirtual 153, 3) := by decide +kernel
theorem dX7_movedFrom_50 : decode cX7_movedFrom 50 = .ok (.aload_n 0, 1) := by decide +kernel
theorem dX7_movedFrom_51 : decode cX7_movedFrom 51 = .ok (.getfield 37, 3) := by decide +kernel
theorem dX7_movedFrom_54 : decode cX7_movedFrom 54 = .ok (.invokevirtual 157, 3) := by decide +kernel
theorem dX7_movedFrom_57 : decode cX7_movedFrom 57 = .ok (.istore 6, 2) := by decide +kernel
theorem dX7_movedFrom_59 : decode cX7_movedFrom 59 = .ok (.iload 6, 2) := by decide +kernel
theorem dX7_movedFrom_61 : decode cX7_movedFrom 61 = .ok (.iload 4, 2) := by decide +kernel
theorem dX7_movedFrom_63 : decode cX7_movedFrom 63 = .ok (.if_icmp .ne 24, 3) := by decide +kernel
theorem dX7_movedFrom_66 : decode cX7_movedFrom 66 = .ok (.aload_n 0, 1) := by decide +kernel
theorem dX7_movedFrom_67 : decode cX7_movedFrom 67 = .ok (.getfield 19, 3) := by decide +kernel
theorem dX7_movedFrom_70 : decode cX7_movedFrom 70 = .ok (.getfield 79, 3) := by decide +kernel
theorem dX7_movedFrom_73 : decode cX7_movedFrom 73 = .ok (.iload 5, 2) := by decide +kernel
theorem dX7_movedFrom_75 : decode cX7_movedFrom 75 = .ok (.aaload, 1) := by decide +kernel
theorem dX7_movedFrom_76 : decode cX7_movedFrom 76 = .ok (.getfield 109, 3) := by decide +kernel
theorem dX7_movedFrom_79 : decode cX7_movedFrom 79 = .ok (.iload_n 2, 1) := by decide +kernel
theorem dX7_movedFrom_80 : decode cX7_movedFrom 80 = .ok (.if_icmp .ne 7, 3) := by decide +kernel
theorem dX7_movedFrom_83 : decode cX7_movedFrom 83 = .ok (.iconst 1, 1) := by decide +kernel
theorem dX7_movedFrom_84 : decode cX7_movedFrom 84 = .ok (.goto 4, 3) := by decide +kernel
theorem dX7_movedFrom_87 : decode cX7_movedFrom 87 = .ok (.iconst 0, 1) := by decide +kernel
theorem dX7_movedFrom_88 : decode cX7_movedFrom 88 = .ok (.istore 7, 2) := by decide +kernel
theorem dX7_movedFrom_90 : decode cX7_movedFrom 90 = .ok (.iload_n 3, 1) := by decide +kernel
theorem dX7_movedFrom_91 : decode cX7_movedFrom 91 = .ok (.bipush (-9), 2) := by decide +kernel
theorem dX7_movedFrom_93 : decode cX7_movedFrom 93 = .ok (.if_icmp .eq 15, 3) := by decide +kernel
theorem dX7_movedFrom_96 : decode cX7_movedFrom 96 = .ok (.iload 6, 2) := by decide +kernel
theorem dX7_movedFrom_98 : decode cX7_movedFrom 98 = .ok (.iload 4, 2) := by decide +kernel
theorem dX7_movedFrom_100 : decode cX7_movedFrom 100 = .ok (.if_icmp .lt 8, 3) := by decide +kernel
theorem dX7_movedFrom_103 : decode cX7_movedFrom 103 = .ok (.iload 7, 2) := by decide +kernel
theorem dX7_movedFrom_105 : decode cX7_movedFrom 105 = .ok (.ifCond .eq 21, 3) := by decide +kernel
theorem dX7_movedFrom_108 : decode cX7_movedFrom 108 = .ok (.aload_n 0, 1) := by decide +kernel
theorem dX7_movedFrom_109 : decode cX7_movedFrom 109 = .ok (.getfield 19, 3) := by decide +kernel
theorem dX7_movedFrom_112 : decode cX7_movedFrom 112 = .ok (.getfield 79, 3) := by decide +kernel
theorem dX7_movedFrom_115 : decode cX7_movedFrom 115 = .ok (.iload 5, 2) := by decide +kernel
theorem dX7_movedFrom_117 : decode cX7_movedFrom 117 = .ok (.aaload, 1) := by decide +kernel
theorem dX7_movedFrom_118 : decode cX7_movedFrom 118 = .ok (.getfield 109, 3) := by decide +kernel
theorem dX7_movedFrom_121 : decode cX7_movedFrom 121 = .ok (.istore_n 3, 1) := by decide +kernel
theorem dX7_movedFrom_122 : decode cX7_movedFrom 122 = .ok (.iload 6, 2) := by decide +kernel
theorem dX7_movedFrom_124 : decode cX7_movedFrom 124 = .ok (.istore 4, 2) := by decide +kernel
theorem dX7_movedFrom_126 : decode cX7_movedFrom 126 = .ok (.iinc 5 1, 3) := by decide +kernel
theorem dX7_movedFrom_129 : decode cX7_movedFrom 129 = .ok (.goto (-107), 3) := by decide +kernel
theorem dX7_movedFrom_132 : decode cX7_movedFrom 132 = .ok (.iload_n 3, 1) := by decide +kernel
theorem dX7_movedFrom_133 : decode cX7_movedFrom 133 = .ok (.ireturn, 1) := by decide +kernel
theorem dX7_lastCoats_0 : decode cX7_lastCoats 0 = .ok (.aload_n 0, 1) := by decide +kernel
theorem dX7_lastCoats_1 : decode cX7_lastCoats 1 = .ok (.getfield 51, 3) := by decide +kernel
theorem dX7_lastCoats_4 : decode cX7_lastCoats 4 = .ok (.getfield 197, 3) := by decide +kernel
theorem dX7_lastCoats_7 : decode cX7_lastCoats 7 = .ok (.aload_n 0, 1) := by decide +kernel
theorem dX7_lastCoats_8 : decode cX7_lastCoats 8 = .ok (.iload_n 1, 1) := by decide +kernel
theorem dX7_lastCoats_9 : decode cX7_lastCoats 9 = .ok (.iconst 0, 1) := by decide +kernel
theorem dX7_lastCoats_10 : decode cX7_lastCoats 10 = .ok (.invokevirtual 131, 3) := by decide +kernel
theorem dX7_lastCoats_13 : decode cX7_lastCoats 13 = .ok (.iaload, 1) := by decide +kernel
theorem dX7_lastCoats_14 : decode cX7_lastCoats 14 = .ok (.iload_n 2, 1) := by decide +kernel
theorem dX7_lastCoats_15 : decode cX7_lastCoats 15 = .ok (.if_icmp .le 9, 3) := by decide +kernel
theorem dX7_lastCoats_18 : decode cX7_lastCoats 18 = .ok (.sipush 1024, 3) := by decide +kernel
theorem dX7_lastCoats_21 : decode cX7_lastCoats 21 = .ok (.goto 4, 3) := by decide +kernel
theorem dX7_lastCoats_24 : decode cX7_lastCoats 24 = .ok (.iconst 0, 1) := by decide +kernel
theorem dX7_lastCoats_25 : decode cX7_lastCoats 25 = .ok (.istore_n 3, 1) := by decide +kernel
theorem dX7_lastCoats_26 : decode cX7_lastCoats 26 = .ok (.aload_n 0, 1) := by decide +kernel
theorem dX7_lastCoats_27 : decode cX7_lastCoats 27 = .ok (.getfield 19, 3) := by decide +kernel
theorem dX7_lastCoats_30 : decode cX7_lastCoats 30 = .ok (.getfield 79, 3) := by decide +kernel
theorem dX7_lastCoats_33 : decode cX7_lastCoats 33 = .ok (.iload_n 1, 1) := by decide +kernel
theorem dX7_lastCoats_34 : decode cX7_lastCoats 34 = .ok (.aaload, 1) := by decide +kernel
theorem dX7_lastCoats_35 : decode cX7_lastCoats 35 = .ok (.getfield 115, 3) := by decide +kernel
theorem dX7_lastCoats_38 : decode cX7_lastCoats 38 = .ok (.istore 4, 2) := by decide +kernel
theorem dX7_lastCoats_40 : decode cX7_lastCoats 40 = .ok (.iconst 0, 1) := by decide +kernel
theorem dX7_lastCoats_41 : decode cX7_lastCoats 41 = .ok (.istore 5, 2) := by decide +kernel
theorem dX7_lastCoats_43 : decode cX7_lastCoats 43 = .ok (.iload 5, 2) := by decide +kernel
theorem dX7_lastCoats_45 : decode cX7_lastCoats 45 = .ok (.iload 4, 2) := by decide +kernel
theorem dX7_lastCoats_47 : decode cX7_lastCoats 47 = .ok (.if_icmp .ge 77, 3) := by decide +kernel
theorem dX7_lastCoats_50 : decode cX7_lastCoats 50 = .ok (.aload_n 0, 1) := by decide +kernel
theorem dX7_lastCoats_51 : decode cX7_lastCoats 51 = .ok (.getfield 51, 3) := by decide +kernel
theorem dX7_lastCoats_54 : decode cX7_lastCoats 54 = .ok (.getfield 194, 3) := by decide +kernel
theorem dX7_lastCoats_57 : decode cX7_lastCoats 57 = .ok (.aload_n 0, 1) := by decide +kernel
theorem dX7_lastCoats_58 : decode cX7_lastCoats 58 = .ok (.iload_n 1, 1) := by decide +kernel
theorem dX7_lastCoats_59 : decode cX7_lastCoats 59 = .ok (.iload 5, 2) := by decide +kernel
theorem dX7_lastCoats_61 : decode cX7_lastCoats 61 = .ok (.invokevirtual 131, 3) := by decide +kernel
theorem dX7_lastCoats_64 : decode cX7_lastCoats 64 = .ok (.iaload, 1) := by decide +kernel
theorem dX7_lastCoats_65 : decode cX7_lastCoats 65 = .ok (.iload_n 2, 1) := by decide +kernel
theorem dX7_lastCoats_66 : decode cX7_lastCoats 66 = .ok (.if_icmp .gt 7, 3) := by decide +kernel
theorem dX7_lastCoats_69 : decode cX7_lastCoats 69 = .ok (.iconst 1, 1) := by decide +kernel
theorem dX7_lastCoats_70 : decode cX7_lastCoats 70 = .ok (.goto 4, 3) := by decide +kernel
theorem dX7_lastCoats_73 : decode cX7_lastCoats 73 = .ok (.iconst 0, 1) := by decide +kernel
theorem dX7_lastCoats_74 : decode cX7_lastCoats 74 = .ok (.istore 6, 2) := by decide +kernel
theorem dX7_lastCoats_76 : decode cX7_lastCoats 76 = .ok (.iload 6, 2) := by decide +kernel
theorem dX7_lastCoats_78 : decode cX7_lastCoats 78 = .ok (.ifCond .eq 40, 3) := by decide +kernel
theorem dX7_lastCoats_81 : decode cX7_lastCoats 81 = .ok (.iload 5, 2) := by decide +kernel
theorem dX7_lastCoats_83 : decode cX7_lastCoats 83 = .ok (.iload 4, 2) := by decide +kernel
theorem dX7_lastCoats_85 : decode cX7_lastCoats 85 = .ok (.iconst 1, 1) := by decide +kernel
theorem dX7_lastCoats_86 : decode cX7_lastCoats 86 = .ok (.isub, 1) := by decide +kernel
theorem dX7_lastCoats_87 : decode cX7_lastCoats 87 = .ok (.if_icmp .eq 24, 3) := by decide +kernel
theorem dX7_lastCoats_90 : decode cX7_lastCoats 90 = .ok (.aload_n 0, 1) := by decide +kernel
theorem dX7_lastCoats_91 : decode cX7_lastCoats 91 = .ok (.getfield 51, 3) := by decide +kernel
theorem dX7_lastCoats_94 : decode cX7_lastCoats 94 = .ok (.getfield 197, 3) := by decide +kernel
theorem dX7_lastCoats_97 : decode cX7_lastCoats 97 = .ok (.aload_n 0, 1) := by decide +kernel
theorem dX7_lastCoats_98 : decode cX7_lastCoats 98 = .ok (.iload_n 1, 1) := by decide +kernel
theorem dX7_lastCoats_99 : decode cX7_lastCoats 99 = .ok (.iload 5, 2) := by decide +kernel
theorem dX7_lastCoats_101 : decode cX7_lastCoats 101 = .ok (.iconst 1, 1) := by decide +kernel
theorem dX7_lastCoats_102 : decode cX7_lastCoats 102 = .ok (.iadd, 1) := by decide +kernel
theorem dX7_lastCoats_103 : decode cX7_lastCoats 103 = .ok (.invokevirtual 131, 3) := by decide +kernel
theorem dX7_lastCoats_106 : decode cX7_lastCoats 106 = .ok (.iaload, 1) := by decide +kernel
theorem dX7_lastCoats_107 : decode cX7_lastCoats 107 = .ok (.iload_n 2, 1) := by decide +kernel
theorem dX7_lastCoats_108 : decode cX7_lastCoats 108 = .ok (.if_icmp .le 10, 3) := by decide +kernel
theorem dX7_lastCoats_111 : decode cX7_lastCoats 111 = .ok (.iload_n 3, 1) := by decide +kernel
theorem dX7_lastCoats_112 : decode cX7_lastCoats 112 = .ok (.iconst 1, 1) := by decide +kernel
theorem dX7_lastCoats_113 : decode cX7_lastCoats 113 = .ok (.iload 5, 2) := by decide +kernel
theorem dX7_lastCoats_115 : decode cX7_lastCoats 115 = .ok (.ishl, 1) := by decide +kernel
theorem dX7_lastCoats_116 : decode cX7_lastCoats 116 = .ok (.ior, 1) := by decide +kernel
theorem dX7_lastCoats_117 : decode cX7_lastCoats 117 = .ok (.istore_n 3, 1) := by decide +kernel
theorem dX7_lastCoats_118 : decode cX7_lastCoats 118 = .ok (.iinc 5 1, 3) := by decide +kernel
theorem dX7_lastCoats_121 : decode cX7_lastCoats 121 = .ok (.goto (-78), 3) := by decide +kernel
theorem dX7_lastCoats_124 : decode cX7_lastCoats 124 = .ok (.iload_n 3, 1) := by decide +kernel
theorem dX7_lastCoats_125 : decode cX7_lastCoats 125 = .ok (.ireturn, 1) := by decide +kernel
theorem dX7_oddsOfAll_0 : decode cX7_oddsOfAll 0 = .ok (.ldc2_w 224, 3) := by decide +kernel
theorem dX7_oddsOfAll_3 : decode cX7_oddsOfAll 3 = .ok (.lstore_n 3, 1) := by decide +kernel
theorem dX7_oddsOfAll_4 : decode cX7_oddsOfAll 4 = .ok (.iconst 0, 1) := by decide +kernel
theorem dX7_oddsOfAll_5 : decode cX7_oddsOfAll 5 = .ok (.istore 5, 2) := by decide +kernel
theorem dX7_oddsOfAll_7 : decode cX7_oddsOfAll 7 = .ok (.iload 5, 2) := by decide +kernel
theorem dX7_oddsOfAll_9 : decode cX7_oddsOfAll 9 = .ok (.iload_n 0, 1) := by decide +kernel
theorem dX7_oddsOfAll_10 : decode cX7_oddsOfAll 10 = .ok (.if_icmp .ge 17, 3) := by decide +kernel
theorem dX7_oddsOfAll_13 : decode cX7_oddsOfAll 13 = .ok (.lload_n 3, 1) := by decide +kernel
theorem dX7_oddsOfAll_14 : decode cX7_oddsOfAll 14 = .ok (.lload_n 1, 1) := by decide +kernel
theorem dX7_oddsOfAll_15 : decode cX7_oddsOfAll 15 = .ok (.lmul, 1) := by decide +kernel
theorem dX7_oddsOfAll_16 : decode cX7_oddsOfAll 16 = .ok (.ldc2_w 224, 3) := by decide +kernel
theorem dX7_oddsOfAll_19 : decode cX7_oddsOfAll 19 = .ok (.ldiv, 1) := by decide +kernel
theorem dX7_oddsOfAll_20 : decode cX7_oddsOfAll 20 = .ok (.lstore_n 3, 1) := by decide +kernel
theorem dX7_oddsOfAll_21 : decode cX7_oddsOfAll 21 = .ok (.iinc 5 1, 3) := by decide +kernel
theorem dX7_oddsOfAll_24 : decode cX7_oddsOfAll 24 = .ok (.goto (-17), 3) := by decide +kernel
theorem dX7_oddsOfAll_27 : decode cX7_oddsOfAll 27 = .ok (.lload_n 3, 1) := by decide +kernel
theorem dX7_oddsOfAll_28 : decode cX7_oddsOfAll 28 = .ok (.lreturn, 1) := by decide +kernel
theorem dX7_asCoat_0 : decode cX7_asCoat 0 = .ok (.aload_n 0, 1) := by decide +kernel
theorem dX7_asCoat_1 : decode cX7_asCoat 1 = .ok (.dup, 1) := by decide +kernel
theorem dX7_asCoat_2 : decode cX7_asCoat 2 = .ok (.getfield 267, 3) := by decide +kernel
theorem dX7_asCoat_5 : decode cX7_asCoat 5 = .ok (.lconst 1, 1) := by decide +kernel
theorem dX7_asCoat_6 : decode cX7_asCoat 6 = .ok (.ladd, 1) := by decide +kernel
theorem dX7_asCoat_7 : decode cX7_asCoat 7 = .ok (.putfield 267, 3) := by decide +kernel
theorem dX7_asCoat_10 : decode cX7_asCoat 10 = .ok (.aload_n 0, 1) := by decide +kernel
theorem dX7_asCoat_11 : decode cX7_asCoat 11 = .ok (.getfield 19, 3) := by decide +kernel
theorem dX7_asCoat_14 : decode cX7_asCoat 14 = .ok (.getfield 79, 3) := by decide +kernel
theorem dX7_asCoat_17 : decode cX7_asCoat 17 = .ok (.iload_n 1, 1) := by decide +kernel
theorem dX7_asCoat_18 : decode cX7_asCoat 18 = .ok (.aaload, 1) := by decide +kernel
theorem dX7_asCoat_19 : decode cX7_asCoat 19 = .ok (.getfield 122, 3) := by decide +kernel
theorem dX7_asCoat_22 : decode cX7_asCoat 22 = .ok (.iload_n 2, 1) := by decide +kernel
theorem dX7_asCoat_23 : decode cX7_asCoat 23 = .ok (.iaload, 1) := by decide +kernel
theorem dX7_asCoat_24 : decode cX7_asCoat 24 = .ok (.iconst 1, 1) := by decide +kernel
theorem dX7_asCoat_25 : decode cX7_asCoat 25 = .ok (.iadd, 1) := by decide +kernel
theorem dX7_asCoat_26 : decode cX7_asCoat 26 = .ok (.ireturn, 1) := by decide +kernel
theorem dX7_asWhole_0 : decode cX7_asWhole 0 = .ok (.aload_n 0, 1) := by decide +kernel
theorem dX7_asWhole_1 : decode cX7_asWhole 1 = .ok (.dup, 1) := by decide +kernel
theorem dX7_asWhole_2 : decode cX7_asWhole 2 = .ok (.getfield 267, 3) := by decide +kernel
theorem dX7_asWhole_5 : decode cX7_asWhole 5 = .ok (.ldc2_w 222, 3) := by decide +kernel
theorem dX7_asWhole_8 : decode cX7_asWhole 8 = .ok (.ladd, 1) := by decide +kernel
theorem dX7_asWhole_9 : decode cX7_asWhole 9 = .ok (.putfield 267, 3) := by decide +kernel
theorem dX7_asWhole_12 : decode cX7_asWhole 12 = .ok (.aload_n 0, 1) := by decide +kernel
theorem dX7_asWhole_13 : decode cX7_asWhole 13 = .ok (.iload_n 1, 1) := by decide +kernel
theorem dX7_asWhole_14 : decode cX7_asWhole 14 = .ok (.iload_n 2, 1) := by decide +kernel
theorem dX7_asWhole_15 : decode cX7_asWhole 15 = .ok (.invokevirtual 239, 3) := by decide +kernel
theorem dX7_asWhole_18 : decode cX7_asWhole 18 = .ok (.aload_n 0, 1) := by decide +kernel
theorem dX7_asWhole_19 : decode cX7_asWhole 19 = .ok (.getfield 44, 3) := by decide +kernel
theorem dX7_asWhole_22 : decode cX7_asWhole 22 = .ok (.getfield 175, 3) := by decide +kernel
theorem dX7_asWhole_25 : decode cX7_asWhole 25 = .ok (.aload_n 0, 1) := by decide +kernel
theorem dX7_asWhole_26 : decode cX7_asWhole 26 = .ok (.iload_n 1, 1) := by decide +kernel
theorem dX7_asWhole_27 : decode cX7_asWhole 27 = .ok (.iload_n 2, 1) := by decide +kernel
theorem dX7_asWhole_28 : decode cX7_asWhole 28 = .ok (.invokevirtual 131, 3) := by decide +kernel
theorem dX7_asWhole_31 : decode cX7_asWhole 31 = .ok (.iaload, 1) := by decide +kernel
theorem dX7_asWhole_32 : decode cX7_asWhole 32 = .ok (.invokestatic 283, 3) := by decide +kernel
theorem dX7_asWhole_35 : decode cX7_asWhole 35 = .ok (.imul, 1) := by decide +kernel
theorem dX7_asWhole_36 : decode cX7_asWhole 36 = .ok (.ireturn, 1) := by decide +kernel
theorem dX7_asUnder_0 : decode cX7_asUnder 0 = .ok (.aload_n 0, 1) := by decide +kernel
theorem dX7_asUnder_1 : decode cX7_asUnder 1 = .ok (.dup, 1) := by decide +kernel
theorem dX7_asUnder_2 : decode cX7_asUnder 2 = .ok (.getfield 267, 3) := by decide +kernel
theorem dX7_asUnder_5 : decode cX7_asUnder 5 = .ok (.ldc2_w 288, 3) := by decide +kernel
theorem dX7_asUnder_8 : decode cX7_asUnder 8 = .ok (.ladd, 1) := by decide +kernel
theorem dX7_asUnder_9 : decode cX7_asUnder 9 = .ok (.putfield 267, 3) := by decide +kernel
theorem dX7_asUnder_12 : decode cX7_asUnder 12 = .ok (.aload_n 0, 1) := by decide +kernel
theorem dX7_asUnder_13 : decode cX7_asUnder 13 = .ok (.iload_n 1, 1) := by decide +kernel
theorem dX7_asUnder_14 : decode cX7_asUnder 14 = .ok (.iload_n 2, 1) := by decide +kernel
theorem dX7_asUnder_15 : decode cX7_asUnder 15 = .ok (.invokevirtual 239, 3) := by decide +kernel
theorem dX7_asUnder_18 : decode cX7_asUnder 18 = .ok (.aload_n 0, 1) := by decide +kernel
theorem dX7_asUnder_19 : decode cX7_asUnder 19 = .ok (.getfield 19, 3) := by decide +kernel
theorem dX7_asUnder_22 : decode cX7_asUnder 22 = .ok (.getfield 79, 3) := by decide +kernel
theorem dX7_asUnder_25 : decode cX7_asUnder 25 = .ok (.iload_n 1, 1) := by decide +kernel
theorem dX7_asUnder_26 : decode cX7_asUnder 26 = .ok (.aaload, 1) := by decide +kernel
theorem dX7_asUnder_27 : decode cX7_asUnder 27 = .ok (.getfield 125, 3) := by decide +kernel
theorem dX7_asUnder_30 : decode cX7_asUnder 30 = .ok (.iload_n 2, 1) := by decide +kernel
theorem dX7_asUnder_31 : decode cX7_asUnder 31 = .ok (.iaload, 1) := by decide +kernel
theorem dX7_asUnder_32 : decode cX7_asUnder 32 = .ok (.iadd, 1) := by decide +kernel
theorem dX7_asUnder_33 : decode cX7_asUnder 33 = .ok (.ireturn, 1) := by decide +kernel
theorem dX7_asPatch_0 : decode cX7_asPatch 0 = .ok (.aload_n 0, 1) := by decide +kernel
theorem dX7_asPatch_1 : decode cX7_asPatch 1 = .ok (.dup, 1) := by decide +kernel
theorem dX7_asPatch_2 : decode cX7_asPatch 2 = .ok (.getfield 267, 3) := by decide +kernel
theorem dX7_asPatch_5 : decode cX7_asPatch 5 = .ok (.ldc2_w 290, 3) := by decide +kernel
theorem dX7_asPatch_8 : decode cX7_asPatch 8 = .ok (.ladd, 1) := by decide +kernel
theorem dX7_asPatch_9 : decode cX7_asPatch 9 = .ok (.putfield 267, 3) := by decide +kernel
theorem dX7_asPatch_12 : decode cX7_asPatch 12 = .ok (.aload_n 0, 1) := by decide +kernel
theorem dX7_asPatch_13 : decode cX7_asPatch 13 = .ok (.iload_n 1, 1) := by decide +kernel
theorem dX7_asPatch_14 : decode cX7_asPatch 14 = .ok (.iload_n 2, 1) := by decide +kernel
theorem dX7_asPatch_15 : decode cX7_asPatch 15 = .ok (.invokevirtual 242, 3) := by decide +kernel
theorem dX7_asPatch_18 : decode cX7_asPatch 18 = .ok (.iload_n 2, 1) := by decide +kernel
theorem dX7_asPatch_19 : decode cX7_asPatch 19 = .ok (.isub, 1) := by decide +kernel
theorem dX7_asPatch_20 : decode cX7_asPatch 20 = .ok (.ireturn, 1) := by decide +kernel
theorem dX7_asScraped_0 : decode cX7_asScraped 0 = .ok (.aload_n 0, 1) := by decide +kernel
theorem dX7_asScraped_1 : decode cX7_asScraped 1 = .ok (.dup, 1) := by decide +kernel
theorem dX7_asScraped_2 : decode cX7_asScraped 2 = .ok (.getfield 267, 3) := by decide +kernel
theorem dX7_asScraped_5 : decode cX7_asScraped 5 = .ok (.ldc2_w 230, 3) := by decide +kernel
theorem dX7_asScraped_8 : decode cX7_asScraped 8 = .ok (.ladd, 1) := by decide +kernel
theorem dX7_asScraped_9 : decode cX7_asScraped 9 = .ok (.putfield 267, 3) := by decide +kernel
theorem dX7_asScraped_12 : decode cX7_asScraped 12 = .ok (.iconst 2, 1) := by decide +kernel
theorem dX7_asScraped_13 : decode cX7_asScraped 13 = .ok (.aload_n 0, 1) := by decide +kernel
theorem dX7_asScraped_14 : decode cX7_asScraped 14 = .ok (.iload_n 1, 1) := by decide +kernel
theorem dX7_asScraped_15 : decode cX7_asScraped 15 = .ok (.iload_n 2, 1) := by decide +kernel
theorem dX7_asScraped_16 : decode cX7_asScraped 16 = .ok (.invokevirtual 245, 3) := by decide +kernel
theorem dX7_asScraped_19 : decode cX7_asScraped 19 = .ok (.imul, 1) := by decide +kernel
theorem dX7_asScraped_20 : decode cX7_asScraped 20 = .ok (.ireturn, 1) := by decide +kernel
theorem dX7_asVarnish_0 : decode cX7_asVarnish 0 = .ok (.aload_n 0, 1) := by decide +kernel
theorem dX7_asVarnish_1 : decode cX7_asVarnish 1 = .ok (.dup, 1) := by decide +kernel
theorem dX7_asVarnish_2 : decode cX7_asVarnish 2 = .ok (.getfield 267, 3) := by decide +kernel
theorem dX7_asVarnish_5 : decode cX7_asVarnish 5 = .ok (.ldc2_w 292, 3) := by decide +kernel
theorem dX7_asVarnish_8 : decode cX7_asVarnish 8 = .ok (.ladd, 1) := by decide +kernel
theorem dX7_asVarnish_9 : decode cX7_asVarnish 9 = .ok (.putfield 267, 3) := by decide +kernel
theorem dX7_asVarnish_12 : decode cX7_asVarnish 12 = .ok (.aload_n 0, 1) := by decide +kernel
theorem dX7_asVarnish_13 : decode cX7_asVarnish 13 = .ok (.iload_n 1, 1) := by decide +kernel
theorem dX7_asVarnish_14 : decode cX7_asVarnish 14 = .ok (.iload_n 2, 1) := by decide +kernel
theorem dX7_asVarnish_15 : decode cX7_asVarnish 15 = .ok (.invokevirtual 239, 3) := by decide +kernel
theorem dX7_asVarnish_18 : decode cX7_asVarnish 18 = .ok (.aload_n 0, 1) := by decide +kernel
theorem dX7_asVarnish_19 : decode cX7_asVarnish 19 = .ok (.getfield 19, 3) := by decide +kernel
theorem dX7_asVarnish_22 : decode cX7_asVarnish 22 = .ok (.getfield 79, 3) := by decide +kernel
theorem dX7_asVarnish_25 : decode cX7_asVarnish 25 = .ok (.iload_n 1, 1) := by decide +kernel
theorem dX7_asVarnish_26 : decode cX7_asVarnish 26 = .ok (.aaload, 1) := by decide +kernel
theorem dX7_asVarnish_27 : decode cX7_asVarnish 27 = .ok (.getfield 112, 3) := by decide +kernel
theorem dX7_asVarnish_30 : decode cX7_asVarnish 30 = .ok (.ifCond .eq 8, 3) := by decide +kernel
theorem dX7_asVarnish_33 : decode cX7_asVarnish 33 = .ok (.bipush 20, 2) := by decide +kernel
theorem dX7_asVarnish_35 : decode cX7_asVarnish 35 = .ok (.goto 4, 3) := by decide +kernel
theorem dX7_asVarnish_38 : decode cX7_asVarnish 38 = .ok (.iconst 0, 1) := by decide +kernel
theorem dX7_asVarnish_39 : decode cX7_asVarnish 39 = .ok (.iadd, 1) := by decide +kernel
theorem dX7_asVarnish_40 : decode cX7_asVarnish 40 = .ok (.ireturn, 1) := by decide +kernel
theorem dX8_init_0 : decode cX8_init 0 = .ok (.aload_n 0, 1) := by decide +kernel
theorem dX8_init_1 : decode cX8_init 1 = .ok (.invokespecial 1, 3) := by decide +kernel
theorem dX8_init_4 : decode cX8_init 4 = .ok (.aload_n 0, 1) := by decide +kernel
theorem dX8_init_5 : decode cX8_init 5 = .ok (.sipush 400, 3) := by decide +kernel
theorem dX8_init_8 : decode cX8_init 8 = .ok (.newarray .int, 2) := by decide +kernel
theorem dX8_init_10 : decode cX8_init 10 = .ok (.putfield 7, 3) := by decide +kernel
theorem dX8_init_13 : decode cX8_init 13 = .ok (.aload_n 0, 1) := by decide +kernel
theorem dX8_init_14 : decode cX8_init 14 = .ok (.iconst 4, 1) := by decide +kernel
theorem dX8_init_15 : decode cX8_init 15 = .ok (.newarray .int, 2) := by decide +kernel
theorem dX8_init_17 : decode cX8_init 17 = .ok (.putfield 13, 3) := by decide +kernel
theorem dX8_init_20 : decode cX8_init 20 = .ok (.aload_n 0, 1) := by decide +kernel
theorem dX8_init_21 : decode cX8_init 21 = .ok (.iconst 4, 1) := by decide +kernel
theorem dX8_init_22 : decode cX8_init 22 = .ok (.newarray .int, 2) := by decide +kernel
theorem dX8_init_24 : decode cX8_init 24 = .ok (.putfield 16, 3) := by decide +kernel
theorem dX8_init_27 : decode cX8_init 27 = .ok (.aload_n 0, 1) := by decide +kernel
theorem dX8_init_28 : decode cX8_init 28 = .ok (.iconst 4, 1) := by decide +kernel
theorem dX8_init_29 : decode cX8_init 29 = .ok (.newarray .int, 2) := by decide +kernel
theorem dX8_init_31 : decode cX8_init 31 = .ok (.putfield 19, 3) := by decide +kernel
theorem dX8_init_34 : decode cX8_init 34 = .ok (.aload_n 0, 1) := by decide +kernel
theorem dX8_init_35 : decode cX8_init 35 = .ok (.bipush 40, 2) := by decide +kernel
theorem dX8_init_37 : decode cX8_init 37 = .ok (.newarray .int, 2) := by decide +kernel
theorem dX8_init_39 : decode cX8_init 39 = .ok (.putfield 22, 3) := by decide +kernel
theorem dX8_init_42 : decode cX8_init 42 = .ok (.aload_n 0, 1) := by decide +kernel
theorem dX8_init_43 : decode cX8_init 43 = .ok (.bipush 40, 2) := by decide +kernel
theorem dX8_init_45 : decode cX8_init 45 = .ok (.newarray .int, 2) := by decide +kernel
theorem dX8_init_47 : decode cX8_init 47 = .ok (.putfield 25, 3) := by decide +kernel
theorem dX8_init_50 : decode cX8_init 50 = .ok (.aload_n 0, 1) := by decide +kernel
theorem dX8_init_51 : decode cX8_init 51 = .ok (.bipush 10, 2) := by decide +kernel
theorem dX8_init_53 : decode cX8_init 53 = .ok (.newarray .int, 2) := by decide +kernel
theorem dX8_init_55 : decode cX8_init 55 = .ok (.putfield 28, 3) := by decide +kernel
theorem dX8_init_58 : decode cX8_init 58 = .ok (.aload_n 0, 1) := by decide +kernel
theorem dX8_init_59 : decode cX8_init 59 = .ok (.bipush 10, 2) := by decide +kernel
theorem dX8_init_61 : decode cX8_init 61 = .ok (.newarray .int, 2) := by decide +kernel
theorem dX8_init_63 : decode cX8_init 63 = .ok (.putfield 31, 3) := by decide +kernel
theorem dX8_init_66 : decode cX8_init 66 = .ok (.aload_n 0, 1) := by decide +kernel
theorem dX8_init_67 : decode cX8_init 67 = .ok (.bipush 12, 2) := by decide +kernel
theorem dX8_init_69 : decode cX8_init 69 = .ok (.newarray .int, 2) := by decide +kernel
theorem dX8_init_71 : decode cX8_init 71 = .ok (.putfield 34, 3) := by decide +kernel
theorem dX8_init_74 : decode cX8_init 74 = .ok (.aload_n 0, 1) := by decide +kernel
theorem dX8_init_75 : decode cX8_init 75 = .ok (.bipush 12, 2) := by decide +kernel
theorem dX8_init_77 : decode cX8_init 77 = .ok (.newarray .int, 2) := by decide +kernel
theorem dX8_init_79 : decode cX8_init 79 = .ok (.putfield 37, 3) := by decide +kernel
theorem dX8_init_82 : decode cX8_init 82 = .ok (.aload_n 0, 1) := by decide +kernel
theorem dX8_init_83 : decode cX8_init 83 = .ok (.bipush 12, 2) := by decide +kernel
theorem dX8_init_85 : decode cX8_init 85 = .ok (.newarray .int, 2) := by decide +kernel
theorem dX8_init_87 : decode cX8_init 87 = .ok (.putfield 40, 3) := by decide +kernel
theorem dX8_init_90 : decode cX8_init 90 = .ok (.aload_n 0, 1) := by decide +kernel
theorem dX8_init_91 : decode cX8_init 91 = .ok (.bipush 8, 2) := by decide +kernel
theorem dX8_init_93 : decode cX8_init 93 = .ok (.newarray .int, 2) := by decide +kernel
theorem dX8_init_95 : decode cX8_init 95 = .ok (.putfield 43, 3) := by decide +kernel
theorem dX8_init_98 : decode cX8_init 98 = .ok (.aload_n 0, 1) := by decide +kernel
theorem dX8_init_99 : decode cX8_init 99 = .ok (.bipush 8, 2) := by decide +kernel
theorem dX8_init_101 : decode cX8_init 101 = .ok (.newarray .int, 2) := by decide +kernel
theorem dX8_init_103 : decode cX8_init 103 = .ok (.putfield 46, 3) := by decide +kernel
theorem dX8_init_106 : decode cX8_init 106 = .ok (.aload_n 0, 1) := by decide +kernel
theorem dX8_init_107 : decode cX8_init 107 = .ok (.bipush 12, 2) := by decide +kernel
theorem dX8_init_109 : decode cX8_init 109 = .ok (.newarray .int, 2) := by decide +kernel
theorem dX8_init_111 : decode cX8_init 111 = .ok (.putfield 49, 3) := by decide +kernel
theorem dX8_init_114 : decode cX8_init 114 = .ok (.aload_n 0, 1) := by decide +kernel
theorem dX8_init_115 : decode cX8_init 115 = .ok (.bipush 12, 2) := by decide +kernel
theorem dX8_init_117 : decode cX8_init 117 = .ok (.newarray .int, 2) := by decide +kernel
theorem dX8_init_119 : decode cX8_init 119 = .ok (.putfield 52, 3) := by decide +kernel
theorem dX8_init_122 : decode cX8_init 122 = .ok (.aload_n 0, 1) := by decide +kernel
theorem dX8_init_123 : decode cX8_init 123 = .ok (.bipush 12, 2) := by decide +kernel
theorem dX8_init_125 : decode cX8_init 125 = .ok (.newarray .int, 2) := by decide +kernel
theorem dX8_init_127 : decode cX8_init 127 = .ok (.putfield 55, 3) := by decide +kernel
theorem dX8_init_130 : decode cX8_init 130 = .ok (.aload_n 0, 1) := by decide +kernel
theorem dX8_init_131 : decode cX8_init 131 = .ok (.bipush 8, 2) := by decide +kernel
theorem dX8_init_133 : decode cX8_init 133 = .ok (.newarray .int, 2) := by decide +kernel
theorem dX8_init_135 : decode cX8_init 135 = .ok (.putfield 58, 3) := by decide +kernel
theorem dX8_init_138 : decode cX8_init 138 = .ok (.aload_n 0, 1) := by decide +kernel
theorem dX8_init_139 : decode cX8_init 139 = .ok (.bipush 8, 2) := by decide +kernel
theorem dX8_init_141 : decode cX8_init 141 = .ok (.newarray .int, 2) := by decide +kernel
theorem dX8_init_143 : decode cX8_init 143 = .ok (.putfield 61, 3) := by decide +kernel
theorem dX8_init_146 : decode cX8_init 146 = .ok (.aload_n 0, 1) := by decide +kernel
theorem dX8_init_147 : decode cX8_init 147 = .ok (.iconst 5, 1) := by decide +kernel
theorem dX8_init_148 : decode cX8_init 148 = .ok (.newarray .int, 2) := by decide +kernel
theorem dX8_init_150 : decode cX8_init 150 = .ok (.putfield 64, 3) := by decide +kernel
theorem dX8_init_153 : decode cX8_init 153 = .ok (.aload_n 0, 1) := by decide +kernel
theorem dX8_init_154 : decode cX8_init 154 = .ok (.iconst 2, 1) := by decide +kernel
theorem dX8_init_155 : decode cX8_init 155 = .ok (.newarray .int, 2) := by decide +kernel
theorem dX8_init_157 : decode cX8_init 157 = .ok (.putfield 67, 3) := by decide +kernel
theorem dX8_init_160 : decode cX8_init 160 = .ok (.aload_n 0, 1) := by decide +kernel
theorem dX8_init_161 : decode cX8_init 161 = .ok (.bipush 8, 2) := by decide +kernel
theorem dX8_init_163 : decode cX8_init 163 = .ok (.newarray .int, 2) := by decide +kernel
theorem dX8_init_165 : decode cX8_init 165 = .ok (.putfield 70, 3) := by decide +kernel
theorem dX8_init_168 : decode cX8_init 168 = .ok (.aload_n 0, 1) := by decide +kernel
theorem dX8_init_169 : decode cX8_init 169 = .ok (.bipush 8, 2) := by decide +kernel
theorem dX8_init_171 : decode cX8_init 171 = .ok (.newarray .int, 2) := by decide +kernel
theorem dX8_init_173 : decode cX8_init 173 = .ok (.putfield 73, 3) := by decide +kernel
theorem dX8_init_176 : decode cX8_init 176 = .ok (.aload_n 0, 1) := by decide +kernel
theorem dX8_init_177 : decode cX8_init 177 = .ok (.bipush 8, 2) := by decide +kernel
theorem dX8_init_179 : decode cX8_init 179 = .ok (.newarray .int, 2) := by decide +kernel
theorem dX8_init_181 : decode cX8_init 181 = .ok (.putfield 76, 3) := by decide +kernel
theorem dX8_init_184 : decode cX8_init 184 = .ok (.aload_n 0, 1) := by decide +kernel
theorem dX8_init_185 : decode cX8_init 185 = .ok (.bipush 80, 2) := by decide +kernel
theorem dX8_init_187 : decode cX8_init 187 = .ok (.newarray .int, 2) := by decide +kernel
theorem dX8_init_189 : decode cX8_init 189 = .ok (.putfield 79, 3) := by decide +kernel
theorem dX8_init_192 : decode cX8_init 192 = .ok (.aload_n 0, 1) := by decide +kernel
theorem dX8_init_193 : decode cX8_init 193 = .ok (.bipush 80, 2) := by decide +kernel
theorem dX8_init_195 : decode cX8_init 195 = .ok (.newarray .int, 2) := by decide +kernel
theorem dX8_init_197 : decode cX8_init 197 = .ok (.putfield 82, 3) := by decide +kernel
theorem dX8_init_200 : decode cX8_init 200 = .ok (.aload_n 0, 1) := by decide +kernel
theorem dX8_init_201 : decode cX8_init 201 = .ok (.bipush 121, 2) := by decide +kernel
theorem dX8_init_203 : decode cX8_init 203 = .ok (.newarray .int, 2) := by decide +kernel
theorem dX8_init_205 : decode cX8_init 205 = .ok (.putfield 85, 3) := by decide +kernel
theorem dX8_init_208 : decode cX8_init 208 = .ok (.aload_n 0, 1) := by decide +kernel
theorem dX8_init_209 : decode cX8_init 209 = .ok (.bipush 121, 2) := by decide +kernel
theorem dX8_init_211 : decode cX8_init 211 = .ok (.newarray .long, 2) := by decide +kernel
theorem dX8_init_213 : decode cX8_init 213 = .ok (.putfield 88, 3) := by decide +kernel
theorem dX8_init_216 : decode cX8_init 216 = .ok (.aload_n 0, 1) := by decide +kernel
theorem dX8_init_217 : decode cX8_init 217 = .ok (.sipush 14641, 3) := by decide +kernel
theorem dX8_init_220 : decode cX8_init 220 = .ok (.newarray .int, 2) := by decide +kernel
theorem dX8_init_222 : decode cX8_init 222 = .ok (.putfield 92, 3) := by decide +kernel
theorem dX8_init_225 : decode cX8_init 225 = .ok (.aload_n 0, 1) := by decide +kernel
theorem dX8_init_226 : decode cX8_init 226 = .ok (.iconst 4, 1) := by decide +kernel
theorem dX8_init_227 : decode cX8_init 227 = .ok (.newarray .int, 2) := by decide +kernel
theorem dX8_init_229 : decode cX8_init 229 = .ok (.putfield 95, 3) := by decide +kernel
theorem dX8_init_232 : decode cX8_init 232 = .ok (.aload_n 0, 1) := by decide +kernel
theorem dX8_init_233 : decode cX8_init 233 = .ok (.iconst 4, 1) := by decide +kernel
theorem dX8_init_234 : decode cX8_init 234 = .ok (.newarray .int, 2) := by decide +kernel
theorem dX8_init_236 : decode cX8_init 236 = .ok (.putfield 98, 3) := by decide +kernel
theorem dX8_init_239 : decode cX8_init 239 = .ok (.aload_n 0, 1) := by decide +kernel
theorem dX8_init_240 : decode cX8_init 240 = .ok (.bipush 40, 2) := by decide +kernel
theorem dX8_init_242 : decode cX8_init 242 = .ok (.newarray .int, 2) := by decide +kernel
theorem dX8_init_244 : decode cX8_init 244 = .ok (.putfield 101, 3) := by decide +kernel
theorem dX8_init_247 : decode cX8_init 247 = .ok (.aload_n 0, 1) := by decide +kernel
theorem dX8_init_248 : decode cX8_init 248 = .ok (.bipush 40, 2) := by decide +kernel
theorem dX8_init_250 : decode cX8_init 250 = .ok (.newarray .int, 2) := by decide +kernel
theorem dX8_init_252 : decode cX8_init 252 = .ok (.putfield 104, 3) := by decide +kernel
theorem dX8_init_255 : decode cX8_init 255 = .ok (.aload_n 0, 1) := by decide +kernel
theorem dX8_init_256 : decode cX8_init 256 = .ok (.bipush 40, 2) := by decide +kernel
theorem dX8_init_258 : decode cX8_init 258 = .ok (.newarray .int, 2) := by decide +kernel
theorem dX8_init_260 : decode cX8_init 260 = .ok (.putfield 107, 3) := by decide +kernel
theorem dX8_init_263 : decode cX8_init 263 = .ok (.aload_n 0, 1) := by decide +kernel
theorem dX8_init_264 : decode cX8_init 264 = .ok (.bipush 40, 2) := by decide +kernel
theorem dX8_init_266 : decode cX8_init 266 = .ok (.newarray .int, 2) := by decide +kernel
theorem dX8_init_268 : decode cX8_init 268 = .ok (.putfield 110, 3) := by decide +kernel
theorem dX8_init_271 : decode cX8_init 271 = .ok (.aload_n 0, 1) := by decide +kernel
theorem dX8_init_272 : decode cX8_init 272 = .ok (.sipush 369, 3) := by decide +kernel
theorem dX8_init_275 : decode cX8_init 275 = .ok (.newarray .int, 2) := by decide +kernel
theorem dX8_init_277 : decode cX8_init 277 = .ok (.putfield 113, 3) := by decide +kernel
theorem dX8_init_280 : decode cX8_init 280 = .ok (.aload_n 0, 1) := by decide +kernel
theorem dX8_init_281 : decode cX8_init 281 = .ok (.getfield 64, 3) := by decide +kernel
theorem dX8_init_284 : decode cX8_init 284 = .ok (.iconst 0, 1) := by decide +kernel
theorem dX8_init_285 : decode cX8_init 285 = .ok (.bipush 10, 2) := by decide +kernel
theorem dX8_init_287 : decode cX8_init 287 = .ok (.iastore, 1) := by decide +kernel
theorem dX8_init_288 : decode cX8_init 288 = .ok (.aload_n 0, 1) := by decide +kernel
theorem dX8_init_289 : decode cX8_init 289 = .ok (.getfield 64, 3) := by decide +kernel
theorem dX8_init_292 : decode cX8_init 292 = .ok (.iconst 1, 1) := by decide +kernel
theorem dX8_init_293 : decode cX8_init 293 = .ok (.iconst 1, 1) := by decide +kernel
theorem dX8_init_294 : decode cX8_init 294 = .ok (.iastore, 1) := by decide +kernel
theorem dX8_init_295 : decode cX8_init 295 = .ok (.aload_n 0, 1) := by decide +kernel
theorem dX8_init_296 : decode cX8_init 296 = .ok (.getfield 64, 3) := by decide +kernel
theorem dX8_init_299 : decode cX8_init 299 = .ok (.iconst 3, 1) := by decide +kernel
theorem dX8_init_300 : decode cX8_init 300 = .ok (.iconst 2, 1) := by decide +kernel
theorem dX8_init_301 : decode cX8_init 301 = .ok (.iastore, 1) := by decide +kernel
theorem dX8_init_302 : decode cX8_init 302 = .ok (.aload_n 0, 1) := by decide +kernel
theorem dX8_init_303 : decode cX8_init 303 = .ok (.getfield 64, 3) := by decide +kernel
theorem dX8_init_306 : decode cX8_init 306 = .ok (.iconst 4, 1) := by decide +kernel
theorem dX8_init_307 : decode cX8_init 307 = .ok (.iconst 3, 1) := by decide +kernel
theorem dX8_init_308 : decode cX8_init 308 = .ok (.iastore, 1) := by decide +kernel
theorem dX8_init_309 : decode cX8_init 309 = .ok (.iconst 0, 1) := by decide +kernel
theorem dX8_init_310 : decode cX8_init 310 = .ok (.istore_n 1, 1) := by decide +kernel
theorem dX8_init_311 : decode cX8_init 311 = .ok (.iload_n 1, 1) := by decide +kernel
theorem dX8_init_312 : decode cX8_init 312 = .ok (.bipush 12, 2) := by decide +kernel
theorem dX8_init_314 : decode cX8_init 314 = .ok (.if_icmp .ge 18, 3) := by decide +kernel
theorem dX8_init_317 : decode cX8_init 317 = .ok (.aload_n 0, 1) := by decide +kernel
theorem dX8_init_318 : decode cX8_init 318 = .ok (.getfield 37, 3) := by decide +kernel
theorem dX8_init_321 : decode cX8_init 321 = .ok (.iload_n 1, 1) := by decide +kernel
theorem dX8_init_322 : decode cX8_init 322 = .ok (.sipush 999, 3) := by decide +kernel
theorem dX8_init_325 : decode cX8_init 325 = .ok (.iastore, 1) := by decide +kernel
theorem dX8_init_326 : decode cX8_init 326 = .ok (.iinc 1 1, 3) := by decide +kernel
theorem dX8_init_329 : decode cX8_init 329 = .ok (.goto (-18), 3) := by decide +kernel
theorem dX8_init_332 : decode cX8_init 332 = .ok (.aload_n 0, 1) := by decide +kernel
theorem dX8_init_333 : decode cX8_init 333 = .ok (.getfield 67, 3) := by decide +kernel
theorem dX8_init_336 : decode cX8_init 336 = .ok (.iconst 0, 1) := by decide +kernel
theorem dX8_init_337 : decode cX8_init 337 = .ok (.iconst (-1), 1) := by decide +kernel
theorem dX8_init_338 : decode cX8_init 338 = .ok (.iastore, 1) := by decide +kernel
theorem dX8_init_339 : decode cX8_init 339 = .ok (.aload_n 0, 1) := by decide +kernel
theorem dX8_init_340 : decode cX8_init 340 = .ok (.getfield 67, 3) := by decide +kernel
theorem dX8_init_343 : decode cX8_init 343 = .ok (.iconst 1, 1) := by decide +kernel
theorem dX8_init_344 : decode cX8_init 344 = .ok (.iconst (-1), 1) := by decide +kernel
theorem dX8_init_345 : decode cX8_init 345 = .ok (.iastore, 1) := by decide +kernel
theorem dX8_init_346 : decode cX8_init 346 = .ok (.return_, 1) := by decide +kernel
theorem dX8_in_0 : decode cX8_in 0 = .ok (.iload_n 0, 1) := by decide +kernel
theorem dX8_in_1 : decode cX8_in 1 = .ok (.iload_n 1, 1) := by decide +kernel
theorem dX8_in_2 : decode cX8_in 2 = .ok (.if_icmp .lt 12, 3) := by decide +kernel
theorem dX8_in_5 : decode cX8_in 5 = .ok (.iload_n 0, 1) := by decide +kernel
theorem dX8_in_6 : decode cX8_in 6 = .ok (.iload_n 2, 1) := by decide +kernel
theorem dX8_in_7 : decode cX8_in 7 = .ok (.if_icmp .gt 7, 3) := by decide +kernel
theorem dX8_in_10 : decode cX8_in 10 = .ok (.iconst 1, 1) := by decide +kernel
theorem dX8_in_11 : decode cX8_in 11 = .ok (.goto 4, 3) := by decide +kernel
theorem dX8_in_14 : decode cX8_in 14 = .ok (.iconst 0, 1) := by decide +kernel
theorem dX8_in_15 : decode cX8_in 15 = .ok (.ireturn, 1) := by decide +kernel
theorem dX8_type_0 : decode cX8_type 0 = .ok (.iload_n 3, 1) := by decide +kernel
theorem dX8_type_1 : decode cX8_type 1 = .ok (.iconst 1, 1) := by decide +kernel
theorem dX8_type_2 : decode cX8_type 2 = .ok (.bipush 8, 2) := by decide +kernel
theorem dX8_type_4 : decode cX8_type 4 = .ok (.invokestatic 116, 3) := by decide +kernel
theorem dX8_type_7 : decode cX8_type 7 = .ok (.ifCond .ne 5, 3) := by decide +kernel
theorem dX8_type_10 : decode cX8_type 10 = .ok (.iconst (-1), 1) := by decide +kernel
theorem dX8_type_11 : decode cX8_type 11 = .ok (.ireturn, 1) := by decide +kernel
theorem dX8_type_12 : decode cX8_type 12 = .ok (.aload_n 0, 1) := by decide +kernel
theorem dX8_type_13 : decode cX8_type 13 = .ok (.getfield 120, 3) := by decide +kernel
theorem dX8_type_16 : decode cX8_type 16 = .ok (.iload_n 3, 1) := by decide +kernel
theorem dX8_type_17 : decode cX8_type 17 = .ok (.iadd, 1) := by decide +kernel
theorem dX8_type_18 : decode cX8_type 18 = .ok (.sipush 400, 3) := by decide +kernel
theorem dX8_type_21 : decode cX8_type 21 = .ok (.if_icmp .le 6, 3) := by decide +kernel
theorem dX8_type_24 : decode cX8_type 24 = .ok (.bipush (-3), 2) := by decide +kernel
theorem dX8_type_26 : decode cX8_type 26 = .ok (.ireturn, 1) := by decide +kernel
theorem dX8_type_27 : decode cX8_type 27 = .ok (.iload_n 3, 1) := by decide +kernel
theorem dX8_type_28 : decode cX8_type 28 = .ok (.iconst 1, 1) := by decide +kernel
theorem dX8_type_29 : decode cX8_type 29 = .ok (.isub, 1) := by decide +kernel
theorem dX8_type_30 : decode cX8_type 30 = .ok (.istore 4, 2) := by decide +kernel
theorem dX8_type_32 : decode cX8_type 32 = .ok (.iload 4, 2) := by decide +kernel
theorem dX8_type_34 : decode cX8_type 34 = .ok (.ifCond .lt 40, 3) := by decide +kernel
theorem dX8_type_37 : decode cX8_type 37 = .ok (.aload_n 0, 1) := by decide +kernel
theorem dX8_type_38 : decode cX8_type 38 = .ok (.getfield 7, 3) := by decide +kernel
theorem dX8_type_41 : decode cX8_type 41 = .ok (.aload_n 0, 1) := by decide +kernel
theorem dX8_type_42 : decode cX8_type 42 = .ok (.getfield 120, 3) := by decide +kernel
theorem dX8_type_45 : decode cX8_type 45 = .ok (.lload_n 1, 1) := by decide +kernel
theorem dX8_type_46 : decode cX8_type 46 = .ok (.bipush 8, 2) := by decide +kernel
theorem dX8_type_48 : decode cX8_type 48 = .ok (.iload 4, 2) := by decide +kernel
theorem dX8_type_50 : decode cX8_type 50 = .ok (.imul, 1) := by decide +kernel
theorem dX8_type_51 : decode cX8_type 51 = .ok (.lshr, 1) := by decide +kernel
theorem dX8_type_52 : decode cX8_type 52 = .ok (.ldc2_w 124, 3) := by decide +kernel
theorem dX8_type_55 : decode cX8_type 55 = .ok (.land, 1) := by decide +kernel
theorem dX8_type_56 : decode cX8_type 56 = .ok (.l2i, 1) := by decide +kernel
theorem dX8_type_57 : decode cX8_type 57 = .ok (.iastore, 1) := by decide +kernel
theorem dX8_type_58 : decode cX8_type 58 = .ok (.aload_n 0, 1) := by decide +kernel
theorem dX8_type_59 : decode cX8_type 59 = .ok (.dup, 1) := by decide +kernel
theorem dX8_type_60 : decode cX8_type 60 = .ok (.getfield 120, 3) := by decide +kernel
theorem dX8_type_63 : decode cX8_type 63 = .ok (.iconst 1, 1) := by decide +kernel
theorem dX8_type_64 : decode cX8_type 64 = .ok (.iadd, 1) := by decide +kernel
theorem dX8_type_65 : decode cX8_type 65 = .ok (.putfield 120, 3) := by decide +kernel
theorem dX8_type_68 : decode cX8_type 68 = .ok (.iinc 4 (-1), 3) := by decide +kernel
theorem dX8_type_71 : decode cX8_type 71 = .ok (.goto (-39), 3) := by decide +kernel
theorem dX8_type_74 : decode cX8_type 74 = .ok (.aload_n 0, 1) := by decide +kernel
theorem dX8_type_75 : decode cX8_type 75 = .ok (.getfield 120, 3) := by decide +kernel
theorem dX8_type_78 : decode cX8_type 78 = .ok (.ireturn, 1) := by decide +kernel
theorem dX8_clear_0 : decode cX8_clear 0 = .ok (.aload_n 0, 1) := by decide +kernel
theorem dX8_clear_1 : decode cX8_clear 1 = .ok (.getfield 120, 3) := by decide +kernel
theorem dX8_clear_4 : decode cX8_clear 4 = .ok (.istore_n 1, 1) := by decide +kernel
theorem dX8_clear_5 : decode cX8_clear 5 = .ok (.aload_n 0, 1) := by decide +kernel
theorem dX8_clear_6 : decode cX8_clear 6 = .ok (.iconst 0, 1) := by decide +kernel
theorem dX8_clear_7 : decode cX8_clear 7 = .ok (.putfield 120, 3) := by decide +kernel
theorem dX8_clear_10 : decode cX8_clear 10 = .ok (.iload_n 1, 1) := by decide +kernel
theorem dX8_clear_11 : decode cX8_clear 11 = .ok (.ireturn, 1) := by decide +kernel
theorem dX8_isLetter_0 : decode cX8_isLetter 0 = .ok (.iload_n 0, 1) := by decide +kernel
theorem dX8_isLetter_1 : decode cX8_isLetter 1 = .ok (.bipush 97, 2) := by decide +kernel
theorem dX8_isLetter_3 : decode cX8_isLetter 3 = .ok (.bipush 122, 2) := by decide +kernel
theorem dX8_isLetter_5 : decode cX8_isLetter 5 = .ok (.invokestatic 116, 3) := by decide +kernel
theorem dX8_isLetter_8 : decode cX8_isLetter 8 = .ok (.ireturn, 1) := by decide +kernel
theorem dX8_isDigit_0 : decode cX8_isDigit 0 = .ok (.iload_n 0, 1) := by decide +kernel
theorem dX8_isDigit_1 : decode cX8_isDigit 1 = .ok (.bipush 48, 2) := by decide +kernel
theorem dX8_isDigit_3 : decode cX8_isDigit 3 = .ok (.bipush 57, 2) := by decide +kernel
theorem dX8_isDigit_5 : decode cX8_isDigit 5 = .ok (.invokestatic 116, 3) := by decide +kernel
theorem dX8_isDigit_8 : decode cX8_isDigit 8 = .ok (.ireturn, 1) := by decide +kernel
theorem dX8_look_0 : decode cX8_look 0 = .ok (.aload_n 0, 1) := by decide +kernel
theorem dX8_look_1 : decode cX8_look 1 = .ok (.getfield 126, 3) := by decide +kernel
theorem dX8_look_4 : decode cX8_look 4 = .ok (.aload_n 0, 1) := by decide +kernel
theorem dX8_look_5 : decode cX8_look 5 = .ok (.getfield 120, 3) := by decide +kernel
theorem dX8_look_8 : decode cX8_look 8 = .ok (.if_icmp .ge 15, 3) := by decide +kernel
theorem dX8_look_11 : decode cX8_look 11 = .ok (.aload_n 0, 1) := by decide +kernel
theorem dX8_look_12 : decode cX8_look 12 = .ok (.getfield 7, 3) := by decide +kernel
theorem dX8_look_15 : decode cX8_look 15 = .ok (.aload_n 0, 1) := by decide +kernel
theorem dX8_look_16 : decode cX8_look 16 = .ok (.getfield 126, 3) := by decide +kernel
theorem dX8_look_19 : decode cX8_look 19 = .ok (.iaload, 1) := by decide +kernel
theorem dX8_look_20 : decode cX8_look 20 = .ok (.goto 4, 3) := by decide +kernel
theorem dX8_look_23 : decode cX8_look 23 = .ok (.iconst (-1), 1) := by decide +kernel
theorem dX8_look_24 : decode cX8_look 24 = .ok (.ireturn, 1) := by decide +kernel
theorem dX8_read_0 : decode cX8_read 0 = .ok (.aload_n 0, 1) := by decide +kernel
theorem dX8_read_1 : decode cX8_read 1 = .ok (.invokevirtual 129, 3) := by decide +kernel
theorem dX8_read_4 : decode cX8_read 4 = .ok (.bipush 32, 2) := by decide +kernel
theorem dX8_read_6 : decode cX8_read 6 = .ok (.if_icmp .ne 16, 3) := by decide +kernel
theorem dX8_read_9 : decode cX8_read 9 = .ok (.aload_n 0, 1) := by decide +kernel
theorem dX8_read_10 : decode cX8_read 10 = .ok (.dup, 1) := by decide +kernel
theorem dX8_read_11 : decode cX8_read 11 = .ok (.getfield 126, 3) := by decide +kernel
theorem dX8_read_14 : decode cX8_read 14 = .ok (.iconst 1, 1) := by decide +kernel
theorem dX8_read_15 : decode cX8_read 15 = .ok (.iadd, 1) := by decide +kernel
theorem dX8_read_16 : decode cX8_read 16 = .ok (.putfield 126, 3) := by decide +kernel
theorem dX8_read_19 : decode cX8_read 19 = .ok (.goto (-19), 3) := by decide +kernel
theorem dX8_read_22 : decode cX8_read 22 = .ok (.aload_n 0, 1) := by decide +kernel
theorem dX8_read_23 : decode cX8_read 23 = .ok (.aload_n 0, 1) := by decide +kernel
theorem dX8_read_24 : decode cX8_read 24 = .ok (.getfield 126, 3) := by decide +kernel
theorem dX8_read_27 : decode cX8_read 27 = .ok (.putfield 133, 3) := by decide +kernel
theorem dX8_read_30 : decode cX8_read 30 = .ok (.aload_n 0, 1) := by decide +kernel
theorem dX8_read_31 : decode cX8_read 31 = .ok (.invokevirtual 129, 3) := by decide +kernel
theorem dX8_read_34 : decode cX8_read 34 = .ok (.istore_n 1, 1) := by decide +kernel
theorem dX8_read_35 : decode cX8_read 35 = .ok (.iload_n 1, 1) := by decide +kernel
theorem dX8_read_36 : decode cX8_read 36 = .ok (.ifCond .ge 11, 3) := by decide +kernel
theorem dX8_read_39 : decode cX8_read 39 = .ok (.aload_n 0, 1) := by decide +kernel
theorem dX8_read_40 : decode cX8_read 40 = .ok (.iconst 0, 1) := by decide +kernel
theorem dX8_read_41 : decode cX8_read 41 = .ok (.putfield 136, 3) := by decide +kernel
theorem dX8_read_44 : decode cX8_read 44 = .ok (.goto 162, 3) := by decide +kernel
theorem dX8_read_47 : decode cX8_read 47 = .ok (.iload_n 1, 1) := by decide +kernel
theorem dX8_read_48 : decode cX8_read 48 = .ok (.invokestatic 139, 3) := by decide +kernel
theorem dX8_read_51 : decode cX8_read 51 = .ok (.ifCond .eq 10, 3) := by decide +kernel
theorem dX8_read_54 : decode cX8_read 54 = .ok (.aload_n 0, 1) := by decide +kernel
theorem dX8_read_55 : decode cX8_read 55 = .ok (.invokevirtual 143, 3) := by decide +kernel
theorem dX8_read_58 : decode cX8_read 58 = .ok (.goto 148, 3) := by decide +kernel
theorem dX8_read_61 : decode cX8_read 61 = .ok (.iload_n 1, 1) := by decide +kernel
theorem dX8_read_62 : decode cX8_read 62 = .ok (.invokestatic 146, 3) := by decide +kernel
theorem dX8_read_65 : decode cX8_read 65 = .ok (.ifCond .eq 115, 3) := by decide +kernel
theorem dX8_read_68 : decode cX8_read 68 = .ok (.aload_n 0, 1) := by decide +kernel
theorem dX8_read_69 : decode cX8_read 69 = .ok (.iconst 0, 1) := by decide +kernel
theorem dX8_read_70 : decode cX8_read 70 = .ok (.putfield 149, 3) := by decide +kernel
theorem dX8_read_73 : decode cX8_read 73 = .ok (.aload_n 0, 1) := by decide +kernel
theorem dX8_read_74 : decode cX8_read 74 = .ok (.invokevirtual 129, 3) := by decide +kernel
theorem dX8_read_77 : decode cX8_read 77 = .ok (.invokestatic 146, 3) := by decide +kernel
theorem dX8_read_80 : decode cX8_read 80 = .ok (.ifCond .eq 55, 3) := by decide +kernel
theorem dX8_read_83 : decode cX8_read 83 = .ok (.aload_n 0, 1) := by decide +kernel
theorem dX8_read_84 : decode cX8_read 84 = .ok (.aload_n 0, 1) := by decide +kernel
theorem dX8_read_85 : decode cX8_read 85 = .ok (.getfield 126, 3) := by decide +kernel
theorem dX8_read_88 : decode cX8_read 88 = .ok (.aload_n 0, 1) := by decide +kernel
theorem dX8_read_89 : decode cX8_read 89 = .ok (.getfield 133, 3) := by decide +kernel
theorem dX8_read_92 : decode cX8_read 92 = .ok (.isub, 1) := by decide +kernel
theorem dX8_read_93 : decode cX8_read 93 = .ok (.iconst 3, 1) := by decide +kernel
theorem dX8_read_94 : decode cX8_read 94 = .ok (.if_icmp .ge 21, 3) := by decide +kernel
theorem dX8_read_97 : decode cX8_read 97 = .ok (.bipush 10, 2) := by decide +kernel
theorem dX8_read_99 : decode cX8_read 99 = .ok (.aload_n 0, 1) := by decide +kernel
theorem dX8_read_100 : decode cX8_read 100 = .ok (.getfield 149, 3) := by decide +kernel
theorem dX8_read_103 : decode cX8_read 103 = .ok (.imul, 1) := by decide +kernel
theorem dX8_read_104 : decode cX8_read 104 = .ok (.aload_n 0, 1) := by decide +kernel
theorem dX8_read_105 : decode cX8_read 105 = .ok (.invokevirtual 129, 3) := by decide +kernel
theorem dX8_read_108 : decode cX8_read 108 = .ok (.iadd, 1) := by decide +kernel
theorem dX8_read_109 : decode cX8_read 109 = .ok (.bipush 48, 2) := by decide +kernel
theorem dX8_read_111 : decode cX8_read 111 = .ok (.isub, 1) := by decide +kernel
theorem dX8_read_112 : decode cX8_read 112 = .ok (.goto 7, 3) := by decide +kernel
theorem dX8_read_115 : decode cX8_read 115 = .ok (.aload_n 0, 1) := by decide +kernel
theorem dX8_read_116 : decode cX8_read 116 = .ok (.getfield 149, 3) := by decide +kernel
theorem dX8_read_119 : decode cX8_read 119 = .ok (.putfield 149, 3) := by decide +kernel
theorem dX8_read_122 : decode cX8_read 122 = .ok (.aload_n 0, 1) := by decide +kernel
theorem dX8_read_123 : decode cX8_read 123 = .ok (.dup, 1) := by decide +kernel
theorem dX8_read_124 : decode cX8_read 124 = .ok (.getfield 126, 3) := by decide +kernel
theorem dX8_read_127 : decode cX8_read 127 = .ok (.iconst 1, 1) := by decide +kernel
theorem dX8_read_128 : decode cX8_read 128 = .ok (.iadd, 1) := by decide +kernel
theorem dX8_read_129 : decode cX8_read 129 = .ok (.putfield 126, 3) := by decide +kernel
theorem dX8_read_132 : decode cX8_read 132 = .ok (.goto (-59), 3) := by decide +kernel
theorem dX8_read_135 : decode cX8_read 135 = .ok (.aload_n 0, 1) := by decide +kernel
theorem dX8_read_136 : decode cX8_read 136 = .ok (.aload_n 0, 1) := by decide +kernel
theorem dX8_read_137 : decode cX8_read 137 = .ok (.getfield 126, 3) := by decide +kernel
theorem dX8_read_140 : decode cX8_read 140 = .ok (.aload_n 0, 1) := by decide +kernel
theorem dX8_read_141 : decode cX8_read 141 = .ok (.getfield 133, 3) := by decide +kernel
theorem dX8_read_144 : decode cX8_read 144 = .ok (.isub, 1) := by decide +kernel
theorem dX8_read_145 : decode cX8_read 145 = .ok (.iconst 3, 1) := by decide +kernel
theorem dX8_read_146 : decode cX8_read 146 = .ok (.if_icmp .gt 22, 3) := by decide +kernel
theorem dX8_read_149 : decode cX8_read 149 = .ok (.iload_n 1, 1) := by decide +kernel
theorem dX8_read_150 : decode cX8_read 150 = .ok (.bipush 48, 2) := by decide +kernel
theorem dX8_read_152 : decode cX8_read 152 = .ok (.if_icmp .ne 21, 3) := by decide +kernel
theorem dX8_read_155 : decode cX8_read 155 = .ok (.aload_n 0, 1) := by decide +kernel
theorem dX8_read_156 : decode cX8_read 156 = .ok (.getfield 126, 3) := by decide +kernel
theorem dX8_read_159 : decode cX8_read 159 = .ok (.aload_n 0, 1) := by decide +kernel
theorem dX8_read_160 : decode cX8_read 160 = .ok (.getfield 133, 3) := by decide +kernel
theorem dX8_read_163 : decode cX8_read 163 = .ok (.isub, 1) := by decide +kernel
theorem dX8_read_164 : decode cX8_read 164 = .ok (.iconst 1, 1) := by decide +kernel
theorem dX8_read_165 : decode cX8_read 165 = .ok (.if_icmp .le 8, 3) := by decide +kernel
theorem dX8_read_168 : decode cX8_read 168 = .ok (.bipush 9, 2) := by decide +kernel
theorem dX8_read_170 : decode cX8_read 170 = .ok (.goto 4, 3) := by decide +kernel
theorem dX8_read_173 : decode cX8_read 173 = .ok (.iconst 2, 1) := by decide +kernel
theorem dX8_read_174 : decode cX8_read 174 = .ok (.putfield 136, 3) := by decide +kernel
theorem dX8_read_177 : decode cX8_read 177 = .ok (.goto 29, 3) := by decide +kernel
theorem dX8_read_180 : decode cX8_read 180 = .ok (.aload_n 0, 1) := by decide +kernel
theorem dX8_read_181 : decode cX8_read 181 = .ok (.dup, 1) := by decide +kernel
theorem dX8_read_182 : decode cX8_read 182 = .ok (.getfield 126, 3) := by decide +kernel
theorem dX8_read_185 : decode cX8_read 185 = .ok (.iconst 1, 1) := by decide +kernel
theorem dX8_read_186 : decode cX8_read 186 = .ok (.iadd, 1) := by decide +kernel
theorem dX8_read_187 : decode cX8_read 187 = .ok (.putfield 126, 3) := by decide +kernel
theorem dX8_read_190 : decode cX8_read 190 = .ok (.aload_n 0, 1) := by decide +kernel
theorem dX8_read_191 : decode cX8_read 191 = .ok (.iload_n 1, 1) := by decide +kernel
theorem dX8_read_192 : decode cX8_read 192 = .ok (.bipush 59, 2) := by decide +kernel
end
section
theorem dX8_read_194 : decode cX8_read 194 = .ok (.if_icmp .ne 7, 3) := by decide +kernel
theorem dX8_read_197 : decode cX8_read 197 = .ok (.iconst 3, 1) := by decide +kernel
theorem dX8_read_198 : decode cX8_read 198 = .ok (.goto 5, 3) := by decide +kernel
theorem dX8_read_201 : decode cX8_read 201 = .ok (.bipush 9, 2) := by decide +kernel
theorem dX8_read_203 : decode cX8_read 203 = .ok (.putfield 136, 3) := by decide +kernel
theorem dX8_read_206 : decode cX8_read 206 = .ok (.return_, 1) := by decide +kernel
theorem dX8_word_0 : decode cX8_word 0 = .ok (.iconst 0, 1) := by decide +kernel
theorem dX8_word_1 : decode cX8_word 1 = .ok (.istore_n 1, 1) := by decide +kernel
theorem dX8_word_2 : decode cX8_word 2 = .ok (.aload_n 0, 1) := by decide +kernel
theorem dX8_word_3 : decode cX8_word 3 = .ok (.invokevirtual 129, 3) := by decide +kernel
theorem dX8_word_6 : decode cX8_word 6 = .ok (.invokestatic 139, 3) := by decide +kernel
theorem dX8_word_9 : decode cX8_word 9 = .ok (.ifCond .eq 46, 3) := by decide +kernel
theorem dX8_word_12 : decode cX8_word 12 = .ok (.aload_n 0, 1) := by decide +kernel
theorem dX8_word_13 : decode cX8_word 13 = .ok (.getfield 126, 3) := by decide +kernel
theorem dX8_word_16 : decode cX8_word 16 = .ok (.aload_n 0, 1) := by decide +kernel
theorem dX8_word_17 : decode cX8_word 17 = .ok (.getfield 133, 3) := by decide +kernel
theorem dX8_word_20 : decode cX8_word 20 = .ok (.isub, 1) := by decide +kernel
theorem dX8_word_21 : decode cX8_word 21 = .ok (.iconst 5, 1) := by decide +kernel
theorem dX8_word_22 : decode cX8_word 22 = .ok (.if_icmp .ge 18, 3) := by decide +kernel
theorem dX8_word_25 : decode cX8_word 25 = .ok (.bipush 32, 2) := by decide +kernel
theorem dX8_word_27 : decode cX8_word 27 = .ok (.iload_n 1, 1) := by decide +kernel
theorem dX8_word_28 : decode cX8_word 28 = .ok (.imul, 1) := by decide +kernel
theorem dX8_word_29 : decode cX8_word 29 = .ok (.aload_n 0, 1) := by decide +kernel
theorem dX8_word_30 : decode cX8_word 30 = .ok (.invokevirtual 129, 3) := by decide +kernel
theorem dX8_word_33 : decode cX8_word 33 = .ok (.iadd, 1) := by decide +kernel
theorem dX8_word_34 : decode cX8_word 34 = .ok (.bipush 96, 2) := by decide +kernel
theorem dX8_word_36 : decode cX8_word 36 = .ok (.isub, 1) := by decide +kernel
theorem dX8_word_37 : decode cX8_word 37 = .ok (.goto 4, 3) := by decide +kernel
theorem dX8_word_40 : decode cX8_word 40 = .ok (.iconst 0, 1) := by decide +kernel
theorem dX8_word_41 : decode cX8_word 41 = .ok (.istore_n 1, 1) := by decide +kernel
theorem dX8_word_42 : decode cX8_word 42 = .ok (.aload_n 0, 1) := by decide +kernel
theorem dX8_word_43 : decode cX8_word 43 = .ok (.dup, 1) := by decide +kernel
theorem dX8_word_44 : decode cX8_word 44 = .ok (.getfield 126, 3) := by decide +kernel
theorem dX8_word_47 : decode cX8_word 47 = .ok (.iconst 1, 1) := by decide +kernel
theorem dX8_word_48 : decode cX8_word 48 = .ok (.iadd, 1) := by decide +kernel
theorem dX8_word_49 : decode cX8_word 49 = .ok (.putfield 126, 3) := by decide +kernel
theorem dX8_word_52 : decode cX8_word 52 = .ok (.goto (-50), 3) := by decide +kernel
theorem dX8_word_55 : decode cX8_word 55 = .ok (.aload_n 0, 1) := by decide +kernel
theorem dX8_word_56 : decode cX8_word 56 = .ok (.getfield 126, 3) := by decide +kernel
theorem dX8_word_59 : decode cX8_word 59 = .ok (.aload_n 0, 1) := by decide +kernel
theorem dX8_word_60 : decode cX8_word 60 = .ok (.getfield 133, 3) := by decide +kernel
theorem dX8_word_63 : decode cX8_word 63 = .ok (.isub, 1) := by decide +kernel
theorem dX8_word_64 : decode cX8_word 64 = .ok (.iconst 5, 1) := by decide +kernel
theorem dX8_word_65 : decode cX8_word 65 = .ok (.if_icmp .le 7, 3) := by decide +kernel
theorem dX8_word_68 : decode cX8_word 68 = .ok (.iconst 1, 1) := by decide +kernel
theorem dX8_word_69 : decode cX8_word 69 = .ok (.goto 4, 3) := by decide +kernel
theorem dX8_word_72 : decode cX8_word 72 = .ok (.iconst 0, 1) := by decide +kernel
theorem dX8_word_73 : decode cX8_word 73 = .ok (.istore_n 2, 1) := by decide +kernel
theorem dX8_word_74 : decode cX8_word 74 = .ok (.aload_n 0, 1) := by decide +kernel
theorem dX8_word_75 : decode cX8_word 75 = .ok (.iload_n 2, 1) := by decide +kernel
theorem dX8_word_76 : decode cX8_word 76 = .ok (.ifCond .eq 8, 3) := by decide +kernel
theorem dX8_word_79 : decode cX8_word 79 = .ok (.bipush 9, 2) := by decide +kernel
theorem dX8_word_81 : decode cX8_word 81 = .ok (.goto 81, 3) := by decide +kernel
theorem dX8_word_84 : decode cX8_word 84 = .ok (.iload_n 1, 1) := by decide +kernel
theorem dX8_word_85 : decode cX8_word 85 = .ok (.ldc 152, 2) := by decide +kernel
theorem dX8_word_87 : decode cX8_word 87 = .ok (.if_icmp .ne 7, 3) := by decide +kernel
theorem dX8_word_90 : decode cX8_word 90 = .ok (.iconst 4, 1) := by decide +kernel
theorem dX8_word_91 : decode cX8_word 91 = .ok (.goto 71, 3) := by decide +kernel
theorem dX8_word_94 : decode cX8_word 94 = .ok (.iload_n 1, 1) := by decide +kernel
theorem dX8_word_95 : decode cX8_word 95 = .ok (.ldc 153, 2) := by decide +kernel
theorem dX8_word_97 : decode cX8_word 97 = .ok (.if_icmp .ne 7, 3) := by decide +kernel
theorem dX8_word_100 : decode cX8_word 100 = .ok (.iconst 5, 1) := by decide +kernel
theorem dX8_word_101 : decode cX8_word 101 = .ok (.goto 61, 3) := by decide +kernel
theorem dX8_word_104 : decode cX8_word 104 = .ok (.iload_n 1, 1) := by decide +kernel
theorem dX8_word_105 : decode cX8_word 105 = .ok (.ldc 154, 2) := by decide +kernel
theorem dX8_word_107 : decode cX8_word 107 = .ok (.if_icmp .ne 8, 3) := by decide +kernel
theorem dX8_word_110 : decode cX8_word 110 = .ok (.bipush 6, 2) := by decide +kernel
theorem dX8_word_112 : decode cX8_word 112 = .ok (.goto 50, 3) := by decide +kernel
theorem dX8_word_115 : decode cX8_word 115 = .ok (.iload_n 1, 1) := by decide +kernel
theorem dX8_word_116 : decode cX8_word 116 = .ok (.ldc 155, 2) := by decide +kernel
theorem dX8_word_118 : decode cX8_word 118 = .ok (.if_icmp .ne 8, 3) := by decide +kernel
theorem dX8_word_121 : decode cX8_word 121 = .ok (.bipush 7, 2) := by decide +kernel
theorem dX8_word_123 : decode cX8_word 123 = .ok (.goto 39, 3) := by decide +kernel
theorem dX8_word_126 : decode cX8_word 126 = .ok (.iload_n 1, 1) := by decide +kernel
theorem dX8_word_127 : decode cX8_word 127 = .ok (.ldc 156, 2) := by decide +kernel
theorem dX8_word_129 : decode cX8_word 129 = .ok (.if_icmp .ne 8, 3) := by decide +kernel
theorem dX8_word_132 : decode cX8_word 132 = .ok (.bipush 8, 2) := by decide +kernel
theorem dX8_word_134 : decode cX8_word 134 = .ok (.goto 28, 3) := by decide +kernel
theorem dX8_word_137 : decode cX8_word 137 = .ok (.aload_n 0, 1) := by decide +kernel
theorem dX8_word_138 : decode cX8_word 138 = .ok (.getfield 126, 3) := by decide +kernel
theorem dX8_word_141 : decode cX8_word 141 = .ok (.aload_n 0, 1) := by decide +kernel
theorem dX8_word_142 : decode cX8_word 142 = .ok (.getfield 133, 3) := by decide +kernel
theorem dX8_word_145 : decode cX8_word 145 = .ok (.isub, 1) := by decide +kernel
theorem dX8_word_146 : decode cX8_word 146 = .ok (.iconst 1, 1) := by decide +kernel
theorem dX8_word_147 : decode cX8_word 147 = .ok (.if_icmp .ne 13, 3) := by decide +kernel
theorem dX8_word_150 : decode cX8_word 150 = .ok (.iload_n 1, 1) := by decide +kernel
theorem dX8_word_151 : decode cX8_word 151 = .ok (.bipush 12, 2) := by decide +kernel
theorem dX8_word_153 : decode cX8_word 153 = .ok (.if_icmp .gt 7, 3) := by decide +kernel
theorem dX8_word_156 : decode cX8_word 156 = .ok (.iconst 1, 1) := by decide +kernel
theorem dX8_word_157 : decode cX8_word 157 = .ok (.goto 5, 3) := by decide +kernel
theorem dX8_word_160 : decode cX8_word 160 = .ok (.bipush 9, 2) := by decide +kernel
theorem dX8_word_162 : decode cX8_word 162 = .ok (.putfield 136, 3) := by decide +kernel
theorem dX8_word_165 : decode cX8_word 165 = .ok (.aload_n 0, 1) := by decide +kernel
theorem dX8_word_166 : decode cX8_word 166 = .ok (.aload_n 0, 1) := by decide +kernel
theorem dX8_word_167 : decode cX8_word 167 = .ok (.getfield 136, 3) := by decide +kernel
theorem dX8_word_170 : decode cX8_word 170 = .ok (.iconst 1, 1) := by decide +kernel
theorem dX8_word_171 : decode cX8_word 171 = .ok (.if_icmp .ne 9, 3) := by decide +kernel
theorem dX8_word_174 : decode cX8_word 174 = .ok (.iload_n 1, 1) := by decide +kernel
theorem dX8_word_175 : decode cX8_word 175 = .ok (.iconst 1, 1) := by decide +kernel
theorem dX8_word_176 : decode cX8_word 176 = .ok (.isub, 1) := by decide +kernel
theorem dX8_word_177 : decode cX8_word 177 = .ok (.goto 4, 3) := by decide +kernel
theorem dX8_word_180 : decode cX8_word 180 = .ok (.iconst 0, 1) := by decide +kernel
theorem dX8_word_181 : decode cX8_word 181 = .ok (.putfield 149, 3) := by decide +kernel
theorem dX8_word_184 : decode cX8_word 184 = .ok (.return_, 1) := by decide +kernel
theorem dX8_isNumber_0 : decode cX8_isNumber 0 = .ok (.aload_n 0, 1) := by decide +kernel
theorem dX8_isNumber_1 : decode cX8_isNumber 1 = .ok (.getfield 136, 3) := by decide +kernel
theorem dX8_isNumber_4 : decode cX8_isNumber 4 = .ok (.iconst 2, 1) := by decide +kernel
theorem dX8_isNumber_5 : decode cX8_isNumber 5 = .ok (.if_icmp .ne 19, 3) := by decide +kernel
theorem dX8_isNumber_8 : decode cX8_isNumber 8 = .ok (.aload_n 0, 1) := by decide +kernel
theorem dX8_isNumber_9 : decode cX8_isNumber 9 = .ok (.getfield 149, 3) := by decide +kernel
theorem dX8_isNumber_12 : decode cX8_isNumber 12 = .ok (.iload_n 1, 1) := by decide +kernel
theorem dX8_isNumber_13 : decode cX8_isNumber 13 = .ok (.iload_n 2, 1) := by decide +kernel
theorem dX8_isNumber_14 : decode cX8_isNumber 14 = .ok (.invokestatic 116, 3) := by decide +kernel
theorem dX8_isNumber_17 : decode cX8_isNumber 17 = .ok (.ifCond .eq 7, 3) := by decide +kernel
theorem dX8_isNumber_20 : decode cX8_isNumber 20 = .ok (.iconst 1, 1) := by decide +kernel
theorem dX8_isNumber_21 : decode cX8_isNumber 21 = .ok (.goto 4, 3) := by decide +kernel
theorem dX8_isNumber_24 : decode cX8_isNumber 24 = .ok (.iconst 0, 1) := by decide +kernel
theorem dX8_isNumber_25 : decode cX8_isNumber 25 = .ok (.ireturn, 1) := by decide +kernel
theorem dX8_isChip_0 : decode cX8_isChip 0 = .ok (.aload_n 0, 1) := by decide +kernel
theorem dX8_isChip_1 : decode cX8_isChip 1 = .ok (.iconst 0, 1) := by decide +kernel
theorem dX8_isChip_2 : decode cX8_isChip 2 = .ok (.putfield 126, 3) := by decide +kernel
theorem dX8_isChip_5 : decode cX8_isChip 5 = .ok (.aload_n 0, 1) := by decide +kernel
theorem dX8_isChip_6 : decode cX8_isChip 6 = .ok (.invokevirtual 157, 3) := by decide +kernel
theorem dX8_isChip_9 : decode cX8_isChip 9 = .ok (.aload_n 0, 1) := by decide +kernel
theorem dX8_isChip_10 : decode cX8_isChip 10 = .ok (.getfield 136, 3) := by decide +kernel
theorem dX8_isChip_13 : decode cX8_isChip 13 = .ok (.iconst 4, 1) := by decide +kernel
theorem dX8_isChip_14 : decode cX8_isChip 14 = .ok (.if_icmp .eq 5, 3) := by decide +kernel
theorem dX8_isChip_17 : decode cX8_isChip 17 = .ok (.iconst 0, 1) := by decide +kernel
theorem dX8_isChip_18 : decode cX8_isChip 18 = .ok (.ireturn, 1) := by decide +kernel
theorem dX8_isChip_19 : decode cX8_isChip 19 = .ok (.aload_n 0, 1) := by decide +kernel
theorem dX8_isChip_20 : decode cX8_isChip 20 = .ok (.invokevirtual 157, 3) := by decide +kernel
theorem dX8_isChip_23 : decode cX8_isChip 23 = .ok (.aload_n 0, 1) := by decide +kernel
theorem dX8_isChip_24 : decode cX8_isChip 24 = .ok (.iconst 0, 1) := by decide +kernel
theorem dX8_isChip_25 : decode cX8_isChip 25 = .ok (.iconst 5, 1) := by decide +kernel
theorem dX8_isChip_26 : decode cX8_isChip 26 = .ok (.invokevirtual 160, 3) := by decide +kernel
theorem dX8_isChip_29 : decode cX8_isChip 29 = .ok (.ifCond .ne 5, 3) := by decide +kernel
theorem dX8_isChip_32 : decode cX8_isChip 32 = .ok (.iconst 0, 1) := by decide +kernel
theorem dX8_isChip_33 : decode cX8_isChip 33 = .ok (.ireturn, 1) := by decide +kernel
theorem dX8_isChip_34 : decode cX8_isChip 34 = .ok (.aload_n 0, 1) := by decide +kernel
theorem dX8_isChip_35 : decode cX8_isChip 35 = .ok (.aload_n 0, 1) := by decide +kernel
theorem dX8_isChip_36 : decode cX8_isChip 36 = .ok (.getfield 149, 3) := by decide +kernel
theorem dX8_isChip_39 : decode cX8_isChip 39 = .ok (.putfield 164, 3) := by decide +kernel
theorem dX8_isChip_42 : decode cX8_isChip 42 = .ok (.aload_n 0, 1) := by decide +kernel
theorem dX8_isChip_43 : decode cX8_isChip 43 = .ok (.invokevirtual 157, 3) := by decide +kernel
theorem dX8_isChip_46 : decode cX8_isChip 46 = .ok (.aload_n 0, 1) := by decide +kernel
theorem dX8_isChip_47 : decode cX8_isChip 47 = .ok (.aload_n 0, 1) := by decide +kernel
theorem dX8_isChip_48 : decode cX8_isChip 48 = .ok (.getfield 136, 3) := by decide +kernel
theorem dX8_isChip_51 : decode cX8_isChip 51 = .ok (.iconst 5, 1) := by decide +kernel
theorem dX8_isChip_52 : decode cX8_isChip 52 = .ok (.if_icmp .ne 7, 3) := by decide +kernel
theorem dX8_isChip_55 : decode cX8_isChip 55 = .ok (.iconst 1, 1) := by decide +kernel
theorem dX8_isChip_56 : decode cX8_isChip 56 = .ok (.goto 4, 3) := by decide +kernel
theorem dX8_isChip_59 : decode cX8_isChip 59 = .ok (.iconst 0, 1) := by decide +kernel
theorem dX8_isChip_60 : decode cX8_isChip 60 = .ok (.putfield 167, 3) := by decide +kernel
theorem dX8_isChip_63 : decode cX8_isChip 63 = .ok (.aload_n 0, 1) := by decide +kernel
theorem dX8_isChip_64 : decode cX8_isChip 64 = .ok (.getfield 136, 3) := by decide +kernel
theorem dX8_isChip_67 : decode cX8_isChip 67 = .ok (.iconst 5, 1) := by decide +kernel
theorem dX8_isChip_68 : decode cX8_isChip 68 = .ok (.if_icmp .ne 7, 3) := by decide +kernel
theorem dX8_isChip_71 : decode cX8_isChip 71 = .ok (.aload_n 0, 1) := by decide +kernel
theorem dX8_isChip_72 : decode cX8_isChip 72 = .ok (.invokevirtual 157, 3) := by decide +kernel
theorem dX8_isChip_75 : decode cX8_isChip 75 = .ok (.aload_n 0, 1) := by decide +kernel
theorem dX8_isChip_76 : decode cX8_isChip 76 = .ok (.iconst 0, 1) := by decide +kernel
theorem dX8_isChip_77 : decode cX8_isChip 77 = .ok (.putfield 170, 3) := by decide +kernel
theorem dX8_isChip_80 : decode cX8_isChip 80 = .ok (.aload_n 0, 1) := by decide +kernel
theorem dX8_isChip_81 : decode cX8_isChip 81 = .ok (.getfield 136, 3) := by decide +kernel
theorem dX8_isChip_84 : decode cX8_isChip 84 = .ok (.iconst 1, 1) := by decide +kernel
theorem dX8_isChip_85 : decode cX8_isChip 85 = .ok (.if_icmp .ne 71, 3) := by decide +kernel
theorem dX8_isChip_88 : decode cX8_isChip 88 = .ok (.aload_n 0, 1) := by decide +kernel
theorem dX8_isChip_89 : decode cX8_isChip 89 = .ok (.getfield 170, 3) := by decide +kernel
theorem dX8_isChip_92 : decode cX8_isChip 92 = .ok (.bipush 10, 2) := by decide +kernel
theorem dX8_isChip_94 : decode cX8_isChip 94 = .ok (.if_icmp .ge 62, 3) := by decide +kernel
theorem dX8_isChip_97 : decode cX8_isChip 97 = .ok (.aload_n 0, 1) := by decide +kernel
theorem dX8_isChip_98 : decode cX8_isChip 98 = .ok (.getfield 28, 3) := by decide +kernel
theorem dX8_isChip_101 : decode cX8_isChip 101 = .ok (.aload_n 0, 1) := by decide +kernel
theorem dX8_isChip_102 : decode cX8_isChip 102 = .ok (.getfield 170, 3) := by decide +kernel
theorem dX8_isChip_105 : decode cX8_isChip 105 = .ok (.aload_n 0, 1) := by decide +kernel
theorem dX8_isChip_106 : decode cX8_isChip 106 = .ok (.getfield 149, 3) := by decide +kernel
theorem dX8_isChip_109 : decode cX8_isChip 109 = .ok (.iastore, 1) := by decide +kernel
theorem dX8_isChip_110 : decode cX8_isChip 110 = .ok (.aload_n 0, 1) := by decide +kernel
theorem dX8_isChip_111 : decode cX8_isChip 111 = .ok (.invokevirtual 157, 3) := by decide +kernel
theorem dX8_isChip_114 : decode cX8_isChip 114 = .ok (.aload_n 0, 1) := by decide +kernel
theorem dX8_isChip_115 : decode cX8_isChip 115 = .ok (.iconst 0, 1) := by decide +kernel
theorem dX8_isChip_116 : decode cX8_isChip 116 = .ok (.bipush 9, 2) := by decide +kernel
theorem dX8_isChip_118 : decode cX8_isChip 118 = .ok (.invokevirtual 160, 3) := by decide +kernel
theorem dX8_isChip_121 : decode cX8_isChip 121 = .ok (.ifCond .ne 5, 3) := by decide +kernel
theorem dX8_isChip_124 : decode cX8_isChip 124 = .ok (.iconst 0, 1) := by decide +kernel
theorem dX8_isChip_125 : decode cX8_isChip 125 = .ok (.ireturn, 1) := by decide +kernel
theorem dX8_isChip_126 : decode cX8_isChip 126 = .ok (.aload_n 0, 1) := by decide +kernel
theorem dX8_isChip_127 : decode cX8_isChip 127 = .ok (.getfield 31, 3) := by decide +kernel
theorem dX8_isChip_130 : decode cX8_isChip 130 = .ok (.aload_n 0, 1) := by decide +kernel
theorem dX8_isChip_131 : decode cX8_isChip 131 = .ok (.getfield 170, 3) := by decide +kernel
theorem dX8_isChip_134 : decode cX8_isChip 134 = .ok (.aload_n 0, 1) := by decide +kernel
theorem dX8_isChip_135 : decode cX8_isChip 135 = .ok (.getfield 149, 3) := by decide +kernel
theorem dX8_isChip_138 : decode cX8_isChip 138 = .ok (.iastore, 1) := by decide +kernel
theorem dX8_isChip_139 : decode cX8_isChip 139 = .ok (.aload_n 0, 1) := by decide +kernel
theorem dX8_isChip_140 : decode cX8_isChip 140 = .ok (.dup, 1) := by decide +kernel
theorem dX8_isChip_141 : decode cX8_isChip 141 = .ok (.getfield 170, 3) := by decide +kernel
theorem dX8_isChip_144 : decode cX8_isChip 144 = .ok (.iconst 1, 1) := by decide +kernel
theorem dX8_isChip_145 : decode cX8_isChip 145 = .ok (.iadd, 1) := by decide +kernel
theorem dX8_isChip_146 : decode cX8_isChip 146 = .ok (.putfield 170, 3) := by decide +kernel
theorem dX8_isChip_149 : decode cX8_isChip 149 = .ok (.aload_n 0, 1) := by decide +kernel
theorem dX8_isChip_150 : decode cX8_isChip 150 = .ok (.invokevirtual 157, 3) := by decide +kernel
theorem dX8_isChip_153 : decode cX8_isChip 153 = .ok (.goto (-73), 3) := by decide +kernel
theorem dX8_isChip_156 : decode cX8_isChip 156 = .ok (.aload_n 0, 1) := by decide +kernel
theorem dX8_isChip_157 : decode cX8_isChip 157 = .ok (.getfield 136, 3) := by decide +kernel
theorem dX8_isChip_160 : decode cX8_isChip 160 = .ok (.iconst 3, 1) := by decide +kernel
theorem dX8_isChip_161 : decode cX8_isChip 161 = .ok (.if_icmp .ne 10, 3) := by decide +kernel
theorem dX8_isChip_164 : decode cX8_isChip 164 = .ok (.aload_n 0, 1) := by decide +kernel
theorem dX8_isChip_165 : decode cX8_isChip 165 = .ok (.getfield 170, 3) := by decide +kernel
theorem dX8_isChip_168 : decode cX8_isChip 168 = .ok (.ifCond .ne 5, 3) := by decide +kernel
theorem dX8_isChip_171 : decode cX8_isChip 171 = .ok (.iconst 0, 1) := by decide +kernel
theorem dX8_isChip_172 : decode cX8_isChip 172 = .ok (.ireturn, 1) := by decide +kernel
theorem dX8_isChip_173 : decode cX8_isChip 173 = .ok (.aload_n 0, 1) := by decide +kernel
theorem dX8_isChip_174 : decode cX8_isChip 174 = .ok (.invokevirtual 157, 3) := by decide +kernel
theorem dX8_isChip_177 : decode cX8_isChip 177 = .ok (.aload_n 0, 1) := by decide +kernel
theorem dX8_isChip_178 : decode cX8_isChip 178 = .ok (.getfield 136, 3) := by decide +kernel
theorem dX8_isChip_181 : decode cX8_isChip 181 = .ok (.ifCond .ne 7, 3) := by decide +kernel
theorem dX8_isChip_184 : decode cX8_isChip 184 = .ok (.iconst 1, 1) := by decide +kernel
theorem dX8_isChip_185 : decode cX8_isChip 185 = .ok (.goto 4, 3) := by decide +kernel
theorem dX8_isChip_188 : decode cX8_isChip 188 = .ok (.iconst 0, 1) := by decide +kernel
theorem dX8_isChip_189 : decode cX8_isChip 189 = .ok (.ireturn, 1) := by decide +kernel
theorem dX8_chip_0 : decode cX8_chip 0 = .ok (.aload_n 0, 1) := by decide +kernel
theorem dX8_chip_1 : decode cX8_chip 1 = .ok (.getfield 173, 3) := by decide +kernel
theorem dX8_chip_4 : decode cX8_chip 4 = .ok (.iconst 4, 1) := by decide +kernel
theorem dX8_chip_5 : decode cX8_chip 5 = .ok (.if_icmp .ne 6, 3) := by decide +kernel
theorem dX8_chip_8 : decode cX8_chip 8 = .ok (.bipush (-3), 2) := by decide +kernel
theorem dX8_chip_10 : decode cX8_chip 10 = .ok (.ireturn, 1) := by decide +kernel
theorem dX8_chip_11 : decode cX8_chip 11 = .ok (.aload_n 0, 1) := by decide +kernel
theorem dX8_chip_12 : decode cX8_chip 12 = .ok (.invokevirtual 176, 3) := by decide +kernel
theorem dX8_chip_15 : decode cX8_chip 15 = .ok (.ifCond .ne 11, 3) := by decide +kernel
theorem dX8_chip_18 : decode cX8_chip 18 = .ok (.bipush (-10), 2) := by decide +kernel
theorem dX8_chip_20 : decode cX8_chip 20 = .ok (.aload_n 0, 1) := by decide +kernel
theorem dX8_chip_21 : decode cX8_chip 21 = .ok (.getfield 133, 3) := by decide +kernel
theorem dX8_chip_24 : decode cX8_chip 24 = .ok (.isub, 1) := by decide +kernel
theorem dX8_chip_25 : decode cX8_chip 25 = .ok (.ireturn, 1) := by decide +kernel
theorem dX8_chip_26 : decode cX8_chip 26 = .ok (.aload_n 0, 1) := by decide +kernel
theorem dX8_chip_27 : decode cX8_chip 27 = .ok (.getfield 13, 3) := by decide +kernel
theorem dX8_chip_30 : decode cX8_chip 30 = .ok (.aload_n 0, 1) := by decide +kernel
theorem dX8_chip_31 : decode cX8_chip 31 = .ok (.getfield 173, 3) := by decide +kernel
theorem dX8_chip_34 : decode cX8_chip 34 = .ok (.aload_n 0, 1) := by decide +kernel
theorem dX8_chip_35 : decode cX8_chip 35 = .ok (.getfield 164, 3) := by decide +kernel
theorem dX8_chip_38 : decode cX8_chip 38 = .ok (.iastore, 1) := by decide +kernel
theorem dX8_chip_39 : decode cX8_chip 39 = .ok (.aload_n 0, 1) := by decide +kernel
theorem dX8_chip_40 : decode cX8_chip 40 = .ok (.getfield 16, 3) := by decide +kernel
theorem dX8_chip_43 : decode cX8_chip 43 = .ok (.aload_n 0, 1) := by decide +kernel
theorem dX8_chip_44 : decode cX8_chip 44 = .ok (.getfield 173, 3) := by decide +kernel
theorem dX8_chip_47 : decode cX8_chip 47 = .ok (.aload_n 0, 1) := by decide +kernel
theorem dX8_chip_48 : decode cX8_chip 48 = .ok (.getfield 167, 3) := by decide +kernel
theorem dX8_chip_51 : decode cX8_chip 51 = .ok (.iastore, 1) := by decide +kernel
theorem dX8_chip_52 : decode cX8_chip 52 = .ok (.aload_n 0, 1) := by decide +kernel
theorem dX8_chip_53 : decode cX8_chip 53 = .ok (.getfield 19, 3) := by decide +kernel
theorem dX8_chip_56 : decode cX8_chip 56 = .ok (.aload_n 0, 1) := by decide +kernel
theorem dX8_chip_57 : decode cX8_chip 57 = .ok (.getfield 173, 3) := by decide +kernel
theorem dX8_chip_60 : decode cX8_chip 60 = .ok (.aload_n 0, 1) := by decide +kernel
theorem dX8_chip_61 : decode cX8_chip 61 = .ok (.getfield 170, 3) := by decide +kernel
theorem dX8_chip_64 : decode cX8_chip 64 = .ok (.iastore, 1) := by decide +kernel
theorem dX8_chip_65 : decode cX8_chip 65 = .ok (.iconst 0, 1) := by decide +kernel
theorem dX8_chip_66 : decode cX8_chip 66 = .ok (.istore_n 1, 1) := by decide +kernel
theorem dX8_chip_67 : decode cX8_chip 67 = .ok (.iload_n 1, 1) := by decide +kernel
theorem dX8_chip_68 : decode cX8_chip 68 = .ok (.aload_n 0, 1) := by decide +kernel
theorem dX8_chip_69 : decode cX8_chip 69 = .ok (.getfield 170, 3) := by decide +kernel
theorem dX8_chip_72 : decode cX8_chip 72 = .ok (.if_icmp .ge 49, 3) := by decide +kernel
theorem dX8_chip_75 : decode cX8_chip 75 = .ok (.aload_n 0, 1) := by decide +kernel
theorem dX8_chip_76 : decode cX8_chip 76 = .ok (.getfield 22, 3) := by decide +kernel
theorem dX8_chip_79 : decode cX8_chip 79 = .ok (.bipush 10, 2) := by decide +kernel
theorem dX8_chip_81 : decode cX8_chip 81 = .ok (.aload_n 0, 1) := by decide +kernel
theorem dX8_chip_82 : decode cX8_chip 82 = .ok (.getfield 173, 3) := by decide +kernel
theorem dX8_chip_85 : decode cX8_chip 85 = .ok (.imul, 1) := by decide +kernel
theorem dX8_chip_86 : decode cX8_chip 86 = .ok (.iload_n 1, 1) := by decide +kernel
theorem dX8_chip_87 : decode cX8_chip 87 = .ok (.iadd, 1) := by decide +kernel
theorem dX8_chip_88 : decode cX8_chip 88 = .ok (.aload_n 0, 1) := by decide +kernel
theorem dX8_chip_89 : decode cX8_chip 89 = .ok (.getfield 28, 3) := by decide +kernel
theorem dX8_chip_92 : decode cX8_chip 92 = .ok (.iload_n 1, 1) := by decide +kernel
theorem dX8_chip_93 : decode cX8_chip 93 = .ok (.iaload, 1) := by decide +kernel
theorem dX8_chip_94 : decode cX8_chip 94 = .ok (.iastore, 1) := by decide +kernel
theorem dX8_chip_95 : decode cX8_chip 95 = .ok (.aload_n 0, 1) := by decide +kernel
theorem dX8_chip_96 : decode cX8_chip 96 = .ok (.getfield 25, 3) := by decide +kernel
theorem dX8_chip_99 : decode cX8_chip 99 = .ok (.bipush 10, 2) := by decide +kernel
theorem dX8_chip_101 : decode cX8_chip 101 = .ok (.aload_n 0, 1) := by decide +kernel
theorem dX8_chip_102 : decode cX8_chip 102 = .ok (.getfield 173, 3) := by decide +kernel
theorem dX8_chip_105 : decode cX8_chip 105 = .ok (.imul, 1) := by decide +kernel
theorem dX8_chip_106 : decode cX8_chip 106 = .ok (.iload_n 1, 1) := by decide +kernel
theorem dX8_chip_107 : decode cX8_chip 107 = .ok (.iadd, 1) := by decide +kernel
theorem dX8_chip_108 : decode cX8_chip 108 = .ok (.aload_n 0, 1) := by decide +kernel
theorem dX8_chip_109 : decode cX8_chip 109 = .ok (.getfield 31, 3) := by decide +kernel
theorem dX8_chip_112 : decode cX8_chip 112 = .ok (.iload_n 1, 1) := by decide +kernel
theorem dX8_chip_113 : decode cX8_chip 113 = .ok (.iaload, 1) := by decide +kernel
theorem dX8_chip_114 : decode cX8_chip 114 = .ok (.iastore, 1) := by decide +kernel
theorem dX8_chip_115 : decode cX8_chip 115 = .ok (.iinc 1 1, 3) := by decide +kernel
theorem dX8_chip_118 : decode cX8_chip 118 = .ok (.goto (-51), 3) := by decide +kernel
theorem dX8_chip_121 : decode cX8_chip 121 = .ok (.aload_n 0, 1) := by decide +kernel
theorem dX8_chip_122 : decode cX8_chip 122 = .ok (.dup, 1) := by decide +kernel
theorem dX8_chip_123 : decode cX8_chip 123 = .ok (.getfield 173, 3) := by decide +kernel
theorem dX8_chip_126 : decode cX8_chip 126 = .ok (.iconst 1, 1) := by decide +kernel
theorem dX8_chip_127 : decode cX8_chip 127 = .ok (.iadd, 1) := by decide +kernel
theorem dX8_chip_128 : decode cX8_chip 128 = .ok (.putfield 173, 3) := by decide +kernel
theorem dX8_chip_131 : decode cX8_chip 131 = .ok (.aload_n 0, 1) := by decide +kernel
theorem dX8_chip_132 : decode cX8_chip 132 = .ok (.iconst 0, 1) := by decide +kernel
theorem dX8_chip_133 : decode cX8_chip 133 = .ok (.putfield 120, 3) := by decide +kernel
theorem dX8_chip_136 : decode cX8_chip 136 = .ok (.aload_n 0, 1) := by decide +kernel
theorem dX8_chip_137 : decode cX8_chip 137 = .ok (.iconst 0, 1) := by decide +kernel
theorem dX8_chip_138 : decode cX8_chip 138 = .ok (.putfield 180, 3) := by decide +kernel
theorem dX8_chip_141 : decode cX8_chip 141 = .ok (.aload_n 0, 1) := by decide +kernel
theorem dX8_chip_142 : decode cX8_chip 142 = .ok (.getfield 173, 3) := by decide +kernel
theorem dX8_chip_145 : decode cX8_chip 145 = .ok (.iconst 1, 1) := by decide +kernel
theorem dX8_chip_146 : decode cX8_chip 146 = .ok (.isub, 1) := by decide +kernel
theorem dX8_chip_147 : decode cX8_chip 147 = .ok (.ireturn, 1) := by decide +kernel
theorem dX8_isStuff_0 : decode cX8_isStuff 0 = .ok (.aload_n 0, 1) := by decide +kernel
theorem dX8_isStuff_1 : decode cX8_isStuff 1 = .ok (.invokevirtual 157, 3) := by decide +kernel
theorem dX8_isStuff_4 : decode cX8_isStuff 4 = .ok (.aload_n 0, 1) := by decide +kernel
theorem dX8_isStuff_5 : decode cX8_isStuff 5 = .ok (.getfield 136, 3) := by decide +kernel
theorem dX8_isStuff_8 : decode cX8_isStuff 8 = .ok (.iconst 1, 1) := by decide +kernel
theorem dX8_isStuff_9 : decode cX8_isStuff 9 = .ok (.if_icmp .eq 5, 3) := by decide +kernel
theorem dX8_isStuff_12 : decode cX8_isStuff 12 = .ok (.iconst 0, 1) := by decide +kernel
theorem dX8_isStuff_13 : decode cX8_isStuff 13 = .ok (.ireturn, 1) := by decide +kernel
theorem dX8_isStuff_14 : decode cX8_isStuff 14 = .ok (.aload_n 0, 1) := by decide +kernel
theorem dX8_isStuff_15 : decode cX8_isStuff 15 = .ok (.getfield 149, 3) := by decide +kernel
theorem dX8_isStuff_18 : decode cX8_isStuff 18 = .ok (.istore_n 1, 1) := by decide +kernel
theorem dX8_isStuff_19 : decode cX8_isStuff 19 = .ok (.aload_n 0, 1) := by decide +kernel
theorem dX8_isStuff_20 : decode cX8_isStuff 20 = .ok (.invokevirtual 157, 3) := by decide +kernel
theorem dX8_isStuff_23 : decode cX8_isStuff 23 = .ok (.aload_n 0, 1) := by decide +kernel
theorem dX8_isStuff_24 : decode cX8_isStuff 24 = .ok (.iconst 0, 1) := by decide +kernel
theorem dX8_isStuff_25 : decode cX8_isStuff 25 = .ok (.sipush 999, 3) := by decide +kernel
theorem dX8_isStuff_28 : decode cX8_isStuff 28 = .ok (.invokevirtual 160, 3) := by decide +kernel
theorem dX8_isStuff_31 : decode cX8_isStuff 31 = .ok (.ifCond .ne 5, 3) := by decide +kernel
theorem dX8_isStuff_34 : decode cX8_isStuff 34 = .ok (.iconst 0, 1) := by decide +kernel
theorem dX8_isStuff_35 : decode cX8_isStuff 35 = .ok (.ireturn, 1) := by decide +kernel
theorem dX8_isStuff_36 : decode cX8_isStuff 36 = .ok (.aload_n 0, 1) := by decide +kernel
theorem dX8_isStuff_37 : decode cX8_isStuff 37 = .ok (.getfield 149, 3) := by decide +kernel
theorem dX8_isStuff_40 : decode cX8_isStuff 40 = .ok (.istore_n 2, 1) := by decide +kernel
theorem dX8_isStuff_41 : decode cX8_isStuff 41 = .ok (.aload_n 0, 1) := by decide +kernel
theorem dX8_isStuff_42 : decode cX8_isStuff 42 = .ok (.invokevirtual 157, 3) := by decide +kernel
theorem dX8_isStuff_45 : decode cX8_isStuff 45 = .ok (.aload_n 0, 1) := by decide +kernel
theorem dX8_isStuff_46 : decode cX8_isStuff 46 = .ok (.iload_n 2, 1) := by decide +kernel
theorem dX8_isStuff_47 : decode cX8_isStuff 47 = .ok (.sipush 999, 3) := by decide +kernel
theorem dX8_isStuff_50 : decode cX8_isStuff 50 = .ok (.invokevirtual 160, 3) := by decide +kernel
theorem dX8_isStuff_53 : decode cX8_isStuff 53 = .ok (.ifCond .ne 5, 3) := by decide +kernel
theorem dX8_isStuff_56 : decode cX8_isStuff 56 = .ok (.iconst 0, 1) := by decide +kernel
theorem dX8_isStuff_57 : decode cX8_isStuff 57 = .ok (.ireturn, 1) := by decide +kernel
theorem dX8_isStuff_58 : decode cX8_isStuff 58 = .ok (.aload_n 0, 1) := by decide +kernel
theorem dX8_isStuff_59 : decode cX8_isStuff 59 = .ok (.getfield 149, 3) := by decide +kernel
theorem dX8_isStuff_62 : decode cX8_isStuff 62 = .ok (.istore_n 3, 1) := by decide +kernel
theorem dX8_isStuff_63 : decode cX8_isStuff 63 = .ok (.aload_n 0, 1) := by decide +kernel
theorem dX8_isStuff_64 : decode cX8_isStuff 64 = .ok (.invokevirtual 157, 3) := by decide +kernel
theorem dX8_isStuff_67 : decode cX8_isStuff 67 = .ok (.aload_n 0, 1) := by decide +kernel
theorem dX8_isStuff_68 : decode cX8_isStuff 68 = .ok (.getfield 136, 3) := by decide +kernel
theorem dX8_isStuff_71 : decode cX8_isStuff 71 = .ok (.iconst 3, 1) := by decide +kernel
theorem dX8_isStuff_72 : decode cX8_isStuff 72 = .ok (.if_icmp .eq 5, 3) := by decide +kernel
theorem dX8_isStuff_75 : decode cX8_isStuff 75 = .ok (.iconst 0, 1) := by decide +kernel
theorem dX8_isStuff_76 : decode cX8_isStuff 76 = .ok (.ireturn, 1) := by decide +kernel
theorem dX8_isStuff_77 : decode cX8_isStuff 77 = .ok (.aload_n 0, 1) := by decide +kernel
theorem dX8_isStuff_78 : decode cX8_isStuff 78 = .ok (.getfield 49, 3) := by decide +kernel
theorem dX8_isStuff_81 : decode cX8_isStuff 81 = .ok (.iload_n 1, 1) := by decide +kernel
theorem dX8_isStuff_82 : decode cX8_isStuff 82 = .ok (.iload_n 2, 1) := by decide +kernel
theorem dX8_isStuff_83 : decode cX8_isStuff 83 = .ok (.iastore, 1) := by decide +kernel
theorem dX8_isStuff_84 : decode cX8_isStuff 84 = .ok (.aload_n 0, 1) := by decide +kernel
theorem dX8_isStuff_85 : decode cX8_isStuff 85 = .ok (.getfield 52, 3) := by decide +kernel
theorem dX8_isStuff_88 : decode cX8_isStuff 88 = .ok (.iload_n 1, 1) := by decide +kernel
theorem dX8_isStuff_89 : decode cX8_isStuff 89 = .ok (.iload_n 3, 1) := by decide +kernel
theorem dX8_isStuff_90 : decode cX8_isStuff 90 = .ok (.iastore, 1) := by decide +kernel
theorem dX8_isStuff_91 : decode cX8_isStuff 91 = .ok (.iconst 1, 1) := by decide +kernel
theorem dX8_isStuff_92 : decode cX8_isStuff 92 = .ok (.ireturn, 1) := by decide +kernel
theorem dX8_areAlike_0 : decode cX8_areAlike 0 = .ok (.aload_n 0, 1) := by decide +kernel
theorem dX8_areAlike_1 : decode cX8_areAlike 1 = .ok (.invokevirtual 157, 3) := by decide +kernel
theorem dX8_areAlike_4 : decode cX8_areAlike 4 = .ok (.aload_n 0, 1) := by decide +kernel
theorem dX8_areAlike_5 : decode cX8_areAlike 5 = .ok (.getfield 136, 3) := by decide +kernel
theorem dX8_areAlike_8 : decode cX8_areAlike 8 = .ok (.iconst 1, 1) := by decide +kernel
theorem dX8_areAlike_9 : decode cX8_areAlike 9 = .ok (.if_icmp .eq 5, 3) := by decide +kernel
theorem dX8_areAlike_12 : decode cX8_areAlike 12 = .ok (.iconst 0, 1) := by decide +kernel
theorem dX8_areAlike_13 : decode cX8_areAlike 13 = .ok (.ireturn, 1) := by decide +kernel
theorem dX8_areAlike_14 : decode cX8_areAlike 14 = .ok (.aload_n 0, 1) := by decide +kernel
theorem dX8_areAlike_15 : decode cX8_areAlike 15 = .ok (.getfield 149, 3) := by decide +kernel
theorem dX8_areAlike_18 : decode cX8_areAlike 18 = .ok (.istore_n 1, 1) := by decide +kernel
theorem dX8_areAlike_19 : decode cX8_areAlike 19 = .ok (.aload_n 0, 1) := by decide +kernel
theorem dX8_areAlike_20 : decode cX8_areAlike 20 = .ok (.invokevirtual 157, 3) := by decide +kernel
theorem dX8_areAlike_23 : decode cX8_areAlike 23 = .ok (.aload_n 0, 1) := by decide +kernel
theorem dX8_areAlike_24 : decode cX8_areAlike 24 = .ok (.getfield 136, 3) := by decide +kernel
theorem dX8_areAlike_27 : decode cX8_areAlike 27 = .ok (.iconst 1, 1) := by decide +kernel
theorem dX8_areAlike_28 : decode cX8_areAlike 28 = .ok (.if_icmp .ne 11, 3) := by decide +kernel
theorem dX8_areAlike_31 : decode cX8_areAlike 31 = .ok (.aload_n 0, 1) := by decide +kernel
theorem dX8_areAlike_32 : decode cX8_areAlike 32 = .ok (.getfield 149, 3) := by decide +kernel
theorem dX8_areAlike_35 : decode cX8_areAlike 35 = .ok (.iload_n 1, 1) := by decide +kernel
theorem dX8_areAlike_36 : decode cX8_areAlike 36 = .ok (.if_icmp .ne 5, 3) := by decide +kernel
theorem dX8_areAlike_39 : decode cX8_areAlike 39 = .ok (.iconst 0, 1) := by decide +kernel
theorem dX8_areAlike_40 : decode cX8_areAlike 40 = .ok (.ireturn, 1) := by decide +kernel
theorem dX8_areAlike_41 : decode cX8_areAlike 41 = .ok (.aload_n 0, 1) := by decide +kernel
theorem dX8_areAlike_42 : decode cX8_areAlike 42 = .ok (.getfield 149, 3) := by decide +kernel
theorem dX8_areAlike_45 : decode cX8_areAlike 45 = .ok (.istore_n 2, 1) := by decide +kernel
theorem dX8_areAlike_46 : decode cX8_areAlike 46 = .ok (.aload_n 0, 1) := by decide +kernel
theorem dX8_areAlike_47 : decode cX8_areAlike 47 = .ok (.invokevirtual 157, 3) := by decide +kernel
theorem dX8_areAlike_50 : decode cX8_areAlike 50 = .ok (.aload_n 0, 1) := by decide +kernel
theorem dX8_areAlike_51 : decode cX8_areAlike 51 = .ok (.getfield 136, 3) := by decide +kernel
theorem dX8_areAlike_54 : decode cX8_areAlike 54 = .ok (.iconst 3, 1) := by decide +kernel
theorem dX8_areAlike_55 : decode cX8_areAlike 55 = .ok (.if_icmp .eq 5, 3) := by decide +kernel
theorem dX8_areAlike_58 : decode cX8_areAlike 58 = .ok (.iconst 0, 1) := by decide +kernel
theorem dX8_areAlike_59 : decode cX8_areAlike 59 = .ok (.ireturn, 1) := by decide +kernel
theorem dX8_areAlike_60 : decode cX8_areAlike 60 = .ok (.aload_n 0, 1) := by decide +kernel
theorem dX8_areAlike_61 : decode cX8_areAlike 61 = .ok (.getfield 55, 3) := by decide +kernel
theorem dX8_areAlike_64 : decode cX8_areAlike 64 = .ok (.iload_n 1, 1) := by decide +kernel
theorem dX8_areAlike_65 : decode cX8_areAlike 65 = .ok (.aload_n 0, 1) := by decide +kernel
theorem dX8_areAlike_66 : decode cX8_areAlike 66 = .ok (.getfield 55, 3) := by decide +kernel
theorem dX8_areAlike_69 : decode cX8_areAlike 69 = .ok (.iload_n 1, 1) := by decide +kernel
theorem dX8_areAlike_70 : decode cX8_areAlike 70 = .ok (.iaload, 1) := by decide +kernel
theorem dX8_areAlike_71 : decode cX8_areAlike 71 = .ok (.iconst 1, 1) := by decide +kernel
theorem dX8_areAlike_72 : decode cX8_areAlike 72 = .ok (.iload_n 2, 1) := by decide +kernel
theorem dX8_areAlike_73 : decode cX8_areAlike 73 = .ok (.ishl, 1) := by decide +kernel
theorem dX8_areAlike_74 : decode cX8_areAlike 74 = .ok (.ior, 1) := by decide +kernel
theorem dX8_areAlike_75 : decode cX8_areAlike 75 = .ok (.iastore, 1) := by decide +kernel
theorem dX8_areAlike_76 : decode cX8_areAlike 76 = .ok (.aload_n 0, 1) := by decide +kernel
theorem dX8_areAlike_77 : decode cX8_areAlike 77 = .ok (.getfield 55, 3) := by decide +kernel
theorem dX8_areAlike_80 : decode cX8_areAlike 80 = .ok (.iload_n 2, 1) := by decide +kernel
theorem dX8_areAlike_81 : decode cX8_areAlike 81 = .ok (.aload_n 0, 1) := by decide +kernel
theorem dX8_areAlike_82 : decode cX8_areAlike 82 = .ok (.getfield 55, 3) := by decide +kernel
theorem dX8_areAlike_85 : decode cX8_areAlike 85 = .ok (.iload_n 2, 1) := by decide +kernel
theorem dX8_areAlike_86 : decode cX8_areAlike 86 = .ok (.iaload, 1) := by decide +kernel
theorem dX8_areAlike_87 : decode cX8_areAlike 87 = .ok (.iconst 1, 1) := by decide +kernel
theorem dX8_areAlike_88 : decode cX8_areAlike 88 = .ok (.iload_n 1, 1) := by decide +kernel
theorem dX8_areAlike_89 : decode cX8_areAlike 89 = .ok (.ishl, 1) := by decide +kernel
theorem dX8_areAlike_90 : decode cX8_areAlike 90 = .ok (.ior, 1) := by decide +kernel
theorem dX8_areAlike_91 : decode cX8_areAlike 91 = .ok (.iastore, 1) := by decide +kernel
theorem dX8_areAlike_92 : decode cX8_areAlike 92 = .ok (.iconst 1, 1) := by decide +kernel
theorem dX8_areAlike_93 : decode cX8_areAlike 93 = .ok (.ireturn, 1) := by decide +kernel
theorem dX8_isBill_0 : decode cX8_isBill 0 = .ok (.aload_n 0, 1) := by decide +kernel
theorem dX8_isBill_1 : decode cX8_isBill 1 = .ok (.getfield 184, 3) := by decide +kernel
theorem dX8_isBill_4 : decode cX8_isBill 4 = .ok (.bipush 8, 2) := by decide +kernel
theorem dX8_isBill_6 : decode cX8_isBill 6 = .ok (.if_icmp .ne 5, 3) := by decide +kernel
theorem dX8_isBill_9 : decode cX8_isBill 9 = .ok (.iconst 0, 1) := by decide +kernel
theorem dX8_isBill_10 : decode cX8_isBill 10 = .ok (.ireturn, 1) := by decide +kernel
theorem dX8_isBill_11 : decode cX8_isBill 11 = .ok (.aload_n 0, 1) := by decide +kernel
theorem dX8_isBill_12 : decode cX8_isBill 12 = .ok (.invokevirtual 157, 3) := by decide +kernel
theorem dX8_isBill_15 : decode cX8_isBill 15 = .ok (.aload_n 0, 1) := by decide +kernel
theorem dX8_isBill_16 : decode cX8_isBill 16 = .ok (.iconst 0, 1) := by decide +kernel
theorem dX8_isBill_17 : decode cX8_isBill 17 = .ok (.sipush 999, 3) := by decide +kernel
theorem dX8_isBill_20 : decode cX8_isBill 20 = .ok (.invokevirtual 160, 3) := by decide +kernel
theorem dX8_isBill_23 : decode cX8_isBill 23 = .ok (.ifCond .ne 5, 3) := by decide +kernel
theorem dX8_isBill_26 : decode cX8_isBill 26 = .ok (.iconst 0, 1) := by decide +kernel
theorem dX8_isBill_27 : decode cX8_isBill 27 = .ok (.ireturn, 1) := by decide +kernel
theorem dX8_isBill_28 : decode cX8_isBill 28 = .ok (.aload_n 0, 1) := by decide +kernel
theorem dX8_isBill_29 : decode cX8_isBill 29 = .ok (.getfield 58, 3) := by decide +kernel
theorem dX8_isBill_32 : decode cX8_isBill 32 = .ok (.aload_n 0, 1) := by decide +kernel
theorem dX8_isBill_33 : decode cX8_isBill 33 = .ok (.getfield 184, 3) := by decide +kernel
theorem dX8_isBill_36 : decode cX8_isBill 36 = .ok (.aload_n 0, 1) := by decide +kernel
theorem dX8_isBill_37 : decode cX8_isBill 37 = .ok (.getfield 149, 3) := by decide +kernel
theorem dX8_isBill_40 : decode cX8_isBill 40 = .ok (.iastore, 1) := by decide +kernel
theorem dX8_isBill_41 : decode cX8_isBill 41 = .ok (.aload_n 0, 1) := by decide +kernel
theorem dX8_isBill_42 : decode cX8_isBill 42 = .ok (.invokevirtual 157, 3) := by decide +kernel
theorem dX8_isBill_45 : decode cX8_isBill 45 = .ok (.aload_n 0, 1) := by decide +kernel
theorem dX8_isBill_46 : decode cX8_isBill 46 = .ok (.getfield 136, 3) := by decide +kernel
theorem dX8_isBill_49 : decode cX8_isBill 49 = .ok (.iconst 1, 1) := by decide +kernel
theorem dX8_isBill_50 : decode cX8_isBill 50 = .ok (.if_icmp .eq 5, 3) := by decide +kernel
theorem dX8_isBill_53 : decode cX8_isBill 53 = .ok (.iconst 0, 1) := by decide +kernel
theorem dX8_isBill_54 : decode cX8_isBill 54 = .ok (.ireturn, 1) := by decide +kernel
theorem dX8_isBill_55 : decode cX8_isBill 55 = .ok (.aload_n 0, 1) := by decide +kernel
theorem dX8_isBill_56 : decode cX8_isBill 56 = .ok (.getfield 61, 3) := by decide +kernel
theorem dX8_isBill_59 : decode cX8_isBill 59 = .ok (.aload_n 0, 1) := by decide +kernel
theorem dX8_isBill_60 : decode cX8_isBill 60 = .ok (.getfield 184, 3) := by decide +kernel
theorem dX8_isBill_63 : decode cX8_isBill 63 = .ok (.aload_n 0, 1) := by decide +kernel
theorem dX8_isBill_64 : decode cX8_isBill 64 = .ok (.getfield 149, 3) := by decide +kernel
theorem dX8_isBill_67 : decode cX8_isBill 67 = .ok (.iastore, 1) := by decide +kernel
theorem dX8_isBill_68 : decode cX8_isBill 68 = .ok (.aload_n 0, 1) := by decide +kernel
theorem dX8_isBill_69 : decode cX8_isBill 69 = .ok (.invokevirtual 157, 3) := by decide +kernel
theorem dX8_isBill_72 : decode cX8_isBill 72 = .ok (.aload_n 0, 1) := by decide +kernel
theorem dX8_isBill_73 : decode cX8_isBill 73 = .ok (.getfield 136, 3) := by decide +kernel
theorem dX8_isBill_76 : decode cX8_isBill 76 = .ok (.iconst 3, 1) := by decide +kernel
theorem dX8_isBill_77 : decode cX8_isBill 77 = .ok (.if_icmp .eq 5, 3) := by decide +kernel
theorem dX8_isBill_80 : decode cX8_isBill 80 = .ok (.iconst 0, 1) := by decide +kernel
theorem dX8_isBill_81 : decode cX8_isBill 81 = .ok (.ireturn, 1) := by decide +kernel
theorem dX8_isBill_82 : decode cX8_isBill 82 = .ok (.aload_n 0, 1) := by decide +kernel
theorem dX8_isBill_83 : decode cX8_isBill 83 = .ok (.dup, 1) := by decide +kernel
theorem dX8_isBill_84 : decode cX8_isBill 84 = .ok (.getfield 184, 3) := by decide +kernel
theorem dX8_isBill_87 : decode cX8_isBill 87 = .ok (.iconst 1, 1) := by decide +kernel
theorem dX8_isBill_88 : decode cX8_isBill 88 = .ok (.iadd, 1) := by decide +kernel
theorem dX8_isBill_89 : decode cX8_isBill 89 = .ok (.putfield 184, 3) := by decide +kernel
theorem dX8_isBill_92 : decode cX8_isBill 92 = .ok (.iconst 1, 1) := by decide +kernel
theorem dX8_isBill_93 : decode cX8_isBill 93 = .ok (.ireturn, 1) := by decide +kernel
theorem dX8_book_0 : decode cX8_book 0 = .ok (.iconst 0, 1) := by decide +kernel
theorem dX8_book_1 : decode cX8_book 1 = .ok (.istore_n 1, 1) := by decide +kernel
theorem dX8_book_2 : decode cX8_book 2 = .ok (.iload_n 1, 1) := by decide +kernel
theorem dX8_book_3 : decode cX8_book 3 = .ok (.bipush 12, 2) := by decide +kernel
theorem dX8_book_5 : decode cX8_book 5 = .ok (.if_icmp .ge 32, 3) := by decide +kernel
theorem dX8_book_8 : decode cX8_book 8 = .ok (.aload_n 0, 1) := by decide +kernel
theorem dX8_book_9 : decode cX8_book 9 = .ok (.getfield 49, 3) := by decide +kernel
theorem dX8_book_12 : decode cX8_book 12 = .ok (.iload_n 1, 1) := by decide +kernel
theorem dX8_book_13 : decode cX8_book 13 = .ok (.iconst 0, 1) := by decide +kernel
theorem dX8_book_14 : decode cX8_book 14 = .ok (.iastore, 1) := by decide +kernel
theorem dX8_book_15 : decode cX8_book 15 = .ok (.aload_n 0, 1) := by decide +kernel
theorem dX8_book_16 : decode cX8_book 16 = .ok (.getfield 52, 3) := by decide +kernel
theorem dX8_book_19 : decode cX8_book 19 = .ok (.iload_n 1, 1) := by decide +kernel
theorem dX8_book_20 : decode cX8_book 20 = .ok (.sipush 999, 3) := by decide +kernel
theorem dX8_book_23 : decode cX8_book 23 = .ok (.iastore, 1) := by decide +kernel
theorem dX8_book_24 : decode cX8_book 24 = .ok (.aload_n 0, 1) := by decide +kernel
theorem dX8_book_25 : decode cX8_book 25 = .ok (.getfield 55, 3) := by decide +kernel
theorem dX8_book_28 : decode cX8_book 28 = .ok (.iload_n 1, 1) := by decide +kernel
theorem dX8_book_29 : decode cX8_book 29 = .ok (.iconst 0, 1) := by decide +kernel
theorem dX8_book_30 : decode cX8_book 30 = .ok (.iastore, 1) := by decide +kernel
theorem dX8_book_31 : decode cX8_book 31 = .ok (.iinc 1 1, 3) := by decide +kernel
theorem dX8_book_34 : decode cX8_book 34 = .ok (.goto (-32), 3) := by decide +kernel
theorem dX8_book_37 : decode cX8_book 37 = .ok (.aload_n 0, 1) := by decide +kernel
theorem dX8_book_38 : decode cX8_book 38 = .ok (.iconst 0, 1) := by decide +kernel
theorem dX8_book_39 : decode cX8_book 39 = .ok (.putfield 184, 3) := by decide +kernel
theorem dX8_book_42 : decode cX8_book 42 = .ok (.aload_n 0, 1) := by decide +kernel
theorem dX8_book_43 : decode cX8_book 43 = .ok (.iconst 0, 1) := by decide +kernel
theorem dX8_book_44 : decode cX8_book 44 = .ok (.putfield 126, 3) := by decide +kernel
theorem dX8_book_47 : decode cX8_book 47 = .ok (.iconst 0, 1) := by decide +kernel
theorem dX8_book_48 : decode cX8_book 48 = .ok (.istore_n 1, 1) := by decide +kernel
theorem dX8_book_49 : decode cX8_book 49 = .ok (.aload_n 0, 1) := by decide +kernel
theorem dX8_book_50 : decode cX8_book 50 = .ok (.invokevirtual 157, 3) := by decide +kernel
theorem dX8_book_53 : decode cX8_book 53 = .ok (.aload_n 0, 1) := by decide +kernel
theorem dX8_book_54 : decode cX8_book 54 = .ok (.getfield 136, 3) := by decide +kernel
theorem dX8_book_57 : decode cX8_book 57 = .ok (.ifCond .eq 79, 3) := by decide +kernel
theorem dX8_book_60 : decode cX8_book 60 = .ok (.aload_n 0, 1) := by decide +kernel
theorem dX8_book_61 : decode cX8_book 61 = .ok (.getfield 136, 3) := by decide +kernel
theorem dX8_book_64 : decode cX8_book 64 = .ok (.bipush 6, 2) := by decide +kernel
theorem dX8_book_66 : decode cX8_book 66 = .ok (.if_icmp .ne 10, 3) := by decide +kernel
theorem dX8_book_69 : decode cX8_book 69 = .ok (.aload_n 0, 1) := by decide +kernel
theorem dX8_book_70 : decode cX8_book 70 = .ok (.invokevirtual 187, 3) := by decide +kernel
theorem dX8_book_73 : decode cX8_book 73 = .ok (.goto 40, 3) := by decide +kernel
theorem dX8_book_76 : decode cX8_book 76 = .ok (.aload_n 0, 1) := by decide +kernel
theorem dX8_book_77 : decode cX8_book 77 = .ok (.getfield 136, 3) := by decide +kernel
theorem dX8_book_80 : decode cX8_book 80 = .ok (.bipush 7, 2) := by decide +kernel
theorem dX8_book_82 : decode cX8_book 82 = .ok (.if_icmp .ne 10, 3) := by decide +kernel
theorem dX8_book_85 : decode cX8_book 85 = .ok (.aload_n 0, 1) := by decide +kernel
theorem dX8_book_86 : decode cX8_book 86 = .ok (.invokevirtual 190, 3) := by decide +kernel
theorem dX8_book_89 : decode cX8_book 89 = .ok (.goto 24, 3) := by decide +kernel
theorem dX8_book_92 : decode cX8_book 92 = .ok (.aload_n 0, 1) := by decide +kernel
theorem dX8_book_93 : decode cX8_book 93 = .ok (.getfield 136, 3) := by decide +kernel
theorem dX8_book_96 : decode cX8_book 96 = .ok (.bipush 8, 2) := by decide +kernel
theorem dX8_book_98 : decode cX8_book 98 = .ok (.if_icmp .ne 14, 3) := by decide +kernel
theorem dX8_book_101 : decode cX8_book 101 = .ok (.aload_n 0, 1) := by decide +kernel
theorem dX8_book_102 : decode cX8_book 102 = .ok (.invokevirtual 193, 3) := by decide +kernel
theorem dX8_book_105 : decode cX8_book 105 = .ok (.ifCond .eq 7, 3) := by decide +kernel
theorem dX8_book_108 : decode cX8_book 108 = .ok (.iconst 1, 1) := by decide +kernel
theorem dX8_book_109 : decode cX8_book 109 = .ok (.goto 4, 3) := by decide +kernel
theorem dX8_book_112 : decode cX8_book 112 = .ok (.iconst 0, 1) := by decide +kernel
theorem dX8_book_113 : decode cX8_book 113 = .ok (.istore_n 2, 1) := by decide +kernel
theorem dX8_book_114 : decode cX8_book 114 = .ok (.iload_n 2, 1) := by decide +kernel
theorem dX8_book_115 : decode cX8_book 115 = .ok (.ifCond .ne 11, 3) := by decide +kernel
theorem dX8_book_118 : decode cX8_book 118 = .ok (.bipush (-10), 2) := by decide +kernel
theorem dX8_book_120 : decode cX8_book 120 = .ok (.aload_n 0, 1) := by decide +kernel
theorem dX8_book_121 : decode cX8_book 121 = .ok (.getfield 133, 3) := by decide +kernel
theorem dX8_book_124 : decode cX8_book 124 = .ok (.isub, 1) := by decide +kernel
theorem dX8_book_125 : decode cX8_book 125 = .ok (.ireturn, 1) := by decide +kernel
theorem dX8_book_126 : decode cX8_book 126 = .ok (.iinc 1 1, 3) := by decide +kernel
theorem dX8_book_129 : decode cX8_book 129 = .ok (.aload_n 0, 1) := by decide +kernel
theorem dX8_book_130 : decode cX8_book 130 = .ok (.invokevirtual 157, 3) := by decide +kernel
theorem dX8_book_133 : decode cX8_book 133 = .ok (.goto (-80), 3) := by decide +kernel
theorem dX8_book_136 : decode cX8_book 136 = .ok (.iconst 0, 1) := by decide +kernel
theorem dX8_book_137 : decode cX8_book 137 = .ok (.istore_n 2, 1) := by decide +kernel
theorem dX8_book_138 : decode cX8_book 138 = .ok (.iload_n 2, 1) := by decide +kernel
theorem dX8_book_139 : decode cX8_book 139 = .ok (.bipush 12, 2) := by decide +kernel
theorem dX8_book_141 : decode cX8_book 141 = .ok (.if_icmp .ge 45, 3) := by decide +kernel
theorem dX8_book_144 : decode cX8_book 144 = .ok (.aload_n 0, 1) := by decide +kernel
theorem dX8_book_145 : decode cX8_book 145 = .ok (.getfield 34, 3) := by decide +kernel
theorem dX8_book_148 : decode cX8_book 148 = .ok (.iload_n 2, 1) := by decide +kernel
theorem dX8_book_149 : decode cX8_book 149 = .ok (.aload_n 0, 1) := by decide +kernel
theorem dX8_book_150 : decode cX8_book 150 = .ok (.getfield 49, 3) := by decide +kernel
theorem dX8_book_153 : decode cX8_book 153 = .ok (.iload_n 2, 1) := by decide +kernel
theorem dX8_book_154 : decode cX8_book 154 = .ok (.iaload, 1) := by decide +kernel
theorem dX8_book_155 : decode cX8_book 155 = .ok (.iastore, 1) := by decide +kernel
theorem dX8_book_156 : decode cX8_book 156 = .ok (.aload_n 0, 1) := by decide +kernel
theorem dX8_book_157 : decode cX8_book 157 = .ok (.getfield 37, 3) := by decide +kernel
theorem dX8_book_160 : decode cX8_book 160 = .ok (.iload_n 2, 1) := by decide +kernel
theorem dX8_book_161 : decode cX8_book 161 = .ok (.aload_n 0, 1) := by decide +kernel
theorem dX8_book_162 : decode cX8_book 162 = .ok (.getfield 52, 3) := by decide +kernel
theorem dX8_book_165 : decode cX8_book 165 = .ok (.iload_n 2, 1) := by decide +kernel
theorem dX8_book_166 : decode cX8_book 166 = .ok (.iaload, 1) := by decide +kernel
theorem dX8_book_167 : decode cX8_book 167 = .ok (.iastore, 1) := by decide +kernel
theorem dX8_book_168 : decode cX8_book 168 = .ok (.aload_n 0, 1) := by decide +kernel
theorem dX8_book_169 : decode cX8_book 169 = .ok (.getfield 40, 3) := by decide +kernel
theorem dX8_book_172 : decode cX8_book 172 = .ok (.iload_n 2, 1) := by decide +kernel
theorem dX8_book_173 : decode cX8_book 173 = .ok (.aload_n 0, 1) := by decide +kernel
theorem dX8_book_174 : decode cX8_book 174 = .ok (.getfield 55, 3) := by decide +kernel
theorem dX8_book_177 : decode cX8_book 177 = .ok (.iload_n 2, 1) := by decide +kernel
theorem dX8_book_178 : decode cX8_book 178 = .ok (.iaload, 1) := by decide +kernel
theorem dX8_book_179 : decode cX8_book 179 = .ok (.iastore, 1) := by decide +kernel
theorem dX8_book_180 : decode cX8_book 180 = .ok (.iinc 2 1, 3) := by decide +kernel
theorem dX8_book_183 : decode cX8_book 183 = .ok (.goto (-45), 3) := by decide +kernel
theorem dX8_book_186 : decode cX8_book 186 = .ok (.aload_n 0, 1) := by decide +kernel
theorem dX8_book_187 : decode cX8_book 187 = .ok (.aload_n 0, 1) := by decide +kernel
theorem dX8_book_188 : decode cX8_book 188 = .ok (.getfield 184, 3) := by decide +kernel
theorem dX8_book_191 : decode cX8_book 191 = .ok (.putfield 196, 3) := by decide +kernel
theorem dX8_book_194 : decode cX8_book 194 = .ok (.iconst 0, 1) := by decide +kernel
theorem dX8_book_195 : decode cX8_book 195 = .ok (.istore_n 2, 1) := by decide +kernel
theorem dX8_book_196 : decode cX8_book 196 = .ok (.iload_n 2, 1) := by decide +kernel
theorem dX8_book_197 : decode cX8_book 197 = .ok (.aload_n 0, 1) := by decide +kernel
theorem dX8_book_198 : decode cX8_book 198 = .ok (.getfield 196, 3) := by decide +kernel
theorem dX8_book_201 : decode cX8_book 201 = .ok (.if_icmp .ge 33, 3) := by decide +kernel
theorem dX8_book_204 : decode cX8_book 204 = .ok (.aload_n 0, 1) := by decide +kernel
theorem dX8_book_205 : decode cX8_book 205 = .ok (.getfield 43, 3) := by decide +kernel
theorem dX8_book_208 : decode cX8_book 208 = .ok (.iload_n 2, 1) := by decide +kernel
theorem dX8_book_209 : decode cX8_book 209 = .ok (.aload_n 0, 1) := by decide +kernel
theorem dX8_book_210 : decode cX8_book 210 = .ok (.getfield 58, 3) := by decide +kernel
theorem dX8_book_213 : decode cX8_book 213 = .ok (.iload_n 2, 1) := by decide +kernel
theorem dX8_book_214 : decode cX8_book 214 = .ok (.iaload, 1) := by decide +kernel
theorem dX8_book_215 : decode cX8_book 215 = .ok (.iastore, 1) := by decide +kernel
theorem dX8_book_216 : decode cX8_book 216 = .ok (.aload_n 0, 1) := by decide +kernel
theorem dX8_book_217 : decode cX8_book 217 = .ok (.getfield 46, 3) := by decide +kernel
theorem dX8_book_220 : decode cX8_book 220 = .ok (.iload_n 2, 1) := by decide +kernel
theorem dX8_book_221 : decode cX8_book 221 = .ok (.aload_n 0, 1) := by decide +kernel
theorem dX8_book_222 : decode cX8_book 222 = .ok (.getfield 61, 3) := by decide +kernel
theorem dX8_book_225 : decode cX8_book 225 = .ok (.iload_n 2, 1) := by decide +kernel
theorem dX8_book_226 : decode cX8_book 226 = .ok (.iaload, 1) := by decide +kernel
theorem dX8_book_227 : decode cX8_book 227 = .ok (.iastore, 1) := by decide +kernel
theorem dX8_book_228 : decode cX8_book 228 = .ok (.iinc 2 1, 3) := by decide +kernel
theorem dX8_book_231 : decode cX8_book 231 = .ok (.goto (-35), 3) := by decide +kernel
theorem dX8_book_234 : decode cX8_book 234 = .ok (.aload_n 0, 1) := by decide +kernel
theorem dX8_book_235 : decode cX8_book 235 = .ok (.iconst 0, 1) := by decide +kernel
theorem dX8_book_236 : decode cX8_book 236 = .ok (.putfield 120, 3) := by decide +kernel
theorem dX8_book_239 : decode cX8_book 239 = .ok (.aload_n 0, 1) := by decide +kernel
theorem dX8_book_240 : decode cX8_book 240 = .ok (.iconst 0, 1) := by decide +kernel
theorem dX8_book_241 : decode cX8_book 241 = .ok (.putfield 180, 3) := by decide +kernel
theorem dX8_book_244 : decode cX8_book 244 = .ok (.iload_n 1, 1) := by decide +kernel
theorem dX8_book_245 : decode cX8_book 245 = .ok (.ireturn, 1) := by decide +kernel
theorem dX8_isChipAt_0 : decode cX8_isChipAt 0 = .ok (.iload_n 1, 1) := by decide +kernel
theorem dX8_isChipAt_1 : decode cX8_isChipAt 1 = .ok (.iconst 0, 1) := by decide +kernel
theorem dX8_isChipAt_2 : decode cX8_isChipAt 2 = .ok (.aload_n 0, 1) := by decide +kernel
theorem dX8_isChipAt_3 : decode cX8_isChipAt 3 = .ok (.getfield 173, 3) := by decide +kernel
theorem dX8_isChipAt_6 : decode cX8_isChipAt 6 = .ok (.iconst 1, 1) := by decide +kernel
theorem dX8_isChipAt_7 : decode cX8_isChipAt 7 = .ok (.isub, 1) := by decide +kernel
theorem dX8_isChipAt_8 : decode cX8_isChipAt 8 = .ok (.invokestatic 116, 3) := by decide +kernel
theorem dX8_isChipAt_11 : decode cX8_isChipAt 11 = .ok (.ireturn, 1) := by decide +kernel
theorem dX8_drop_0 : decode cX8_drop 0 = .ok (.aload_n 0, 1) := by decide +kernel
theorem dX8_drop_1 : decode cX8_drop 1 = .ok (.iload_n 1, 1) := by decide +kernel
theorem dX8_drop_2 : decode cX8_drop 2 = .ok (.invokevirtual 199, 3) := by decide +kernel
theorem dX8_drop_5 : decode cX8_drop 5 = .ok (.ifCond .ne 5, 3) := by decide +kernel
theorem dX8_drop_8 : decode cX8_drop 8 = .ok (.iconst (-1), 1) := by decide +kernel
theorem dX8_drop_9 : decode cX8_drop 9 = .ok (.ireturn, 1) := by decide +kernel
theorem dX8_drop_10 : decode cX8_drop 10 = .ok (.aload_n 0, 1) := by decide +kernel
theorem dX8_drop_11 : decode cX8_drop 11 = .ok (.dup, 1) := by decide +kernel
theorem dX8_drop_12 : decode cX8_drop 12 = .ok (.getfield 173, 3) := by decide +kernel
theorem dX8_drop_15 : decode cX8_drop 15 = .ok (.iconst 1, 1) := by decide +kernel
theorem dX8_drop_16 : decode cX8_drop 16 = .ok (.isub, 1) := by decide +kernel
theorem dX8_drop_17 : decode cX8_drop 17 = .ok (.putfield 173, 3) := by decide +kernel
theorem dX8_drop_20 : decode cX8_drop 20 = .ok (.iload_n 1, 1) := by decide +kernel
theorem dX8_drop_21 : decode cX8_drop 21 = .ok (.istore_n 2, 1) := by decide +kernel
theorem dX8_drop_22 : decode cX8_drop 22 = .ok (.iload_n 2, 1) := by decide +kernel
theorem dX8_drop_23 : decode cX8_drop 23 = .ok (.aload_n 0, 1) := by decide +kernel
theorem dX8_drop_24 : decode cX8_drop 24 = .ok (.getfield 173, 3) := by decide +kernel
theorem dX8_drop_27 : decode cX8_drop 27 = .ok (.if_icmp .ge 113, 3) := by decide +kernel
theorem dX8_drop_30 : decode cX8_drop 30 = .ok (.aload_n 0, 1) := by decide +kernel
theorem dX8_drop_31 : decode cX8_drop 31 = .ok (.getfield 13, 3) := by decide +kernel
theorem dX8_drop_34 : decode cX8_drop 34 = .ok (.iload_n 2, 1) := by decide +kernel
theorem dX8_drop_35 : decode cX8_drop 35 = .ok (.aload_n 0, 1) := by decide +kernel
theorem dX8_drop_36 : decode cX8_drop 36 = .ok (.getfield 13, 3) := by decide +kernel
theorem dX8_drop_39 : decode cX8_drop 39 = .ok (.iload_n 2, 1) := by decide +kernel
theorem dX8_drop_40 : decode cX8_drop 40 = .ok (.iconst 1, 1) := by decide +kernel
theorem dX8_drop_41 : decode cX8_drop 41 = .ok (.iadd, 1) := by decide +kernel
theorem dX8_drop_42 : decode cX8_drop 42 = .ok (.iaload, 1) := by decide +kernel
theorem dX8_drop_43 : decode cX8_drop 43 = .ok (.iastore, 1) := by decide +kernel
theorem dX8_drop_44 : decode cX8_drop 44 = .ok (.aload_n 0, 1) := by decide +kernel
theorem dX8_drop_45 : decode cX8_drop 45 = .ok (.getfield 16, 3) := by decide +kernel
theorem dX8_drop_48 : decode cX8_drop 48 = .ok (.iload_n 2, 1) := by decide +kernel
theorem dX8_drop_49 : decode cX8_drop 49 = .ok (.aload_n 0, 1) := by decide +kernel
theorem dX8_drop_50 : decode cX8_drop 50 = .ok (.getfield 16, 3) := by decide +kernel
theorem dX8_drop_53 : decode cX8_drop 53 = .ok (.iload_n 2, 1) := by decide +kernel
theorem dX8_drop_54 : decode cX8_drop 54 = .ok (.iconst 1, 1) := by decide +kernel
theorem dX8_drop_55 : decode cX8_drop 55 = .ok (.iadd, 1) := by decide +kernel
theorem dX8_drop_56 : decode cX8_drop 56 = .ok (.iaload, 1) := by decide +kernel
theorem dX8_drop_57 : decode cX8_drop 57 = .ok (.iastore, 1) := by decide +kernel
theorem dX8_drop_58 : decode cX8_drop 58 = .ok (.aload_n 0, 1) := by decide +kernel
theorem dX8_drop_59 : decode cX8_drop 59 = .ok (.getfield 19, 3) := by decide +kernel
theorem dX8_drop_62 : decode cX8_drop 62 = .ok (.iload_n 2, 1) := by decide +kernel
theorem dX8_drop_63 : decode cX8_drop 63 = .ok (.aload_n 0, 1) := by decide +kernel
theorem dX8_drop_64 : decode cX8_drop 64 = .ok (.getfield 19, 3) := by decide +kernel
theorem dX8_drop_67 : decode cX8_drop 67 = .ok (.iload_n 2, 1) := by decide +kernel
theorem dX8_drop_68 : decode cX8_drop 68 = .ok (.iconst 1, 1) := by decide +kernel
theorem dX8_drop_69 : decode cX8_drop 69 = .ok (.iadd, 1) := by decide +kernel
theorem dX8_drop_70 : decode cX8_drop 70 = .ok (.iaload, 1) := by decide +kernel
theorem dX8_drop_71 : decode cX8_drop 71 = .ok (.iastore, 1) := by decide +kernel
theorem dX8_drop_72 : decode cX8_drop 72 = .ok (.iconst 0, 1) := by decide +kernel
theorem dX8_drop_73 : decode cX8_drop 73 = .ok (.istore_n 3, 1) := by decide +kernel
theorem dX8_drop_74 : decode cX8_drop 74 = .ok (.iload_n 3, 1) := by decide +kernel
theorem dX8_drop_75 : decode cX8_drop 75 = .ok (.bipush 10, 2) := by decide +kernel
theorem dX8_drop_77 : decode cX8_drop 77 = .ok (.if_icmp .ge 57, 3) := by decide +kernel
theorem dX8_drop_80 : decode cX8_drop 80 = .ok (.aload_n 0, 1) := by decide +kernel
theorem dX8_drop_81 : decode cX8_drop 81 = .ok (.getfield 22, 3) := by decide +kernel
theorem dX8_drop_84 : decode cX8_drop 84 = .ok (.bipush 10, 2) := by decide +kernel
theorem dX8_drop_86 : decode cX8_drop 86 = .ok (.iload_n 2, 1) := by decide +kernel
theorem dX8_drop_87 : decode cX8_drop 87 = .ok (.imul, 1) := by decide +kernel
theorem dX8_drop_88 : decode cX8_drop 88 = .ok (.iload_n 3, 1) := by decide +kernel
theorem dX8_drop_89 : decode cX8_drop 89 = .ok (.iadd, 1) := by decide +kernel
theorem dX8_drop_90 : decode cX8_drop 90 = .ok (.aload_n 0, 1) := by decide +kernel
theorem dX8_drop_91 : decode cX8_drop 91 = .ok (.getfield 22, 3) := by decide +kernel
theorem dX8_drop_94 : decode cX8_drop 94 = .ok (.bipush 10, 2) := by decide +kernel
theorem dX8_drop_96 : decode cX8_drop 96 = .ok (.iload_n 2, 1) := by decide +kernel
theorem dX8_drop_97 : decode cX8_drop 97 = .ok (.iconst 1, 1) := by decide +kernel
theorem dX8_drop_98 : decode cX8_drop 98 = .ok (.iadd, 1) := by decide +kernel
theorem dX8_drop_99 : decode cX8_drop 99 = .ok (.imul, 1) := by decide +kernel
theorem dX8_drop_100 : decode cX8_drop 100 = .ok (.iload_n 3, 1) := by decide +kernel
theorem dX8_drop_101 : decode cX8_drop 101 = .ok (.iadd, 1) := by decide +kernel
theorem dX8_drop_102 : decode cX8_drop 102 = .ok (.iaload, 1) := by decide +kernel
theorem dX8_drop_103 : decode cX8_drop 103 = .ok (.iastore, 1) := by decide +kernel
theorem dX8_drop_104 : decode cX8_drop 104 = .ok (.aload_n 0, 1) := by decide +kernel
theorem dX8_drop_105 : decode cX8_drop 105 = .ok (.getfield 25, 3) := by decide +kernel
theorem dX8_drop_108 : decode cX8_drop 108 = .ok (.bipush 10, 2) := by decide +kernel
theorem dX8_drop_110 : decode cX8_drop 110 = .ok (.iload_n 2, 1) := by decide +kernel
theorem dX8_drop_111 : decode cX8_drop 111 = .ok (.imul, 1) := by decide +kernel
theorem dX8_drop_112 : decode cX8_drop 112 = .ok (.iload_n 3, 1) := by decide +kernel
theorem dX8_drop_113 : decode cX8_drop 113 = .ok (.iadd, 1) := by decide +kernel
theorem dX8_drop_114 : decode cX8_drop 114 = .ok (.aload_n 0, 1) := by decide +kernel
theorem dX8_drop_115 : decode cX8_drop 115 = .ok (.getfield 25, 3) := by decide +kernel
theorem dX8_drop_118 : decode cX8_drop 118 = .ok (.bipush 10, 2) := by decide +kernel
theorem dX8_drop_120 : decode cX8_drop 120 = .ok (.iload_n 2, 1) := by decide +kernel
theorem dX8_drop_121 : decode cX8_drop 121 = .ok (.iconst 1, 1) := by decide +kernel
theorem dX8_drop_122 : decode cX8_drop 122 = .ok (.iadd, 1) := by decide +kernel
theorem dX8_drop_123 : decode cX8_drop 123 = .ok (.imul, 1) := by decide +kernel
theorem dX8_drop_124 : decode cX8_drop 124 = .ok (.iload_n 3, 1) := by decide +kernel
theorem dX8_drop_125 : decode cX8_drop 125 = .ok (.iadd, 1) := by decide +kernel
theorem dX8_drop_126 : decode cX8_drop 126 = .ok (.iaload, 1) := by decide +kernel
theorem dX8_drop_127 : decode cX8_drop 127 = .ok (.iastore, 1) := by decide +kernel
theorem dX8_drop_128 : decode cX8_drop 128 = .ok (.iinc 3 1, 3) := by decide +kernel
theorem dX8_drop_131 : decode cX8_drop 131 = .ok (.goto (-57), 3) := by decide +kernel
theorem dX8_drop_134 : decode cX8_drop 134 = .ok (.iinc 2 1, 3) := by decide +kernel
theorem dX8_drop_137 : decode cX8_drop 137 = .ok (.goto (-115), 3) := by decide +kernel
theorem dX8_drop_140 : decode cX8_drop 140 = .ok (.aload_n 0, 1) := by decide +kernel
theorem dX8_drop_141 : decode cX8_drop 141 = .ok (.iconst 0, 1) := by decide +kernel
theorem dX8_drop_142 : decode cX8_drop 142 = .ok (.putfield 180, 3) := by decide +kernel
theorem dX8_drop_145 : decode cX8_drop 145 = .ok (.aload_n 0, 1) := by decide +kernel
theorem dX8_drop_146 : decode cX8_drop 146 = .ok (.getfield 173, 3) := by decide +kernel
theorem dX8_drop_149 : decode cX8_drop 149 = .ok (.ireturn, 1) := by decide +kernel
theorem dX8_about_0 : decode cX8_about 0 = .ok (.aload_n 0, 1) := by decide +kernel
theorem dX8_about_1 : decode cX8_about 1 = .ok (.iload_n 1, 1) := by decide +kernel
theorem dX8_about_2 : decode cX8_about 2 = .ok (.invokevirtual 199, 3) := by decide +kernel
theorem dX8_about_5 : decode cX8_about 5 = .ok (.ifCond .eq 12, 3) := by decide +kernel
theorem dX8_about_8 : decode cX8_about 8 = .ok (.iload_n 2, 1) := by decide +kernel
theorem dX8_about_9 : decode cX8_about 9 = .ok (.iconst 0, 1) := by decide +kernel
theorem dX8_about_10 : decode cX8_about 10 = .ok (.iconst 2, 1) := by decide +kernel
theorem dX8_about_11 : decode cX8_about 11 = .ok (.invokestatic 116, 3) := by decide +kernel
theorem dX8_about_14 : decode cX8_about 14 = .ok (.ifCond .ne 5, 3) := by decide +kernel
theorem dX8_about_17 : decode cX8_about 17 = .ok (.iconst (-1), 1) := by decide +kernel
theorem dX8_about_18 : decode cX8_about 18 = .ok (.ireturn, 1) := by decide +kernel
theorem dX8_about_19 : decode cX8_about 19 = .ok (.iload_n 2, 1) := by decide +kernel
theorem dX8_about_20 : decode cX8_about 20 = .ok (.ifCond .ne 12, 3) := by decide +kernel
theorem dX8_about_23 : decode cX8_about 23 = .ok (.aload_n 0, 1) := by decide +kernel
theorem dX8_about_24 : decode cX8_about 24 = .ok (.getfield 13, 3) := by decide +kernel
theorem dX8_about_27 : decode cX8_about 27 = .ok (.iload_n 1, 1) := by decide +kernel
theorem dX8_about_28 : decode cX8_about 28 = .ok (.iaload, 1) := by decide +kernel
theorem dX8_about_29 : decode cX8_about 29 = .ok (.goto 23, 3) := by decide +kernel
theorem dX8_about_32 : decode cX8_about 32 = .ok (.iload_n 2, 1) := by decide +kernel
theorem dX8_about_33 : decode cX8_about 33 = .ok (.iconst 1, 1) := by decide +kernel
theorem dX8_about_34 : decode cX8_about 34 = .ok (.if_icmp .ne 12, 3) := by decide +kernel
theorem dX8_about_37 : decode cX8_about 37 = .ok (.aload_n 0, 1) := by decide +kernel
theorem dX8_about_38 : decode cX8_about 38 = .ok (.getfield 16, 3) := by decide +kernel
theorem dX8_about_41 : decode cX8_about 41 = .ok (.iload_n 1, 1) := by decide +kernel
theorem dX8_about_42 : decode cX8_about 42 = .ok (.iaload, 1) := by decide +kernel
theorem dX8_about_43 : decode cX8_about 43 = .ok (.goto 9, 3) := by decide +kernel
theorem dX8_about_46 : decode cX8_about 46 = .ok (.aload_n 0, 1) := by decide +kernel
theorem dX8_about_47 : decode cX8_about 47 = .ok (.getfield 19, 3) := by decide +kernel
theorem dX8_about_50 : decode cX8_about 50 = .ok (.iload_n 1, 1) := by decide +kernel
theorem dX8_about_51 : decode cX8_about 51 = .ok (.iaload, 1) := by decide +kernel
theorem dX8_about_52 : decode cX8_about 52 = .ok (.ireturn, 1) := by decide +kernel
theorem dX8_isCoat_0 : decode cX8_isCoat 0 = .ok (.aload_n 0, 1) := by decide +kernel
theorem dX8_isCoat_1 : decode cX8_isCoat 1 = .ok (.iload_n 1, 1) := by decide +kernel
theorem dX8_isCoat_2 : decode cX8_isCoat 2 = .ok (.invokevirtual 199, 3) := by decide +kernel
theorem dX8_isCoat_5 : decode cX8_isCoat 5 = .ok (.ifCond .eq 23, 3) := by decide +kernel
theorem dX8_isCoat_8 : decode cX8_isCoat 8 = .ok (.iload_n 2, 1) := by decide +kernel
theorem dX8_isCoat_9 : decode cX8_isCoat 9 = .ok (.iconst 0, 1) := by decide +kernel
theorem dX8_isCoat_10 : decode cX8_isCoat 10 = .ok (.aload_n 0, 1) := by decide +kernel
theorem dX8_isCoat_11 : decode cX8_isCoat 11 = .ok (.getfield 19, 3) := by decide +kernel
theorem dX8_isCoat_14 : decode cX8_isCoat 14 = .ok (.iload_n 1, 1) := by decide +kernel
theorem dX8_isCoat_15 : decode cX8_isCoat 15 = .ok (.iaload, 1) := by decide +kernel
theorem dX8_isCoat_16 : decode cX8_isCoat 16 = .ok (.iconst 1, 1) := by decide +kernel
theorem dX8_isCoat_17 : decode cX8_isCoat 17 = .ok (.isub, 1) := by decide +kernel
theorem dX8_isCoat_18 : decode cX8_isCoat 18 = .ok (.invokestatic 116, 3) := by decide +kernel
theorem dX8_isCoat_21 : decode cX8_isCoat 21 = .ok (.ifCond .eq 7, 3) := by decide +kernel
theorem dX8_isCoat_24 : decode cX8_isCoat 24 = .ok (.iconst 1, 1) := by decide +kernel
theorem dX8_isCoat_25 : decode cX8_isCoat 25 = .ok (.goto 4, 3) := by decide +kernel
theorem dX8_isCoat_28 : decode cX8_isCoat 28 = .ok (.iconst 0, 1) := by decide +kernel
theorem dX8_isCoat_29 : decode cX8_isCoat 29 = .ok (.ireturn, 1) := by decide +kernel
theorem dX8_coat_0 : decode cX8_coat 0 = .ok (.aload_n 0, 1) := by decide +kernel
theorem dX8_coat_1 : decode cX8_coat 1 = .ok (.iload_n 1, 1) := by decide +kernel
theorem dX8_coat_2 : decode cX8_coat 2 = .ok (.iload_n 2, 1) := by decide +kernel
theorem dX8_coat_3 : decode cX8_coat 3 = .ok (.invokevirtual 202, 3) := by decide +kernel
theorem dX8_coat_6 : decode cX8_coat 6 = .ok (.ifCond .eq 12, 3) := by decide +kernel
theorem dX8_coat_9 : decode cX8_coat 9 = .ok (.iload_n 3, 1) := by decide +kernel
theorem dX8_coat_10 : decode cX8_coat 10 = .ok (.iconst 0, 1) := by decide +kernel
theorem dX8_coat_11 : decode cX8_coat 11 = .ok (.iconst 2, 1) := by decide +kernel
theorem dX8_coat_12 : decode cX8_coat 12 = .ok (.invokestatic 116, 3) := by decide +kernel
theorem dX8_coat_15 : decode cX8_coat 15 = .ok (.ifCond .ne 5, 3) := by decide +kernel
theorem dX8_coat_18 : decode cX8_coat 18 = .ok (.iconst (-1), 1) := by decide +kernel
theorem dX8_coat_19 : decode cX8_coat 19 = .ok (.ireturn, 1) := by decide +kernel
theorem dX8_coat_20 : decode cX8_coat 20 = .ok (.iload_n 3, 1) := by decide +kernel
theorem dX8_coat_21 : decode cX8_coat 21 = .ok (.iconst 2, 1) := by decide +kernel
theorem dX8_coat_22 : decode cX8_coat 22 = .ok (.if_icmp .ne 19, 3) := by decide +kernel
theorem dX8_coat_25 : decode cX8_coat 25 = .ok (.aload_n 0, 1) := by decide +kernel
theorem dX8_coat_26 : decode cX8_coat 26 = .ok (.invokevirtual 205, 3) := by decide +kernel
theorem dX8_coat_29 : decode cX8_coat 29 = .ok (.aload_n 0, 1) := by decide +kernel
theorem dX8_coat_30 : decode cX8_coat 30 = .ok (.getfield 104, 3) := by decide +kernel
theorem dX8_coat_33 : decode cX8_coat 33 = .ok (.bipush 10, 2) := by decide +kernel
theorem dX8_coat_35 : decode cX8_coat 35 = .ok (.iload_n 1, 1) := by decide +kernel
theorem dX8_coat_36 : decode cX8_coat 36 = .ok (.imul, 1) := by decide +kernel
theorem dX8_coat_37 : decode cX8_coat 37 = .ok (.iload_n 2, 1) := by decide +kernel
theorem dX8_coat_38 : decode cX8_coat 38 = .ok (.iadd, 1) := by decide +kernel
theorem dX8_coat_39 : decode cX8_coat 39 = .ok (.iaload, 1) := by decide +kernel
theorem dX8_coat_40 : decode cX8_coat 40 = .ok (.ireturn, 1) := by decide +kernel
theorem dX8_coat_41 : decode cX8_coat 41 = .ok (.iload_n 3, 1) := by decide +kernel
theorem dX8_coat_42 : decode cX8_coat 42 = .ok (.ifCond .ne 17, 3) := by decide +kernel
theorem dX8_coat_45 : decode cX8_coat 45 = .ok (.aload_n 0, 1) := by decide +kernel
theorem dX8_coat_46 : decode cX8_coat 46 = .ok (.getfield 22, 3) := by decide +kernel
theorem dX8_coat_49 : decode cX8_coat 49 = .ok (.bipush 10, 2) := by decide +kernel
theorem dX8_coat_51 : decode cX8_coat 51 = .ok (.iload_n 1, 1) := by decide +kernel
theorem dX8_coat_52 : decode cX8_coat 52 = .ok (.imul, 1) := by decide +kernel
theorem dX8_coat_53 : decode cX8_coat 53 = .ok (.iload_n 2, 1) := by decide +kernel
theorem dX8_coat_54 : decode cX8_coat 54 = .ok (.iadd, 1) := by decide +kernel
theorem dX8_coat_55 : decode cX8_coat 55 = .ok (.iaload, 1) := by decide +kernel
theorem dX8_coat_56 : decode cX8_coat 56 = .ok (.goto 14, 3) := by decide +kernel
theorem dX8_coat_59 : decode cX8_coat 59 = .ok (.aload_n 0, 1) := by decide +kernel
theorem dX8_coat_60 : decode cX8_coat 60 = .ok (.getfield 25, 3) := by decide +kernel
theorem dX8_coat_63 : decode cX8_coat 63 = .ok (.bipush 10, 2) := by decide +kernel
theorem dX8_coat_65 : decode cX8_coat 65 = .ok (.iload_n 1, 1) := by decide +kernel
theorem dX8_coat_66 : decode cX8_coat 66 = .ok (.imul, 1) := by decide +kernel
theorem dX8_coat_67 : decode cX8_coat 67 = .ok (.iload_n 2, 1) := by decide +kernel
theorem dX8_coat_68 : decode cX8_coat 68 = .ok (.iadd, 1) := by decide +kernel
theorem dX8_coat_69 : decode cX8_coat 69 = .ok (.iaload, 1) := by decide +kernel
theorem dX8_coat_70 : decode cX8_coat 70 = .ok (.ireturn, 1) := by decide +kernel
theorem dX8_colour_0 : decode cX8_colour 0 = .ok (.iload_n 1, 1) := by decide +kernel
theorem dX8_colour_1 : decode cX8_colour 1 = .ok (.iconst 0, 1) := by decide +kernel
theorem dX8_colour_2 : decode cX8_colour 2 = .ok (.bipush 11, 2) := by decide +kernel
theorem dX8_colour_4 : decode cX8_colour 4 = .ok (.invokestatic 116, 3) := by decide +kernel
theorem dX8_colour_7 : decode cX8_colour 7 = .ok (.ifCond .eq 12, 3) := by decide +kernel
theorem dX8_colour_10 : decode cX8_colour 10 = .ok (.iload_n 2, 1) := by decide +kernel
theorem dX8_colour_11 : decode cX8_colour 11 = .ok (.iconst 0, 1) := by decide +kernel
theorem dX8_colour_12 : decode cX8_colour 12 = .ok (.iconst 2, 1) := by decide +kernel
theorem dX8_colour_13 : decode cX8_colour 13 = .ok (.invokestatic 116, 3) := by decide +kernel
theorem dX8_colour_16 : decode cX8_colour 16 = .ok (.ifCond .ne 5, 3) := by decide +kernel
theorem dX8_colour_19 : decode cX8_colour 19 = .ok (.iconst (-1), 1) := by decide +kernel
theorem dX8_colour_20 : decode cX8_colour 20 = .ok (.ireturn, 1) := by decide +kernel
theorem dX8_colour_21 : decode cX8_colour 21 = .ok (.iload_n 2, 1) := by decide +kernel
theorem dX8_colour_22 : decode cX8_colour 22 = .ok (.ifCond .ne 12, 3) := by decide +kernel
theorem dX8_colour_25 : decode cX8_colour 25 = .ok (.aload_n 0, 1) := by decide +kernel
theorem dX8_colour_26 : decode cX8_colour 26 = .ok (.getfield 34, 3) := by decide +kernel
theorem dX8_colour_29 : decode cX8_colour 29 = .ok (.iload_n 1, 1) := by decide +kernel
theorem dX8_colour_30 : decode cX8_colour 30 = .ok (.iaload, 1) := by decide +kernel
theorem dX8_colour_31 : decode cX8_colour 31 = .ok (.goto 23, 3) := by decide +kernel
theorem dX8_colour_34 : decode cX8_colour 34 = .ok (.iload_n 2, 1) := by decide +kernel
theorem dX8_colour_35 : decode cX8_colour 35 = .ok (.iconst 1, 1) := by decide +kernel
theorem dX8_colour_36 : decode cX8_colour 36 = .ok (.if_icmp .ne 12, 3) := by decide +kernel
theorem dX8_colour_39 : decode cX8_colour 39 = .ok (.aload_n 0, 1) := by decide +kernel
theorem dX8_colour_40 : decode cX8_colour 40 = .ok (.getfield 37, 3) := by decide +kernel
theorem dX8_colour_43 : decode cX8_colour 43 = .ok (.iload_n 1, 1) := by decide +kernel
theorem dX8_colour_44 : decode cX8_colour 44 = .ok (.iaload, 1) := by decide +kernel
theorem dX8_colour_45 : decode cX8_colour 45 = .ok (.goto 9, 3) := by decide +kernel
theorem dX8_colour_48 : decode cX8_colour 48 = .ok (.aload_n 0, 1) := by decide +kernel
theorem dX8_colour_49 : decode cX8_colour 49 = .ok (.getfield 40, 3) := by decide +kernel
theorem dX8_colour_52 : decode cX8_colour 52 = .ok (.iload_n 1, 1) := by decide +kernel
theorem dX8_colour_53 : decode cX8_colour 53 = .ok (.iaload, 1) := by decide +kernel
theorem dX8_colour_54 : decode cX8_colour 54 = .ok (.ireturn, 1) := by decide +kernel
theorem dX8_tune_0 : decode cX8_tune 0 = .ok (.iload_n 1, 1) := by decide +kernel
theorem dX8_tune_1 : decode cX8_tune 1 = .ok (.ifCond .ne 13, 3) := by decide +kernel
theorem dX8_tune_4 : decode cX8_tune 4 = .ok (.iload_n 2, 1) := by decide +kernel
theorem dX8_tune_5 : decode cX8_tune 5 = .ok (.iconst 1, 1) := by decide +kernel
theorem dX8_tune_6 : decode cX8_tune 6 = .ok (.bipush 50, 2) := by decide +kernel
theorem dX8_tune_8 : decode cX8_tune 8 = .ok (.invokestatic 116, 3) := by decide +kernel
theorem dX8_tune_11 : decode cX8_tune 11 = .ok (.goto 67, 3) := by decide +kernel
theorem dX8_tune_14 : decode cX8_tune 14 = .ok (.iload_n 1, 1) := by decide +kernel
theorem dX8_tune_15 : decode cX8_tune 15 = .ok (.iconst 1, 1) := by decide +kernel
theorem dX8_tune_16 : decode cX8_tune 16 = .ok (.if_icmp .ne 13, 3) := by decide +kernel
theorem dX8_tune_19 : decode cX8_tune 19 = .ok (.iload_n 2, 1) := by decide +kernel
theorem dX8_tune_20 : decode cX8_tune 20 = .ok (.iconst 0, 1) := by decide +kernel
theorem dX8_tune_21 : decode cX8_tune 21 = .ok (.bipush 9, 2) := by decide +kernel
theorem dX8_tune_23 : decode cX8_tune 23 = .ok (.invokestatic 116, 3) := by decide +kernel
theorem dX8_tune_26 : decode cX8_tune 26 = .ok (.goto 52, 3) := by decide +kernel
theorem dX8_tune_29 : decode cX8_tune 29 = .ok (.iload_n 1, 1) := by decide +kernel
theorem dX8_tune_30 : decode cX8_tune 30 = .ok (.iconst 2, 1) := by decide +kernel
theorem dX8_tune_31 : decode cX8_tune 31 = .ok (.if_icmp .ne 12, 3) := by decide +kernel
theorem dX8_tune_34 : decode cX8_tune 34 = .ok (.iload_n 2, 1) := by decide +kernel
theorem dX8_tune_35 : decode cX8_tune 35 = .ok (.iconst 0, 1) := by decide +kernel
theorem dX8_tune_36 : decode cX8_tune 36 = .ok (.iconst 1, 1) := by decide +kernel
theorem dX8_tune_37 : decode cX8_tune 37 = .ok (.invokestatic 116, 3) := by decide +kernel
theorem dX8_tune_40 : decode cX8_tune 40 = .ok (.goto 38, 3) := by decide +kernel
theorem dX8_tune_43 : decode cX8_tune 43 = .ok (.iload_n 1, 1) := by decide +kernel
theorem dX8_tune_44 : decode cX8_tune 44 = .ok (.iconst 3, 1) := by decide +kernel
theorem dX8_tune_45 : decode cX8_tune 45 = .ok (.if_icmp .ne 13, 3) := by decide +kernel
theorem dX8_tune_48 : decode cX8_tune 48 = .ok (.iload_n 2, 1) := by decide +kernel
theorem dX8_tune_49 : decode cX8_tune 49 = .ok (.iconst 0, 1) := by decide +kernel
theorem dX8_tune_50 : decode cX8_tune 50 = .ok (.bipush 20, 2) := by decide +kernel
theorem dX8_tune_52 : decode cX8_tune 52 = .ok (.invokestatic 116, 3) := by decide +kernel
theorem dX8_tune_55 : decode cX8_tune 55 = .ok (.goto 23, 3) := by decide +kernel
theorem dX8_tune_58 : decode cX8_tune 58 = .ok (.iload_n 1, 1) := by decide +kernel
theorem dX8_tune_59 : decode cX8_tune 59 = .ok (.iconst 4, 1) := by decide +kernel
theorem dX8_tune_60 : decode cX8_tune 60 = .ok (.if_icmp .ne 17, 3) := by decide +kernel
theorem dX8_tune_63 : decode cX8_tune 63 = .ok (.iload_n 2, 1) := by decide +kernel
theorem dX8_tune_64 : decode cX8_tune 64 = .ok (.iconst 0, 1) := by decide +kernel
theorem dX8_tune_65 : decode cX8_tune 65 = .ok (.bipush 9, 2) := by decide +kernel
theorem dX8_tune_67 : decode cX8_tune 67 = .ok (.invokestatic 116, 3) := by decide +kernel
theorem dX8_tune_70 : decode cX8_tune 70 = .ok (.ifCond .eq 7, 3) := by decide +kernel
theorem dX8_tune_73 : decode cX8_tune 73 = .ok (.iconst 1, 1) := by decide +kernel
theorem dX8_tune_74 : decode cX8_tune 74 = .ok (.goto 4, 3) := by decide +kernel
theorem dX8_tune_77 : decode cX8_tune 77 = .ok (.iconst 0, 1) := by decide +kernel
theorem dX8_tune_78 : decode cX8_tune 78 = .ok (.istore_n 3, 1) := by decide +kernel
theorem dX8_tune_79 : decode cX8_tune 79 = .ok (.iload_n 3, 1) := by decide +kernel
theorem dX8_tune_80 : decode cX8_tune 80 = .ok (.ifCond .ne 5, 3) := by decide +kernel
theorem dX8_tune_83 : decode cX8_tune 83 = .ok (.iconst (-1), 1) := by decide +kernel
theorem dX8_tune_84 : decode cX8_tune 84 = .ok (.ireturn, 1) := by decide +kernel
theorem dX8_tune_85 : decode cX8_tune 85 = .ok (.aload_n 0, 1) := by decide +kernel
theorem dX8_tune_86 : decode cX8_tune 86 = .ok (.getfield 64, 3) := by decide +kernel
theorem dX8_tune_89 : decode cX8_tune 89 = .ok (.iload_n 1, 1) := by decide +kernel
theorem dX8_tune_90 : decode cX8_tune 90 = .ok (.iaload, 1) := by decide +kernel
theorem dX8_tune_91 : decode cX8_tune 91 = .ok (.istore 4, 2) := by decide +kernel
theorem dX8_tune_93 : decode cX8_tune 93 = .ok (.aload_n 0, 1) := by decide +kernel
theorem dX8_tune_94 : decode cX8_tune 94 = .ok (.getfield 64, 3) := by decide +kernel
theorem dX8_tune_97 : decode cX8_tune 97 = .ok (.iload_n 1, 1) := by decide +kernel
theorem dX8_tune_98 : decode cX8_tune 98 = .ok (.iload_n 2, 1) := by decide +kernel
theorem dX8_tune_99 : decode cX8_tune 99 = .ok (.iastore, 1) := by decide +kernel
theorem dX8_tune_100 : decode cX8_tune 100 = .ok (.aload_n 0, 1) := by decide +kernel
theorem dX8_tune_101 : decode cX8_tune 101 = .ok (.iconst 0, 1) := by decide +kernel
theorem dX8_tune_102 : decode cX8_tune 102 = .ok (.putfield 180, 3) := by decide +kernel
theorem dX8_tune_105 : decode cX8_tune 105 = .ok (.iload 4, 2) := by decide +kernel
theorem dX8_tune_107 : decode cX8_tune 107 = .ok (.ireturn, 1) := by decide +kernel
theorem dX8_isSame_0 : decode cX8_isSame 0 = .ok (.iload_n 1, 1) := by decide +kernel
theorem dX8_isSame_1 : decode cX8_isSame 1 = .ok (.iload_n 2, 1) := by decide +kernel
theorem dX8_isSame_2 : decode cX8_isSame 2 = .ok (.if_icmp .eq 26, 3) := by decide +kernel
theorem dX8_isSame_5 : decode cX8_isSame 5 = .ok (.aload_n 0, 1) := by decide +kernel
theorem dX8_isSame_6 : decode cX8_isSame 6 = .ok (.getfield 64, 3) := by decide +kernel
theorem dX8_isSame_9 : decode cX8_isSame 9 = .ok (.iconst 2, 1) := by decide +kernel
theorem dX8_isSame_10 : decode cX8_isSame 10 = .ok (.iaload, 1) := by decide +kernel
theorem dX8_isSame_11 : decode cX8_isSame 11 = .ok (.ifCond .ne 21, 3) := by decide +kernel
theorem dX8_isSame_14 : decode cX8_isSame 14 = .ok (.aload_n 0, 1) := by decide +kernel
theorem dX8_isSame_15 : decode cX8_isSame 15 = .ok (.getfield 40, 3) := by decide +kernel
theorem dX8_isSame_18 : decode cX8_isSame 18 = .ok (.iload_n 1, 1) := by decide +kernel
theorem dX8_isSame_19 : decode cX8_isSame 19 = .ok (.iaload, 1) := by decide +kernel
theorem dX8_isSame_20 : decode cX8_isSame 20 = .ok (.iload_n 2, 1) := by decide +kernel
theorem dX8_isSame_21 : decode cX8_isSame 21 = .ok (.ishr, 1) := by decide +kernel
theorem dX8_isSame_22 : decode cX8_isSame 22 = .ok (.iconst 1, 1) := by decide +kernel
theorem dX8_isSame_23 : decode cX8_isSame 23 = .ok (.iand, 1) := by decide +kernel
theorem dX8_isSame_24 : decode cX8_isSame 24 = .ok (.iconst 1, 1) := by decide +kernel
theorem dX8_isSame_25 : decode cX8_isSame 25 = .ok (.if_icmp .ne 7, 3) := by decide +kernel
theorem dX8_isSame_28 : decode cX8_isSame 28 = .ok (.iconst 1, 1) := by decide +kernel
theorem dX8_isSame_29 : decode cX8_isSame 29 = .ok (.goto 4, 3) := by decide +kernel
theorem dX8_isSame_32 : decode cX8_isSame 32 = .ok (.iconst 0, 1) := by decide +kernel
theorem dX8_isSame_33 : decode cX8_isSame 33 = .ok (.ireturn, 1) := by decide +kernel
theorem dX8_costOf_0 : decode cX8_costOf 0 = .ok (.aload_n 0, 1) := by decide +kernel
theorem dX8_costOf_1 : decode cX8_costOf 1 = .ok (.getfield 25, 3) := by decide +kernel
theorem dX8_costOf_4 : decode cX8_costOf 4 = .ok (.bipush 10, 2) := by decide +kernel
theorem dX8_costOf_6 : decode cX8_costOf 6 = .ok (.iload_n 1, 1) := by decide +kernel
theorem dX8_costOf_7 : decode cX8_costOf 7 = .ok (.imul, 1) := by decide +kernel
theorem dX8_costOf_8 : decode cX8_costOf 8 = .ok (.iload_n 3, 1) := by decide +kernel
theorem dX8_costOf_9 : decode cX8_costOf 9 = .ok (.iadd, 1) := by decide +kernel
theorem dX8_costOf_10 : decode cX8_costOf 10 = .ok (.iaload, 1) := by decide +kernel
theorem dX8_costOf_11 : decode cX8_costOf 11 = .ok (.aload_n 0, 1) := by decide +kernel
theorem dX8_costOf_12 : decode cX8_costOf 12 = .ok (.getfield 25, 3) := by decide +kernel
theorem dX8_costOf_15 : decode cX8_costOf 15 = .ok (.bipush 10, 2) := by decide +kernel
theorem dX8_costOf_17 : decode cX8_costOf 17 = .ok (.iload_n 2, 1) := by decide +kernel
theorem dX8_costOf_18 : decode cX8_costOf 18 = .ok (.imul, 1) := by decide +kernel
theorem dX8_costOf_19 : decode cX8_costOf 19 = .ok (.iload 5, 2) := by decide +kernel
theorem dX8_costOf_21 : decode cX8_costOf 21 = .ok (.iadd, 1) := by decide +kernel
theorem dX8_costOf_22 : decode cX8_costOf 22 = .ok (.iaload, 1) := by decide +kernel
theorem dX8_costOf_23 : decode cX8_costOf 23 = .ok (.isub, 1) := by decide +kernel
theorem dX8_costOf_24 : decode cX8_costOf 24 = .ok (.istore 6, 2) := by decide +kernel
theorem dX8_costOf_26 : decode cX8_costOf 26 = .ok (.iload 5, 2) := by decide +kernel
theorem dX8_costOf_28 : decode cX8_costOf 28 = .ok (.iload 4, 2) := by decide +kernel
theorem dX8_costOf_30 : decode cX8_costOf 30 = .ok (.isub, 1) := by decide +kernel
theorem dX8_costOf_31 : decode cX8_costOf 31 = .ok (.aload_n 0, 1) := by decide +kernel
theorem dX8_costOf_32 : decode cX8_costOf 32 = .ok (.getfield 64, 3) := by decide +kernel
theorem dX8_costOf_35 : decode cX8_costOf 35 = .ok (.iconst 0, 1) := by decide +kernel
theorem dX8_costOf_36 : decode cX8_costOf 36 = .ok (.iaload, 1) := by decide +kernel
theorem dX8_costOf_37 : decode cX8_costOf 37 = .ok (.imul, 1) := by decide +kernel
theorem dX8_costOf_38 : decode cX8_costOf 38 = .ok (.aload_n 0, 1) := by decide +kernel
theorem dX8_costOf_39 : decode cX8_costOf 39 = .ok (.getfield 64, 3) := by decide +kernel
theorem dX8_costOf_42 : decode cX8_costOf 42 = .ok (.iconst 1, 1) := by decide +kernel
theorem dX8_costOf_43 : decode cX8_costOf 43 = .ok (.iaload, 1) := by decide +kernel
theorem dX8_costOf_44 : decode cX8_costOf 44 = .ok (.iload 6, 2) := by decide +kernel
theorem dX8_costOf_46 : decode cX8_costOf 46 = .ok (.ifCond .ge 9, 3) := by decide +kernel
theorem dX8_costOf_49 : decode cX8_costOf 49 = .ok (.iload 6, 2) := by decide +kernel
theorem dX8_costOf_51 : decode cX8_costOf 51 = .ok (.ineg, 1) := by decide +kernel
theorem dX8_costOf_52 : decode cX8_costOf 52 = .ok (.goto 5, 3) := by decide +kernel
theorem dX8_costOf_55 : decode cX8_costOf 55 = .ok (.iload 6, 2) := by decide +kernel
theorem dX8_costOf_57 : decode cX8_costOf 57 = .ok (.imul, 1) := by decide +kernel
theorem dX8_costOf_58 : decode cX8_costOf 58 = .ok (.iadd, 1) := by decide +kernel
theorem dX8_costOf_59 : decode cX8_costOf 59 = .ok (.aload_n 0, 1) := by decide +kernel
theorem dX8_costOf_60 : decode cX8_costOf 60 = .ok (.getfield 85, 3) := by decide +kernel
theorem dX8_costOf_63 : decode cX8_costOf 63 = .ok (.bipush 11, 2) := by decide +kernel
theorem dX8_costOf_65 : decode cX8_costOf 65 = .ok (.iload_n 3, 1) := by decide +kernel
theorem dX8_costOf_66 : decode cX8_costOf 66 = .ok (.iconst 1, 1) := by decide +kernel
theorem dX8_costOf_67 : decode cX8_costOf 67 = .ok (.iadd, 1) := by decide +kernel
theorem dX8_costOf_68 : decode cX8_costOf 68 = .ok (.imul, 1) := by decide +kernel
theorem dX8_costOf_69 : decode cX8_costOf 69 = .ok (.iload 5, 2) := by decide +kernel
theorem dX8_costOf_71 : decode cX8_costOf 71 = .ok (.iadd, 1) := by decide +kernel
theorem dX8_costOf_72 : decode cX8_costOf 72 = .ok (.iconst 1, 1) := by decide +kernel
theorem dX8_costOf_73 : decode cX8_costOf 73 = .ok (.iadd, 1) := by decide +kernel
theorem dX8_costOf_74 : decode cX8_costOf 74 = .ok (.iaload, 1) := by decide +kernel
theorem dX8_costOf_75 : decode cX8_costOf 75 = .ok (.iadd, 1) := by decide +kernel
theorem dX8_costOf_76 : decode cX8_costOf 76 = .ok (.ireturn, 1) := by decide +kernel
theorem dX8_areSame_0 : decode cX8_areSame 0 = .ok (.aload_n 0, 1) := by decide +kernel
theorem dX8_areSame_1 : decode cX8_areSame 1 = .ok (.aload_n 0, 1) := by decide +kernel
theorem dX8_areSame_2 : decode cX8_areSame 2 = .ok (.getfield 22, 3) := by decide +kernel
theorem dX8_areSame_5 : decode cX8_areSame 5 = .ok (.bipush 10, 2) := by decide +kernel
theorem dX8_areSame_7 : decode cX8_areSame 7 = .ok (.iload_n 1, 1) := by decide +kernel
theorem dX8_areSame_8 : decode cX8_areSame 8 = .ok (.imul, 1) := by decide +kernel
theorem dX8_areSame_9 : decode cX8_areSame 9 = .ok (.iload_n 3, 1) := by decide +kernel
theorem dX8_areSame_10 : decode cX8_areSame 10 = .ok (.iadd, 1) := by decide +kernel
theorem dX8_areSame_11 : decode cX8_areSame 11 = .ok (.iaload, 1) := by decide +kernel
theorem dX8_areSame_12 : decode cX8_areSame 12 = .ok (.aload_n 0, 1) := by decide +kernel
theorem dX8_areSame_13 : decode cX8_areSame 13 = .ok (.getfield 22, 3) := by decide +kernel
theorem dX8_areSame_16 : decode cX8_areSame 16 = .ok (.bipush 10, 2) := by decide +kernel
theorem dX8_areSame_18 : decode cX8_areSame 18 = .ok (.iload_n 2, 1) := by decide +kernel
theorem dX8_areSame_19 : decode cX8_areSame 19 = .ok (.imul, 1) := by decide +kernel
theorem dX8_areSame_20 : decode cX8_areSame 20 = .ok (.iload 4, 2) := by decide +kernel
theorem dX8_areSame_22 : decode cX8_areSame 22 = .ok (.iadd, 1) := by decide +kernel
theorem dX8_areSame_23 : decode cX8_areSame 23 = .ok (.iaload, 1) := by decide +kernel
theorem dX8_areSame_24 : decode cX8_areSame 24 = .ok (.invokevirtual 208, 3) := by decide +kernel
theorem dX8_areSame_27 : decode cX8_areSame 27 = .ok (.ireturn, 1) := by decide +kernel
theorem dX8_lay_0 : decode cX8_lay 0 = .ok (.aload_n 0, 1) := by decide +kernel
theorem dX8_lay_1 : decode cX8_lay 1 = .ok (.getfield 19, 3) := by decide +kernel
theorem dX8_lay_4 : decode cX8_lay 4 = .ok (.iload_n 2, 1) := by decide +kernel
theorem dX8_lay_5 : decode cX8_lay 5 = .ok (.iaload, 1) := by decide +kernel
theorem dX8_lay_6 : decode cX8_lay 6 = .ok (.istore_n 3, 1) := by decide +kernel
theorem dX8_lay_7 : decode cX8_lay 7 = .ok (.aload_n 0, 1) := by decide +kernel
theorem dX8_lay_8 : decode cX8_lay 8 = .ok (.getfield 19, 3) := by decide +kernel
theorem dX8_lay_11 : decode cX8_lay 11 = .ok (.iload_n 1, 1) := by decide +kernel
theorem dX8_lay_12 : decode cX8_lay 12 = .ok (.iaload, 1) := by decide +kernel
theorem dX8_lay_13 : decode cX8_lay 13 = .ok (.istore 4, 2) := by decide +kernel
theorem dX8_lay_15 : decode cX8_lay 15 = .ok (.iload 4, 2) := by decide +kernel
theorem dX8_lay_17 : decode cX8_lay 17 = .ok (.ifCond .lt 237, 3) := by decide +kernel
theorem dX8_lay_20 : decode cX8_lay 20 = .ok (.iload_n 3, 1) := by decide +kernel
theorem dX8_lay_21 : decode cX8_lay 21 = .ok (.istore 5, 2) := by decide +kernel
theorem dX8_lay_23 : decode cX8_lay 23 = .ok (.iload 5, 2) := by decide +kernel
theorem dX8_lay_25 : decode cX8_lay 25 = .ok (.ifCond .lt 223, 3) := by decide +kernel
theorem dX8_lay_28 : decode cX8_lay 28 = .ok (.bipush 11, 2) := by decide +kernel
theorem dX8_lay_30 : decode cX8_lay 30 = .ok (.iload 4, 2) := by decide +kernel
theorem dX8_lay_32 : decode cX8_lay 32 = .ok (.imul, 1) := by decide +kernel
theorem dX8_lay_33 : decode cX8_lay 33 = .ok (.iload 5, 2) := by decide +kernel
theorem dX8_lay_35 : decode cX8_lay 35 = .ok (.iadd, 1) := by decide +kernel
theorem dX8_lay_36 : decode cX8_lay 36 = .ok (.istore 6, 2) := by decide +kernel
theorem dX8_lay_38 : decode cX8_lay 38 = .ok (.iload 4, 2) := by decide +kernel
theorem dX8_lay_40 : decode cX8_lay 40 = .ok (.aload_n 0, 1) := by decide +kernel
theorem dX8_lay_41 : decode cX8_lay 41 = .ok (.getfield 19, 3) := by decide +kernel
theorem dX8_lay_44 : decode cX8_lay 44 = .ok (.iload_n 1, 1) := by decide +kernel
theorem dX8_lay_45 : decode cX8_lay 45 = .ok (.iaload, 1) := by decide +kernel
theorem dX8_lay_46 : decode cX8_lay 46 = .ok (.if_icmp .ne 32, 3) := by decide +kernel
theorem dX8_lay_49 : decode cX8_lay 49 = .ok (.aload_n 0, 1) := by decide +kernel
theorem dX8_lay_50 : decode cX8_lay 50 = .ok (.getfield 85, 3) := by decide +kernel
theorem dX8_lay_53 : decode cX8_lay 53 = .ok (.iload 6, 2) := by decide +kernel
theorem dX8_lay_55 : decode cX8_lay 55 = .ok (.iload_n 3, 1) := by decide +kernel
theorem dX8_lay_56 : decode cX8_lay 56 = .ok (.iload 5, 2) := by decide +kernel
theorem dX8_lay_58 : decode cX8_lay 58 = .ok (.isub, 1) := by decide +kernel
theorem dX8_lay_59 : decode cX8_lay 59 = .ok (.aload_n 0, 1) := by decide +kernel
theorem dX8_lay_60 : decode cX8_lay 60 = .ok (.getfield 64, 3) := by decide +kernel
theorem dX8_lay_63 : decode cX8_lay 63 = .ok (.iconst 0, 1) := by decide +kernel
theorem dX8_lay_64 : decode cX8_lay 64 = .ok (.iaload, 1) := by decide +kernel
theorem dX8_lay_65 : decode cX8_lay 65 = .ok (.imul, 1) := by decide +kernel
theorem dX8_lay_66 : decode cX8_lay 66 = .ok (.iastore, 1) := by decide +kernel
theorem dX8_lay_67 : decode cX8_lay 67 = .ok (.aload_n 0, 1) := by decide +kernel
theorem dX8_lay_68 : decode cX8_lay 68 = .ok (.getfield 88, 3) := by decide +kernel
theorem dX8_lay_71 : decode cX8_lay 71 = .ok (.iload 6, 2) := by decide +kernel
theorem dX8_lay_73 : decode cX8_lay 73 = .ok (.lconst 1, 1) := by decide +kernel
theorem dX8_lay_74 : decode cX8_lay 74 = .ok (.lastore, 1) := by decide +kernel
theorem dX8_lay_75 : decode cX8_lay 75 = .ok (.goto 167, 3) := by decide +kernel
theorem dX8_lay_78 : decode cX8_lay 78 = .ok (.aload_n 0, 1) := by decide +kernel
theorem dX8_lay_79 : decode cX8_lay 79 = .ok (.getfield 85, 3) := by decide +kernel
theorem dX8_lay_82 : decode cX8_lay 82 = .ok (.iload 6, 2) := by decide +kernel
theorem dX8_lay_84 : decode cX8_lay 84 = .ok (.aload_n 0, 1) := by decide +kernel
theorem dX8_lay_85 : decode cX8_lay 85 = .ok (.getfield 64, 3) := by decide +kernel
theorem dX8_lay_88 : decode cX8_lay 88 = .ok (.iconst 0, 1) := by decide +kernel
theorem dX8_lay_89 : decode cX8_lay 89 = .ok (.iaload, 1) := by decide +kernel
theorem dX8_lay_90 : decode cX8_lay 90 = .ok (.aload_n 0, 1) := by decide +kernel
theorem dX8_lay_91 : decode cX8_lay 91 = .ok (.getfield 85, 3) := by decide +kernel
theorem dX8_lay_94 : decode cX8_lay 94 = .ok (.iload 6, 2) := by decide +kernel
theorem dX8_lay_96 : decode cX8_lay 96 = .ok (.bipush 11, 2) := by decide +kernel
theorem dX8_lay_98 : decode cX8_lay 98 = .ok (.iadd, 1) := by decide +kernel
theorem dX8_lay_99 : decode cX8_lay 99 = .ok (.iaload, 1) := by decide +kernel
theorem dX8_lay_100 : decode cX8_lay 100 = .ok (.iadd, 1) := by decide +kernel
theorem dX8_lay_101 : decode cX8_lay 101 = .ok (.iastore, 1) := by decide +kernel
theorem dX8_lay_102 : decode cX8_lay 102 = .ok (.aload_n 0, 1) := by decide +kernel
theorem dX8_lay_103 : decode cX8_lay 103 = .ok (.getfield 88, 3) := by decide +kernel
theorem dX8_lay_106 : decode cX8_lay 106 = .ok (.iload 6, 2) := by decide +kernel
theorem dX8_lay_108 : decode cX8_lay 108 = .ok (.aload_n 0, 1) := by decide +kernel
theorem dX8_lay_109 : decode cX8_lay 109 = .ok (.getfield 88, 3) := by decide +kernel
theorem dX8_lay_112 : decode cX8_lay 112 = .ok (.iload 6, 2) := by decide +kernel
theorem dX8_lay_114 : decode cX8_lay 114 = .ok (.bipush 11, 2) := by decide +kernel
theorem dX8_lay_116 : decode cX8_lay 116 = .ok (.iadd, 1) := by decide +kernel
theorem dX8_lay_117 : decode cX8_lay 117 = .ok (.laload, 1) := by decide +kernel
theorem dX8_lay_118 : decode cX8_lay 118 = .ok (.lastore, 1) := by decide +kernel
theorem dX8_lay_119 : decode cX8_lay 119 = .ok (.iload 5, 2) := by decide +kernel
theorem dX8_lay_121 : decode cX8_lay 121 = .ok (.istore 7, 2) := by decide +kernel
theorem dX8_lay_123 : decode cX8_lay 123 = .ok (.iload 7, 2) := by decide +kernel
theorem dX8_lay_125 : decode cX8_lay 125 = .ok (.iload_n 3, 1) := by decide +kernel
theorem dX8_lay_126 : decode cX8_lay 126 = .ok (.if_icmp .ge 116, 3) := by decide +kernel
theorem dX8_lay_129 : decode cX8_lay 129 = .ok (.aload_n 0, 1) := by decide +kernel
theorem dX8_lay_130 : decode cX8_lay 130 = .ok (.iload_n 1, 1) := by decide +kernel
theorem dX8_lay_131 : decode cX8_lay 131 = .ok (.iload_n 2, 1) := by decide +kernel
theorem dX8_lay_132 : decode cX8_lay 132 = .ok (.iload 4, 2) := by decide +kernel
theorem dX8_lay_134 : decode cX8_lay 134 = .ok (.iload 7, 2) := by decide +kernel
theorem dX8_lay_136 : decode cX8_lay 136 = .ok (.invokevirtual 211, 3) := by decide +kernel
theorem dX8_lay_139 : decode cX8_lay 139 = .ok (.ifCond .ne 6, 3) := by decide +kernel
theorem dX8_lay_142 : decode cX8_lay 142 = .ok (.goto 94, 3) := by decide +kernel
theorem dX8_lay_145 : decode cX8_lay 145 = .ok (.aload_n 0, 1) := by decide +kernel
theorem dX8_lay_146 : decode cX8_lay 146 = .ok (.iload_n 1, 1) := by decide +kernel
theorem dX8_lay_147 : decode cX8_lay 147 = .ok (.iload_n 2, 1) := by decide +kernel
theorem dX8_lay_148 : decode cX8_lay 148 = .ok (.iload 4, 2) := by decide +kernel
theorem dX8_lay_150 : decode cX8_lay 150 = .ok (.iload 5, 2) := by decide +kernel
theorem dX8_lay_152 : decode cX8_lay 152 = .ok (.iload 7, 2) := by decide +kernel
theorem dX8_lay_154 : decode cX8_lay 154 = .ok (.invokevirtual 215, 3) := by decide +kernel
theorem dX8_lay_157 : decode cX8_lay 157 = .ok (.istore 8, 2) := by decide +kernel
theorem dX8_lay_159 : decode cX8_lay 159 = .ok (.iload 8, 2) := by decide +kernel
theorem dX8_lay_161 : decode cX8_lay 161 = .ok (.aload_n 0, 1) := by decide +kernel
theorem dX8_lay_162 : decode cX8_lay 162 = .ok (.getfield 85, 3) := by decide +kernel
theorem dX8_lay_165 : decode cX8_lay 165 = .ok (.iload 6, 2) := by decide +kernel
theorem dX8_lay_167 : decode cX8_lay 167 = .ok (.iaload, 1) := by decide +kernel
theorem dX8_lay_168 : decode cX8_lay 168 = .ok (.if_icmp .ge 20, 3) := by decide +kernel
theorem dX8_lay_171 : decode cX8_lay 171 = .ok (.aload_n 0, 1) := by decide +kernel
theorem dX8_lay_172 : decode cX8_lay 172 = .ok (.getfield 85, 3) := by decide +kernel
theorem dX8_lay_175 : decode cX8_lay 175 = .ok (.iload 6, 2) := by decide +kernel
theorem dX8_lay_177 : decode cX8_lay 177 = .ok (.iload 8, 2) := by decide +kernel
theorem dX8_lay_179 : decode cX8_lay 179 = .ok (.iastore, 1) := by decide +kernel
theorem dX8_lay_180 : decode cX8_lay 180 = .ok (.aload_n 0, 1) := by decide +kernel
theorem dX8_lay_181 : decode cX8_lay 181 = .ok (.getfield 88, 3) := by decide +kernel
theorem dX8_lay_184 : decode cX8_lay 184 = .ok (.iload 6, 2) := by decide +kernel
theorem dX8_lay_186 : decode cX8_lay 186 = .ok (.lconst 0, 1) := by decide +kernel
theorem dX8_lay_187 : decode cX8_lay 187 = .ok (.lastore, 1) := by decide +kernel
theorem dX8_lay_188 : decode cX8_lay 188 = .ok (.aload_n 0, 1) := by decide +kernel
theorem dX8_lay_189 : decode cX8_lay 189 = .ok (.getfield 88, 3) := by decide +kernel
theorem dX8_lay_192 : decode cX8_lay 192 = .ok (.iload 6, 2) := by decide +kernel
theorem dX8_lay_194 : decode cX8_lay 194 = .ok (.aload_n 0, 1) := by decide +kernel
theorem dX8_lay_195 : decode cX8_lay 195 = .ok (.getfield 88, 3) := by decide +kernel
theorem dX8_lay_198 : decode cX8_lay 198 = .ok (.iload 6, 2) := by decide +kernel
theorem dX8_lay_200 : decode cX8_lay 200 = .ok (.laload, 1) := by decide +kernel
theorem dX8_lay_201 : decode cX8_lay 201 = .ok (.iload 8, 2) := by decide +kernel
theorem dX8_lay_203 : decode cX8_lay 203 = .ok (.aload_n 0, 1) := by decide +kernel
theorem dX8_lay_204 : decode cX8_lay 204 = .ok (.getfield 85, 3) := by decide +kernel
theorem dX8_lay_207 : decode cX8_lay 207 = .ok (.iload 6, 2) := by decide +kernel
theorem dX8_lay_209 : decode cX8_lay 209 = .ok (.iaload, 1) := by decide +kernel
theorem dX8_lay_210 : decode cX8_lay 210 = .ok (.if_icmp .ne 23, 3) := by decide +kernel
theorem dX8_lay_213 : decode cX8_lay 213 = .ok (.aload_n 0, 1) := by decide +kernel
theorem dX8_lay_214 : decode cX8_lay 214 = .ok (.getfield 88, 3) := by decide +kernel
theorem dX8_lay_217 : decode cX8_lay 217 = .ok (.bipush 11, 2) := by decide +kernel
theorem dX8_lay_219 : decode cX8_lay 219 = .ok (.iload 4, 2) := by decide +kernel
theorem dX8_lay_221 : decode cX8_lay 221 = .ok (.iconst 1, 1) := by decide +kernel
theorem dX8_lay_222 : decode cX8_lay 222 = .ok (.iadd, 1) := by decide +kernel
theorem dX8_lay_223 : decode cX8_lay 223 = .ok (.imul, 1) := by decide +kernel
theorem dX8_lay_224 : decode cX8_lay 224 = .ok (.iload 7, 2) := by decide +kernel
theorem dX8_lay_226 : decode cX8_lay 226 = .ok (.iadd, 1) := by decide +kernel
theorem dX8_lay_227 : decode cX8_lay 227 = .ok (.iconst 1, 1) := by decide +kernel
theorem dX8_lay_228 : decode cX8_lay 228 = .ok (.iadd, 1) := by decide +kernel
theorem dX8_lay_229 : decode cX8_lay 229 = .ok (.laload, 1) := by decide +kernel
theorem dX8_lay_230 : decode cX8_lay 230 = .ok (.goto 4, 3) := by decide +kernel
theorem dX8_lay_233 : decode cX8_lay 233 = .ok (.lconst 0, 1) := by decide +kernel
theorem dX8_lay_234 : decode cX8_lay 234 = .ok (.ladd, 1) := by decide +kernel
theorem dX8_lay_235 : decode cX8_lay 235 = .ok (.lastore, 1) := by decide +kernel
theorem dX8_lay_236 : decode cX8_lay 236 = .ok (.iinc 7 1, 3) := by decide +kernel
theorem dX8_lay_239 : decode cX8_lay 239 = .ok (.goto (-116), 3) := by decide +kernel
theorem dX8_lay_242 : decode cX8_lay 242 = .ok (.iinc 5 (-1), 3) := by decide +kernel
theorem dX8_lay_245 : decode cX8_lay 245 = .ok (.goto (-222), 3) := by decide +kernel
theorem dX8_lay_248 : decode cX8_lay 248 = .ok (.iinc 4 (-1), 3) := by decide +kernel
theorem dX8_lay_251 : decode cX8_lay 251 = .ok (.goto (-236), 3) := by decide +kernel
theorem dX8_lay_254 : decode cX8_lay 254 = .ok (.return_, 1) := by decide +kernel
theorem dX8_areTwo_0 : decode cX8_areTwo 0 = .ok (.aload_n 0, 1) := by decide +kernel
theorem dX8_areTwo_1 : decode cX8_areTwo 1 = .ok (.iload_n 1, 1) := by decide +kernel
theorem dX8_areTwo_2 : decode cX8_areTwo 2 = .ok (.invokevirtual 199, 3) := by decide +kernel
theorem dX8_areTwo_5 : decode cX8_areTwo 5 = .ok (.ifCond .eq 20, 3) := by decide +kernel
theorem dX8_areTwo_8 : decode cX8_areTwo 8 = .ok (.aload_n 0, 1) := by decide +kernel
theorem dX8_areTwo_9 : decode cX8_areTwo 9 = .ok (.iload_n 2, 1) := by decide +kernel
theorem dX8_areTwo_10 : decode cX8_areTwo 10 = .ok (.invokevirtual 199, 3) := by decide +kernel
theorem dX8_areTwo_13 : decode cX8_areTwo 13 = .ok (.ifCond .eq 12, 3) := by decide +kernel
theorem dX8_areTwo_16 : decode cX8_areTwo 16 = .ok (.iload_n 1, 1) := by decide +kernel
theorem dX8_areTwo_17 : decode cX8_areTwo 17 = .ok (.iload_n 2, 1) := by decide +kernel
theorem dX8_areTwo_18 : decode cX8_areTwo 18 = .ok (.if_icmp .eq 7, 3) := by decide +kernel
theorem dX8_areTwo_21 : decode cX8_areTwo 21 = .ok (.iconst 1, 1) := by decide +kernel
theorem dX8_areTwo_22 : decode cX8_areTwo 22 = .ok (.goto 4, 3) := by decide +kernel
theorem dX8_areTwo_25 : decode cX8_areTwo 25 = .ok (.iconst 0, 1) := by decide +kernel
theorem dX8_areTwo_26 : decode cX8_areTwo 26 = .ok (.ireturn, 1) := by decide +kernel
theorem dX8_least_0 : decode cX8_least 0 = .ok (.aload_n 0, 1) := by decide +kernel
theorem dX8_least_1 : decode cX8_least 1 = .ok (.iload_n 1, 1) := by decide +kernel
theorem dX8_least_2 : decode cX8_least 2 = .ok (.iload_n 2, 1) := by decide +kernel
theorem dX8_least_3 : decode cX8_least 3 = .ok (.invokevirtual 219, 3) := by decide +kernel
theorem dX8_least_6 : decode cX8_least 6 = .ok (.ifCond .ne 5, 3) := by decide +kernel
theorem dX8_least_9 : decode cX8_least 9 = .ok (.iconst (-1), 1) := by decide +kernel
theorem dX8_least_10 : decode cX8_least 10 = .ok (.ireturn, 1) := by decide +kernel
theorem dX8_least_11 : decode cX8_least 11 = .ok (.aload_n 0, 1) := by decide +kernel
theorem dX8_least_12 : decode cX8_least 12 = .ok (.iload_n 1, 1) := by decide +kernel
theorem dX8_least_13 : decode cX8_least 13 = .ok (.iload_n 2, 1) := by decide +kernel
theorem dX8_least_14 : decode cX8_least 14 = .ok (.invokevirtual 222, 3) := by decide +kernel
theorem dX8_least_17 : decode cX8_least 17 = .ok (.aload_n 0, 1) := by decide +kernel
theorem dX8_least_18 : decode cX8_least 18 = .ok (.getfield 85, 3) := by decide +kernel
theorem dX8_least_21 : decode cX8_least 21 = .ok (.iconst 0, 1) := by decide +kernel
theorem dX8_least_22 : decode cX8_least 22 = .ok (.iaload, 1) := by decide +kernel
theorem dX8_least_23 : decode cX8_least 23 = .ok (.ireturn, 1) := by decide +kernel
theorem dX8_ways_0 : decode cX8_ways 0 = .ok (.aload_n 0, 1) := by decide +kernel
theorem dX8_ways_1 : decode cX8_ways 1 = .ok (.iload_n 1, 1) := by decide +kernel
theorem dX8_ways_2 : decode cX8_ways 2 = .ok (.iload_n 2, 1) := by decide +kernel
theorem dX8_ways_3 : decode cX8_ways 3 = .ok (.invokevirtual 219, 3) := by decide +kernel
theorem dX8_ways_6 : decode cX8_ways 6 = .ok (.ifCond .ne 7, 3) := by decide +kernel
theorem dX8_ways_9 : decode cX8_ways 9 = .ok (.ldc2_w 226, 3) := by decide +kernel
theorem dX8_ways_12 : decode cX8_ways 12 = .ok (.lreturn, 1) := by decide +kernel
theorem dX8_ways_13 : decode cX8_ways 13 = .ok (.aload_n 0, 1) := by decide +kernel
theorem dX8_ways_14 : decode cX8_ways 14 = .ok (.iload_n 1, 1) := by decide +kernel
theorem dX8_ways_15 : decode cX8_ways 15 = .ok (.iload_n 2, 1) := by decide +kernel
theorem dX8_ways_16 : decode cX8_ways 16 = .ok (.invokevirtual 222, 3) := by decide +kernel
theorem dX8_ways_19 : decode cX8_ways 19 = .ok (.aload_n 0, 1) := by decide +kernel
theorem dX8_ways_20 : decode cX8_ways 20 = .ok (.getfield 88, 3) := by decide +kernel
theorem dX8_ways_23 : decode cX8_ways 23 = .ok (.iconst 0, 1) := by decide +kernel
theorem dX8_ways_24 : decode cX8_ways 24 = .ok (.laload, 1) := by decide +kernel
theorem dX8_ways_25 : decode cX8_ways 25 = .ok (.lreturn, 1) := by decide +kernel
theorem dX8_laid_0 : decode cX8_laid 0 = .ok (.aload_n 0, 1) := by decide +kernel
theorem dX8_laid_1 : decode cX8_laid 1 = .ok (.iload_n 1, 1) := by decide +kernel
theorem dX8_laid_2 : decode cX8_laid 2 = .ok (.iload_n 2, 1) := by decide +kernel
theorem dX8_laid_3 : decode cX8_laid 3 = .ok (.invokevirtual 219, 3) := by decide +kernel
theorem dX8_laid_6 : decode cX8_laid 6 = .ok (.ifCond .eq 19, 3) := by decide +kernel
theorem dX8_laid_9 : decode cX8_laid 9 = .ok (.iload_n 3, 1) := by decide +kernel
theorem dX8_laid_10 : decode cX8_laid 10 = .ok (.iconst 0, 1) := by decide +kernel
theorem dX8_laid_11 : decode cX8_laid 11 = .ok (.aload_n 0, 1) := by decide +kernel
theorem dX8_laid_12 : decode cX8_laid 12 = .ok (.getfield 19, 3) := by decide +kernel
theorem dX8_laid_15 : decode cX8_laid 15 = .ok (.iload_n 1, 1) := by decide +kernel
theorem dX8_laid_16 : decode cX8_laid 16 = .ok (.iaload, 1) := by decide +kernel
theorem dX8_laid_17 : decode cX8_laid 17 = .ok (.iconst 1, 1) := by decide +kernel
theorem dX8_laid_18 : decode cX8_laid 18 = .ok (.isub, 1) := by decide +kernel
theorem dX8_laid_19 : decode cX8_laid 19 = .ok (.invokestatic 116, 3) := by decide +kernel
theorem dX8_laid_22 : decode cX8_laid 22 = .ok (.ifCond .ne 5, 3) := by decide +kernel
theorem dX8_laid_25 : decode cX8_laid 25 = .ok (.iconst (-1), 1) := by decide +kernel
theorem dX8_laid_26 : decode cX8_laid 26 = .ok (.ireturn, 1) := by decide +kernel
theorem dX8_laid_27 : decode cX8_laid 27 = .ok (.aload_n 0, 1) := by decide +kernel
theorem dX8_laid_28 : decode cX8_laid 28 = .ok (.iload_n 1, 1) := by decide +kernel
theorem dX8_laid_29 : decode cX8_laid 29 = .ok (.iload_n 2, 1) := by decide +kernel
theorem dX8_laid_30 : decode cX8_laid 30 = .ok (.invokevirtual 222, 3) := by decide +kernel
theorem dX8_laid_33 : decode cX8_laid 33 = .ok (.iconst 0, 1) := by decide +kernel
theorem dX8_laid_34 : decode cX8_laid 34 = .ok (.istore 4, 2) := by decide +kernel
theorem dX8_laid_36 : decode cX8_laid 36 = .ok (.bipush (-9), 2) := by decide +kernel
theorem dX8_laid_38 : decode cX8_laid 38 = .ok (.istore 5, 2) := by decide +kernel
theorem dX8_laid_40 : decode cX8_laid 40 = .ok (.iconst 0, 1) := by decide +kernel
theorem dX8_laid_41 : decode cX8_laid 41 = .ok (.istore 6, 2) := by decide +kernel
theorem dX8_laid_43 : decode cX8_laid 43 = .ok (.iload 6, 2) := by decide +kernel
theorem dX8_laid_45 : decode cX8_laid 45 = .ok (.iload_n 3, 1) := by decide +kernel
theorem dX8_laid_46 : decode cX8_laid 46 = .ok (.if_icmp .gt 104, 3) := by decide +kernel
theorem dX8_laid_49 : decode cX8_laid 49 = .ok (.bipush (-9), 2) := by decide +kernel
theorem dX8_laid_51 : decode cX8_laid 51 = .ok (.istore 5, 2) := by decide +kernel
theorem dX8_laid_53 : decode cX8_laid 53 = .ok (.aload_n 0, 1) := by decide +kernel
theorem dX8_laid_54 : decode cX8_laid 54 = .ok (.getfield 19, 3) := by decide +kernel
theorem dX8_laid_57 : decode cX8_laid 57 = .ok (.iload_n 2, 1) := by decide +kernel
theorem dX8_laid_58 : decode cX8_laid 58 = .ok (.iaload, 1) := by decide +kernel
theorem dX8_laid_59 : decode cX8_laid 59 = .ok (.iconst 1, 1) := by decide +kernel
theorem dX8_laid_60 : decode cX8_laid 60 = .ok (.isub, 1) := by decide +kernel
theorem dX8_laid_61 : decode cX8_laid 61 = .ok (.istore 7, 2) := by decide +kernel
theorem dX8_laid_63 : decode cX8_laid 63 = .ok (.iload 7, 2) := by decide +kernel
theorem dX8_laid_65 : decode cX8_laid 65 = .ok (.iload 4, 2) := by decide +kernel
theorem dX8_laid_67 : decode cX8_laid 67 = .ok (.if_icmp .lt 59, 3) := by decide +kernel
theorem dX8_laid_70 : decode cX8_laid 70 = .ok (.aload_n 0, 1) := by decide +kernel
theorem dX8_laid_71 : decode cX8_laid 71 = .ok (.iload_n 1, 1) := by decide +kernel
theorem dX8_laid_72 : decode cX8_laid 72 = .ok (.iload_n 2, 1) := by decide +kernel
theorem dX8_laid_73 : decode cX8_laid 73 = .ok (.iload 6, 2) := by decide +kernel
theorem dX8_laid_75 : decode cX8_laid 75 = .ok (.iload 7, 2) := by decide +kernel
theorem dX8_laid_77 : decode cX8_laid 77 = .ok (.invokevirtual 211, 3) := by decide +kernel
theorem dX8_laid_80 : decode cX8_laid 80 = .ok (.ifCond .eq 36, 3) := by decide +kernel
theorem dX8_laid_83 : decode cX8_laid 83 = .ok (.aload_n 0, 1) := by decide +kernel
theorem dX8_laid_84 : decode cX8_laid 84 = .ok (.iload_n 1, 1) := by decide +kernel
theorem dX8_laid_85 : decode cX8_laid 85 = .ok (.iload_n 2, 1) := by decide +kernel
theorem dX8_laid_86 : decode cX8_laid 86 = .ok (.iload 6, 2) := by decide +kernel
theorem dX8_laid_88 : decode cX8_laid 88 = .ok (.iload 4, 2) := by decide +kernel
theorem dX8_laid_90 : decode cX8_laid 90 = .ok (.iload 7, 2) := by decide +kernel
theorem dX8_laid_92 : decode cX8_laid 92 = .ok (.invokevirtual 215, 3) := by decide +kernel
theorem dX8_laid_95 : decode cX8_laid 95 = .ok (.aload_n 0, 1) := by decide +kernel
theorem dX8_laid_96 : decode cX8_laid 96 = .ok (.getfield 85, 3) := by decide +kernel
theorem dX8_laid_99 : decode cX8_laid 99 = .ok (.bipush 11, 2) := by decide +kernel
theorem dX8_laid_101 : decode cX8_laid 101 = .ok (.iload 6, 2) := by decide +kernel
theorem dX8_laid_103 : decode cX8_laid 103 = .ok (.imul, 1) := by decide +kernel
theorem dX8_laid_104 : decode cX8_laid 104 = .ok (.iload 4, 2) := by decide +kernel
theorem dX8_laid_106 : decode cX8_laid 106 = .ok (.iadd, 1) := by decide +kernel
theorem dX8_laid_107 : decode cX8_laid 107 = .ok (.iaload, 1) := by decide +kernel
end
section
theorem dX8_laid_108 : decode cX8_laid 108 = .ok (.if_icmp .ne 8, 3) := by decide +kernel
theorem dX8_laid_111 : decode cX8_laid 111 = .ok (.iload 7, 2) := by decide +kernel
theorem dX8_laid_113 : decode cX8_laid 113 = .ok (.goto 5, 3) := by decide +kernel
theorem dX8_laid_116 : decode cX8_laid 116 = .ok (.iload 5, 2) := by decide +kernel
theorem dX8_laid_118 : decode cX8_laid 118 = .ok (.istore 5, 2) := by decide +kernel
theorem dX8_laid_120 : decode cX8_laid 120 = .ok (.iinc 7 (-1), 3) := by decide +kernel
theorem dX8_laid_123 : decode cX8_laid 123 = .ok (.goto (-60), 3) := by decide +kernel
theorem dX8_laid_126 : decode cX8_laid 126 = .ok (.iload 5, 2) := by decide +kernel
theorem dX8_laid_128 : decode cX8_laid 128 = .ok (.bipush (-9), 2) := by decide +kernel
theorem dX8_laid_130 : decode cX8_laid 130 = .ok (.if_icmp .ne 8, 3) := by decide +kernel
theorem dX8_laid_133 : decode cX8_laid 133 = .ok (.iload 4, 2) := by decide +kernel
theorem dX8_laid_135 : decode cX8_laid 135 = .ok (.goto 7, 3) := by decide +kernel
theorem dX8_laid_138 : decode cX8_laid 138 = .ok (.iload 5, 2) := by decide +kernel
theorem dX8_laid_140 : decode cX8_laid 140 = .ok (.iconst 1, 1) := by decide +kernel
theorem dX8_laid_141 : decode cX8_laid 141 = .ok (.iadd, 1) := by decide +kernel
theorem dX8_laid_142 : decode cX8_laid 142 = .ok (.istore 4, 2) := by decide +kernel
theorem dX8_laid_144 : decode cX8_laid 144 = .ok (.iinc 6 1, 3) := by decide +kernel
theorem dX8_laid_147 : decode cX8_laid 147 = .ok (.goto (-104), 3) := by decide +kernel
theorem dX8_laid_150 : decode cX8_laid 150 = .ok (.iload 5, 2) := by decide +kernel
theorem dX8_laid_152 : decode cX8_laid 152 = .ok (.ireturn, 1) := by decide +kernel
theorem dX8_behind_0 : decode cX8_behind 0 = .ok (.iconst 0, 1) := by decide +kernel
theorem dX8_behind_1 : decode cX8_behind 1 = .ok (.istore_n 2, 1) := by decide +kernel
theorem dX8_behind_2 : decode cX8_behind 2 = .ok (.aload_n 0, 1) := by decide +kernel
theorem dX8_behind_3 : decode cX8_behind 3 = .ok (.iconst 0, 1) := by decide +kernel
theorem dX8_behind_4 : decode cX8_behind 4 = .ok (.putfield 228, 3) := by decide +kernel
theorem dX8_behind_7 : decode cX8_behind 7 = .ok (.iconst 0, 1) := by decide +kernel
theorem dX8_behind_8 : decode cX8_behind 8 = .ok (.istore_n 3, 1) := by decide +kernel
theorem dX8_behind_9 : decode cX8_behind 9 = .ok (.iload_n 3, 1) := by decide +kernel
theorem dX8_behind_10 : decode cX8_behind 10 = .ok (.aload_n 0, 1) := by decide +kernel
theorem dX8_behind_11 : decode cX8_behind 11 = .ok (.getfield 173, 3) := by decide +kernel
theorem dX8_behind_14 : decode cX8_behind 14 = .ok (.if_icmp .ge 116, 3) := by decide +kernel
theorem dX8_behind_17 : decode cX8_behind 17 = .ok (.aload_n 0, 1) := by decide +kernel
theorem dX8_behind_18 : decode cX8_behind 18 = .ok (.getfield 95, 3) := by decide +kernel
theorem dX8_behind_21 : decode cX8_behind 21 = .ok (.iload_n 3, 1) := by decide +kernel
theorem dX8_behind_22 : decode cX8_behind 22 = .ok (.iaload, 1) := by decide +kernel
theorem dX8_behind_23 : decode cX8_behind 23 = .ok (.aload_n 0, 1) := by decide +kernel
theorem dX8_behind_24 : decode cX8_behind 24 = .ok (.getfield 19, 3) := by decide +kernel
theorem dX8_behind_27 : decode cX8_behind 27 = .ok (.iload_n 3, 1) := by decide +kernel
theorem dX8_behind_28 : decode cX8_behind 28 = .ok (.iaload, 1) := by decide +kernel
theorem dX8_behind_29 : decode cX8_behind 29 = .ok (.if_icmp .ge 31, 3) := by decide +kernel
theorem dX8_behind_32 : decode cX8_behind 32 = .ok (.aload_n 0, 1) := by decide +kernel
theorem dX8_behind_33 : decode cX8_behind 33 = .ok (.iload_n 1, 1) := by decide +kernel
theorem dX8_behind_34 : decode cX8_behind 34 = .ok (.aload_n 0, 1) := by decide +kernel
theorem dX8_behind_35 : decode cX8_behind 35 = .ok (.getfield 22, 3) := by decide +kernel
theorem dX8_behind_38 : decode cX8_behind 38 = .ok (.bipush 10, 2) := by decide +kernel
theorem dX8_behind_40 : decode cX8_behind 40 = .ok (.iload_n 3, 1) := by decide +kernel
theorem dX8_behind_41 : decode cX8_behind 41 = .ok (.imul, 1) := by decide +kernel
theorem dX8_behind_42 : decode cX8_behind 42 = .ok (.aload_n 0, 1) := by decide +kernel
theorem dX8_behind_43 : decode cX8_behind 43 = .ok (.getfield 95, 3) := by decide +kernel
theorem dX8_behind_46 : decode cX8_behind 46 = .ok (.iload_n 3, 1) := by decide +kernel
theorem dX8_behind_47 : decode cX8_behind 47 = .ok (.iaload, 1) := by decide +kernel
theorem dX8_behind_48 : decode cX8_behind 48 = .ok (.iadd, 1) := by decide +kernel
theorem dX8_behind_49 : decode cX8_behind 49 = .ok (.iaload, 1) := by decide +kernel
theorem dX8_behind_50 : decode cX8_behind 50 = .ok (.invokevirtual 208, 3) := by decide +kernel
theorem dX8_behind_53 : decode cX8_behind 53 = .ok (.ifCond .eq 7, 3) := by decide +kernel
theorem dX8_behind_56 : decode cX8_behind 56 = .ok (.iconst 1, 1) := by decide +kernel
theorem dX8_behind_57 : decode cX8_behind 57 = .ok (.goto 4, 3) := by decide +kernel
theorem dX8_behind_60 : decode cX8_behind 60 = .ok (.iconst 0, 1) := by decide +kernel
theorem dX8_behind_61 : decode cX8_behind 61 = .ok (.istore 4, 2) := by decide +kernel
theorem dX8_behind_63 : decode cX8_behind 63 = .ok (.aload_n 0, 1) := by decide +kernel
theorem dX8_behind_64 : decode cX8_behind 64 = .ok (.getfield 98, 3) := by decide +kernel
theorem dX8_behind_67 : decode cX8_behind 67 = .ok (.iload_n 3, 1) := by decide +kernel
theorem dX8_behind_68 : decode cX8_behind 68 = .ok (.iload 4, 2) := by decide +kernel
theorem dX8_behind_70 : decode cX8_behind 70 = .ok (.ifCond .eq 14, 3) := by decide +kernel
theorem dX8_behind_73 : decode cX8_behind 73 = .ok (.aload_n 0, 1) := by decide +kernel
theorem dX8_behind_74 : decode cX8_behind 74 = .ok (.getfield 95, 3) := by decide +kernel
theorem dX8_behind_77 : decode cX8_behind 77 = .ok (.iload_n 3, 1) := by decide +kernel
theorem dX8_behind_78 : decode cX8_behind 78 = .ok (.iaload, 1) := by decide +kernel
theorem dX8_behind_79 : decode cX8_behind 79 = .ok (.iconst 1, 1) := by decide +kernel
theorem dX8_behind_80 : decode cX8_behind 80 = .ok (.iadd, 1) := by decide +kernel
theorem dX8_behind_81 : decode cX8_behind 81 = .ok (.goto 9, 3) := by decide +kernel
theorem dX8_behind_84 : decode cX8_behind 84 = .ok (.aload_n 0, 1) := by decide +kernel
theorem dX8_behind_85 : decode cX8_behind 85 = .ok (.getfield 95, 3) := by decide +kernel
theorem dX8_behind_88 : decode cX8_behind 88 = .ok (.iload_n 3, 1) := by decide +kernel
theorem dX8_behind_89 : decode cX8_behind 89 = .ok (.iaload, 1) := by decide +kernel
theorem dX8_behind_90 : decode cX8_behind 90 = .ok (.iastore, 1) := by decide +kernel
theorem dX8_behind_91 : decode cX8_behind 91 = .ok (.aload_n 0, 1) := by decide +kernel
theorem dX8_behind_92 : decode cX8_behind 92 = .ok (.aload_n 0, 1) := by decide +kernel
theorem dX8_behind_93 : decode cX8_behind 93 = .ok (.getfield 228, 3) := by decide +kernel
theorem dX8_behind_96 : decode cX8_behind 96 = .ok (.ifCond .ne 8, 3) := by decide +kernel
theorem dX8_behind_99 : decode cX8_behind 99 = .ok (.iload 4, 2) := by decide +kernel
theorem dX8_behind_101 : decode cX8_behind 101 = .ok (.ifCond .eq 7, 3) := by decide +kernel
theorem dX8_behind_104 : decode cX8_behind 104 = .ok (.iconst 1, 1) := by decide +kernel
theorem dX8_behind_105 : decode cX8_behind 105 = .ok (.goto 4, 3) := by decide +kernel
theorem dX8_behind_108 : decode cX8_behind 108 = .ok (.iconst 0, 1) := by decide +kernel
theorem dX8_behind_109 : decode cX8_behind 109 = .ok (.putfield 228, 3) := by decide +kernel
theorem dX8_behind_112 : decode cX8_behind 112 = .ok (.bipush 11, 2) := by decide +kernel
theorem dX8_behind_114 : decode cX8_behind 114 = .ok (.iload_n 2, 1) := by decide +kernel
theorem dX8_behind_115 : decode cX8_behind 115 = .ok (.imul, 1) := by decide +kernel
theorem dX8_behind_116 : decode cX8_behind 116 = .ok (.aload_n 0, 1) := by decide +kernel
theorem dX8_behind_117 : decode cX8_behind 117 = .ok (.getfield 98, 3) := by decide +kernel
theorem dX8_behind_120 : decode cX8_behind 120 = .ok (.iload_n 3, 1) := by decide +kernel
theorem dX8_behind_121 : decode cX8_behind 121 = .ok (.iaload, 1) := by decide +kernel
theorem dX8_behind_122 : decode cX8_behind 122 = .ok (.iadd, 1) := by decide +kernel
theorem dX8_behind_123 : decode cX8_behind 123 = .ok (.istore_n 2, 1) := by decide +kernel
theorem dX8_behind_124 : decode cX8_behind 124 = .ok (.iinc 3 1, 3) := by decide +kernel
theorem dX8_behind_127 : decode cX8_behind 127 = .ok (.goto (-118), 3) := by decide +kernel
theorem dX8_behind_130 : decode cX8_behind 130 = .ok (.iload_n 2, 1) := by decide +kernel
theorem dX8_behind_131 : decode cX8_behind 131 = .ok (.ireturn, 1) := by decide +kernel
theorem dX8_make_0 : decode cX8_make 0 = .ok (.aload_n 0, 1) := by decide +kernel
theorem dX8_make_1 : decode cX8_make 1 = .ok (.getfield 180, 3) := by decide +kernel
theorem dX8_make_4 : decode cX8_make 4 = .ok (.ifCond .eq 4, 3) := by decide +kernel
theorem dX8_make_7 : decode cX8_make 7 = .ok (.return_, 1) := by decide +kernel
theorem dX8_make_8 : decode cX8_make 8 = .ok (.aload_n 0, 1) := by decide +kernel
theorem dX8_make_9 : decode cX8_make 9 = .ok (.iconst 1, 1) := by decide +kernel
theorem dX8_make_10 : decode cX8_make 10 = .ok (.putfield 180, 3) := by decide +kernel
theorem dX8_make_13 : decode cX8_make 13 = .ok (.iconst 1, 1) := by decide +kernel
theorem dX8_make_14 : decode cX8_make 14 = .ok (.istore_n 1, 1) := by decide +kernel
theorem dX8_make_15 : decode cX8_make 15 = .ok (.iconst 0, 1) := by decide +kernel
theorem dX8_make_16 : decode cX8_make 16 = .ok (.istore_n 2, 1) := by decide +kernel
theorem dX8_make_17 : decode cX8_make 17 = .ok (.iload_n 2, 1) := by decide +kernel
theorem dX8_make_18 : decode cX8_make 18 = .ok (.aload_n 0, 1) := by decide +kernel
theorem dX8_make_19 : decode cX8_make 19 = .ok (.getfield 173, 3) := by decide +kernel
theorem dX8_make_22 : decode cX8_make 22 = .ok (.if_icmp .ge 14, 3) := by decide +kernel
theorem dX8_make_25 : decode cX8_make 25 = .ok (.bipush 11, 2) := by decide +kernel
theorem dX8_make_27 : decode cX8_make 27 = .ok (.iload_n 1, 1) := by decide +kernel
theorem dX8_make_28 : decode cX8_make 28 = .ok (.imul, 1) := by decide +kernel
theorem dX8_make_29 : decode cX8_make 29 = .ok (.istore_n 1, 1) := by decide +kernel
theorem dX8_make_30 : decode cX8_make 30 = .ok (.iinc 2 1, 3) := by decide +kernel
theorem dX8_make_33 : decode cX8_make 33 = .ok (.goto (-16), 3) := by decide +kernel
theorem dX8_make_36 : decode cX8_make 36 = .ok (.iload_n 1, 1) := by decide +kernel
theorem dX8_make_37 : decode cX8_make 37 = .ok (.iconst 1, 1) := by decide +kernel
theorem dX8_make_38 : decode cX8_make 38 = .ok (.isub, 1) := by decide +kernel
theorem dX8_make_39 : decode cX8_make 39 = .ok (.istore_n 2, 1) := by decide +kernel
theorem dX8_make_40 : decode cX8_make 40 = .ok (.iload_n 2, 1) := by decide +kernel
theorem dX8_make_41 : decode cX8_make 41 = .ok (.ifCond .lt 14, 3) := by decide +kernel
theorem dX8_make_44 : decode cX8_make 44 = .ok (.aload_n 0, 1) := by decide +kernel
theorem dX8_make_45 : decode cX8_make 45 = .ok (.iload_n 2, 1) := by decide +kernel
theorem dX8_make_46 : decode cX8_make 46 = .ok (.invokevirtual 231, 3) := by decide +kernel
theorem dX8_make_49 : decode cX8_make 49 = .ok (.iinc 2 (-1), 3) := by decide +kernel
theorem dX8_make_52 : decode cX8_make 52 = .ok (.goto (-12), 3) := by decide +kernel
theorem dX8_make_55 : decode cX8_make 55 = .ok (.iconst 0, 1) := by decide +kernel
theorem dX8_make_56 : decode cX8_make 56 = .ok (.istore_n 2, 1) := by decide +kernel
theorem dX8_make_57 : decode cX8_make 57 = .ok (.iload_n 2, 1) := by decide +kernel
theorem dX8_make_58 : decode cX8_make 58 = .ok (.aload_n 0, 1) := by decide +kernel
theorem dX8_make_59 : decode cX8_make 59 = .ok (.getfield 173, 3) := by decide +kernel
theorem dX8_make_62 : decode cX8_make 62 = .ok (.if_icmp .ge 16, 3) := by decide +kernel
theorem dX8_make_65 : decode cX8_make 65 = .ok (.aload_n 0, 1) := by decide +kernel
theorem dX8_make_66 : decode cX8_make 66 = .ok (.getfield 95, 3) := by decide +kernel
theorem dX8_make_69 : decode cX8_make 69 = .ok (.iload_n 2, 1) := by decide +kernel
theorem dX8_make_70 : decode cX8_make 70 = .ok (.iconst 0, 1) := by decide +kernel
theorem dX8_make_71 : decode cX8_make 71 = .ok (.iastore, 1) := by decide +kernel
theorem dX8_make_72 : decode cX8_make 72 = .ok (.iinc 2 1, 3) := by decide +kernel
theorem dX8_make_75 : decode cX8_make 75 = .ok (.goto (-18), 3) := by decide +kernel
theorem dX8_make_78 : decode cX8_make 78 = .ok (.aload_n 0, 1) := by decide +kernel
theorem dX8_make_79 : decode cX8_make 79 = .ok (.iconst 0, 1) := by decide +kernel
theorem dX8_make_80 : decode cX8_make 80 = .ok (.putfield 235, 3) := by decide +kernel
theorem dX8_make_83 : decode cX8_make 83 = .ok (.iconst 0, 1) := by decide +kernel
theorem dX8_make_84 : decode cX8_make 84 = .ok (.istore_n 2, 1) := by decide +kernel
theorem dX8_make_85 : decode cX8_make 85 = .ok (.aload_n 0, 1) := by decide +kernel
theorem dX8_make_86 : decode cX8_make 86 = .ok (.getfield 173, 3) := by decide +kernel
theorem dX8_make_89 : decode cX8_make 89 = .ok (.ifCond .le 21, 3) := by decide +kernel
theorem dX8_make_92 : decode cX8_make 92 = .ok (.aload_n 0, 1) := by decide +kernel
theorem dX8_make_93 : decode cX8_make 93 = .ok (.getfield 92, 3) := by decide +kernel
theorem dX8_make_96 : decode cX8_make 96 = .ok (.iload_n 2, 1) := by decide +kernel
theorem dX8_make_97 : decode cX8_make 97 = .ok (.iaload, 1) := by decide +kernel
theorem dX8_make_98 : decode cX8_make 98 = .ok (.ifCond .le 12, 3) := by decide +kernel
theorem dX8_make_101 : decode cX8_make 101 = .ok (.aload_n 0, 1) := by decide +kernel
theorem dX8_make_102 : decode cX8_make 102 = .ok (.iload_n 2, 1) := by decide +kernel
theorem dX8_make_103 : decode cX8_make 103 = .ok (.invokevirtual 238, 3) := by decide +kernel
theorem dX8_make_106 : decode cX8_make 106 = .ok (.istore_n 2, 1) := by decide +kernel
theorem dX8_make_107 : decode cX8_make 107 = .ok (.goto (-22), 3) := by decide +kernel
theorem dX8_make_110 : decode cX8_make 110 = .ok (.aload_n 0, 1) := by decide +kernel
theorem dX8_make_111 : decode cX8_make 111 = .ok (.invokevirtual 242, 3) := by decide +kernel
theorem dX8_make_114 : decode cX8_make 114 = .ok (.return_, 1) := by decide +kernel
theorem dX8_weigh_0 : decode cX8_weigh 0 = .ok (.iload_n 1, 1) := by decide +kernel
theorem dX8_weigh_1 : decode cX8_weigh 1 = .ok (.istore_n 2, 1) := by decide +kernel
theorem dX8_weigh_2 : decode cX8_weigh 2 = .ok (.iconst 1, 1) := by decide +kernel
theorem dX8_weigh_3 : decode cX8_weigh 3 = .ok (.istore_n 3, 1) := by decide +kernel
theorem dX8_weigh_4 : decode cX8_weigh 4 = .ok (.iconst 1, 1) := by decide +kernel
theorem dX8_weigh_5 : decode cX8_weigh 5 = .ok (.istore 4, 2) := by decide +kernel
theorem dX8_weigh_7 : decode cX8_weigh 7 = .ok (.aload_n 0, 1) := by decide +kernel
theorem dX8_weigh_8 : decode cX8_weigh 8 = .ok (.getfield 173, 3) := by decide +kernel
theorem dX8_weigh_11 : decode cX8_weigh 11 = .ok (.iconst 1, 1) := by decide +kernel
theorem dX8_weigh_12 : decode cX8_weigh 12 = .ok (.isub, 1) := by decide +kernel
theorem dX8_weigh_13 : decode cX8_weigh 13 = .ok (.istore 5, 2) := by decide +kernel
theorem dX8_weigh_15 : decode cX8_weigh 15 = .ok (.iload 5, 2) := by decide +kernel
theorem dX8_weigh_17 : decode cX8_weigh 17 = .ok (.ifCond .lt 81, 3) := by decide +kernel
theorem dX8_weigh_20 : decode cX8_weigh 20 = .ok (.aload_n 0, 1) := by decide +kernel
theorem dX8_weigh_21 : decode cX8_weigh 21 = .ok (.getfield 95, 3) := by decide +kernel
theorem dX8_weigh_24 : decode cX8_weigh 24 = .ok (.iload 5, 2) := by decide +kernel
theorem dX8_weigh_26 : decode cX8_weigh 26 = .ok (.iload_n 2, 1) := by decide +kernel
theorem dX8_weigh_27 : decode cX8_weigh 27 = .ok (.bipush 11, 2) := by decide +kernel
theorem dX8_weigh_29 : decode cX8_weigh 29 = .ok (.irem, 1) := by decide +kernel
theorem dX8_weigh_30 : decode cX8_weigh 30 = .ok (.iastore, 1) := by decide +kernel
theorem dX8_weigh_31 : decode cX8_weigh 31 = .ok (.iload_n 2, 1) := by decide +kernel
theorem dX8_weigh_32 : decode cX8_weigh 32 = .ok (.bipush 11, 2) := by decide +kernel
theorem dX8_weigh_34 : decode cX8_weigh 34 = .ok (.idiv, 1) := by decide +kernel
theorem dX8_weigh_35 : decode cX8_weigh 35 = .ok (.istore_n 2, 1) := by decide +kernel
theorem dX8_weigh_36 : decode cX8_weigh 36 = .ok (.iload_n 3, 1) := by decide +kernel
theorem dX8_weigh_37 : decode cX8_weigh 37 = .ok (.ifCond .eq 24, 3) := by decide +kernel
theorem dX8_weigh_40 : decode cX8_weigh 40 = .ok (.aload_n 0, 1) := by decide +kernel
theorem dX8_weigh_41 : decode cX8_weigh 41 = .ok (.getfield 95, 3) := by decide +kernel
theorem dX8_weigh_44 : decode cX8_weigh 44 = .ok (.iload 5, 2) := by decide +kernel
theorem dX8_weigh_46 : decode cX8_weigh 46 = .ok (.iaload, 1) := by decide +kernel
theorem dX8_weigh_47 : decode cX8_weigh 47 = .ok (.aload_n 0, 1) := by decide +kernel
theorem dX8_weigh_48 : decode cX8_weigh 48 = .ok (.getfield 19, 3) := by decide +kernel
theorem dX8_weigh_51 : decode cX8_weigh 51 = .ok (.iload 5, 2) := by decide +kernel
theorem dX8_weigh_53 : decode cX8_weigh 53 = .ok (.iaload, 1) := by decide +kernel
theorem dX8_weigh_54 : decode cX8_weigh 54 = .ok (.if_icmp .gt 7, 3) := by decide +kernel
theorem dX8_weigh_57 : decode cX8_weigh 57 = .ok (.iconst 1, 1) := by decide +kernel
theorem dX8_weigh_58 : decode cX8_weigh 58 = .ok (.goto 4, 3) := by decide +kernel
theorem dX8_weigh_61 : decode cX8_weigh 61 = .ok (.iconst 0, 1) := by decide +kernel
theorem dX8_weigh_62 : decode cX8_weigh 62 = .ok (.istore_n 3, 1) := by decide +kernel
theorem dX8_weigh_63 : decode cX8_weigh 63 = .ok (.iload 4, 2) := by decide +kernel
theorem dX8_weigh_65 : decode cX8_weigh 65 = .ok (.ifCond .eq 24, 3) := by decide +kernel
theorem dX8_weigh_68 : decode cX8_weigh 68 = .ok (.aload_n 0, 1) := by decide +kernel
theorem dX8_weigh_69 : decode cX8_weigh 69 = .ok (.getfield 95, 3) := by decide +kernel
theorem dX8_weigh_72 : decode cX8_weigh 72 = .ok (.iload 5, 2) := by decide +kernel
theorem dX8_weigh_74 : decode cX8_weigh 74 = .ok (.iaload, 1) := by decide +kernel
theorem dX8_weigh_75 : decode cX8_weigh 75 = .ok (.aload_n 0, 1) := by decide +kernel
theorem dX8_weigh_76 : decode cX8_weigh 76 = .ok (.getfield 19, 3) := by decide +kernel
theorem dX8_weigh_79 : decode cX8_weigh 79 = .ok (.iload 5, 2) := by decide +kernel
theorem dX8_weigh_81 : decode cX8_weigh 81 = .ok (.iaload, 1) := by decide +kernel
theorem dX8_weigh_82 : decode cX8_weigh 82 = .ok (.if_icmp .ne 7, 3) := by decide +kernel
theorem dX8_weigh_85 : decode cX8_weigh 85 = .ok (.iconst 1, 1) := by decide +kernel
theorem dX8_weigh_86 : decode cX8_weigh 86 = .ok (.goto 4, 3) := by decide +kernel
theorem dX8_weigh_89 : decode cX8_weigh 89 = .ok (.iconst 0, 1) := by decide +kernel
theorem dX8_weigh_90 : decode cX8_weigh 90 = .ok (.istore 4, 2) := by decide +kernel
theorem dX8_weigh_92 : decode cX8_weigh 92 = .ok (.iinc 5 (-1), 3) := by decide +kernel
theorem dX8_weigh_95 : decode cX8_weigh 95 = .ok (.goto (-80), 3) := by decide +kernel
theorem dX8_weigh_98 : decode cX8_weigh 98 = .ok (.aload_n 0, 1) := by decide +kernel
theorem dX8_weigh_99 : decode cX8_weigh 99 = .ok (.getfield 92, 3) := by decide +kernel
theorem dX8_weigh_102 : decode cX8_weigh 102 = .ok (.iload_n 1, 1) := by decide +kernel
theorem dX8_weigh_103 : decode cX8_weigh 103 = .ok (.iconst 0, 1) := by decide +kernel
theorem dX8_weigh_104 : decode cX8_weigh 104 = .ok (.iastore, 1) := by decide +kernel
theorem dX8_weigh_105 : decode cX8_weigh 105 = .ok (.iload_n 3, 1) := by decide +kernel
theorem dX8_weigh_106 : decode cX8_weigh 106 = .ok (.ifCond .eq 8, 3) := by decide +kernel
theorem dX8_weigh_109 : decode cX8_weigh 109 = .ok (.iload 4, 2) := by decide +kernel
theorem dX8_weigh_111 : decode cX8_weigh 111 = .ok (.ifCond .eq 4, 3) := by decide +kernel
theorem dX8_weigh_114 : decode cX8_weigh 114 = .ok (.return_, 1) := by decide +kernel
theorem dX8_weigh_115 : decode cX8_weigh 115 = .ok (.bipush 99, 2) := by decide +kernel
theorem dX8_weigh_117 : decode cX8_weigh 117 = .ok (.istore 5, 2) := by decide +kernel
theorem dX8_weigh_119 : decode cX8_weigh 119 = .ok (.iconst 0, 1) := by decide +kernel
theorem dX8_weigh_120 : decode cX8_weigh 120 = .ok (.istore 6, 2) := by decide +kernel
theorem dX8_weigh_122 : decode cX8_weigh 122 = .ok (.iload 6, 2) := by decide +kernel
theorem dX8_weigh_124 : decode cX8_weigh 124 = .ok (.bipush 12, 2) := by decide +kernel
theorem dX8_weigh_126 : decode cX8_weigh 126 = .ok (.if_icmp .ge 54, 3) := by decide +kernel
theorem dX8_weigh_129 : decode cX8_weigh 129 = .ok (.aload_n 0, 1) := by decide +kernel
theorem dX8_weigh_130 : decode cX8_weigh 130 = .ok (.iload 6, 2) := by decide +kernel
theorem dX8_weigh_132 : decode cX8_weigh 132 = .ok (.invokevirtual 245, 3) := by decide +kernel
theorem dX8_weigh_135 : decode cX8_weigh 135 = .ok (.istore 7, 2) := by decide +kernel
theorem dX8_weigh_137 : decode cX8_weigh 137 = .ok (.aload_n 0, 1) := by decide +kernel
theorem dX8_weigh_138 : decode cX8_weigh 138 = .ok (.getfield 228, 3) := by decide +kernel
theorem dX8_weigh_141 : decode cX8_weigh 141 = .ok (.ifCond .eq 29, 3) := by decide +kernel
theorem dX8_weigh_144 : decode cX8_weigh 144 = .ok (.aload_n 0, 1) := by decide +kernel
theorem dX8_weigh_145 : decode cX8_weigh 145 = .ok (.getfield 92, 3) := by decide +kernel
theorem dX8_weigh_148 : decode cX8_weigh 148 = .ok (.iload 7, 2) := by decide +kernel
theorem dX8_weigh_150 : decode cX8_weigh 150 = .ok (.iaload, 1) := by decide +kernel
theorem dX8_weigh_151 : decode cX8_weigh 151 = .ok (.iconst 1, 1) := by decide +kernel
theorem dX8_weigh_152 : decode cX8_weigh 152 = .ok (.iadd, 1) := by decide +kernel
theorem dX8_weigh_153 : decode cX8_weigh 153 = .ok (.iload 5, 2) := by decide +kernel
theorem dX8_weigh_155 : decode cX8_weigh 155 = .ok (.if_icmp .ge 15, 3) := by decide +kernel
theorem dX8_weigh_158 : decode cX8_weigh 158 = .ok (.aload_n 0, 1) := by decide +kernel
theorem dX8_weigh_159 : decode cX8_weigh 159 = .ok (.getfield 92, 3) := by decide +kernel
theorem dX8_weigh_162 : decode cX8_weigh 162 = .ok (.iload 7, 2) := by decide +kernel
theorem dX8_weigh_164 : decode cX8_weigh 164 = .ok (.iaload, 1) := by decide +kernel
theorem dX8_weigh_165 : decode cX8_weigh 165 = .ok (.iconst 1, 1) := by decide +kernel
theorem dX8_weigh_166 : decode cX8_weigh 166 = .ok (.iadd, 1) := by decide +kernel
theorem dX8_weigh_167 : decode cX8_weigh 167 = .ok (.goto 5, 3) := by decide +kernel
theorem dX8_weigh_170 : decode cX8_weigh 170 = .ok (.iload 5, 2) := by decide +kernel
theorem dX8_weigh_172 : decode cX8_weigh 172 = .ok (.istore 5, 2) := by decide +kernel
theorem dX8_weigh_174 : decode cX8_weigh 174 = .ok (.iinc 6 1, 3) := by decide +kernel
theorem dX8_weigh_177 : decode cX8_weigh 177 = .ok (.goto (-55), 3) := by decide +kernel
theorem dX8_weigh_180 : decode cX8_weigh 180 = .ok (.aload_n 0, 1) := by decide +kernel
theorem dX8_weigh_181 : decode cX8_weigh 181 = .ok (.getfield 92, 3) := by decide +kernel
theorem dX8_weigh_184 : decode cX8_weigh 184 = .ok (.iload_n 1, 1) := by decide +kernel
theorem dX8_weigh_185 : decode cX8_weigh 185 = .ok (.iload 5, 2) := by decide +kernel
theorem dX8_weigh_187 : decode cX8_weigh 187 = .ok (.iastore, 1) := by decide +kernel
theorem dX8_weigh_188 : decode cX8_weigh 188 = .ok (.return_, 1) := by decide +kernel
theorem dX8_goOn_0 : decode cX8_goOn 0 = .ok (.iconst 0, 1) := by decide +kernel
theorem dX8_goOn_1 : decode cX8_goOn 1 = .ok (.istore_n 2, 1) := by decide +kernel
theorem dX8_goOn_2 : decode cX8_goOn 2 = .ok (.aload_n 0, 1) := by decide +kernel
theorem dX8_goOn_3 : decode cX8_goOn 3 = .ok (.iconst 0, 1) := by decide +kernel
theorem dX8_goOn_4 : decode cX8_goOn 4 = .ok (.invokevirtual 245, 3) := by decide +kernel
theorem dX8_goOn_7 : decode cX8_goOn 7 = .ok (.istore_n 3, 1) := by decide +kernel
theorem dX8_goOn_8 : decode cX8_goOn 8 = .ok (.aload_n 0, 1) := by decide +kernel
theorem dX8_goOn_9 : decode cX8_goOn 9 = .ok (.getfield 228, 3) := by decide +kernel
theorem dX8_goOn_12 : decode cX8_goOn 12 = .ok (.ifCond .eq 20, 3) := by decide +kernel
theorem dX8_goOn_15 : decode cX8_goOn 15 = .ok (.aload_n 0, 1) := by decide +kernel
theorem dX8_goOn_16 : decode cX8_goOn 16 = .ok (.getfield 92, 3) := by decide +kernel
theorem dX8_goOn_19 : decode cX8_goOn 19 = .ok (.iload_n 3, 1) := by decide +kernel
theorem dX8_goOn_20 : decode cX8_goOn 20 = .ok (.iaload, 1) := by decide +kernel
theorem dX8_goOn_21 : decode cX8_goOn 21 = .ok (.iconst 1, 1) := by decide +kernel
theorem dX8_goOn_22 : decode cX8_goOn 22 = .ok (.iadd, 1) := by decide +kernel
theorem dX8_goOn_23 : decode cX8_goOn 23 = .ok (.aload_n 0, 1) := by decide +kernel
theorem dX8_goOn_24 : decode cX8_goOn 24 = .ok (.getfield 92, 3) := by decide +kernel
theorem dX8_goOn_27 : decode cX8_goOn 27 = .ok (.iload_n 1, 1) := by decide +kernel
theorem dX8_goOn_28 : decode cX8_goOn 28 = .ok (.iaload, 1) := by decide +kernel
theorem dX8_goOn_29 : decode cX8_goOn 29 = .ok (.if_icmp .eq 15, 3) := by decide +kernel
theorem dX8_goOn_32 : decode cX8_goOn 32 = .ok (.iinc 2 1, 3) := by decide +kernel
theorem dX8_goOn_35 : decode cX8_goOn 35 = .ok (.aload_n 0, 1) := by decide +kernel
theorem dX8_goOn_36 : decode cX8_goOn 36 = .ok (.iload_n 2, 1) := by decide +kernel
theorem dX8_goOn_37 : decode cX8_goOn 37 = .ok (.invokevirtual 245, 3) := by decide +kernel
theorem dX8_goOn_40 : decode cX8_goOn 40 = .ok (.istore_n 3, 1) := by decide +kernel
theorem dX8_goOn_41 : decode cX8_goOn 41 = .ok (.goto (-33), 3) := by decide +kernel
theorem dX8_goOn_44 : decode cX8_goOn 44 = .ok (.aload_n 0, 1) := by decide +kernel
theorem dX8_goOn_45 : decode cX8_goOn 45 = .ok (.getfield 101, 3) := by decide +kernel
theorem dX8_goOn_48 : decode cX8_goOn 48 = .ok (.aload_n 0, 1) := by decide +kernel
theorem dX8_goOn_49 : decode cX8_goOn 49 = .ok (.getfield 235, 3) := by decide +kernel
theorem dX8_goOn_52 : decode cX8_goOn 52 = .ok (.iload_n 2, 1) := by decide +kernel
theorem dX8_goOn_53 : decode cX8_goOn 53 = .ok (.iastore, 1) := by decide +kernel
theorem dX8_goOn_54 : decode cX8_goOn 54 = .ok (.iconst 0, 1) := by decide +kernel
theorem dX8_goOn_55 : decode cX8_goOn 55 = .ok (.istore 4, 2) := by decide +kernel
theorem dX8_goOn_57 : decode cX8_goOn 57 = .ok (.iload 4, 2) := by decide +kernel
theorem dX8_goOn_59 : decode cX8_goOn 59 = .ok (.aload_n 0, 1) := by decide +kernel
theorem dX8_goOn_60 : decode cX8_goOn 60 = .ok (.getfield 173, 3) := by decide +kernel
theorem dX8_goOn_63 : decode cX8_goOn 63 = .ok (.if_icmp .ge 62, 3) := by decide +kernel
theorem dX8_goOn_66 : decode cX8_goOn 66 = .ok (.aload_n 0, 1) := by decide +kernel
theorem dX8_goOn_67 : decode cX8_goOn 67 = .ok (.getfield 98, 3) := by decide +kernel
theorem dX8_goOn_70 : decode cX8_goOn 70 = .ok (.iload 4, 2) := by decide +kernel
theorem dX8_goOn_72 : decode cX8_goOn 72 = .ok (.iaload, 1) := by decide +kernel
theorem dX8_goOn_73 : decode cX8_goOn 73 = .ok (.aload_n 0, 1) := by decide +kernel
theorem dX8_goOn_74 : decode cX8_goOn 74 = .ok (.getfield 95, 3) := by decide +kernel
theorem dX8_goOn_77 : decode cX8_goOn 77 = .ok (.iload 4, 2) := by decide +kernel
theorem dX8_goOn_79 : decode cX8_goOn 79 = .ok (.iaload, 1) := by decide +kernel
theorem dX8_goOn_80 : decode cX8_goOn 80 = .ok (.if_icmp .le 25, 3) := by decide +kernel
theorem dX8_goOn_83 : decode cX8_goOn 83 = .ok (.aload_n 0, 1) := by decide +kernel
theorem dX8_goOn_84 : decode cX8_goOn 84 = .ok (.getfield 104, 3) := by decide +kernel
theorem dX8_goOn_87 : decode cX8_goOn 87 = .ok (.bipush 10, 2) := by decide +kernel
theorem dX8_goOn_89 : decode cX8_goOn 89 = .ok (.iload 4, 2) := by decide +kernel
theorem dX8_goOn_91 : decode cX8_goOn 91 = .ok (.imul, 1) := by decide +kernel
theorem dX8_goOn_92 : decode cX8_goOn 92 = .ok (.aload_n 0, 1) := by decide +kernel
theorem dX8_goOn_93 : decode cX8_goOn 93 = .ok (.getfield 95, 3) := by decide +kernel
theorem dX8_goOn_96 : decode cX8_goOn 96 = .ok (.iload 4, 2) := by decide +kernel
theorem dX8_goOn_98 : decode cX8_goOn 98 = .ok (.iaload, 1) := by decide +kernel
theorem dX8_goOn_99 : decode cX8_goOn 99 = .ok (.iadd, 1) := by decide +kernel
theorem dX8_goOn_100 : decode cX8_goOn 100 = .ok (.aload_n 0, 1) := by decide +kernel
theorem dX8_goOn_101 : decode cX8_goOn 101 = .ok (.getfield 235, 3) := by decide +kernel
theorem dX8_goOn_104 : decode cX8_goOn 104 = .ok (.iastore, 1) := by decide +kernel
theorem dX8_goOn_105 : decode cX8_goOn 105 = .ok (.aload_n 0, 1) := by decide +kernel
theorem dX8_goOn_106 : decode cX8_goOn 106 = .ok (.getfield 95, 3) := by decide +kernel
theorem dX8_goOn_109 : decode cX8_goOn 109 = .ok (.iload 4, 2) := by decide +kernel
theorem dX8_goOn_111 : decode cX8_goOn 111 = .ok (.aload_n 0, 1) := by decide +kernel
theorem dX8_goOn_112 : decode cX8_goOn 112 = .ok (.getfield 98, 3) := by decide +kernel
theorem dX8_goOn_115 : decode cX8_goOn 115 = .ok (.iload 4, 2) := by decide +kernel
theorem dX8_goOn_117 : decode cX8_goOn 117 = .ok (.iaload, 1) := by decide +kernel
theorem dX8_goOn_118 : decode cX8_goOn 118 = .ok (.iastore, 1) := by decide +kernel
theorem dX8_goOn_119 : decode cX8_goOn 119 = .ok (.iinc 4 1, 3) := by decide +kernel
theorem dX8_goOn_122 : decode cX8_goOn 122 = .ok (.goto (-65), 3) := by decide +kernel
theorem dX8_goOn_125 : decode cX8_goOn 125 = .ok (.aload_n 0, 1) := by decide +kernel
theorem dX8_goOn_126 : decode cX8_goOn 126 = .ok (.dup, 1) := by decide +kernel
theorem dX8_goOn_127 : decode cX8_goOn 127 = .ok (.getfield 235, 3) := by decide +kernel
theorem dX8_goOn_130 : decode cX8_goOn 130 = .ok (.iconst 1, 1) := by decide +kernel
theorem dX8_goOn_131 : decode cX8_goOn 131 = .ok (.iadd, 1) := by decide +kernel
theorem dX8_goOn_132 : decode cX8_goOn 132 = .ok (.putfield 235, 3) := by decide +kernel
theorem dX8_goOn_135 : decode cX8_goOn 135 = .ok (.iload_n 3, 1) := by decide +kernel
theorem dX8_goOn_136 : decode cX8_goOn 136 = .ok (.ireturn, 1) := by decide +kernel
theorem dX8_hasPainting_0 : decode cX8_hasPainting 0 = .ok (.iconst 0, 1) := by decide +kernel
theorem dX8_hasPainting_1 : decode cX8_hasPainting 1 = .ok (.istore_n 3, 1) := by decide +kernel
theorem dX8_hasPainting_2 : decode cX8_hasPainting 2 = .ok (.iconst 0, 1) := by decide +kernel
theorem dX8_hasPainting_3 : decode cX8_hasPainting 3 = .ok (.istore 4, 2) := by decide +kernel
theorem dX8_hasPainting_5 : decode cX8_hasPainting 5 = .ok (.iload 4, 2) := by decide +kernel
theorem dX8_hasPainting_7 : decode cX8_hasPainting 7 = .ok (.aload_n 0, 1) := by decide +kernel
theorem dX8_hasPainting_8 : decode cX8_hasPainting 8 = .ok (.getfield 19, 3) := by decide +kernel
theorem dX8_hasPainting_11 : decode cX8_hasPainting 11 = .ok (.iload_n 1, 1) := by decide +kernel
theorem dX8_hasPainting_12 : decode cX8_hasPainting 12 = .ok (.iaload, 1) := by decide +kernel
theorem dX8_hasPainting_13 : decode cX8_hasPainting 13 = .ok (.if_icmp .ge 35, 3) := by decide +kernel
theorem dX8_hasPainting_16 : decode cX8_hasPainting 16 = .ok (.iload_n 3, 1) := by decide +kernel
theorem dX8_hasPainting_17 : decode cX8_hasPainting 17 = .ok (.ifCond .ne 19, 3) := by decide +kernel
theorem dX8_hasPainting_20 : decode cX8_hasPainting 20 = .ok (.aload_n 0, 1) := by decide +kernel
theorem dX8_hasPainting_21 : decode cX8_hasPainting 21 = .ok (.getfield 104, 3) := by decide +kernel
theorem dX8_hasPainting_24 : decode cX8_hasPainting 24 = .ok (.bipush 10, 2) := by decide +kernel
theorem dX8_hasPainting_26 : decode cX8_hasPainting 26 = .ok (.iload_n 1, 1) := by decide +kernel
theorem dX8_hasPainting_27 : decode cX8_hasPainting 27 = .ok (.imul, 1) := by decide +kernel
theorem dX8_hasPainting_28 : decode cX8_hasPainting 28 = .ok (.iload 4, 2) := by decide +kernel
theorem dX8_hasPainting_30 : decode cX8_hasPainting 30 = .ok (.iadd, 1) := by decide +kernel
theorem dX8_hasPainting_31 : decode cX8_hasPainting 31 = .ok (.iaload, 1) := by decide +kernel
theorem dX8_hasPainting_32 : decode cX8_hasPainting 32 = .ok (.iload_n 2, 1) := by decide +kernel
theorem dX8_hasPainting_33 : decode cX8_hasPainting 33 = .ok (.if_icmp .ne 7, 3) := by decide +kernel
theorem dX8_hasPainting_36 : decode cX8_hasPainting 36 = .ok (.iconst 1, 1) := by decide +kernel
theorem dX8_hasPainting_37 : decode cX8_hasPainting 37 = .ok (.goto 4, 3) := by decide +kernel
theorem dX8_hasPainting_40 : decode cX8_hasPainting 40 = .ok (.iconst 0, 1) := by decide +kernel
theorem dX8_hasPainting_41 : decode cX8_hasPainting 41 = .ok (.istore_n 3, 1) := by decide +kernel
theorem dX8_hasPainting_42 : decode cX8_hasPainting 42 = .ok (.iinc 4 1, 3) := by decide +kernel
theorem dX8_hasPainting_45 : decode cX8_hasPainting 45 = .ok (.goto (-40), 3) := by decide +kernel
theorem dX8_hasPainting_48 : decode cX8_hasPainting 48 = .ok (.iload_n 3, 1) := by decide +kernel
theorem dX8_hasPainting_49 : decode cX8_hasPainting 49 = .ok (.ireturn, 1) := by decide +kernel
theorem dX8_painting_0 : decode cX8_painting 0 = .ok (.aload_n 0, 1) := by decide +kernel
theorem dX8_painting_1 : decode cX8_painting 1 = .ok (.invokevirtual 205, 3) := by decide +kernel
theorem dX8_painting_4 : decode cX8_painting 4 = .ok (.iload_n 1, 1) := by decide +kernel
theorem dX8_painting_5 : decode cX8_painting 5 = .ok (.iconst (-1), 1) := by decide +kernel
theorem dX8_painting_6 : decode cX8_painting 6 = .ok (.aload_n 0, 1) := by decide +kernel
theorem dX8_painting_7 : decode cX8_painting 7 = .ok (.getfield 235, 3) := by decide +kernel
theorem dX8_painting_10 : decode cX8_painting 10 = .ok (.iconst 1, 1) := by decide +kernel
theorem dX8_painting_11 : decode cX8_painting 11 = .ok (.isub, 1) := by decide +kernel
theorem dX8_painting_12 : decode cX8_painting 12 = .ok (.invokestatic 116, 3) := by decide +kernel
theorem dX8_painting_15 : decode cX8_painting 15 = .ok (.ifCond .ne 5, 3) := by decide +kernel
theorem dX8_painting_18 : decode cX8_painting 18 = .ok (.iconst (-1), 1) := by decide +kernel
theorem dX8_painting_19 : decode cX8_painting 19 = .ok (.ireturn, 1) := by decide +kernel
theorem dX8_painting_20 : decode cX8_painting 20 = .ok (.iload_n 1, 1) := by decide +kernel
theorem dX8_painting_21 : decode cX8_painting 21 = .ok (.ifCond .ge 10, 3) := by decide +kernel
theorem dX8_painting_24 : decode cX8_painting 24 = .ok (.aload_n 0, 1) := by decide +kernel
theorem dX8_painting_25 : decode cX8_painting 25 = .ok (.getfield 235, 3) := by decide +kernel
theorem dX8_painting_28 : decode cX8_painting 28 = .ok (.goto 9, 3) := by decide +kernel
theorem dX8_painting_31 : decode cX8_painting 31 = .ok (.aload_n 0, 1) := by decide +kernel
theorem dX8_painting_32 : decode cX8_painting 32 = .ok (.getfield 101, 3) := by decide +kernel
theorem dX8_painting_35 : decode cX8_painting 35 = .ok (.iload_n 1, 1) := by decide +kernel
theorem dX8_painting_36 : decode cX8_painting 36 = .ok (.iaload, 1) := by decide +kernel
theorem dX8_painting_37 : decode cX8_painting 37 = .ok (.ireturn, 1) := by decide +kernel
theorem dX8_had_0 : decode cX8_had 0 = .ok (.aload_n 0, 1) := by decide +kernel
theorem dX8_had_1 : decode cX8_had 1 = .ok (.invokevirtual 205, 3) := by decide +kernel
theorem dX8_had_4 : decode cX8_had 4 = .ok (.iload_n 1, 1) := by decide +kernel
theorem dX8_had_5 : decode cX8_had 5 = .ok (.iconst 0, 1) := by decide +kernel
theorem dX8_had_6 : decode cX8_had 6 = .ok (.aload_n 0, 1) := by decide +kernel
theorem dX8_had_7 : decode cX8_had 7 = .ok (.getfield 235, 3) := by decide +kernel
theorem dX8_had_10 : decode cX8_had 10 = .ok (.iconst 1, 1) := by decide +kernel
theorem dX8_had_11 : decode cX8_had 11 = .ok (.isub, 1) := by decide +kernel
theorem dX8_had_12 : decode cX8_had 12 = .ok (.invokestatic 116, 3) := by decide +kernel
theorem dX8_had_15 : decode cX8_had 15 = .ok (.ifCond .ne 5, 3) := by decide +kernel
theorem dX8_had_18 : decode cX8_had 18 = .ok (.iconst (-1), 1) := by decide +kernel
theorem dX8_had_19 : decode cX8_had 19 = .ok (.ireturn, 1) := by decide +kernel
theorem dX8_had_20 : decode cX8_had 20 = .ok (.iconst 0, 1) := by decide +kernel
theorem dX8_had_21 : decode cX8_had 21 = .ok (.istore_n 2, 1) := by decide +kernel
theorem dX8_had_22 : decode cX8_had 22 = .ok (.iconst 0, 1) := by decide +kernel
theorem dX8_had_23 : decode cX8_had 23 = .ok (.istore_n 3, 1) := by decide +kernel
theorem dX8_had_24 : decode cX8_had 24 = .ok (.iload_n 3, 1) := by decide +kernel
theorem dX8_had_25 : decode cX8_had 25 = .ok (.aload_n 0, 1) := by decide +kernel
theorem dX8_had_26 : decode cX8_had 26 = .ok (.getfield 173, 3) := by decide +kernel
theorem dX8_had_29 : decode cX8_had 29 = .ok (.if_icmp .ge 28, 3) := by decide +kernel
theorem dX8_had_32 : decode cX8_had 32 = .ok (.aload_n 0, 1) := by decide +kernel
theorem dX8_had_33 : decode cX8_had 33 = .ok (.iload_n 3, 1) := by decide +kernel
theorem dX8_had_34 : decode cX8_had 34 = .ok (.iload_n 1, 1) := by decide +kernel
theorem dX8_had_35 : decode cX8_had 35 = .ok (.invokevirtual 248, 3) := by decide +kernel
theorem dX8_had_38 : decode cX8_had 38 = .ok (.ifCond .eq 11, 3) := by decide +kernel
theorem dX8_had_41 : decode cX8_had 41 = .ok (.iload_n 2, 1) := by decide +kernel
theorem dX8_had_42 : decode cX8_had 42 = .ok (.iconst 1, 1) := by decide +kernel
theorem dX8_had_43 : decode cX8_had 43 = .ok (.iload_n 3, 1) := by decide +kernel
theorem dX8_had_44 : decode cX8_had 44 = .ok (.ishl, 1) := by decide +kernel
theorem dX8_had_45 : decode cX8_had 45 = .ok (.ior, 1) := by decide +kernel
theorem dX8_had_46 : decode cX8_had 46 = .ok (.goto 4, 3) := by decide +kernel
theorem dX8_had_49 : decode cX8_had 49 = .ok (.iload_n 2, 1) := by decide +kernel
theorem dX8_had_50 : decode cX8_had 50 = .ok (.istore_n 2, 1) := by decide +kernel
theorem dX8_had_51 : decode cX8_had 51 = .ok (.iinc 3 1, 3) := by decide +kernel
theorem dX8_had_54 : decode cX8_had 54 = .ok (.goto (-30), 3) := by decide +kernel
theorem dX8_had_57 : decode cX8_had 57 = .ok (.iload_n 2, 1) := by decide +kernel
theorem dX8_had_58 : decode cX8_had 58 = .ok (.ireturn, 1) := by decide +kernel
theorem dX8_moved_0 : decode cX8_moved 0 = .ok (.iconst (-1), 1) := by decide +kernel
theorem dX8_moved_1 : decode cX8_moved 1 = .ok (.istore_n 2, 1) := by decide +kernel
theorem dX8_moved_2 : decode cX8_moved 2 = .ok (.bipush (-9), 2) := by decide +kernel
theorem dX8_moved_4 : decode cX8_moved 4 = .ok (.istore_n 3, 1) := by decide +kernel
theorem dX8_moved_5 : decode cX8_moved 5 = .ok (.iconst 0, 1) := by decide +kernel
theorem dX8_moved_6 : decode cX8_moved 6 = .ok (.istore 4, 2) := by decide +kernel
theorem dX8_moved_8 : decode cX8_moved 8 = .ok (.iload 4, 2) := by decide +kernel
theorem dX8_moved_10 : decode cX8_moved 10 = .ok (.aload_n 0, 1) := by decide +kernel
theorem dX8_moved_11 : decode cX8_moved 11 = .ok (.getfield 173, 3) := by decide +kernel
theorem dX8_moved_14 : decode cX8_moved 14 = .ok (.if_icmp .ge 70, 3) := by decide +kernel
theorem dX8_moved_17 : decode cX8_moved 17 = .ok (.iload 4, 2) := by decide +kernel
theorem dX8_moved_19 : decode cX8_moved 19 = .ok (.iload_n 1, 1) := by decide +kernel
theorem dX8_moved_20 : decode cX8_moved 20 = .ok (.if_icmp .ne 6, 3) := by decide +kernel
theorem dX8_moved_23 : decode cX8_moved 23 = .ok (.goto 55, 3) := by decide +kernel
theorem dX8_moved_26 : decode cX8_moved 26 = .ok (.aload_n 0, 1) := by decide +kernel
theorem dX8_moved_27 : decode cX8_moved 27 = .ok (.iload_n 1, 1) := by decide +kernel
theorem dX8_moved_28 : decode cX8_moved 28 = .ok (.iload 4, 2) := by decide +kernel
theorem dX8_moved_30 : decode cX8_moved 30 = .ok (.invokevirtual 251, 3) := by decide +kernel
theorem dX8_moved_33 : decode cX8_moved 33 = .ok (.istore 5, 2) := by decide +kernel
theorem dX8_moved_35 : decode cX8_moved 35 = .ok (.iload_n 2, 1) := by decide +kernel
theorem dX8_moved_36 : decode cX8_moved 36 = .ok (.ifCond .lt 31, 3) := by decide +kernel
theorem dX8_moved_39 : decode cX8_moved 39 = .ok (.iload 5, 2) := by decide +kernel
theorem dX8_moved_41 : decode cX8_moved 41 = .ok (.iload_n 2, 1) := by decide +kernel
theorem dX8_moved_42 : decode cX8_moved 42 = .ok (.if_icmp .lt 25, 3) := by decide +kernel
theorem dX8_moved_45 : decode cX8_moved 45 = .ok (.iload 5, 2) := by decide +kernel
theorem dX8_moved_47 : decode cX8_moved 47 = .ok (.iload_n 2, 1) := by decide +kernel
theorem dX8_moved_48 : decode cX8_moved 48 = .ok (.if_icmp .ne 30, 3) := by decide +kernel
theorem dX8_moved_51 : decode cX8_moved 51 = .ok (.aload_n 0, 1) := by decide +kernel
theorem dX8_moved_52 : decode cX8_moved 52 = .ok (.getfield 13, 3) := by decide +kernel
theorem dX8_moved_55 : decode cX8_moved 55 = .ok (.iload 4, 2) := by decide +kernel
theorem dX8_moved_57 : decode cX8_moved 57 = .ok (.iaload, 1) := by decide +kernel
theorem dX8_moved_58 : decode cX8_moved 58 = .ok (.aload_n 0, 1) := by decide +kernel
theorem dX8_moved_59 : decode cX8_moved 59 = .ok (.getfield 13, 3) := by decide +kernel
theorem dX8_moved_62 : decode cX8_moved 62 = .ok (.iload_n 1, 1) := by decide +kernel
theorem dX8_moved_63 : decode cX8_moved 63 = .ok (.iaload, 1) := by decide +kernel
theorem dX8_moved_64 : decode cX8_moved 64 = .ok (.if_icmp .ne 14, 3) := by decide +kernel
theorem dX8_moved_67 : decode cX8_moved 67 = .ok (.iload 5, 2) := by decide +kernel
theorem dX8_moved_69 : decode cX8_moved 69 = .ok (.istore_n 2, 1) := by decide +kernel
theorem dX8_moved_70 : decode cX8_moved 70 = .ok (.aload_n 0, 1) := by decide +kernel
theorem dX8_moved_71 : decode cX8_moved 71 = .ok (.getfield 13, 3) := by decide +kernel
theorem dX8_moved_74 : decode cX8_moved 74 = .ok (.iload 4, 2) := by decide +kernel
theorem dX8_moved_76 : decode cX8_moved 76 = .ok (.iaload, 1) := by decide +kernel
theorem dX8_moved_77 : decode cX8_moved 77 = .ok (.istore_n 3, 1) := by decide +kernel
theorem dX8_moved_78 : decode cX8_moved 78 = .ok (.iinc 4 1, 3) := by decide +kernel
theorem dX8_moved_81 : decode cX8_moved 81 = .ok (.goto (-73), 3) := by decide +kernel
theorem dX8_moved_84 : decode cX8_moved 84 = .ok (.iload_n 3, 1) := by decide +kernel
theorem dX8_moved_85 : decode cX8_moved 85 = .ok (.ireturn, 1) := by decide +kernel
theorem dX8_face_0 : decode cX8_face 0 = .ok (.aload_n 0, 1) := by decide +kernel
theorem dX8_face_1 : decode cX8_face 1 = .ok (.iload_n 1, 1) := by decide +kernel
theorem dX8_face_2 : decode cX8_face 2 = .ok (.invokevirtual 199, 3) := by decide +kernel
theorem dX8_face_5 : decode cX8_face 5 = .ok (.ifCond .eq 12, 3) := by decide +kernel
theorem dX8_face_8 : decode cX8_face 8 = .ok (.iload_n 2, 1) := by decide +kernel
theorem dX8_face_9 : decode cX8_face 9 = .ok (.iconst 0, 1) := by decide +kernel
theorem dX8_face_10 : decode cX8_face 10 = .ok (.iconst 3, 1) := by decide +kernel
theorem dX8_face_11 : decode cX8_face 11 = .ok (.invokestatic 116, 3) := by decide +kernel
theorem dX8_face_14 : decode cX8_face 14 = .ok (.ifCond .ne 5, 3) := by decide +kernel
theorem dX8_face_17 : decode cX8_face 17 = .ok (.iconst (-1), 1) := by decide +kernel
theorem dX8_face_18 : decode cX8_face 18 = .ok (.ireturn, 1) := by decide +kernel
theorem dX8_face_19 : decode cX8_face 19 = .ok (.aload_n 0, 1) := by decide +kernel
theorem dX8_face_20 : decode cX8_face 20 = .ok (.invokevirtual 205, 3) := by decide +kernel
theorem dX8_face_23 : decode cX8_face 23 = .ok (.aload_n 0, 1) := by decide +kernel
theorem dX8_face_24 : decode cX8_face 24 = .ok (.getfield 104, 3) := by decide +kernel
theorem dX8_face_27 : decode cX8_face 27 = .ok (.bipush 10, 2) := by decide +kernel
theorem dX8_face_29 : decode cX8_face 29 = .ok (.iload_n 1, 1) := by decide +kernel
theorem dX8_face_30 : decode cX8_face 30 = .ok (.imul, 1) := by decide +kernel
theorem dX8_face_31 : decode cX8_face 31 = .ok (.iaload, 1) := by decide +kernel
theorem dX8_face_32 : decode cX8_face 32 = .ok (.istore_n 3, 1) := by decide +kernel
theorem dX8_face_33 : decode cX8_face 33 = .ok (.aload_n 0, 1) := by decide +kernel
theorem dX8_face_34 : decode cX8_face 34 = .ok (.getfield 104, 3) := by decide +kernel
theorem dX8_face_37 : decode cX8_face 37 = .ok (.bipush 10, 2) := by decide +kernel
theorem dX8_face_39 : decode cX8_face 39 = .ok (.iload_n 1, 1) := by decide +kernel
theorem dX8_face_40 : decode cX8_face 40 = .ok (.imul, 1) := by decide +kernel
theorem dX8_face_41 : decode cX8_face 41 = .ok (.aload_n 0, 1) := by decide +kernel
theorem dX8_face_42 : decode cX8_face 42 = .ok (.getfield 19, 3) := by decide +kernel
theorem dX8_face_45 : decode cX8_face 45 = .ok (.iload_n 1, 1) := by decide +kernel
theorem dX8_face_46 : decode cX8_face 46 = .ok (.iaload, 1) := by decide +kernel
theorem dX8_face_47 : decode cX8_face 47 = .ok (.iadd, 1) := by decide +kernel
theorem dX8_face_48 : decode cX8_face 48 = .ok (.iconst 1, 1) := by decide +kernel
theorem dX8_face_49 : decode cX8_face 49 = .ok (.isub, 1) := by decide +kernel
theorem dX8_face_50 : decode cX8_face 50 = .ok (.iaload, 1) := by decide +kernel
theorem dX8_face_51 : decode cX8_face 51 = .ok (.istore 4, 2) := by decide +kernel
theorem dX8_face_53 : decode cX8_face 53 = .ok (.iload_n 2, 1) := by decide +kernel
theorem dX8_face_54 : decode cX8_face 54 = .ok (.ifCond .ne 17, 3) := by decide +kernel
theorem dX8_face_57 : decode cX8_face 57 = .ok (.iload 4, 2) := by decide +kernel
theorem dX8_face_59 : decode cX8_face 59 = .ok (.iload_n 3, 1) := by decide +kernel
theorem dX8_face_60 : decode cX8_face 60 = .ok (.isub, 1) := by decide +kernel
theorem dX8_face_61 : decode cX8_face 61 = .ok (.iconst 1, 1) := by decide +kernel
theorem dX8_face_62 : decode cX8_face 62 = .ok (.iadd, 1) := by decide +kernel
theorem dX8_face_63 : decode cX8_face 63 = .ok (.aload_n 0, 1) := by decide +kernel
theorem dX8_face_64 : decode cX8_face 64 = .ok (.getfield 19, 3) := by decide +kernel
theorem dX8_face_67 : decode cX8_face 67 = .ok (.iload_n 1, 1) := by decide +kernel
theorem dX8_face_68 : decode cX8_face 68 = .ok (.iaload, 1) := by decide +kernel
theorem dX8_face_69 : decode cX8_face 69 = .ok (.isub, 1) := by decide +kernel
theorem dX8_face_70 : decode cX8_face 70 = .ok (.ireturn, 1) := by decide +kernel
theorem dX8_face_71 : decode cX8_face 71 = .ok (.iload_n 2, 1) := by decide +kernel
theorem dX8_face_72 : decode cX8_face 72 = .ok (.iconst 1, 1) := by decide +kernel
theorem dX8_face_73 : decode cX8_face 73 = .ok (.if_icmp .ne 5, 3) := by decide +kernel
theorem dX8_face_76 : decode cX8_face 76 = .ok (.iload_n 3, 1) := by decide +kernel
theorem dX8_face_77 : decode cX8_face 77 = .ok (.ireturn, 1) := by decide +kernel
theorem dX8_face_78 : decode cX8_face 78 = .ok (.iload_n 2, 1) := by decide +kernel
theorem dX8_face_79 : decode cX8_face 79 = .ok (.iconst 2, 1) := by decide +kernel
theorem dX8_face_80 : decode cX8_face 80 = .ok (.if_icmp .ne 27, 3) := by decide +kernel
theorem dX8_face_83 : decode cX8_face 83 = .ok (.iload_n 3, 1) := by decide +kernel
theorem dX8_face_84 : decode cX8_face 84 = .ok (.ifCond .ne 7, 3) := by decide +kernel
theorem dX8_face_87 : decode cX8_face 87 = .ok (.iconst 0, 1) := by decide +kernel
theorem dX8_face_88 : decode cX8_face 88 = .ok (.goto 18, 3) := by decide +kernel
theorem dX8_face_91 : decode cX8_face 91 = .ok (.aload_n 0, 1) := by decide +kernel
theorem dX8_face_92 : decode cX8_face 92 = .ok (.getfield 16, 3) := by decide +kernel
theorem dX8_face_95 : decode cX8_face 95 = .ok (.iload_n 1, 1) := by decide +kernel
theorem dX8_face_96 : decode cX8_face 96 = .ok (.iaload, 1) := by decide +kernel
theorem dX8_face_97 : decode cX8_face 97 = .ok (.iconst 1, 1) := by decide +kernel
theorem dX8_face_98 : decode cX8_face 98 = .ok (.if_icmp .ne 7, 3) := by decide +kernel
theorem dX8_face_101 : decode cX8_face 101 = .ok (.iconst 1, 1) := by decide +kernel
theorem dX8_face_102 : decode cX8_face 102 = .ok (.goto 4, 3) := by decide +kernel
theorem dX8_face_105 : decode cX8_face 105 = .ok (.iconst 2, 1) := by decide +kernel
theorem dX8_face_106 : decode cX8_face 106 = .ok (.ireturn, 1) := by decide +kernel
theorem dX8_face_107 : decode cX8_face 107 = .ok (.aload_n 0, 1) := by decide +kernel
theorem dX8_face_108 : decode cX8_face 108 = .ok (.iload_n 1, 1) := by decide +kernel
theorem dX8_face_109 : decode cX8_face 109 = .ok (.invokevirtual 255, 3) := by decide +kernel
theorem dX8_face_112 : decode cX8_face 112 = .ok (.ireturn, 1) := by decide +kernel
theorem dX8_later_0 : decode cX8_later 0 = .ok (.iconst 0, 1) := by decide +kernel
theorem dX8_later_1 : decode cX8_later 1 = .ok (.istore_n 2, 1) := by decide +kernel
theorem dX8_later_2 : decode cX8_later 2 = .ok (.iconst 0, 1) := by decide +kernel
theorem dX8_later_3 : decode cX8_later 3 = .ok (.istore_n 3, 1) := by decide +kernel
theorem dX8_later_4 : decode cX8_later 4 = .ok (.iload_n 3, 1) := by decide +kernel
theorem dX8_later_5 : decode cX8_later 5 = .ok (.aload_n 0, 1) := by decide +kernel
theorem dX8_later_6 : decode cX8_later 6 = .ok (.getfield 173, 3) := by decide +kernel
theorem dX8_later_9 : decode cX8_later 9 = .ok (.if_icmp .ge 78, 3) := by decide +kernel
theorem dX8_later_12 : decode cX8_later 12 = .ok (.iconst 0, 1) := by decide +kernel
theorem dX8_later_13 : decode cX8_later 13 = .ok (.istore 4, 2) := by decide +kernel
theorem dX8_later_15 : decode cX8_later 15 = .ok (.iload 4, 2) := by decide +kernel
theorem dX8_later_17 : decode cX8_later 17 = .ok (.aload_n 0, 1) := by decide +kernel
theorem dX8_later_18 : decode cX8_later 18 = .ok (.getfield 19, 3) := by decide +kernel
theorem dX8_later_21 : decode cX8_later 21 = .ok (.iload_n 3, 1) := by decide +kernel
theorem dX8_later_22 : decode cX8_later 22 = .ok (.iaload, 1) := by decide +kernel
theorem dX8_later_23 : decode cX8_later 23 = .ok (.if_icmp .ge 58, 3) := by decide +kernel
theorem dX8_later_26 : decode cX8_later 26 = .ok (.aload_n 0, 1) := by decide +kernel
theorem dX8_later_27 : decode cX8_later 27 = .ok (.getfield 104, 3) := by decide +kernel
theorem dX8_later_30 : decode cX8_later 30 = .ok (.bipush 10, 2) := by decide +kernel
theorem dX8_later_32 : decode cX8_later 32 = .ok (.iload_n 3, 1) := by decide +kernel
theorem dX8_later_33 : decode cX8_later 33 = .ok (.imul, 1) := by decide +kernel
theorem dX8_later_34 : decode cX8_later 34 = .ok (.iload 4, 2) := by decide +kernel
theorem dX8_later_36 : decode cX8_later 36 = .ok (.iadd, 1) := by decide +kernel
theorem dX8_later_37 : decode cX8_later 37 = .ok (.iaload, 1) := by decide +kernel
theorem dX8_later_38 : decode cX8_later 38 = .ok (.iload_n 1, 1) := by decide +kernel
theorem dX8_later_39 : decode cX8_later 39 = .ok (.if_icmp .ne 34, 3) := by decide +kernel
theorem dX8_later_42 : decode cX8_later 42 = .ok (.aload_n 0, 1) := by decide +kernel
theorem dX8_later_43 : decode cX8_later 43 = .ok (.getfield 25, 3) := by decide +kernel
theorem dX8_later_46 : decode cX8_later 46 = .ok (.bipush 10, 2) := by decide +kernel
theorem dX8_later_48 : decode cX8_later 48 = .ok (.iload_n 3, 1) := by decide +kernel
theorem dX8_later_49 : decode cX8_later 49 = .ok (.imul, 1) := by decide +kernel
theorem dX8_later_50 : decode cX8_later 50 = .ok (.iload 4, 2) := by decide +kernel
theorem dX8_later_52 : decode cX8_later 52 = .ok (.iadd, 1) := by decide +kernel
theorem dX8_later_53 : decode cX8_later 53 = .ok (.iaload, 1) := by decide +kernel
theorem dX8_later_54 : decode cX8_later 54 = .ok (.iload_n 2, 1) := by decide +kernel
theorem dX8_later_55 : decode cX8_later 55 = .ok (.if_icmp .le 18, 3) := by decide +kernel
theorem dX8_later_58 : decode cX8_later 58 = .ok (.aload_n 0, 1) := by decide +kernel
theorem dX8_later_59 : decode cX8_later 59 = .ok (.getfield 25, 3) := by decide +kernel
theorem dX8_later_62 : decode cX8_later 62 = .ok (.bipush 10, 2) := by decide +kernel
theorem dX8_later_64 : decode cX8_later 64 = .ok (.iload_n 3, 1) := by decide +kernel
theorem dX8_later_65 : decode cX8_later 65 = .ok (.imul, 1) := by decide +kernel
theorem dX8_later_66 : decode cX8_later 66 = .ok (.iload 4, 2) := by decide +kernel
theorem dX8_later_68 : decode cX8_later 68 = .ok (.iadd, 1) := by decide +kernel
theorem dX8_later_69 : decode cX8_later 69 = .ok (.iaload, 1) := by decide +kernel
theorem dX8_later_70 : decode cX8_later 70 = .ok (.goto 4, 3) := by decide +kernel
theorem dX8_later_73 : decode cX8_later 73 = .ok (.iload_n 2, 1) := by decide +kernel
theorem dX8_later_74 : decode cX8_later 74 = .ok (.istore_n 2, 1) := by decide +kernel
theorem dX8_later_75 : decode cX8_later 75 = .ok (.iinc 4 1, 3) := by decide +kernel
theorem dX8_later_78 : decode cX8_later 78 = .ok (.goto (-63), 3) := by decide +kernel
theorem dX8_later_81 : decode cX8_later 81 = .ok (.iinc 3 1, 3) := by decide +kernel
theorem dX8_later_84 : decode cX8_later 84 = .ok (.goto (-80), 3) := by decide +kernel
theorem dX8_later_87 : decode cX8_later 87 = .ok (.aload_n 0, 1) := by decide +kernel
theorem dX8_later_88 : decode cX8_later 88 = .ok (.getfield 64, 3) := by decide +kernel
theorem dX8_later_91 : decode cX8_later 91 = .ok (.iconst 3, 1) := by decide +kernel
theorem dX8_later_92 : decode cX8_later 92 = .ok (.iaload, 1) := by decide +kernel
theorem dX8_later_93 : decode cX8_later 93 = .ok (.iload_n 2, 1) := by decide +kernel
theorem dX8_later_94 : decode cX8_later 94 = .ok (.imul, 1) := by decide +kernel
theorem dX8_later_95 : decode cX8_later 95 = .ok (.iconst 1, 1) := by decide +kernel
theorem dX8_later_96 : decode cX8_later 96 = .ok (.iadd, 1) := by decide +kernel
theorem dX8_later_97 : decode cX8_later 97 = .ok (.ireturn, 1) := by decide +kernel
theorem dX8_years_0 : decode cX8_years 0 = .ok (.aload_n 0, 1) := by decide +kernel
theorem dX8_years_1 : decode cX8_years 1 = .ok (.iconst 1, 1) := by decide +kernel
theorem dX8_years_2 : decode cX8_years 2 = .ok (.putfield 258, 3) := by decide +kernel
theorem dX8_years_5 : decode cX8_years 5 = .ok (.iconst 0, 1) := by decide +kernel
theorem dX8_years_6 : decode cX8_years 6 = .ok (.istore_n 1, 1) := by decide +kernel
theorem dX8_years_7 : decode cX8_years 7 = .ok (.iload_n 1, 1) := by decide +kernel
theorem dX8_years_8 : decode cX8_years 8 = .ok (.aload_n 0, 1) := by decide +kernel
theorem dX8_years_9 : decode cX8_years 9 = .ok (.getfield 235, 3) := by decide +kernel
theorem dX8_years_12 : decode cX8_years 12 = .ok (.if_icmp .ge 106, 3) := by decide +kernel
theorem dX8_years_15 : decode cX8_years 15 = .ok (.iload_n 1, 1) := by decide +kernel
theorem dX8_years_16 : decode cX8_years 16 = .ok (.ifCond .ne 7, 3) := by decide +kernel
theorem dX8_years_19 : decode cX8_years 19 = .ok (.iconst 0, 1) := by decide +kernel
theorem dX8_years_20 : decode cX8_years 20 = .ok (.goto 19, 3) := by decide +kernel
theorem dX8_years_23 : decode cX8_years 23 = .ok (.aload_n 0, 1) := by decide +kernel
theorem dX8_years_24 : decode cX8_years 24 = .ok (.getfield 107, 3) := by decide +kernel
theorem dX8_years_27 : decode cX8_years 27 = .ok (.iload_n 1, 1) := by decide +kernel
theorem dX8_years_28 : decode cX8_years 28 = .ok (.iconst 1, 1) := by decide +kernel
theorem dX8_years_29 : decode cX8_years 29 = .ok (.isub, 1) := by decide +kernel
theorem dX8_years_30 : decode cX8_years 30 = .ok (.iaload, 1) := by decide +kernel
theorem dX8_years_31 : decode cX8_years 31 = .ok (.aload_n 0, 1) := by decide +kernel
theorem dX8_years_32 : decode cX8_years 32 = .ok (.iload_n 1, 1) := by decide +kernel
theorem dX8_years_33 : decode cX8_years 33 = .ok (.iconst 1, 1) := by decide +kernel
theorem dX8_years_34 : decode cX8_years 34 = .ok (.isub, 1) := by decide +kernel
theorem dX8_years_35 : decode cX8_years 35 = .ok (.invokevirtual 261, 3) := by decide +kernel
theorem dX8_years_38 : decode cX8_years 38 = .ok (.iadd, 1) := by decide +kernel
theorem dX8_years_39 : decode cX8_years 39 = .ok (.istore_n 2, 1) := by decide +kernel
theorem dX8_years_40 : decode cX8_years 40 = .ok (.aload_n 0, 1) := by decide +kernel
theorem dX8_years_41 : decode cX8_years 41 = .ok (.getfield 107, 3) := by decide +kernel
theorem dX8_years_44 : decode cX8_years 44 = .ok (.iload_n 1, 1) := by decide +kernel
theorem dX8_years_45 : decode cX8_years 45 = .ok (.iload_n 2, 1) := by decide +kernel
theorem dX8_years_46 : decode cX8_years 46 = .ok (.aload_n 0, 1) := by decide +kernel
theorem dX8_years_47 : decode cX8_years 47 = .ok (.getfield 34, 3) := by decide +kernel
theorem dX8_years_50 : decode cX8_years 50 = .ok (.aload_n 0, 1) := by decide +kernel
theorem dX8_years_51 : decode cX8_years 51 = .ok (.getfield 101, 3) := by decide +kernel
theorem dX8_years_54 : decode cX8_years 54 = .ok (.iload_n 1, 1) := by decide +kernel
theorem dX8_years_55 : decode cX8_years 55 = .ok (.iaload, 1) := by decide +kernel
theorem dX8_years_56 : decode cX8_years 56 = .ok (.iaload, 1) := by decide +kernel
theorem dX8_years_57 : decode cX8_years 57 = .ok (.if_icmp .le 7, 3) := by decide +kernel
theorem dX8_years_60 : decode cX8_years 60 = .ok (.iload_n 2, 1) := by decide +kernel
theorem dX8_years_61 : decode cX8_years 61 = .ok (.goto 14, 3) := by decide +kernel
theorem dX8_years_64 : decode cX8_years 64 = .ok (.aload_n 0, 1) := by decide +kernel
theorem dX8_years_65 : decode cX8_years 65 = .ok (.getfield 34, 3) := by decide +kernel
theorem dX8_years_68 : decode cX8_years 68 = .ok (.aload_n 0, 1) := by decide +kernel
theorem dX8_years_69 : decode cX8_years 69 = .ok (.getfield 101, 3) := by decide +kernel
theorem dX8_years_72 : decode cX8_years 72 = .ok (.iload_n 1, 1) := by decide +kernel
theorem dX8_years_73 : decode cX8_years 73 = .ok (.iaload, 1) := by decide +kernel
theorem dX8_years_74 : decode cX8_years 74 = .ok (.iaload, 1) := by decide +kernel
theorem dX8_years_75 : decode cX8_years 75 = .ok (.iastore, 1) := by decide +kernel
theorem dX8_years_76 : decode cX8_years 76 = .ok (.aload_n 0, 1) := by decide +kernel
theorem dX8_years_77 : decode cX8_years 77 = .ok (.aload_n 0, 1) := by decide +kernel
theorem dX8_years_78 : decode cX8_years 78 = .ok (.getfield 258, 3) := by decide +kernel
theorem dX8_years_81 : decode cX8_years 81 = .ok (.ifCond .eq 27, 3) := by decide +kernel
theorem dX8_years_84 : decode cX8_years 84 = .ok (.aload_n 0, 1) := by decide +kernel
theorem dX8_years_85 : decode cX8_years 85 = .ok (.getfield 107, 3) := by decide +kernel
theorem dX8_years_88 : decode cX8_years 88 = .ok (.iload_n 1, 1) := by decide +kernel
theorem dX8_years_89 : decode cX8_years 89 = .ok (.iaload, 1) := by decide +kernel
theorem dX8_years_90 : decode cX8_years 90 = .ok (.aload_n 0, 1) := by decide +kernel
theorem dX8_years_91 : decode cX8_years 91 = .ok (.getfield 37, 3) := by decide +kernel
theorem dX8_years_94 : decode cX8_years 94 = .ok (.aload_n 0, 1) := by decide +kernel
theorem dX8_years_95 : decode cX8_years 95 = .ok (.getfield 101, 3) := by decide +kernel
theorem dX8_years_98 : decode cX8_years 98 = .ok (.iload_n 1, 1) := by decide +kernel
theorem dX8_years_99 : decode cX8_years 99 = .ok (.iaload, 1) := by decide +kernel
theorem dX8_years_100 : decode cX8_years 100 = .ok (.iaload, 1) := by decide +kernel
theorem dX8_years_101 : decode cX8_years 101 = .ok (.if_icmp .gt 7, 3) := by decide +kernel
theorem dX8_years_104 : decode cX8_years 104 = .ok (.iconst 1, 1) := by decide +kernel
theorem dX8_years_105 : decode cX8_years 105 = .ok (.goto 4, 3) := by decide +kernel
theorem dX8_years_108 : decode cX8_years 108 = .ok (.iconst 0, 1) := by decide +kernel
theorem dX8_years_109 : decode cX8_years 109 = .ok (.putfield 258, 3) := by decide +kernel
theorem dX8_years_112 : decode cX8_years 112 = .ok (.iinc 1 1, 3) := by decide +kernel
theorem dX8_years_115 : decode cX8_years 115 = .ok (.goto (-108), 3) := by decide +kernel
theorem dX8_years_118 : decode cX8_years 118 = .ok (.aload_n 0, 1) := by decide +kernel
theorem dX8_years_119 : decode cX8_years 119 = .ok (.getfield 235, 3) := by decide +kernel
theorem dX8_years_122 : decode cX8_years 122 = .ok (.iconst 1, 1) := by decide +kernel
theorem dX8_years_123 : decode cX8_years 123 = .ok (.isub, 1) := by decide +kernel
theorem dX8_years_124 : decode cX8_years 124 = .ok (.istore_n 1, 1) := by decide +kernel
theorem dX8_years_125 : decode cX8_years 125 = .ok (.iload_n 1, 1) := by decide +kernel
theorem dX8_years_126 : decode cX8_years 126 = .ok (.ifCond .lt 76, 3) := by decide +kernel
theorem dX8_years_129 : decode cX8_years 129 = .ok (.iload_n 1, 1) := by decide +kernel
theorem dX8_years_130 : decode cX8_years 130 = .ok (.aload_n 0, 1) := by decide +kernel
theorem dX8_years_131 : decode cX8_years 131 = .ok (.getfield 235, 3) := by decide +kernel
theorem dX8_years_134 : decode cX8_years 134 = .ok (.iconst 1, 1) := by decide +kernel
theorem dX8_years_135 : decode cX8_years 135 = .ok (.isub, 1) := by decide +kernel
theorem dX8_years_136 : decode cX8_years 136 = .ok (.if_icmp .ne 9, 3) := by decide +kernel
theorem dX8_years_139 : decode cX8_years 139 = .ok (.sipush 999, 3) := by decide +kernel
theorem dX8_years_142 : decode cX8_years 142 = .ok (.goto 17, 3) := by decide +kernel
theorem dX8_years_145 : decode cX8_years 145 = .ok (.aload_n 0, 1) := by decide +kernel
theorem dX8_years_146 : decode cX8_years 146 = .ok (.getfield 110, 3) := by decide +kernel
theorem dX8_years_149 : decode cX8_years 149 = .ok (.iload_n 1, 1) := by decide +kernel
theorem dX8_years_150 : decode cX8_years 150 = .ok (.iconst 1, 1) := by decide +kernel
theorem dX8_years_151 : decode cX8_years 151 = .ok (.iadd, 1) := by decide +kernel
theorem dX8_years_152 : decode cX8_years 152 = .ok (.iaload, 1) := by decide +kernel
theorem dX8_years_153 : decode cX8_years 153 = .ok (.aload_n 0, 1) := by decide +kernel
theorem dX8_years_154 : decode cX8_years 154 = .ok (.iload_n 1, 1) := by decide +kernel
theorem dX8_years_155 : decode cX8_years 155 = .ok (.invokevirtual 261, 3) := by decide +kernel
theorem dX8_years_158 : decode cX8_years 158 = .ok (.isub, 1) := by decide +kernel
theorem dX8_years_159 : decode cX8_years 159 = .ok (.istore_n 2, 1) := by decide +kernel
theorem dX8_years_160 : decode cX8_years 160 = .ok (.aload_n 0, 1) := by decide +kernel
theorem dX8_years_161 : decode cX8_years 161 = .ok (.getfield 110, 3) := by decide +kernel
theorem dX8_years_164 : decode cX8_years 164 = .ok (.iload_n 1, 1) := by decide +kernel
theorem dX8_years_165 : decode cX8_years 165 = .ok (.iload_n 2, 1) := by decide +kernel
theorem dX8_years_166 : decode cX8_years 166 = .ok (.aload_n 0, 1) := by decide +kernel
theorem dX8_years_167 : decode cX8_years 167 = .ok (.getfield 37, 3) := by decide +kernel
theorem dX8_years_170 : decode cX8_years 170 = .ok (.aload_n 0, 1) := by decide +kernel
theorem dX8_years_171 : decode cX8_years 171 = .ok (.getfield 101, 3) := by decide +kernel
theorem dX8_years_174 : decode cX8_years 174 = .ok (.iload_n 1, 1) := by decide +kernel
theorem dX8_years_175 : decode cX8_years 175 = .ok (.iaload, 1) := by decide +kernel
theorem dX8_years_176 : decode cX8_years 176 = .ok (.iaload, 1) := by decide +kernel
theorem dX8_years_177 : decode cX8_years 177 = .ok (.if_icmp .ge 7, 3) := by decide +kernel
theorem dX8_years_180 : decode cX8_years 180 = .ok (.iload_n 2, 1) := by decide +kernel
theorem dX8_years_181 : decode cX8_years 181 = .ok (.goto 14, 3) := by decide +kernel
theorem dX8_years_184 : decode cX8_years 184 = .ok (.aload_n 0, 1) := by decide +kernel
theorem dX8_years_185 : decode cX8_years 185 = .ok (.getfield 37, 3) := by decide +kernel
theorem dX8_years_188 : decode cX8_years 188 = .ok (.aload_n 0, 1) := by decide +kernel
theorem dX8_years_189 : decode cX8_years 189 = .ok (.getfield 101, 3) := by decide +kernel
theorem dX8_years_192 : decode cX8_years 192 = .ok (.iload_n 1, 1) := by decide +kernel
theorem dX8_years_193 : decode cX8_years 193 = .ok (.iaload, 1) := by decide +kernel
theorem dX8_years_194 : decode cX8_years 194 = .ok (.iaload, 1) := by decide +kernel
theorem dX8_years_195 : decode cX8_years 195 = .ok (.iastore, 1) := by decide +kernel
theorem dX8_years_196 : decode cX8_years 196 = .ok (.iinc 1 (-1), 3) := by decide +kernel
theorem dX8_years_199 : decode cX8_years 199 = .ok (.goto (-74), 3) := by decide +kernel
theorem dX8_years_202 : decode cX8_years 202 = .ok (.return_, 1) := by decide +kernel
theorem dX8_span_0 : decode cX8_span 0 = .ok (.aload_n 0, 1) := by decide +kernel
theorem dX8_span_1 : decode cX8_span 1 = .ok (.invokevirtual 205, 3) := by decide +kernel
theorem dX8_span_4 : decode cX8_span 4 = .ok (.iload_n 1, 1) := by decide +kernel
theorem dX8_span_5 : decode cX8_span 5 = .ok (.iconst 0, 1) := by decide +kernel
theorem dX8_span_6 : decode cX8_span 6 = .ok (.aload_n 0, 1) := by decide +kernel
theorem dX8_span_7 : decode cX8_span 7 = .ok (.getfield 235, 3) := by decide +kernel
theorem dX8_span_10 : decode cX8_span 10 = .ok (.iconst 1, 1) := by decide +kernel
theorem dX8_span_11 : decode cX8_span 11 = .ok (.isub, 1) := by decide +kernel
theorem dX8_span_12 : decode cX8_span 12 = .ok (.invokestatic 116, 3) := by decide +kernel
theorem dX8_span_15 : decode cX8_span 15 = .ok (.ifCond .eq 12, 3) := by decide +kernel
theorem dX8_span_18 : decode cX8_span 18 = .ok (.iload_n 2, 1) := by decide +kernel
theorem dX8_span_19 : decode cX8_span 19 = .ok (.iconst 0, 1) := by decide +kernel
theorem dX8_span_20 : decode cX8_span 20 = .ok (.iconst 1, 1) := by decide +kernel
theorem dX8_span_21 : decode cX8_span 21 = .ok (.invokestatic 116, 3) := by decide +kernel
theorem dX8_span_24 : decode cX8_span 24 = .ok (.ifCond .ne 5, 3) := by decide +kernel
theorem dX8_span_27 : decode cX8_span 27 = .ok (.iconst (-1), 1) := by decide +kernel
theorem dX8_span_28 : decode cX8_span 28 = .ok (.ireturn, 1) := by decide +kernel
theorem dX8_span_29 : decode cX8_span 29 = .ok (.aload_n 0, 1) := by decide +kernel
theorem dX8_span_30 : decode cX8_span 30 = .ok (.getfield 258, 3) := by decide +kernel
theorem dX8_span_33 : decode cX8_span 33 = .ok (.ifCond .ne 8, 3) := by decide +kernel
theorem dX8_span_36 : decode cX8_span 36 = .ok (.bipush (-9), 2) := by decide +kernel
theorem dX8_span_38 : decode cX8_span 38 = .ok (.goto 22, 3) := by decide +kernel
theorem dX8_span_41 : decode cX8_span 41 = .ok (.iload_n 2, 1) := by decide +kernel
theorem dX8_span_42 : decode cX8_span 42 = .ok (.ifCond .ne 12, 3) := by decide +kernel
theorem dX8_span_45 : decode cX8_span 45 = .ok (.aload_n 0, 1) := by decide +kernel
theorem dX8_span_46 : decode cX8_span 46 = .ok (.getfield 107, 3) := by decide +kernel
theorem dX8_span_49 : decode cX8_span 49 = .ok (.iload_n 1, 1) := by decide +kernel
theorem dX8_span_50 : decode cX8_span 50 = .ok (.iaload, 1) := by decide +kernel
theorem dX8_span_51 : decode cX8_span 51 = .ok (.goto 9, 3) := by decide +kernel
theorem dX8_span_54 : decode cX8_span 54 = .ok (.aload_n 0, 1) := by decide +kernel
theorem dX8_span_55 : decode cX8_span 55 = .ok (.getfield 110, 3) := by decide +kernel
theorem dX8_span_58 : decode cX8_span 58 = .ok (.iload_n 1, 1) := by decide +kernel
theorem dX8_span_59 : decode cX8_span 59 = .ok (.iaload, 1) := by decide +kernel
theorem dX8_span_60 : decode cX8_span 60 = .ok (.ireturn, 1) := by decide +kernel
theorem dX8_day_0 : decode cX8_day 0 = .ok (.aload_n 0, 1) := by decide +kernel
theorem dX8_day_1 : decode cX8_day 1 = .ok (.iload_n 1, 1) := by decide +kernel
theorem dX8_day_2 : decode cX8_day 2 = .ok (.invokevirtual 199, 3) := by decide +kernel
theorem dX8_day_5 : decode cX8_day 5 = .ok (.ifCond .eq 14, 3) := by decide +kernel
theorem dX8_day_8 : decode cX8_day 8 = .ok (.iload_n 2, 1) := by decide +kernel
theorem dX8_day_9 : decode cX8_day 9 = .ok (.iconst 0, 1) := by decide +kernel
theorem dX8_day_10 : decode cX8_day 10 = .ok (.sipush 999, 3) := by decide +kernel
theorem dX8_day_13 : decode cX8_day 13 = .ok (.invokestatic 116, 3) := by decide +kernel
theorem dX8_day_16 : decode cX8_day 16 = .ok (.ifCond .ne 5, 3) := by decide +kernel
theorem dX8_day_19 : decode cX8_day 19 = .ok (.iconst (-1), 1) := by decide +kernel
theorem dX8_day_20 : decode cX8_day 20 = .ok (.ireturn, 1) := by decide +kernel
theorem dX8_day_21 : decode cX8_day 21 = .ok (.aload_n 0, 1) := by decide +kernel
theorem dX8_day_22 : decode cX8_day 22 = .ok (.invokevirtual 205, 3) := by decide +kernel
theorem dX8_day_25 : decode cX8_day 25 = .ok (.aload_n 0, 1) := by decide +kernel
theorem dX8_day_26 : decode cX8_day 26 = .ok (.getfield 258, 3) := by decide +kernel
theorem dX8_day_29 : decode cX8_day 29 = .ok (.ifCond .ne 5, 3) := by decide +kernel
theorem dX8_day_32 : decode cX8_day 32 = .ok (.iconst 0, 1) := by decide +kernel
theorem dX8_day_33 : decode cX8_day 33 = .ok (.ireturn, 1) := by decide +kernel
theorem dX8_day_34 : decode cX8_day 34 = .ok (.aload_n 0, 1) := by decide +kernel
theorem dX8_day_35 : decode cX8_day 35 = .ok (.getfield 110, 3) := by decide +kernel
theorem dX8_day_38 : decode cX8_day 38 = .ok (.aload_n 0, 1) := by decide +kernel
theorem dX8_day_39 : decode cX8_day 39 = .ok (.getfield 104, 3) := by decide +kernel
theorem dX8_day_42 : decode cX8_day 42 = .ok (.bipush 10, 2) := by decide +kernel
theorem dX8_day_44 : decode cX8_day 44 = .ok (.iload_n 1, 1) := by decide +kernel
theorem dX8_day_45 : decode cX8_day 45 = .ok (.imul, 1) := by decide +kernel
theorem dX8_day_46 : decode cX8_day 46 = .ok (.iaload, 1) := by decide +kernel
theorem dX8_day_47 : decode cX8_day 47 = .ok (.iaload, 1) := by decide +kernel
theorem dX8_day_48 : decode cX8_day 48 = .ok (.iload_n 2, 1) := by decide +kernel
theorem dX8_day_49 : decode cX8_day 49 = .ok (.if_icmp .le 9, 3) := by decide +kernel
theorem dX8_day_52 : decode cX8_day 52 = .ok (.sipush 1024, 3) := by decide +kernel
theorem dX8_day_55 : decode cX8_day 55 = .ok (.goto 4, 3) := by decide +kernel
theorem dX8_day_58 : decode cX8_day 58 = .ok (.iconst 0, 1) := by decide +kernel
theorem dX8_day_59 : decode cX8_day 59 = .ok (.istore_n 3, 1) := by decide +kernel
theorem dX8_day_60 : decode cX8_day 60 = .ok (.iconst 0, 1) := by decide +kernel
theorem dX8_day_61 : decode cX8_day 61 = .ok (.istore 4, 2) := by decide +kernel
theorem dX8_day_63 : decode cX8_day 63 = .ok (.iload 4, 2) := by decide +kernel
theorem dX8_day_65 : decode cX8_day 65 = .ok (.aload_n 0, 1) := by decide +kernel
theorem dX8_day_66 : decode cX8_day 66 = .ok (.getfield 19, 3) := by decide +kernel
theorem dX8_day_69 : decode cX8_day 69 = .ok (.iload_n 1, 1) := by decide +kernel
theorem dX8_day_70 : decode cX8_day 70 = .ok (.iaload, 1) := by decide +kernel
theorem dX8_day_71 : decode cX8_day 71 = .ok (.if_icmp .ge 89, 3) := by decide +kernel
theorem dX8_day_74 : decode cX8_day 74 = .ok (.aload_n 0, 1) := by decide +kernel
theorem dX8_day_75 : decode cX8_day 75 = .ok (.getfield 107, 3) := by decide +kernel
theorem dX8_day_78 : decode cX8_day 78 = .ok (.aload_n 0, 1) := by decide +kernel
theorem dX8_day_79 : decode cX8_day 79 = .ok (.getfield 104, 3) := by decide +kernel
theorem dX8_day_82 : decode cX8_day 82 = .ok (.bipush 10, 2) := by decide +kernel
theorem dX8_day_84 : decode cX8_day 84 = .ok (.iload_n 1, 1) := by decide +kernel
theorem dX8_day_85 : decode cX8_day 85 = .ok (.imul, 1) := by decide +kernel
theorem dX8_day_86 : decode cX8_day 86 = .ok (.iload 4, 2) := by decide +kernel
theorem dX8_day_88 : decode cX8_day 88 = .ok (.iadd, 1) := by decide +kernel
theorem dX8_day_89 : decode cX8_day 89 = .ok (.iaload, 1) := by decide +kernel
theorem dX8_day_90 : decode cX8_day 90 = .ok (.iaload, 1) := by decide +kernel
theorem dX8_day_91 : decode cX8_day 91 = .ok (.iload_n 2, 1) := by decide +kernel
theorem dX8_day_92 : decode cX8_day 92 = .ok (.if_icmp .gt 43, 3) := by decide +kernel
theorem dX8_day_95 : decode cX8_day 95 = .ok (.iload 4, 2) := by decide +kernel
theorem dX8_day_97 : decode cX8_day 97 = .ok (.aload_n 0, 1) := by decide +kernel
theorem dX8_day_98 : decode cX8_day 98 = .ok (.getfield 19, 3) := by decide +kernel
theorem dX8_day_101 : decode cX8_day 101 = .ok (.iload_n 1, 1) := by decide +kernel
theorem dX8_day_102 : decode cX8_day 102 = .ok (.iaload, 1) := by decide +kernel
theorem dX8_day_103 : decode cX8_day 103 = .ok (.iconst 1, 1) := by decide +kernel
theorem dX8_day_104 : decode cX8_day 104 = .ok (.isub, 1) := by decide +kernel
theorem dX8_day_105 : decode cX8_day 105 = .ok (.if_icmp .eq 26, 3) := by decide +kernel
theorem dX8_day_108 : decode cX8_day 108 = .ok (.aload_n 0, 1) := by decide +kernel
theorem dX8_day_109 : decode cX8_day 109 = .ok (.getfield 110, 3) := by decide +kernel
theorem dX8_day_112 : decode cX8_day 112 = .ok (.aload_n 0, 1) := by decide +kernel
theorem dX8_day_113 : decode cX8_day 113 = .ok (.getfield 104, 3) := by decide +kernel
theorem dX8_day_116 : decode cX8_day 116 = .ok (.bipush 10, 2) := by decide +kernel
theorem dX8_day_118 : decode cX8_day 118 = .ok (.iload_n 1, 1) := by decide +kernel
theorem dX8_day_119 : decode cX8_day 119 = .ok (.imul, 1) := by decide +kernel
theorem dX8_day_120 : decode cX8_day 120 = .ok (.iload 4, 2) := by decide +kernel
theorem dX8_day_122 : decode cX8_day 122 = .ok (.iadd, 1) := by decide +kernel
theorem dX8_day_123 : decode cX8_day 123 = .ok (.iconst 1, 1) := by decide +kernel
theorem dX8_day_124 : decode cX8_day 124 = .ok (.iadd, 1) := by decide +kernel
theorem dX8_day_125 : decode cX8_day 125 = .ok (.iaload, 1) := by decide +kernel
theorem dX8_day_126 : decode cX8_day 126 = .ok (.iaload, 1) := by decide +kernel
theorem dX8_day_127 : decode cX8_day 127 = .ok (.iload_n 2, 1) := by decide +kernel
theorem dX8_day_128 : decode cX8_day 128 = .ok (.if_icmp .le 7, 3) := by decide +kernel
theorem dX8_day_131 : decode cX8_day 131 = .ok (.iconst 1, 1) := by decide +kernel
theorem dX8_day_132 : decode cX8_day 132 = .ok (.goto 4, 3) := by decide +kernel
theorem dX8_day_135 : decode cX8_day 135 = .ok (.iconst 0, 1) := by decide +kernel
theorem dX8_day_136 : decode cX8_day 136 = .ok (.istore 5, 2) := by decide +kernel
theorem dX8_day_138 : decode cX8_day 138 = .ok (.iload 5, 2) := by decide +kernel
theorem dX8_day_140 : decode cX8_day 140 = .ok (.ifCond .eq 12, 3) := by decide +kernel
theorem dX8_day_143 : decode cX8_day 143 = .ok (.iload_n 3, 1) := by decide +kernel
theorem dX8_day_144 : decode cX8_day 144 = .ok (.iconst 1, 1) := by decide +kernel
theorem dX8_day_145 : decode cX8_day 145 = .ok (.iload 4, 2) := by decide +kernel
theorem dX8_day_147 : decode cX8_day 147 = .ok (.ishl, 1) := by decide +kernel
theorem dX8_day_148 : decode cX8_day 148 = .ok (.ior, 1) := by decide +kernel
theorem dX8_day_149 : decode cX8_day 149 = .ok (.goto 4, 3) := by decide +kernel
theorem dX8_day_152 : decode cX8_day 152 = .ok (.iload_n 3, 1) := by decide +kernel
theorem dX8_day_153 : decode cX8_day 153 = .ok (.istore_n 3, 1) := by decide +kernel
theorem dX8_day_154 : decode cX8_day 154 = .ok (.iinc 4 1, 3) := by decide +kernel
theorem dX8_day_157 : decode cX8_day 157 = .ok (.goto (-94), 3) := by decide +kernel
theorem dX8_day_160 : decode cX8_day 160 = .ok (.iload_n 3, 1) := by decide +kernel
theorem dX8_day_161 : decode cX8_day 161 = .ok (.ireturn, 1) := by decide +kernel
theorem dX8_bill_0 : decode cX8_bill 0 = .ok (.iload_n 1, 1) := by decide +kernel
theorem dX8_bill_1 : decode cX8_bill 1 = .ok (.iconst 0, 1) := by decide +kernel
theorem dX8_bill_2 : decode cX8_bill 2 = .ok (.aload_n 0, 1) := by decide +kernel
theorem dX8_bill_3 : decode cX8_bill 3 = .ok (.getfield 196, 3) := by decide +kernel
theorem dX8_bill_6 : decode cX8_bill 6 = .ok (.iconst 1, 1) := by decide +kernel
theorem dX8_bill_7 : decode cX8_bill 7 = .ok (.isub, 1) := by decide +kernel
theorem dX8_bill_8 : decode cX8_bill 8 = .ok (.invokestatic 116, 3) := by decide +kernel
theorem dX8_bill_11 : decode cX8_bill 11 = .ok (.ifCond .eq 12, 3) := by decide +kernel
theorem dX8_bill_14 : decode cX8_bill 14 = .ok (.iload_n 2, 1) := by decide +kernel
theorem dX8_bill_15 : decode cX8_bill 15 = .ok (.iconst 0, 1) := by decide +kernel
theorem dX8_bill_16 : decode cX8_bill 16 = .ok (.iconst 1, 1) := by decide +kernel
theorem dX8_bill_17 : decode cX8_bill 17 = .ok (.invokestatic 116, 3) := by decide +kernel
theorem dX8_bill_20 : decode cX8_bill 20 = .ok (.ifCond .ne 5, 3) := by decide +kernel
theorem dX8_bill_23 : decode cX8_bill 23 = .ok (.iconst (-1), 1) := by decide +kernel
theorem dX8_bill_24 : decode cX8_bill 24 = .ok (.ireturn, 1) := by decide +kernel
theorem dX8_bill_25 : decode cX8_bill 25 = .ok (.iload_n 2, 1) := by decide +kernel
theorem dX8_bill_26 : decode cX8_bill 26 = .ok (.ifCond .ne 12, 3) := by decide +kernel
theorem dX8_bill_29 : decode cX8_bill 29 = .ok (.aload_n 0, 1) := by decide +kernel
theorem dX8_bill_30 : decode cX8_bill 30 = .ok (.getfield 43, 3) := by decide +kernel
theorem dX8_bill_33 : decode cX8_bill 33 = .ok (.iload_n 1, 1) := by decide +kernel
theorem dX8_bill_34 : decode cX8_bill 34 = .ok (.iaload, 1) := by decide +kernel
theorem dX8_bill_35 : decode cX8_bill 35 = .ok (.goto 9, 3) := by decide +kernel
theorem dX8_bill_38 : decode cX8_bill 38 = .ok (.aload_n 0, 1) := by decide +kernel
theorem dX8_bill_39 : decode cX8_bill 39 = .ok (.getfield 46, 3) := by decide +kernel
theorem dX8_bill_42 : decode cX8_bill 42 = .ok (.iload_n 1, 1) := by decide +kernel
theorem dX8_bill_43 : decode cX8_bill 43 = .ok (.iaload, 1) := by decide +kernel
theorem dX8_bill_44 : decode cX8_bill 44 = .ok (.ireturn, 1) := by decide +kernel
theorem dX8_suits_0 : decode cX8_suits 0 = .ok (.aload_n 0, 1) := by decide +kernel
theorem dX8_suits_1 : decode cX8_suits 1 = .ok (.getfield 258, 3) := by decide +kernel
theorem dX8_suits_4 : decode cX8_suits 4 = .ok (.ifCond .eq 67, 3) := by decide +kernel
theorem dX8_suits_7 : decode cX8_suits 7 = .ok (.aload_n 0, 1) := by decide +kernel
theorem dX8_suits_8 : decode cX8_suits 8 = .ok (.getfield 46, 3) := by decide +kernel
theorem dX8_suits_11 : decode cX8_suits 11 = .ok (.iload_n 1, 1) := by decide +kernel
theorem dX8_suits_12 : decode cX8_suits 12 = .ok (.iaload, 1) := by decide +kernel
theorem dX8_suits_13 : decode cX8_suits 13 = .ok (.aload_n 0, 1) := by decide +kernel
theorem dX8_suits_14 : decode cX8_suits 14 = .ok (.getfield 101, 3) := by decide +kernel
theorem dX8_suits_17 : decode cX8_suits 17 = .ok (.iload_n 2, 1) := by decide +kernel
theorem dX8_suits_18 : decode cX8_suits 18 = .ok (.iaload, 1) := by decide +kernel
theorem dX8_suits_19 : decode cX8_suits 19 = .ok (.if_icmp .ne 52, 3) := by decide +kernel
theorem dX8_suits_22 : decode cX8_suits 22 = .ok (.aload_n 0, 1) := by decide +kernel
theorem dX8_suits_23 : decode cX8_suits 23 = .ok (.getfield 43, 3) := by decide +kernel
theorem dX8_suits_26 : decode cX8_suits 26 = .ok (.iload_n 1, 1) := by decide +kernel
theorem dX8_suits_27 : decode cX8_suits 27 = .ok (.iaload, 1) := by decide +kernel
theorem dX8_suits_28 : decode cX8_suits 28 = .ok (.aload_n 0, 1) := by decide +kernel
theorem dX8_suits_29 : decode cX8_suits 29 = .ok (.getfield 107, 3) := by decide +kernel
theorem dX8_suits_32 : decode cX8_suits 32 = .ok (.iload_n 2, 1) := by decide +kernel
theorem dX8_suits_33 : decode cX8_suits 33 = .ok (.iaload, 1) := by decide +kernel
theorem dX8_suits_34 : decode cX8_suits 34 = .ok (.aload_n 0, 1) := by decide +kernel
theorem dX8_suits_35 : decode cX8_suits 35 = .ok (.getfield 110, 3) := by decide +kernel
theorem dX8_suits_38 : decode cX8_suits 38 = .ok (.iload_n 2, 1) := by decide +kernel
theorem dX8_suits_39 : decode cX8_suits 39 = .ok (.iaload, 1) := by decide +kernel
theorem dX8_suits_40 : decode cX8_suits 40 = .ok (.invokestatic 116, 3) := by decide +kernel
theorem dX8_suits_43 : decode cX8_suits 43 = .ok (.ifCond .eq 28, 3) := by decide +kernel
theorem dX8_suits_46 : decode cX8_suits 46 = .ok (.iload_n 3, 1) := by decide +kernel
theorem dX8_suits_47 : decode cX8_suits 47 = .ok (.ifCond .eq 20, 3) := by decide +kernel
theorem dX8_suits_50 : decode cX8_suits 50 = .ok (.aload_n 0, 1) := by decide +kernel
theorem dX8_suits_51 : decode cX8_suits 51 = .ok (.getfield 43, 3) := by decide +kernel
theorem dX8_suits_54 : decode cX8_suits 54 = .ok (.iload_n 1, 1) := by decide +kernel
theorem dX8_suits_55 : decode cX8_suits 55 = .ok (.iaload, 1) := by decide +kernel
theorem dX8_suits_56 : decode cX8_suits 56 = .ok (.aload_n 0, 1) := by decide +kernel
theorem dX8_suits_57 : decode cX8_suits 57 = .ok (.getfield 43, 3) := by decide +kernel
theorem dX8_suits_60 : decode cX8_suits 60 = .ok (.iload_n 3, 1) := by decide +kernel
theorem dX8_suits_61 : decode cX8_suits 61 = .ok (.iconst 1, 1) := by decide +kernel
theorem dX8_suits_62 : decode cX8_suits 62 = .ok (.isub, 1) := by decide +kernel
theorem dX8_suits_63 : decode cX8_suits 63 = .ok (.iaload, 1) := by decide +kernel
theorem dX8_suits_64 : decode cX8_suits 64 = .ok (.if_icmp .le 7, 3) := by decide +kernel
theorem dX8_suits_67 : decode cX8_suits 67 = .ok (.iconst 1, 1) := by decide +kernel
theorem dX8_suits_68 : decode cX8_suits 68 = .ok (.goto 4, 3) := by decide +kernel
theorem dX8_suits_71 : decode cX8_suits 71 = .ok (.iconst 0, 1) := by decide +kernel
theorem dX8_suits_72 : decode cX8_suits 72 = .ok (.ireturn, 1) := by decide +kernel
theorem dX8_billed_0 : decode cX8_billed 0 = .ok (.aload_n 0, 1) := by decide +kernel
theorem dX8_billed_1 : decode cX8_billed 1 = .ok (.invokevirtual 205, 3) := by decide +kernel
theorem dX8_billed_4 : decode cX8_billed 4 = .ok (.iload_n 1, 1) := by decide +kernel
theorem dX8_billed_5 : decode cX8_billed 5 = .ok (.iconst (-1), 1) := by decide +kernel
theorem dX8_billed_6 : decode cX8_billed 6 = .ok (.aload_n 0, 1) := by decide +kernel
theorem dX8_billed_7 : decode cX8_billed 7 = .ok (.getfield 235, 3) := by decide +kernel
theorem dX8_billed_10 : decode cX8_billed 10 = .ok (.iconst 1, 1) := by decide +kernel
theorem dX8_billed_11 : decode cX8_billed 11 = .ok (.isub, 1) := by decide +kernel
theorem dX8_billed_12 : decode cX8_billed 12 = .ok (.invokestatic 116, 3) := by decide +kernel
theorem dX8_billed_15 : decode cX8_billed 15 = .ok (.ifCond .ne 5, 3) := by decide +kernel
theorem dX8_billed_18 : decode cX8_billed 18 = .ok (.iconst (-1), 1) := by decide +kernel
theorem dX8_billed_19 : decode cX8_billed 19 = .ok (.ireturn, 1) := by decide +kernel
theorem dX8_billed_20 : decode cX8_billed 20 = .ok (.aload_n 0, 1) := by decide +kernel
theorem dX8_billed_21 : decode cX8_billed 21 = .ok (.getfield 235, 3) := by decide +kernel
theorem dX8_billed_24 : decode cX8_billed 24 = .ok (.istore_n 2, 1) := by decide +kernel
theorem dX8_billed_25 : decode cX8_billed 25 = .ok (.iload_n 2, 1) := by decide +kernel
theorem dX8_billed_26 : decode cX8_billed 26 = .ok (.ifCond .lt 150, 3) := by decide +kernel
theorem dX8_billed_29 : decode cX8_billed 29 = .ok (.iconst 0, 1) := by decide +kernel
theorem dX8_billed_30 : decode cX8_billed 30 = .ok (.istore_n 3, 1) := by decide +kernel
theorem dX8_billed_31 : decode cX8_billed 31 = .ok (.iload_n 3, 1) := by decide +kernel
theorem dX8_billed_32 : decode cX8_billed 32 = .ok (.aload_n 0, 1) := by decide +kernel
theorem dX8_billed_33 : decode cX8_billed 33 = .ok (.getfield 196, 3) := by decide +kernel
theorem dX8_billed_36 : decode cX8_billed 36 = .ok (.if_icmp .gt 134, 3) := by decide +kernel
theorem dX8_billed_39 : decode cX8_billed 39 = .ok (.iload_n 2, 1) := by decide +kernel
theorem dX8_billed_40 : decode cX8_billed 40 = .ok (.aload_n 0, 1) := by decide +kernel
theorem dX8_billed_41 : decode cX8_billed 41 = .ok (.getfield 235, 3) := by decide +kernel
theorem dX8_billed_44 : decode cX8_billed 44 = .ok (.if_icmp .ne 7, 3) := by decide +kernel
theorem dX8_billed_47 : decode cX8_billed 47 = .ok (.iconst 0, 1) := by decide +kernel
theorem dX8_billed_48 : decode cX8_billed 48 = .ok (.goto 16, 3) := by decide +kernel
theorem dX8_billed_51 : decode cX8_billed 51 = .ok (.aload_n 0, 1) := by decide +kernel
theorem dX8_billed_52 : decode cX8_billed 52 = .ok (.getfield 113, 3) := by decide +kernel
theorem dX8_billed_55 : decode cX8_billed 55 = .ok (.bipush 9, 2) := by decide +kernel
theorem dX8_billed_57 : decode cX8_billed 57 = .ok (.iload_n 2, 1) := by decide +kernel
theorem dX8_billed_58 : decode cX8_billed 58 = .ok (.iconst 1, 1) := by decide +kernel
theorem dX8_billed_59 : decode cX8_billed 59 = .ok (.iadd, 1) := by decide +kernel
theorem dX8_billed_60 : decode cX8_billed 60 = .ok (.imul, 1) := by decide +kernel
theorem dX8_billed_61 : decode cX8_billed 61 = .ok (.iload_n 3, 1) := by decide +kernel
theorem dX8_billed_62 : decode cX8_billed 62 = .ok (.iadd, 1) := by decide +kernel
theorem dX8_billed_63 : decode cX8_billed 63 = .ok (.iaload, 1) := by decide +kernel
theorem dX8_billed_64 : decode cX8_billed 64 = .ok (.istore 4, 2) := by decide +kernel
theorem dX8_billed_66 : decode cX8_billed 66 = .ok (.iconst 0, 1) := by decide +kernel
theorem dX8_billed_67 : decode cX8_billed 67 = .ok (.istore 5, 2) := by decide +kernel
theorem dX8_billed_69 : decode cX8_billed 69 = .ok (.iload 5, 2) := by decide +kernel
theorem dX8_billed_71 : decode cX8_billed 71 = .ok (.aload_n 0, 1) := by decide +kernel
theorem dX8_billed_72 : decode cX8_billed 72 = .ok (.getfield 196, 3) := by decide +kernel
theorem dX8_billed_75 : decode cX8_billed 75 = .ok (.if_icmp .ge 76, 3) := by decide +kernel
theorem dX8_billed_78 : decode cX8_billed 78 = .ok (.iload_n 2, 1) := by decide +kernel
theorem dX8_billed_79 : decode cX8_billed 79 = .ok (.aload_n 0, 1) := by decide +kernel
theorem dX8_billed_80 : decode cX8_billed 80 = .ok (.getfield 235, 3) := by decide +kernel
theorem dX8_billed_83 : decode cX8_billed 83 = .ok (.if_icmp .ge 68, 3) := by decide +kernel
theorem dX8_billed_86 : decode cX8_billed 86 = .ok (.aload_n 0, 1) := by decide +kernel
theorem dX8_billed_87 : decode cX8_billed 87 = .ok (.iload 5, 2) := by decide +kernel
theorem dX8_billed_89 : decode cX8_billed 89 = .ok (.iload_n 2, 1) := by decide +kernel
theorem dX8_billed_90 : decode cX8_billed 90 = .ok (.iload_n 3, 1) := by decide +kernel
theorem dX8_billed_91 : decode cX8_billed 91 = .ok (.invokevirtual 264, 3) := by decide +kernel
theorem dX8_billed_94 : decode cX8_billed 94 = .ok (.ifCond .eq 47, 3) := by decide +kernel
theorem dX8_billed_97 : decode cX8_billed 97 = .ok (.aload_n 0, 1) := by decide +kernel
theorem dX8_billed_98 : decode cX8_billed 98 = .ok (.getfield 113, 3) := by decide +kernel
theorem dX8_billed_101 : decode cX8_billed 101 = .ok (.bipush 9, 2) := by decide +kernel
theorem dX8_billed_103 : decode cX8_billed 103 = .ok (.iload_n 2, 1) := by decide +kernel
theorem dX8_billed_104 : decode cX8_billed 104 = .ok (.iconst 1, 1) := by decide +kernel
theorem dX8_billed_105 : decode cX8_billed 105 = .ok (.iadd, 1) := by decide +kernel
theorem dX8_billed_106 : decode cX8_billed 106 = .ok (.imul, 1) := by decide +kernel
theorem dX8_billed_107 : decode cX8_billed 107 = .ok (.iload 5, 2) := by decide +kernel
theorem dX8_billed_109 : decode cX8_billed 109 = .ok (.iadd, 1) := by decide +kernel
theorem dX8_billed_110 : decode cX8_billed 110 = .ok (.iconst 1, 1) := by decide +kernel
theorem dX8_billed_111 : decode cX8_billed 111 = .ok (.iadd, 1) := by decide +kernel
theorem dX8_billed_112 : decode cX8_billed 112 = .ok (.iaload, 1) := by decide +kernel
theorem dX8_billed_113 : decode cX8_billed 113 = .ok (.iconst 1, 1) := by decide +kernel
theorem dX8_billed_114 : decode cX8_billed 114 = .ok (.iadd, 1) := by decide +kernel
theorem dX8_billed_115 : decode cX8_billed 115 = .ok (.iload 4, 2) := by decide +kernel
theorem dX8_billed_117 : decode cX8_billed 117 = .ok (.if_icmp .le 24, 3) := by decide +kernel
theorem dX8_billed_120 : decode cX8_billed 120 = .ok (.aload_n 0, 1) := by decide +kernel
theorem dX8_billed_121 : decode cX8_billed 121 = .ok (.getfield 113, 3) := by decide +kernel
theorem dX8_billed_124 : decode cX8_billed 124 = .ok (.bipush 9, 2) := by decide +kernel
theorem dX8_billed_126 : decode cX8_billed 126 = .ok (.iload_n 2, 1) := by decide +kernel
theorem dX8_billed_127 : decode cX8_billed 127 = .ok (.iconst 1, 1) := by decide +kernel
theorem dX8_billed_128 : decode cX8_billed 128 = .ok (.iadd, 1) := by decide +kernel
theorem dX8_billed_129 : decode cX8_billed 129 = .ok (.imul, 1) := by decide +kernel
theorem dX8_billed_130 : decode cX8_billed 130 = .ok (.iload 5, 2) := by decide +kernel
theorem dX8_billed_132 : decode cX8_billed 132 = .ok (.iadd, 1) := by decide +kernel
theorem dX8_billed_133 : decode cX8_billed 133 = .ok (.iconst 1, 1) := by decide +kernel
theorem dX8_billed_134 : decode cX8_billed 134 = .ok (.iadd, 1) := by decide +kernel
theorem dX8_billed_135 : decode cX8_billed 135 = .ok (.iaload, 1) := by decide +kernel
theorem dX8_billed_136 : decode cX8_billed 136 = .ok (.iconst 1, 1) := by decide +kernel
theorem dX8_billed_137 : decode cX8_billed 137 = .ok (.iadd, 1) := by decide +kernel
theorem dX8_billed_138 : decode cX8_billed 138 = .ok (.goto 5, 3) := by decide +kernel
theorem dX8_billed_141 : decode cX8_billed 141 = .ok (.iload 4, 2) := by decide +kernel
theorem dX8_billed_143 : decode cX8_billed 143 = .ok (.istore 4, 2) := by decide +kernel
theorem dX8_billed_145 : decode cX8_billed 145 = .ok (.iinc 5 1, 3) := by decide +kernel
theorem dX8_billed_148 : decode cX8_billed 148 = .ok (.goto (-79), 3) := by decide +kernel
theorem dX8_billed_151 : decode cX8_billed 151 = .ok (.aload_n 0, 1) := by decide +kernel
theorem dX8_billed_152 : decode cX8_billed 152 = .ok (.getfield 113, 3) := by decide +kernel
theorem dX8_billed_155 : decode cX8_billed 155 = .ok (.bipush 9, 2) := by decide +kernel
theorem dX8_billed_157 : decode cX8_billed 157 = .ok (.iload_n 2, 1) := by decide +kernel
theorem dX8_billed_158 : decode cX8_billed 158 = .ok (.imul, 1) := by decide +kernel
theorem dX8_billed_159 : decode cX8_billed 159 = .ok (.iload_n 3, 1) := by decide +kernel
theorem dX8_billed_160 : decode cX8_billed 160 = .ok (.iadd, 1) := by decide +kernel
theorem dX8_billed_161 : decode cX8_billed 161 = .ok (.iload 4, 2) := by decide +kernel
theorem dX8_billed_163 : decode cX8_billed 163 = .ok (.iastore, 1) := by decide +kernel
theorem dX8_billed_164 : decode cX8_billed 164 = .ok (.iinc 3 1, 3) := by decide +kernel
theorem dX8_billed_167 : decode cX8_billed 167 = .ok (.goto (-136), 3) := by decide +kernel
theorem dX8_billed_170 : decode cX8_billed 170 = .ok (.iinc 2 (-1), 3) := by decide +kernel
theorem dX8_billed_173 : decode cX8_billed 173 = .ok (.goto (-148), 3) := by decide +kernel
theorem dX8_billed_176 : decode cX8_billed 176 = .ok (.iconst 0, 1) := by decide +kernel
theorem dX8_billed_177 : decode cX8_billed 177 = .ok (.istore_n 2, 1) := by decide +kernel
theorem dX8_billed_178 : decode cX8_billed 178 = .ok (.aload_n 0, 1) := by decide +kernel
theorem dX8_billed_179 : decode cX8_billed 179 = .ok (.getfield 113, 3) := by decide +kernel
theorem dX8_billed_182 : decode cX8_billed 182 = .ok (.iconst 0, 1) := by decide +kernel
theorem dX8_billed_183 : decode cX8_billed 183 = .ok (.iaload, 1) := by decide +kernel
theorem dX8_billed_184 : decode cX8_billed 184 = .ok (.istore_n 3, 1) := by decide +kernel
theorem dX8_billed_185 : decode cX8_billed 185 = .ok (.iconst 0, 1) := by decide +kernel
theorem dX8_billed_186 : decode cX8_billed 186 = .ok (.istore 4, 2) := by decide +kernel
theorem dX8_billed_188 : decode cX8_billed 188 = .ok (.iload 4, 2) := by decide +kernel
theorem dX8_billed_190 : decode cX8_billed 190 = .ok (.iload_n 1, 1) := by decide +kernel
theorem dX8_billed_191 : decode cX8_billed 191 = .ok (.if_icmp .gt 124, 3) := by decide +kernel
theorem dX8_billed_194 : decode cX8_billed 194 = .ok (.iconst 0, 1) := by decide +kernel
theorem dX8_billed_195 : decode cX8_billed 195 = .ok (.istore_n 3, 1) := by decide +kernel
theorem dX8_billed_196 : decode cX8_billed 196 = .ok (.aload_n 0, 1) := by decide +kernel
theorem dX8_billed_197 : decode cX8_billed 197 = .ok (.getfield 196, 3) := by decide +kernel
theorem dX8_billed_200 : decode cX8_billed 200 = .ok (.iconst 1, 1) := by decide +kernel
theorem dX8_billed_201 : decode cX8_billed 201 = .ok (.isub, 1) := by decide +kernel
theorem dX8_billed_202 : decode cX8_billed 202 = .ok (.istore 5, 2) := by decide +kernel
theorem dX8_billed_204 : decode cX8_billed 204 = .ok (.iload 5, 2) := by decide +kernel
theorem dX8_billed_206 : decode cX8_billed 206 = .ok (.ifCond .lt 93, 3) := by decide +kernel
theorem dX8_billed_209 : decode cX8_billed 209 = .ok (.aload_n 0, 1) := by decide +kernel
theorem dX8_billed_210 : decode cX8_billed 210 = .ok (.getfield 113, 3) := by decide +kernel
theorem dX8_billed_213 : decode cX8_billed 213 = .ok (.bipush 9, 2) := by decide +kernel
theorem dX8_billed_215 : decode cX8_billed 215 = .ok (.iload 4, 2) := by decide +kernel
theorem dX8_billed_217 : decode cX8_billed 217 = .ok (.iconst 1, 1) := by decide +kernel
theorem dX8_billed_218 : decode cX8_billed 218 = .ok (.iadd, 1) := by decide +kernel
theorem dX8_billed_219 : decode cX8_billed 219 = .ok (.imul, 1) := by decide +kernel
theorem dX8_billed_220 : decode cX8_billed 220 = .ok (.iload_n 2, 1) := by decide +kernel
theorem dX8_billed_221 : decode cX8_billed 221 = .ok (.iadd, 1) := by decide +kernel
theorem dX8_billed_222 : decode cX8_billed 222 = .ok (.iaload, 1) := by decide +kernel
theorem dX8_billed_223 : decode cX8_billed 223 = .ok (.aload_n 0, 1) := by decide +kernel
theorem dX8_billed_224 : decode cX8_billed 224 = .ok (.getfield 113, 3) := by decide +kernel
theorem dX8_billed_227 : decode cX8_billed 227 = .ok (.bipush 9, 2) := by decide +kernel
theorem dX8_billed_229 : decode cX8_billed 229 = .ok (.iload 4, 2) := by decide +kernel
theorem dX8_billed_231 : decode cX8_billed 231 = .ok (.imul, 1) := by decide +kernel
theorem dX8_billed_232 : decode cX8_billed 232 = .ok (.iload_n 2, 1) := by decide +kernel
theorem dX8_billed_233 : decode cX8_billed 233 = .ok (.iadd, 1) := by decide +kernel
theorem dX8_billed_234 : decode cX8_billed 234 = .ok (.iaload, 1) := by decide +kernel
theorem dX8_billed_235 : decode cX8_billed 235 = .ok (.if_icmp .eq 64, 3) := by decide +kernel
theorem dX8_billed_238 : decode cX8_billed 238 = .ok (.aload_n 0, 1) := by decide +kernel
theorem dX8_billed_239 : decode cX8_billed 239 = .ok (.iload 5, 2) := by decide +kernel
theorem dX8_billed_241 : decode cX8_billed 241 = .ok (.iload 4, 2) := by decide +kernel
theorem dX8_billed_243 : decode cX8_billed 243 = .ok (.iload_n 2, 1) := by decide +kernel
theorem dX8_billed_244 : decode cX8_billed 244 = .ok (.invokevirtual 264, 3) := by decide +kernel
theorem dX8_billed_247 : decode cX8_billed 247 = .ok (.ifCond .eq 44, 3) := by decide +kernel
theorem dX8_billed_250 : decode cX8_billed 250 = .ok (.aload_n 0, 1) := by decide +kernel
theorem dX8_billed_251 : decode cX8_billed 251 = .ok (.getfield 113, 3) := by decide +kernel
theorem dX8_billed_254 : decode cX8_billed 254 = .ok (.bipush 9, 2) := by decide +kernel
theorem dX8_billed_256 : decode cX8_billed 256 = .ok (.iload 4, 2) := by decide +kernel
theorem dX8_billed_258 : decode cX8_billed 258 = .ok (.iconst 1, 1) := by decide +kernel
theorem dX8_billed_259 : decode cX8_billed 259 = .ok (.iadd, 1) := by decide +kernel
theorem dX8_billed_260 : decode cX8_billed 260 = .ok (.imul, 1) := by decide +kernel
theorem dX8_billed_261 : decode cX8_billed 261 = .ok (.iload 5, 2) := by decide +kernel
theorem dX8_billed_263 : decode cX8_billed 263 = .ok (.iadd, 1) := by decide +kernel
theorem dX8_billed_264 : decode cX8_billed 264 = .ok (.iconst 1, 1) := by decide +kernel
theorem dX8_billed_265 : decode cX8_billed 265 = .ok (.iadd, 1) := by decide +kernel
theorem dX8_billed_266 : decode cX8_billed 266 = .ok (.iaload, 1) := by decide +kernel
theorem dX8_billed_267 : decode cX8_billed 267 = .ok (.iconst 1, 1) := by decide +kernel
theorem dX8_billed_268 : decode cX8_billed 268 = .ok (.iadd, 1) := by decide +kernel
theorem dX8_billed_269 : decode cX8_billed 269 = .ok (.aload_n 0, 1) := by decide +kernel
theorem dX8_billed_270 : decode cX8_billed 270 = .ok (.getfield 113, 3) := by decide +kernel
theorem dX8_billed_273 : decode cX8_billed 273 = .ok (.bipush 9, 2) := by decide +kernel
theorem dX8_billed_275 : decode cX8_billed 275 = .ok (.iload 4, 2) := by decide +kernel
theorem dX8_billed_277 : decode cX8_billed 277 = .ok (.imul, 1) := by decide +kernel
theorem dX8_billed_278 : decode cX8_billed 278 = .ok (.iload_n 2, 1) := by decide +kernel
theorem dX8_billed_279 : decode cX8_billed 279 = .ok (.iadd, 1) := by decide +kernel
theorem dX8_billed_280 : decode cX8_billed 280 = .ok (.iaload, 1) := by decide +kernel
theorem dX8_billed_281 : decode cX8_billed 281 = .ok (.if_icmp .ne 10, 3) := by decide +kernel
theorem dX8_billed_284 : decode cX8_billed 284 = .ok (.iload 5, 2) := by decide +kernel
theorem dX8_billed_286 : decode cX8_billed 286 = .ok (.iconst 1, 1) := by decide +kernel
theorem dX8_billed_287 : decode cX8_billed 287 = .ok (.iadd, 1) := by decide +kernel
theorem dX8_billed_288 : decode cX8_billed 288 = .ok (.goto 4, 3) := by decide +kernel
theorem dX8_billed_291 : decode cX8_billed 291 = .ok (.iload_n 3, 1) := by decide +kernel
theorem dX8_billed_292 : decode cX8_billed 292 = .ok (.istore_n 3, 1) := by decide +kernel
theorem dX8_billed_293 : decode cX8_billed 293 = .ok (.iinc 5 (-1), 3) := by decide +kernel
theorem dX8_billed_296 : decode cX8_billed 296 = .ok (.goto (-92), 3) := by decide +kernel
theorem dX8_billed_299 : decode cX8_billed 299 = .ok (.iload_n 3, 1) := by decide +kernel
theorem dX8_billed_300 : decode cX8_billed 300 = .ok (.ifCond .le 7, 3) := by decide +kernel
theorem dX8_billed_303 : decode cX8_billed 303 = .ok (.iload_n 3, 1) := by decide +kernel
theorem dX8_billed_304 : decode cX8_billed 304 = .ok (.goto 4, 3) := by decide +kernel
theorem dX8_billed_307 : decode cX8_billed 307 = .ok (.iload_n 2, 1) := by decide +kernel
theorem dX8_billed_308 : decode cX8_billed 308 = .ok (.istore_n 2, 1) := by decide +kernel
theorem dX8_billed_309 : decode cX8_billed 309 = .ok (.iinc 4 1, 3) := by decide +kernel
theorem dX8_billed_312 : decode cX8_billed 312 = .ok (.goto (-124), 3) := by decide +kernel
theorem dX8_billed_315 : decode cX8_billed 315 = .ok (.iload_n 3, 1) := by decide +kernel
theorem dX8_billed_316 : decode cX8_billed 316 = .ok (.ireturn, 1) := by decide +kernel
theorem dX8_enough_0 : decode cX8_enough 0 = .ok (.iload_n 1, 1) := by decide +kernel
theorem dX8_enough_1 : decode cX8_enough 1 = .ok (.iconst 1, 1) := by decide +kernel
theorem dX8_enough_2 : decode cX8_enough 2 = .ok (.bipush 10, 2) := by decide +kernel
theorem dX8_enough_4 : decode cX8_enough 4 = .ok (.invokestatic 116, 3) := by decide +kernel
theorem dX8_enough_7 : decode cX8_enough 7 = .ok (.ifCond .eq 13, 3) := by decide +kernel
theorem dX8_enough_10 : decode cX8_enough 10 = .ok (.iload_n 2, 1) := by decide +kernel
theorem dX8_enough_11 : decode cX8_enough 11 = .ok (.iconst 0, 1) := by decide +kernel
theorem dX8_enough_12 : decode cX8_enough 12 = .ok (.bipush 100, 2) := by decide +kernel
theorem dX8_enough_14 : decode cX8_enough 14 = .ok (.invokestatic 116, 3) := by decide +kernel
theorem dX8_enough_17 : decode cX8_enough 17 = .ok (.ifCond .ne 5, 3) := by decide +kernel
theorem dX8_enough_20 : decode cX8_enough 20 = .ok (.iconst (-1), 1) := by decide +kernel
theorem dX8_enough_21 : decode cX8_enough 21 = .ok (.ireturn, 1) := by decide +kernel
theorem dX8_enough_22 : decode cX8_enough 22 = .ok (.lconst 1, 1) := by decide +kernel
theorem dX8_enough_23 : decode cX8_enough 23 = .ok (.lstore_n 3, 1) := by decide +kernel
theorem dX8_enough_24 : decode cX8_enough 24 = .ok (.lconst 1, 1) := by decide +kernel
theorem dX8_enough_25 : decode cX8_enough 25 = .ok (.lstore 5, 2) := by decide +kernel
theorem dX8_enough_27 : decode cX8_enough 27 = .ok (.iconst 1, 1) := by decide +kernel
theorem dX8_enough_28 : decode cX8_enough 28 = .ok (.istore 7, 2) := by decide +kernel
theorem dX8_enough_30 : decode cX8_enough 30 = .ok (.iload 7, 2) := by decide +kernel
theorem dX8_enough_32 : decode cX8_enough 32 = .ok (.bipush 9, 2) := by decide +kernel
theorem dX8_enough_34 : decode cX8_enough 34 = .ok (.if_icmp .gt 85, 3) := by decide +kernel
theorem dX8_enough_37 : decode cX8_enough 37 = .ok (.ldc2_w 267, 3) := by decide +kernel
theorem dX8_enough_40 : decode cX8_enough 40 = .ok (.lload_n 3, 1) := by decide +kernel
theorem dX8_enough_41 : decode cX8_enough 41 = .ok (.lmul, 1) := by decide +kernel
theorem dX8_enough_42 : decode cX8_enough 42 = .ok (.lstore_n 3, 1) := by decide +kernel
theorem dX8_enough_43 : decode cX8_enough 43 = .ok (.aload_n 0, 1) := by decide +kernel
theorem dX8_enough_44 : decode cX8_enough 44 = .ok (.getfield 64, 3) := by decide +kernel
theorem dX8_enough_47 : decode cX8_enough 47 = .ok (.iconst 4, 1) := by decide +kernel
theorem dX8_enough_48 : decode cX8_enough 48 = .ok (.iaload, 1) := by decide +kernel
theorem dX8_enough_49 : decode cX8_enough 49 = .ok (.i2l, 1) := by decide +kernel
theorem dX8_enough_50 : decode cX8_enough 50 = .ok (.lload 5, 2) := by decide +kernel
theorem dX8_enough_52 : decode cX8_enough 52 = .ok (.lmul, 1) := by decide +kernel
theorem dX8_enough_53 : decode cX8_enough 53 = .ok (.lstore 5, 2) := by decide +kernel
theorem dX8_enough_55 : decode cX8_enough 55 = .ok (.ldc2_w 269, 3) := by decide +kernel
theorem dX8_enough_58 : decode cX8_enough 58 = .ok (.lload_n 3, 1) := by decide +kernel
theorem dX8_enough_59 : decode cX8_enough 59 = .ok (.lload 5, 2) := by decide +kernel
theorem dX8_enough_61 : decode cX8_enough 61 = .ok (.lsub, 1) := by decide +kernel
theorem dX8_enough_62 : decode cX8_enough 62 = .ok (.lmul, 1) := by decide +kernel
theorem dX8_enough_63 : decode cX8_enough 63 = .ok (.lload_n 3, 1) := by decide +kernel
theorem dX8_enough_64 : decode cX8_enough 64 = .ok (.ldiv, 1) := by decide +kernel
theorem dX8_enough_65 : decode cX8_enough 65 = .ok (.lstore 8, 2) := by decide +kernel
theorem dX8_enough_67 : decode cX8_enough 67 = .ok (.ldc2_w 269, 3) := by decide +kernel
theorem dX8_enough_70 : decode cX8_enough 70 = .ok (.lstore 10, 2) := by decide +kernel
theorem dX8_enough_72 : decode cX8_enough 72 = .ok (.iconst 0, 1) := by decide +kernel
theorem dX8_enough_73 : decode cX8_enough 73 = .ok (.istore 12, 2) := by decide +kernel
theorem dX8_enough_75 : decode cX8_enough 75 = .ok (.iload 12, 2) := by decide +kernel
theorem dX8_enough_77 : decode cX8_enough 77 = .ok (.iload_n 1, 1) := by decide +kernel
theorem dX8_enough_78 : decode cX8_enough 78 = .ok (.if_icmp .ge 20, 3) := by decide +kernel
theorem dX8_enough_81 : decode cX8_enough 81 = .ok (.lload 10, 2) := by decide +kernel
theorem dX8_enough_83 : decode cX8_enough 83 = .ok (.lload 8, 2) := by decide +kernel
theorem dX8_enough_85 : decode cX8_enough 85 = .ok (.lmul, 1) := by decide +kernel
theorem dX8_enough_86 : decode cX8_enough 86 = .ok (.ldc2_w 269, 3) := by decide +kernel
theorem dX8_enough_89 : decode cX8_enough 89 = .ok (.ldiv, 1) := by decide +kernel
theorem dX8_enough_90 : decode cX8_enough 90 = .ok (.lstore 10, 2) := by decide +kernel
theorem dX8_enough_92 : decode cX8_enough 92 = .ok (.iinc 12 1, 3) := by decide +kernel
theorem dX8_enough_95 : decode cX8_enough 95 = .ok (.goto (-20), 3) := by decide +kernel
theorem dX8_enough_98 : decode cX8_enough 98 = .ok (.lload 10, 2) := by decide +kernel
theorem dX8_enough_100 : decode cX8_enough 100 = .ok (.ldc2_w 271, 3) := by decide +kernel
theorem dX8_enough_103 : decode cX8_enough 103 = .ok (.iload_n 2, 1) := by decide +kernel
theorem dX8_enough_104 : decode cX8_enough 104 = .ok (.i2l, 1) := by decide +kernel
theorem dX8_enough_105 : decode cX8_enough 105 = .ok (.lmul, 1) := by decide +kernel
theorem dX8_enough_106 : decode cX8_enough 106 = .ok (.lcmp, 1) := by decide +kernel
theorem dX8_enough_107 : decode cX8_enough 107 = .ok (.ifCond .lt 6, 3) := by decide +kernel
theorem dX8_enough_110 : decode cX8_enough 110 = .ok (.iload 7, 2) := by decide +kernel
theorem dX8_enough_112 : decode cX8_enough 112 = .ok (.ireturn, 1) := by decide +kernel
theorem dX8_enough_113 : decode cX8_enough 113 = .ok (.iinc 7 1, 3) := by decide +kernel
theorem dX8_enough_116 : decode cX8_enough 116 = .ok (.goto (-86), 3) := by decide +kernel
theorem dX8_enough_119 : decode cX8_enough 119 = .ok (.bipush (-9), 2) := by decide +kernel
theorem dX8_enough_121 : decode cX8_enough 121 = .ok (.ireturn, 1) := by decide +kernel
theorem dX8_next_0 : decode cX8_next 0 = .ok (.aload_n 0, 1) := by decide +kernel
theorem dX8_next_1 : decode cX8_next 1 = .ok (.invokevirtual 205, 3) := by decide +kernel
theorem dX8_next_4 : decode cX8_next 4 = .ok (.bipush (-9), 2) := by decide +kernel
theorem dX8_next_6 : decode cX8_next 6 = .ok (.istore_n 1, 1) := by decide +kernel
theorem dX8_next_7 : decode cX8_next 7 = .ok (.iconst (-1), 1) := by decide +kernel
theorem dX8_next_8 : decode cX8_next 8 = .ok (.istore_n 2, 1) := by decide +kernel
theorem dX8_next_9 : decode cX8_next 9 = .ok (.iconst 0, 1) := by decide +kernel
theorem dX8_next_10 : decode cX8_next 10 = .ok (.istore_n 3, 1) := by decide +kernel
theorem dX8_next_11 : decode cX8_next 11 = .ok (.iload_n 3, 1) := by decide +kernel
theorem dX8_next_12 : decode cX8_next 12 = .ok (.bipush 6, 2) := by decide +kernel
theorem dX8_next_14 : decode cX8_next 14 = .ok (.if_icmp .ge 170, 3) := by decide +kernel
theorem dX8_next_17 : decode cX8_next 17 = .ok (.iconst 0, 1) := by decide +kernel
theorem dX8_next_18 : decode cX8_next 18 = .ok (.istore 4, 2) := by decide +kernel
theorem dX8_next_20 : decode cX8_next 20 = .ok (.iconst 0, 1) := by decide +kernel
theorem dX8_next_21 : decode cX8_next 21 = .ok (.istore 5, 2) := by decide +kernel
theorem dX8_next_23 : decode cX8_next 23 = .ok (.iload 5, 2) := by decide +kernel
theorem dX8_next_25 : decode cX8_next 25 = .ok (.aload_n 0, 1) := by decide +kernel
theorem dX8_next_26 : decode cX8_next 26 = .ok (.getfield 173, 3) := by decide +kernel
theorem dX8_next_29 : decode cX8_next 29 = .ok (.if_icmp .ge 32, 3) := by decide +kernel
theorem dX8_next_32 : decode cX8_next 32 = .ok (.iload 4, 2) := by decide +kernel
theorem dX8_next_34 : decode cX8_next 34 = .ok (.ifCond .ne 14, 3) := by decide +kernel
theorem dX8_next_37 : decode cX8_next 37 = .ok (.aload_n 0, 1) := by decide +kernel
theorem dX8_next_38 : decode cX8_next 38 = .ok (.getfield 13, 3) := by decide +kernel
theorem dX8_next_41 : decode cX8_next 41 = .ok (.iload 5, 2) := by decide +kernel
theorem dX8_next_43 : decode cX8_next 43 = .ok (.iaload, 1) := by decide +kernel
theorem dX8_next_44 : decode cX8_next 44 = .ok (.iload_n 3, 1) := by decide +kernel
theorem dX8_next_45 : decode cX8_next 45 = .ok (.if_icmp .ne 7, 3) := by decide +kernel
theorem dX8_next_48 : decode cX8_next 48 = .ok (.iconst 1, 1) := by decide +kernel
theorem dX8_next_49 : decode cX8_next 49 = .ok (.goto 4, 3) := by decide +kernel
theorem dX8_next_52 : decode cX8_next 52 = .ok (.iconst 0, 1) := by decide +kernel
theorem dX8_next_53 : decode cX8_next 53 = .ok (.istore 4, 2) := by decide +kernel
theorem dX8_next_55 : decode cX8_next 55 = .ok (.iinc 5 1, 3) := by decide +kernel
theorem dX8_next_58 : decode cX8_next 58 = .ok (.goto (-35), 3) := by decide +kernel
theorem dX8_next_61 : decode cX8_next 61 = .ok (.iload 4, 2) := by decide +kernel
theorem dX8_next_63 : decode cX8_next 63 = .ok (.ifCond .eq 7, 3) := by decide +kernel
theorem dX8_next_66 : decode cX8_next 66 = .ok (.iconst 0, 1) := by decide +kernel
theorem dX8_next_67 : decode cX8_next 67 = .ok (.goto 4, 3) := by decide +kernel
theorem dX8_next_70 : decode cX8_next 70 = .ok (.iconst (-1), 1) := by decide +kernel
theorem dX8_next_71 : decode cX8_next 71 = .ok (.istore 5, 2) := by decide +kernel
theorem dX8_next_73 : decode cX8_next 73 = .ok (.iconst 0, 1) := by decide +kernel
theorem dX8_next_74 : decode cX8_next 74 = .ok (.istore 6, 2) := by decide +kernel
theorem dX8_next_76 : decode cX8_next 76 = .ok (.iload 6, 2) := by decide +kernel
theorem dX8_next_78 : decode cX8_next 78 = .ok (.aload_n 0, 1) := by decide +kernel
theorem dX8_next_79 : decode cX8_next 79 = .ok (.getfield 235, 3) := by decide +kernel
theorem dX8_next_82 : decode cX8_next 82 = .ok (.if_icmp .ge 85, 3) := by decide +kernel
theorem dX8_next_85 : decode cX8_next 85 = .ok (.iload 4, 2) := by decide +kernel
theorem dX8_next_87 : decode cX8_next 87 = .ok (.ifCond .eq 80, 3) := by decide +kernel
theorem dX8_next_90 : decode cX8_next 90 = .ok (.iconst 0, 1) := by decide +kernel
theorem dX8_next_91 : decode cX8_next 91 = .ok (.istore 7, 2) := by decide +kernel
theorem dX8_next_93 : decode cX8_next 93 = .ok (.iconst 0, 1) := by decide +kernel
theorem dX8_next_94 : decode cX8_next 94 = .ok (.istore 8, 2) := by decide +kernel
theorem dX8_next_96 : decode cX8_next 96 = .ok (.iload 8, 2) := by decide +kernel
theorem dX8_next_98 : decode cX8_next 98 = .ok (.aload_n 0, 1) := by decide +kernel
theorem dX8_next_99 : decode cX8_next 99 = .ok (.getfield 173, 3) := by decide +kernel
theorem dX8_next_102 : decode cX8_next 102 = .ok (.if_icmp .ge 43, 3) := by decide +kernel
theorem dX8_next_105 : decode cX8_next 105 = .ok (.iload 7, 2) := by decide +kernel
theorem dX8_next_107 : decode cX8_next 107 = .ok (.ifCond .ne 25, 3) := by decide +kernel
theorem dX8_next_110 : decode cX8_next 110 = .ok (.aload_n 0, 1) := by decide +kernel
theorem dX8_next_111 : decode cX8_next 111 = .ok (.getfield 13, 3) := by decide +kernel
end
section
theorem dX8_next_114 : decode cX8_next 114 = .ok (.iload 8, 2) := by decide +kernel
theorem dX8_next_116 : decode cX8_next 116 = .ok (.iaload, 1) := by decide +kernel
theorem dX8_next_117 : decode cX8_next 117 = .ok (.iload_n 3, 1) := by decide +kernel
theorem dX8_next_118 : decode cX8_next 118 = .ok (.if_icmp .ne 18, 3) := by decide +kernel
theorem dX8_next_121 : decode cX8_next 121 = .ok (.aload_n 0, 1) := by decide +kernel
theorem dX8_next_122 : decode cX8_next 122 = .ok (.iload 8, 2) := by decide +kernel
theorem dX8_next_124 : decode cX8_next 124 = .ok (.iload 6, 2) := by decide +kernel
theorem dX8_next_126 : decode cX8_next 126 = .ok (.invokevirtual 248, 3) := by decide +kernel
theorem dX8_next_129 : decode cX8_next 129 = .ok (.ifCond .eq 7, 3) := by decide +kernel
theorem dX8_next_132 : decode cX8_next 132 = .ok (.iconst 1, 1) := by decide +kernel
theorem dX8_next_133 : decode cX8_next 133 = .ok (.goto 4, 3) := by decide +kernel
theorem dX8_next_136 : decode cX8_next 136 = .ok (.iconst 0, 1) := by decide +kernel
theorem dX8_next_137 : decode cX8_next 137 = .ok (.istore 7, 2) := by decide +kernel
theorem dX8_next_139 : decode cX8_next 139 = .ok (.iinc 8 1, 3) := by decide +kernel
theorem dX8_next_142 : decode cX8_next 142 = .ok (.goto (-46), 3) := by decide +kernel
theorem dX8_next_145 : decode cX8_next 145 = .ok (.iload 7, 2) := by decide +kernel
theorem dX8_next_147 : decode cX8_next 147 = .ok (.ifCond .eq 8, 3) := by decide +kernel
theorem dX8_next_150 : decode cX8_next 150 = .ok (.iload 5, 2) := by decide +kernel
theorem dX8_next_152 : decode cX8_next 152 = .ok (.goto 7, 3) := by decide +kernel
theorem dX8_next_155 : decode cX8_next 155 = .ok (.iload 5, 2) := by decide +kernel
theorem dX8_next_157 : decode cX8_next 157 = .ok (.iconst 1, 1) := by decide +kernel
theorem dX8_next_158 : decode cX8_next 158 = .ok (.iadd, 1) := by decide +kernel
theorem dX8_next_159 : decode cX8_next 159 = .ok (.istore 5, 2) := by decide +kernel
theorem dX8_next_161 : decode cX8_next 161 = .ok (.iinc 6 1, 3) := by decide +kernel
theorem dX8_next_164 : decode cX8_next 164 = .ok (.goto (-88), 3) := by decide +kernel
theorem dX8_next_167 : decode cX8_next 167 = .ok (.iload 5, 2) := by decide +kernel
theorem dX8_next_169 : decode cX8_next 169 = .ok (.iload_n 2, 1) := by decide +kernel
theorem dX8_next_170 : decode cX8_next 170 = .ok (.if_icmp .le 8, 3) := by decide +kernel
theorem dX8_next_173 : decode cX8_next 173 = .ok (.iload 5, 2) := by decide +kernel
theorem dX8_next_175 : decode cX8_next 175 = .ok (.istore_n 2, 1) := by decide +kernel
theorem dX8_next_176 : decode cX8_next 176 = .ok (.iload_n 3, 1) := by decide +kernel
theorem dX8_next_177 : decode cX8_next 177 = .ok (.istore_n 1, 1) := by decide +kernel
theorem dX8_next_178 : decode cX8_next 178 = .ok (.iinc 3 1, 3) := by decide +kernel
theorem dX8_next_181 : decode cX8_next 181 = .ok (.goto (-170), 3) := by decide +kernel
theorem dX8_next_184 : decode cX8_next 184 = .ok (.iload_n 1, 1) := by decide +kernel
theorem dX8_next_185 : decode cX8_next 185 = .ok (.ireturn, 1) := by decide +kernel
theorem dX8_ofCoat_0 : decode cX8_ofCoat 0 = .ok (.aload_n 0, 1) := by decide +kernel
theorem dX8_ofCoat_1 : decode cX8_ofCoat 1 = .ok (.aload_n 0, 1) := by decide +kernel
theorem dX8_ofCoat_2 : decode cX8_ofCoat 2 = .ok (.getfield 273, 3) := by decide +kernel
theorem dX8_ofCoat_5 : decode cX8_ofCoat 5 = .ok (.lconst 1, 1) := by decide +kernel
theorem dX8_ofCoat_6 : decode cX8_ofCoat 6 = .ok (.ladd, 1) := by decide +kernel
theorem dX8_ofCoat_7 : decode cX8_ofCoat 7 = .ok (.putfield 273, 3) := by decide +kernel
theorem dX8_ofCoat_10 : decode cX8_ofCoat 10 = .ok (.aload_n 0, 1) := by decide +kernel
theorem dX8_ofCoat_11 : decode cX8_ofCoat 11 = .ok (.getfield 22, 3) := by decide +kernel
theorem dX8_ofCoat_14 : decode cX8_ofCoat 14 = .ok (.bipush 10, 2) := by decide +kernel
theorem dX8_ofCoat_16 : decode cX8_ofCoat 16 = .ok (.iload_n 1, 1) := by decide +kernel
theorem dX8_ofCoat_17 : decode cX8_ofCoat 17 = .ok (.imul, 1) := by decide +kernel
theorem dX8_ofCoat_18 : decode cX8_ofCoat 18 = .ok (.iload_n 2, 1) := by decide +kernel
theorem dX8_ofCoat_19 : decode cX8_ofCoat 19 = .ok (.iadd, 1) := by decide +kernel
theorem dX8_ofCoat_20 : decode cX8_ofCoat 20 = .ok (.iaload, 1) := by decide +kernel
theorem dX8_ofCoat_21 : decode cX8_ofCoat 21 = .ok (.iconst 1, 1) := by decide +kernel
theorem dX8_ofCoat_22 : decode cX8_ofCoat 22 = .ok (.iadd, 1) := by decide +kernel
theorem dX8_ofCoat_23 : decode cX8_ofCoat 23 = .ok (.ireturn, 1) := by decide +kernel
theorem dX8_ofWhole_0 : decode cX8_ofWhole 0 = .ok (.aload_n 0, 1) := by decide +kernel
theorem dX8_ofWhole_1 : decode cX8_ofWhole 1 = .ok (.aload_n 0, 1) := by decide +kernel
theorem dX8_ofWhole_2 : decode cX8_ofWhole 2 = .ok (.getfield 273, 3) := by decide +kernel
theorem dX8_ofWhole_5 : decode cX8_ofWhole 5 = .ok (.ldc2_w 267, 3) := by decide +kernel
theorem dX8_ofWhole_8 : decode cX8_ofWhole 8 = .ok (.ladd, 1) := by decide +kernel
theorem dX8_ofWhole_9 : decode cX8_ofWhole 9 = .ok (.putfield 273, 3) := by decide +kernel
theorem dX8_ofWhole_12 : decode cX8_ofWhole 12 = .ok (.iconst 0, 1) := by decide +kernel
theorem dX8_ofWhole_13 : decode cX8_ofWhole 13 = .ok (.istore_n 3, 1) := by decide +kernel
theorem dX8_ofWhole_14 : decode cX8_ofWhole 14 = .ok (.iconst 0, 1) := by decide +kernel
theorem dX8_ofWhole_15 : decode cX8_ofWhole 15 = .ok (.istore 4, 2) := by decide +kernel
theorem dX8_ofWhole_17 : decode cX8_ofWhole 17 = .ok (.iload 4, 2) := by decide +kernel
theorem dX8_ofWhole_19 : decode cX8_ofWhole 19 = .ok (.aload_n 0, 1) := by decide +kernel
theorem dX8_ofWhole_20 : decode cX8_ofWhole 20 = .ok (.getfield 173, 3) := by decide +kernel
theorem dX8_ofWhole_23 : decode cX8_ofWhole 23 = .ok (.if_icmp .ge 37, 3) := by decide +kernel
theorem dX8_ofWhole_26 : decode cX8_ofWhole 26 = .ok (.aload_n 0, 1) := by decide +kernel
theorem dX8_ofWhole_27 : decode cX8_ofWhole 27 = .ok (.iload 4, 2) := by decide +kernel
theorem dX8_ofWhole_29 : decode cX8_ofWhole 29 = .ok (.aload_n 0, 1) := by decide +kernel
theorem dX8_ofWhole_30 : decode cX8_ofWhole 30 = .ok (.getfield 104, 3) := by decide +kernel
theorem dX8_ofWhole_33 : decode cX8_ofWhole 33 = .ok (.bipush 10, 2) := by decide +kernel
theorem dX8_ofWhole_35 : decode cX8_ofWhole 35 = .ok (.iload_n 1, 1) := by decide +kernel
theorem dX8_ofWhole_36 : decode cX8_ofWhole 36 = .ok (.imul, 1) := by decide +kernel
theorem dX8_ofWhole_37 : decode cX8_ofWhole 37 = .ok (.iload_n 2, 1) := by decide +kernel
theorem dX8_ofWhole_38 : decode cX8_ofWhole 38 = .ok (.iadd, 1) := by decide +kernel
theorem dX8_ofWhole_39 : decode cX8_ofWhole 39 = .ok (.iaload, 1) := by decide +kernel
theorem dX8_ofWhole_40 : decode cX8_ofWhole 40 = .ok (.invokevirtual 248, 3) := by decide +kernel
theorem dX8_ofWhole_43 : decode cX8_ofWhole 43 = .ok (.ifCond .eq 9, 3) := by decide +kernel
theorem dX8_ofWhole_46 : decode cX8_ofWhole 46 = .ok (.iload_n 3, 1) := by decide +kernel
theorem dX8_ofWhole_47 : decode cX8_ofWhole 47 = .ok (.iconst 1, 1) := by decide +kernel
theorem dX8_ofWhole_48 : decode cX8_ofWhole 48 = .ok (.iadd, 1) := by decide +kernel
theorem dX8_ofWhole_49 : decode cX8_ofWhole 49 = .ok (.goto 4, 3) := by decide +kernel
theorem dX8_ofWhole_52 : decode cX8_ofWhole 52 = .ok (.iload_n 3, 1) := by decide +kernel
theorem dX8_ofWhole_53 : decode cX8_ofWhole 53 = .ok (.istore_n 3, 1) := by decide +kernel
theorem dX8_ofWhole_54 : decode cX8_ofWhole 54 = .ok (.iinc 4 1, 3) := by decide +kernel
theorem dX8_ofWhole_57 : decode cX8_ofWhole 57 = .ok (.goto (-40), 3) := by decide +kernel
theorem dX8_ofWhole_60 : decode cX8_ofWhole 60 = .ok (.aload_n 0, 1) := by decide +kernel
theorem dX8_ofWhole_61 : decode cX8_ofWhole 61 = .ok (.iload_n 1, 1) := by decide +kernel
theorem dX8_ofWhole_62 : decode cX8_ofWhole 62 = .ok (.iload_n 2, 1) := by decide +kernel
theorem dX8_ofWhole_63 : decode cX8_ofWhole 63 = .ok (.invokevirtual 277, 3) := by decide +kernel
theorem dX8_ofWhole_66 : decode cX8_ofWhole 66 = .ok (.iload_n 3, 1) := by decide +kernel
theorem dX8_ofWhole_67 : decode cX8_ofWhole 67 = .ok (.imul, 1) := by decide +kernel
theorem dX8_ofWhole_68 : decode cX8_ofWhole 68 = .ok (.ireturn, 1) := by decide +kernel
theorem dX8_ofUnder_0 : decode cX8_ofUnder 0 = .ok (.aload_n 0, 1) := by decide +kernel
theorem dX8_ofUnder_1 : decode cX8_ofUnder 1 = .ok (.aload_n 0, 1) := by decide +kernel
theorem dX8_ofUnder_2 : decode cX8_ofUnder 2 = .ok (.getfield 273, 3) := by decide +kernel
theorem dX8_ofUnder_5 : decode cX8_ofUnder 5 = .ok (.ldc2_w 280, 3) := by decide +kernel
theorem dX8_ofUnder_8 : decode cX8_ofUnder 8 = .ok (.ladd, 1) := by decide +kernel
theorem dX8_ofUnder_9 : decode cX8_ofUnder 9 = .ok (.putfield 273, 3) := by decide +kernel
theorem dX8_ofUnder_12 : decode cX8_ofUnder 12 = .ok (.aload_n 0, 1) := by decide +kernel
theorem dX8_ofUnder_13 : decode cX8_ofUnder 13 = .ok (.iload_n 1, 1) := by decide +kernel
theorem dX8_ofUnder_14 : decode cX8_ofUnder 14 = .ok (.iload_n 2, 1) := by decide +kernel
theorem dX8_ofUnder_15 : decode cX8_ofUnder 15 = .ok (.invokevirtual 277, 3) := by decide +kernel
theorem dX8_ofUnder_18 : decode cX8_ofUnder 18 = .ok (.aload_n 0, 1) := by decide +kernel
theorem dX8_ofUnder_19 : decode cX8_ofUnder 19 = .ok (.getfield 25, 3) := by decide +kernel
theorem dX8_ofUnder_22 : decode cX8_ofUnder 22 = .ok (.bipush 10, 2) := by decide +kernel
theorem dX8_ofUnder_24 : decode cX8_ofUnder 24 = .ok (.iload_n 1, 1) := by decide +kernel
theorem dX8_ofUnder_25 : decode cX8_ofUnder 25 = .ok (.imul, 1) := by decide +kernel
theorem dX8_ofUnder_26 : decode cX8_ofUnder 26 = .ok (.iload_n 2, 1) := by decide +kernel
theorem dX8_ofUnder_27 : decode cX8_ofUnder 27 = .ok (.iadd, 1) := by decide +kernel
theorem dX8_ofUnder_28 : decode cX8_ofUnder 28 = .ok (.iaload, 1) := by decide +kernel
theorem dX8_ofUnder_29 : decode cX8_ofUnder 29 = .ok (.iadd, 1) := by decide +kernel
theorem dX8_ofUnder_30 : decode cX8_ofUnder 30 = .ok (.ireturn, 1) := by decide +kernel
theorem dX8_rank_0 : decode cX8_rank 0 = .ok (.iload_n 1, 1) := by decide +kernel
theorem dX8_rank_1 : decode cX8_rank 1 = .ok (.iconst 0, 1) := by decide +kernel
theorem dX8_rank_2 : decode cX8_rank 2 = .ok (.iconst 5, 1) := by decide +kernel
theorem dX8_rank_3 : decode cX8_rank 3 = .ok (.invokestatic 116, 3) := by decide +kernel
theorem dX8_rank_6 : decode cX8_rank 6 = .ok (.ifCond .eq 12, 3) := by decide +kernel
theorem dX8_rank_9 : decode cX8_rank 9 = .ok (.aload_n 0, 1) := by decide +kernel
theorem dX8_rank_10 : decode cX8_rank 10 = .ok (.iload_n 2, 1) := by decide +kernel
theorem dX8_rank_11 : decode cX8_rank 11 = .ok (.iload_n 3, 1) := by decide +kernel
theorem dX8_rank_12 : decode cX8_rank 12 = .ok (.invokevirtual 202, 3) := by decide +kernel
theorem dX8_rank_15 : decode cX8_rank 15 = .ok (.ifCond .ne 7, 3) := by decide +kernel
theorem dX8_rank_18 : decode cX8_rank 18 = .ok (.ldc_w 282, 3) := by decide +kernel
theorem dX8_rank_21 : decode cX8_rank 21 = .ok (.ireturn, 1) := by decide +kernel
theorem dX8_rank_22 : decode cX8_rank 22 = .ok (.aload_n 0, 1) := by decide +kernel
theorem dX8_rank_23 : decode cX8_rank 23 = .ok (.invokevirtual 205, 3) := by decide +kernel
theorem dX8_rank_26 : decode cX8_rank 26 = .ok (.iload_n 1, 1) := by decide +kernel
theorem dX8_rank_27 : decode cX8_rank 27 = .ok (.ifCond .ne 10, 3) := by decide +kernel
theorem dX8_rank_30 : decode cX8_rank 30 = .ok (.aload_n 0, 1) := by decide +kernel
theorem dX8_rank_31 : decode cX8_rank 31 = .ok (.iload_n 2, 1) := by decide +kernel
theorem dX8_rank_32 : decode cX8_rank 32 = .ok (.iload_n 3, 1) := by decide +kernel
theorem dX8_rank_33 : decode cX8_rank 33 = .ok (.invokevirtual 277, 3) := by decide +kernel
theorem dX8_rank_36 : decode cX8_rank 36 = .ok (.ireturn, 1) := by decide +kernel
theorem dX8_rank_37 : decode cX8_rank 37 = .ok (.iload_n 1, 1) := by decide +kernel
theorem dX8_rank_38 : decode cX8_rank 38 = .ok (.iconst 1, 1) := by decide +kernel
theorem dX8_rank_39 : decode cX8_rank 39 = .ok (.if_icmp .ne 10, 3) := by decide +kernel
theorem dX8_rank_42 : decode cX8_rank 42 = .ok (.aload_n 0, 1) := by decide +kernel
theorem dX8_rank_43 : decode cX8_rank 43 = .ok (.iload_n 2, 1) := by decide +kernel
theorem dX8_rank_44 : decode cX8_rank 44 = .ok (.iload_n 3, 1) := by decide +kernel
theorem dX8_rank_45 : decode cX8_rank 45 = .ok (.invokevirtual 283, 3) := by decide +kernel
theorem dX8_rank_48 : decode cX8_rank 48 = .ok (.ireturn, 1) := by decide +kernel
theorem dX8_rank_49 : decode cX8_rank 49 = .ok (.iload_n 1, 1) := by decide +kernel
theorem dX8_rank_50 : decode cX8_rank 50 = .ok (.iconst 2, 1) := by decide +kernel
theorem dX8_rank_51 : decode cX8_rank 51 = .ok (.if_icmp .ne 10, 3) := by decide +kernel
theorem dX8_rank_54 : decode cX8_rank 54 = .ok (.aload_n 0, 1) := by decide +kernel
theorem dX8_rank_55 : decode cX8_rank 55 = .ok (.iload_n 2, 1) := by decide +kernel
theorem dX8_rank_56 : decode cX8_rank 56 = .ok (.iload_n 3, 1) := by decide +kernel
theorem dX8_rank_57 : decode cX8_rank 57 = .ok (.invokevirtual 286, 3) := by decide +kernel
theorem dX8_rank_60 : decode cX8_rank 60 = .ok (.ireturn, 1) := by decide +kernel
theorem dX8_rank_61 : decode cX8_rank 61 = .ok (.iload_n 1, 1) := by decide +kernel
theorem dX8_rank_62 : decode cX8_rank 62 = .ok (.iconst 3, 1) := by decide +kernel
theorem dX8_rank_63 : decode cX8_rank 63 = .ok (.if_icmp .ne 24, 3) := by decide +kernel
theorem dX8_rank_66 : decode cX8_rank 66 = .ok (.aload_n 0, 1) := by decide +kernel
theorem dX8_rank_67 : decode cX8_rank 67 = .ok (.aload_n 0, 1) := by decide +kernel
theorem dX8_rank_68 : decode cX8_rank 68 = .ok (.getfield 273, 3) := by decide +kernel
theorem dX8_rank_71 : decode cX8_rank 71 = .ok (.ldc2_w 289, 3) := by decide +kernel
theorem dX8_rank_74 : decode cX8_rank 74 = .ok (.ladd, 1) := by decide +kernel
theorem dX8_rank_75 : decode cX8_rank 75 = .ok (.putfield 273, 3) := by decide +kernel
theorem dX8_rank_78 : decode cX8_rank 78 = .ok (.aload_n 0, 1) := by decide +kernel
theorem dX8_rank_79 : decode cX8_rank 79 = .ok (.iload_n 2, 1) := by decide +kernel
theorem dX8_rank_80 : decode cX8_rank 80 = .ok (.iload_n 3, 1) := by decide +kernel
theorem dX8_rank_81 : decode cX8_rank 81 = .ok (.invokevirtual 283, 3) := by decide +kernel
theorem dX8_rank_84 : decode cX8_rank 84 = .ok (.iload_n 3, 1) := by decide +kernel
theorem dX8_rank_85 : decode cX8_rank 85 = .ok (.isub, 1) := by decide +kernel
theorem dX8_rank_86 : decode cX8_rank 86 = .ok (.ireturn, 1) := by decide +kernel
theorem dX8_rank_87 : decode cX8_rank 87 = .ok (.iload_n 1, 1) := by decide +kernel
theorem dX8_rank_88 : decode cX8_rank 88 = .ok (.iconst 4, 1) := by decide +kernel
theorem dX8_rank_89 : decode cX8_rank 89 = .ok (.if_icmp .ne 24, 3) := by decide +kernel
theorem dX8_rank_92 : decode cX8_rank 92 = .ok (.aload_n 0, 1) := by decide +kernel
theorem dX8_rank_93 : decode cX8_rank 93 = .ok (.aload_n 0, 1) := by decide +kernel
theorem dX8_rank_94 : decode cX8_rank 94 = .ok (.getfield 273, 3) := by decide +kernel
theorem dX8_rank_97 : decode cX8_rank 97 = .ok (.ldc2_w 271, 3) := by decide +kernel
theorem dX8_rank_100 : decode cX8_rank 100 = .ok (.ladd, 1) := by decide +kernel
theorem dX8_rank_101 : decode cX8_rank 101 = .ok (.putfield 273, 3) := by decide +kernel
theorem dX8_rank_104 : decode cX8_rank 104 = .ok (.iconst 2, 1) := by decide +kernel
theorem dX8_rank_105 : decode cX8_rank 105 = .ok (.aload_n 0, 1) := by decide +kernel
theorem dX8_rank_106 : decode cX8_rank 106 = .ok (.iload_n 2, 1) := by decide +kernel
theorem dX8_rank_107 : decode cX8_rank 107 = .ok (.iload_n 3, 1) := by decide +kernel
theorem dX8_rank_108 : decode cX8_rank 108 = .ok (.invokevirtual 286, 3) := by decide +kernel
theorem dX8_rank_111 : decode cX8_rank 111 = .ok (.imul, 1) := by decide +kernel
theorem dX8_rank_112 : decode cX8_rank 112 = .ok (.ireturn, 1) := by decide +kernel
theorem dX8_rank_113 : decode cX8_rank 113 = .ok (.aload_n 0, 1) := by decide +kernel
theorem dX8_rank_114 : decode cX8_rank 114 = .ok (.aload_n 0, 1) := by decide +kernel
theorem dX8_rank_115 : decode cX8_rank 115 = .ok (.getfield 273, 3) := by decide +kernel
theorem dX8_rank_118 : decode cX8_rank 118 = .ok (.ldc2_w 291, 3) := by decide +kernel
theorem dX8_rank_121 : decode cX8_rank 121 = .ok (.ladd, 1) := by decide +kernel
theorem dX8_rank_122 : decode cX8_rank 122 = .ok (.putfield 273, 3) := by decide +kernel
theorem dX8_rank_125 : decode cX8_rank 125 = .ok (.aload_n 0, 1) := by decide +kernel
theorem dX8_rank_126 : decode cX8_rank 126 = .ok (.iload_n 2, 1) := by decide +kernel
theorem dX8_rank_127 : decode cX8_rank 127 = .ok (.iload_n 3, 1) := by decide +kernel
theorem dX8_rank_128 : decode cX8_rank 128 = .ok (.invokevirtual 277, 3) := by decide +kernel
theorem dX8_rank_131 : decode cX8_rank 131 = .ok (.aload_n 0, 1) := by decide +kernel
theorem dX8_rank_132 : decode cX8_rank 132 = .ok (.getfield 16, 3) := by decide +kernel
theorem dX8_rank_135 : decode cX8_rank 135 = .ok (.iload_n 2, 1) := by decide +kernel
theorem dX8_rank_136 : decode cX8_rank 136 = .ok (.iaload, 1) := by decide +kernel
theorem dX8_rank_137 : decode cX8_rank 137 = .ok (.iconst 1, 1) := by decide +kernel
theorem dX8_rank_138 : decode cX8_rank 138 = .ok (.if_icmp .ne 8, 3) := by decide +kernel
theorem dX8_rank_141 : decode cX8_rank 141 = .ok (.bipush 20, 2) := by decide +kernel
theorem dX8_rank_143 : decode cX8_rank 143 = .ok (.goto 4, 3) := by decide +kernel
theorem dX8_rank_146 : decode cX8_rank 146 = .ok (.iconst 0, 1) := by decide +kernel
theorem dX8_rank_147 : decode cX8_rank 147 = .ok (.iadd, 1) := by decide +kernel
theorem dX8_rank_148 : decode cX8_rank 148 = .ok (.ireturn, 1) := by decide +kernel
theorem dX8_keep_0 : decode cX8_keep 0 = .ok (.iload_n 1, 1) := by decide +kernel
theorem dX8_keep_1 : decode cX8_keep 1 = .ok (.iconst 0, 1) := by decide +kernel
theorem dX8_keep_2 : decode cX8_keep 2 = .ok (.iconst 1, 1) := by decide +kernel
theorem dX8_keep_3 : decode cX8_keep 3 = .ok (.invokestatic 116, 3) := by decide +kernel
theorem dX8_keep_6 : decode cX8_keep 6 = .ok (.ifCond .ne 5, 3) := by decide +kernel
theorem dX8_keep_9 : decode cX8_keep 9 = .ok (.iconst (-1), 1) := by decide +kernel
theorem dX8_keep_10 : decode cX8_keep 10 = .ok (.ireturn, 1) := by decide +kernel
theorem dX8_keep_11 : decode cX8_keep 11 = .ok (.aload_n 0, 1) := by decide +kernel
theorem dX8_keep_12 : decode cX8_keep 12 = .ok (.getfield 67, 3) := by decide +kernel
theorem dX8_keep_15 : decode cX8_keep 15 = .ok (.iload_n 1, 1) := by decide +kernel
theorem dX8_keep_16 : decode cX8_keep 16 = .ok (.aload_n 0, 1) := by decide +kernel
theorem dX8_keep_17 : decode cX8_keep 17 = .ok (.getfield 173, 3) := by decide +kernel
theorem dX8_keep_20 : decode cX8_keep 20 = .ok (.iastore, 1) := by decide +kernel
theorem dX8_keep_21 : decode cX8_keep 21 = .ok (.iconst 0, 1) := by decide +kernel
theorem dX8_keep_22 : decode cX8_keep 22 = .ok (.istore_n 2, 1) := by decide +kernel
theorem dX8_keep_23 : decode cX8_keep 23 = .ok (.iload_n 2, 1) := by decide +kernel
theorem dX8_keep_24 : decode cX8_keep 24 = .ok (.aload_n 0, 1) := by decide +kernel
theorem dX8_keep_25 : decode cX8_keep 25 = .ok (.getfield 173, 3) := by decide +kernel
theorem dX8_keep_28 : decode cX8_keep 28 = .ok (.if_icmp .ge 57, 3) := by decide +kernel
theorem dX8_keep_31 : decode cX8_keep 31 = .ok (.aload_n 0, 1) := by decide +kernel
theorem dX8_keep_32 : decode cX8_keep 32 = .ok (.getfield 70, 3) := by decide +kernel
theorem dX8_keep_35 : decode cX8_keep 35 = .ok (.iconst 4, 1) := by decide +kernel
theorem dX8_keep_36 : decode cX8_keep 36 = .ok (.iload_n 1, 1) := by decide +kernel
theorem dX8_keep_37 : decode cX8_keep 37 = .ok (.imul, 1) := by decide +kernel
theorem dX8_keep_38 : decode cX8_keep 38 = .ok (.iload_n 2, 1) := by decide +kernel
theorem dX8_keep_39 : decode cX8_keep 39 = .ok (.iadd, 1) := by decide +kernel
theorem dX8_keep_40 : decode cX8_keep 40 = .ok (.aload_n 0, 1) := by decide +kernel
theorem dX8_keep_41 : decode cX8_keep 41 = .ok (.getfield 13, 3) := by decide +kernel
theorem dX8_keep_44 : decode cX8_keep 44 = .ok (.iload_n 2, 1) := by decide +kernel
theorem dX8_keep_45 : decode cX8_keep 45 = .ok (.iaload, 1) := by decide +kernel
theorem dX8_keep_46 : decode cX8_keep 46 = .ok (.iastore, 1) := by decide +kernel
theorem dX8_keep_47 : decode cX8_keep 47 = .ok (.aload_n 0, 1) := by decide +kernel
theorem dX8_keep_48 : decode cX8_keep 48 = .ok (.getfield 73, 3) := by decide +kernel
theorem dX8_keep_51 : decode cX8_keep 51 = .ok (.iconst 4, 1) := by decide +kernel
theorem dX8_keep_52 : decode cX8_keep 52 = .ok (.iload_n 1, 1) := by decide +kernel
theorem dX8_keep_53 : decode cX8_keep 53 = .ok (.imul, 1) := by decide +kernel
theorem dX8_keep_54 : decode cX8_keep 54 = .ok (.iload_n 2, 1) := by decide +kernel
theorem dX8_keep_55 : decode cX8_keep 55 = .ok (.iadd, 1) := by decide +kernel
theorem dX8_keep_56 : decode cX8_keep 56 = .ok (.aload_n 0, 1) := by decide +kernel
theorem dX8_keep_57 : decode cX8_keep 57 = .ok (.getfield 16, 3) := by decide +kernel
theorem dX8_keep_60 : decode cX8_keep 60 = .ok (.iload_n 2, 1) := by decide +kernel
theorem dX8_keep_61 : decode cX8_keep 61 = .ok (.iaload, 1) := by decide +kernel
theorem dX8_keep_62 : decode cX8_keep 62 = .ok (.iastore, 1) := by decide +kernel
theorem dX8_keep_63 : decode cX8_keep 63 = .ok (.aload_n 0, 1) := by decide +kernel
theorem dX8_keep_64 : decode cX8_keep 64 = .ok (.getfield 76, 3) := by decide +kernel
theorem dX8_keep_67 : decode cX8_keep 67 = .ok (.iconst 4, 1) := by decide +kernel
theorem dX8_keep_68 : decode cX8_keep 68 = .ok (.iload_n 1, 1) := by decide +kernel
theorem dX8_keep_69 : decode cX8_keep 69 = .ok (.imul, 1) := by decide +kernel
theorem dX8_keep_70 : decode cX8_keep 70 = .ok (.iload_n 2, 1) := by decide +kernel
theorem dX8_keep_71 : decode cX8_keep 71 = .ok (.iadd, 1) := by decide +kernel
theorem dX8_keep_72 : decode cX8_keep 72 = .ok (.aload_n 0, 1) := by decide +kernel
theorem dX8_keep_73 : decode cX8_keep 73 = .ok (.getfield 19, 3) := by decide +kernel
theorem dX8_keep_76 : decode cX8_keep 76 = .ok (.iload_n 2, 1) := by decide +kernel
theorem dX8_keep_77 : decode cX8_keep 77 = .ok (.iaload, 1) := by decide +kernel
theorem dX8_keep_78 : decode cX8_keep 78 = .ok (.iastore, 1) := by decide +kernel
theorem dX8_keep_79 : decode cX8_keep 79 = .ok (.iinc 2 1, 3) := by decide +kernel
theorem dX8_keep_82 : decode cX8_keep 82 = .ok (.goto (-59), 3) := by decide +kernel
theorem dX8_keep_85 : decode cX8_keep 85 = .ok (.iconst 0, 1) := by decide +kernel
theorem dX8_keep_86 : decode cX8_keep 86 = .ok (.istore_n 2, 1) := by decide +kernel
theorem dX8_keep_87 : decode cX8_keep 87 = .ok (.iload_n 2, 1) := by decide +kernel
theorem dX8_keep_88 : decode cX8_keep 88 = .ok (.bipush 40, 2) := by decide +kernel
theorem dX8_keep_90 : decode cX8_keep 90 = .ok (.if_icmp .ge 43, 3) := by decide +kernel
theorem dX8_keep_93 : decode cX8_keep 93 = .ok (.aload_n 0, 1) := by decide +kernel
theorem dX8_keep_94 : decode cX8_keep 94 = .ok (.getfield 79, 3) := by decide +kernel
theorem dX8_keep_97 : decode cX8_keep 97 = .ok (.bipush 40, 2) := by decide +kernel
theorem dX8_keep_99 : decode cX8_keep 99 = .ok (.iload_n 1, 1) := by decide +kernel
theorem dX8_keep_100 : decode cX8_keep 100 = .ok (.imul, 1) := by decide +kernel
theorem dX8_keep_101 : decode cX8_keep 101 = .ok (.iload_n 2, 1) := by decide +kernel
theorem dX8_keep_102 : decode cX8_keep 102 = .ok (.iadd, 1) := by decide +kernel
theorem dX8_keep_103 : decode cX8_keep 103 = .ok (.aload_n 0, 1) := by decide +kernel
theorem dX8_keep_104 : decode cX8_keep 104 = .ok (.getfield 22, 3) := by decide +kernel
theorem dX8_keep_107 : decode cX8_keep 107 = .ok (.iload_n 2, 1) := by decide +kernel
theorem dX8_keep_108 : decode cX8_keep 108 = .ok (.iaload, 1) := by decide +kernel
theorem dX8_keep_109 : decode cX8_keep 109 = .ok (.iastore, 1) := by decide +kernel
theorem dX8_keep_110 : decode cX8_keep 110 = .ok (.aload_n 0, 1) := by decide +kernel
theorem dX8_keep_111 : decode cX8_keep 111 = .ok (.getfield 82, 3) := by decide +kernel
theorem dX8_keep_114 : decode cX8_keep 114 = .ok (.bipush 40, 2) := by decide +kernel
theorem dX8_keep_116 : decode cX8_keep 116 = .ok (.iload_n 1, 1) := by decide +kernel
theorem dX8_keep_117 : decode cX8_keep 117 = .ok (.imul, 1) := by decide +kernel
theorem dX8_keep_118 : decode cX8_keep 118 = .ok (.iload_n 2, 1) := by decide +kernel
theorem dX8_keep_119 : decode cX8_keep 119 = .ok (.iadd, 1) := by decide +kernel
theorem dX8_keep_120 : decode cX8_keep 120 = .ok (.aload_n 0, 1) := by decide +kernel
theorem dX8_keep_121 : decode cX8_keep 121 = .ok (.getfield 25, 3) := by decide +kernel
theorem dX8_keep_124 : decode cX8_keep 124 = .ok (.iload_n 2, 1) := by decide +kernel
theorem dX8_keep_125 : decode cX8_keep 125 = .ok (.iaload, 1) := by decide +kernel
theorem dX8_keep_126 : decode cX8_keep 126 = .ok (.iastore, 1) := by decide +kernel
theorem dX8_keep_127 : decode cX8_keep 127 = .ok (.iinc 2 1, 3) := by decide +kernel
theorem dX8_keep_130 : decode cX8_keep 130 = .ok (.goto (-43), 3) := by decide +kernel
theorem dX8_keep_133 : decode cX8_keep 133 = .ok (.aload_n 0, 1) := by decide +kernel
theorem dX8_keep_134 : decode cX8_keep 134 = .ok (.getfield 173, 3) := by decide +kernel
theorem dX8_keep_137 : decode cX8_keep 137 = .ok (.ireturn, 1) := by decide +kernel
theorem dX8_back_0 : decode cX8_back 0 = .ok (.iload_n 1, 1) := by decide +kernel
theorem dX8_back_1 : decode cX8_back 1 = .ok (.iconst 0, 1) := by decide +kernel
theorem dX8_back_2 : decode cX8_back 2 = .ok (.iconst 1, 1) := by decide +kernel
theorem dX8_back_3 : decode cX8_back 3 = .ok (.invokestatic 116, 3) := by decide +kernel
theorem dX8_back_6 : decode cX8_back 6 = .ok (.ifCond .ne 5, 3) := by decide +kernel
theorem dX8_back_9 : decode cX8_back 9 = .ok (.iconst (-1), 1) := by decide +kernel
theorem dX8_back_10 : decode cX8_back 10 = .ok (.ireturn, 1) := by decide +kernel
theorem dX8_back_11 : decode cX8_back 11 = .ok (.aload_n 0, 1) := by decide +kernel
theorem dX8_back_12 : decode cX8_back 12 = .ok (.getfield 67, 3) := by decide +kernel
theorem dX8_back_15 : decode cX8_back 15 = .ok (.iload_n 1, 1) := by decide +kernel
theorem dX8_back_16 : decode cX8_back 16 = .ok (.iaload, 1) := by decide +kernel
theorem dX8_back_17 : decode cX8_back 17 = .ok (.ifCond .ge 6, 3) := by decide +kernel
theorem dX8_back_20 : decode cX8_back 20 = .ok (.bipush (-2), 2) := by decide +kernel
theorem dX8_back_22 : decode cX8_back 22 = .ok (.ireturn, 1) := by decide +kernel
theorem dX8_back_23 : decode cX8_back 23 = .ok (.aload_n 0, 1) := by decide +kernel
theorem dX8_back_24 : decode cX8_back 24 = .ok (.aload_n 0, 1) := by decide +kernel
theorem dX8_back_25 : decode cX8_back 25 = .ok (.getfield 67, 3) := by decide +kernel
theorem dX8_back_28 : decode cX8_back 28 = .ok (.iload_n 1, 1) := by decide +kernel
theorem dX8_back_29 : decode cX8_back 29 = .ok (.iaload, 1) := by decide +kernel
theorem dX8_back_30 : decode cX8_back 30 = .ok (.putfield 173, 3) := by decide +kernel
theorem dX8_back_33 : decode cX8_back 33 = .ok (.iconst 0, 1) := by decide +kernel
theorem dX8_back_34 : decode cX8_back 34 = .ok (.istore_n 2, 1) := by decide +kernel
theorem dX8_back_35 : decode cX8_back 35 = .ok (.iload_n 2, 1) := by decide +kernel
theorem dX8_back_36 : decode cX8_back 36 = .ok (.aload_n 0, 1) := by decide +kernel
theorem dX8_back_37 : decode cX8_back 37 = .ok (.getfield 173, 3) := by decide +kernel
theorem dX8_back_40 : decode cX8_back 40 = .ok (.if_icmp .ge 57, 3) := by decide +kernel
theorem dX8_back_43 : decode cX8_back 43 = .ok (.aload_n 0, 1) := by decide +kernel
theorem dX8_back_44 : decode cX8_back 44 = .ok (.getfield 13, 3) := by decide +kernel
theorem dX8_back_47 : decode cX8_back 47 = .ok (.iload_n 2, 1) := by decide +kernel
theorem dX8_back_48 : decode cX8_back 48 = .ok (.aload_n 0, 1) := by decide +kernel
theorem dX8_back_49 : decode cX8_back 49 = .ok (.getfield 70, 3) := by decide +kernel
theorem dX8_back_52 : decode cX8_back 52 = .ok (.iconst 4, 1) := by decide +kernel
theorem dX8_back_53 : decode cX8_back 53 = .ok (.iload_n 1, 1) := by decide +kernel
theorem dX8_back_54 : decode cX8_back 54 = .ok (.imul, 1) := by decide +kernel
theorem dX8_back_55 : decode cX8_back 55 = .ok (.iload_n 2, 1) := by decide +kernel
theorem dX8_back_56 : decode cX8_back 56 = .ok (.iadd, 1) := by decide +kernel
theorem dX8_back_57 : decode cX8_back 57 = .ok (.iaload, 1) := by decide +kernel
theorem dX8_back_58 : decode cX8_back 58 = .ok (.iastore, 1) := by decide +kernel
theorem dX8_back_59 : decode cX8_back 59 = .ok (.aload_n 0, 1) := by decide +kernel
theorem dX8_back_60 : decode cX8_back 60 = .ok (.getfield 16, 3) := by decide +kernel
theorem dX8_back_63 : decode cX8_back 63 = .ok (.iload_n 2, 1) := by decide +kernel
theorem dX8_back_64 : decode cX8_back 64 = .ok (.aload_n 0, 1) := by decide +kernel
theorem dX8_back_65 : decode cX8_back 65 = .ok (.getfield 73, 3) := by decide +kernel
theorem dX8_back_68 : decode cX8_back 68 = .ok (.iconst 4, 1) := by decide +kernel
theorem dX8_back_69 : decode cX8_back 69 = .ok (.iload_n 1, 1) := by decide +kernel
theorem dX8_back_70 : decode cX8_back 70 = .ok (.imul, 1) := by decide +kernel
theorem dX8_back_71 : decode cX8_back 71 = .ok (.iload_n 2, 1) := by decide +kernel
theorem dX8_back_72 : decode cX8_back 72 = .ok (.iadd, 1) := by decide +kernel
theorem dX8_back_73 : decode cX8_back 73 = .ok (.iaload, 1) := by decide +kernel
theorem dX8_back_74 : decode cX8_back 74 = .ok (.iastore, 1) := by decide +kernel
theorem dX8_back_75 : decode cX8_back 75 = .ok (.aload_n 0, 1) := by decide +kernel
theorem dX8_back_76 : decode cX8_back 76 = .ok (.getfield 19, 3) := by decide +kernel
theorem dX8_back_79 : decode cX8_back 79 = .ok (.iload_n 2, 1) := by decide +kernel
theorem dX8_back_80 : decode cX8_back 80 = .ok (.aload_n 0, 1) := by decide +kernel
theorem dX8_back_81 : decode cX8_back 81 = .ok (.getfield 76, 3) := by decide +kernel
theorem dX8_back_84 : decode cX8_back 84 = .ok (.iconst 4, 1) := by decide +kernel
theorem dX8_back_85 : decode cX8_back 85 = .ok (.iload_n 1, 1) := by decide +kernel
theorem dX8_back_86 : decode cX8_back 86 = .ok (.imul, 1) := by decide +kernel
theorem dX8_back_87 : decode cX8_back 87 = .ok (.iload_n 2, 1) := by decide +kernel
theorem dX8_back_88 : decode cX8_back 88 = .ok (.iadd, 1) := by decide +kernel
theorem dX8_back_89 : decode cX8_back 89 = .ok (.iaload, 1) := by decide +kernel
theorem dX8_back_90 : decode cX8_back 90 = .ok (.iastore, 1) := by decide +kernel
theorem dX8_back_91 : decode cX8_back 91 = .ok (.iinc 2 1, 3) := by decide +kernel
theorem dX8_back_94 : decode cX8_back 94 = .ok (.goto (-59), 3) := by decide +kernel
theorem dX8_back_97 : decode cX8_back 97 = .ok (.iconst 0, 1) := by decide +kernel
theorem dX8_back_98 : decode cX8_back 98 = .ok (.istore_n 2, 1) := by decide +kernel
theorem dX8_back_99 : decode cX8_back 99 = .ok (.iload_n 2, 1) := by decide +kernel
theorem dX8_back_100 : decode cX8_back 100 = .ok (.bipush 40, 2) := by decide +kernel
theorem dX8_back_102 : decode cX8_back 102 = .ok (.if_icmp .ge 43, 3) := by decide +kernel
theorem dX8_back_105 : decode cX8_back 105 = .ok (.aload_n 0, 1) := by decide +kernel
theorem dX8_back_106 : decode cX8_back 106 = .ok (.getfield 22, 3) := by decide +kernel
theorem dX8_back_109 : decode cX8_back 109 = .ok (.iload_n 2, 1) := by decide +kernel
theorem dX8_back_110 : decode cX8_back 110 = .ok (.aload_n 0, 1) := by decide +kernel
theorem dX8_back_111 : decode cX8_back 111 = .ok (.getfield 79, 3) := by decide +kernel
theorem dX8_back_114 : decode cX8_back 114 = .ok (.bipush 40, 2) := by decide +kernel
theorem dX8_back_116 : decode cX8_back 116 = .ok (.iload_n 1, 1) := by decide +kernel
theorem dX8_back_117 : decode cX8_back 117 = .ok (.imul, 1) := by decide +kernel
theorem dX8_back_118 : decode cX8_back 118 = .ok (.iload_n 2, 1) := by decide +kernel
theorem dX8_back_119 : decode cX8_back 119 = .ok (.iadd, 1) := by decide +kernel
theorem dX8_back_120 : decode cX8_back 120 = .ok (.iaload, 1) := by decide +kernel
theorem dX8_back_121 : decode cX8_back 121 = .ok (.iastore, 1) := by decide +kernel
theorem dX8_back_122 : decode cX8_back 122 = .ok (.aload_n 0, 1) := by decide +kernel
theorem dX8_back_123 : decode cX8_back 123 = .ok (.getfield 25, 3) := by decide +kernel
theorem dX8_back_126 : decode cX8_back 126 = .ok (.iload_n 2, 1) := by decide +kernel
theorem dX8_back_127 : decode cX8_back 127 = .ok (.aload_n 0, 1) := by decide +kernel
theorem dX8_back_128 : decode cX8_back 128 = .ok (.getfield 82, 3) := by decide +kernel
theorem dX8_back_131 : decode cX8_back 131 = .ok (.bipush 40, 2) := by decide +kernel
theorem dX8_back_133 : decode cX8_back 133 = .ok (.iload_n 1, 1) := by decide +kernel
theorem dX8_back_134 : decode cX8_back 134 = .ok (.imul, 1) := by decide +kernel
theorem dX8_back_135 : decode cX8_back 135 = .ok (.iload_n 2, 1) := by decide +kernel
theorem dX8_back_136 : decode cX8_back 136 = .ok (.iadd, 1) := by decide +kernel
theorem dX8_back_137 : decode cX8_back 137 = .ok (.iaload, 1) := by decide +kernel
theorem dX8_back_138 : decode cX8_back 138 = .ok (.iastore, 1) := by decide +kernel
theorem dX8_back_139 : decode cX8_back 139 = .ok (.iinc 2 1, 3) := by decide +kernel
theorem dX8_back_142 : decode cX8_back 142 = .ok (.goto (-43), 3) := by decide +kernel
theorem dX8_back_145 : decode cX8_back 145 = .ok (.aload_n 0, 1) := by decide +kernel
theorem dX8_back_146 : decode cX8_back 146 = .ok (.iconst 0, 1) := by decide +kernel
theorem dX8_back_147 : decode cX8_back 147 = .ok (.putfield 180, 3) := by decide +kernel
theorem dX8_back_150 : decode cX8_back 150 = .ok (.aload_n 0, 1) := by decide +kernel
theorem dX8_back_151 : decode cX8_back 151 = .ok (.getfield 173, 3) := by decide +kernel
theorem dX8_back_154 : decode cX8_back 154 = .ok (.ireturn, 1) := by decide +kernel
theorem dX8_count_0 : decode cX8_count 0 = .ok (.iload_n 1, 1) := by decide +kernel
theorem dX8_count_1 : decode cX8_count 1 = .ok (.iconst 0, 1) := by decide +kernel
theorem dX8_count_2 : decode cX8_count 2 = .ok (.iconst 3, 1) := by decide +kernel
theorem dX8_count_3 : decode cX8_count 3 = .ok (.invokestatic 116, 3) := by decide +kernel
theorem dX8_count_6 : decode cX8_count 6 = .ok (.ifCond .ne 5, 3) := by decide +kernel
theorem dX8_count_9 : decode cX8_count 9 = .ok (.iconst (-1), 1) := by decide +kernel
theorem dX8_count_10 : decode cX8_count 10 = .ok (.ireturn, 1) := by decide +kernel
theorem dX8_count_11 : decode cX8_count 11 = .ok (.iconst 0, 1) := by decide +kernel
theorem dX8_count_12 : decode cX8_count 12 = .ok (.istore_n 2, 1) := by decide +kernel
theorem dX8_count_13 : decode cX8_count 13 = .ok (.iconst 0, 1) := by decide +kernel
theorem dX8_count_14 : decode cX8_count 14 = .ok (.istore_n 3, 1) := by decide +kernel
theorem dX8_count_15 : decode cX8_count 15 = .ok (.iload_n 3, 1) := by decide +kernel
theorem dX8_count_16 : decode cX8_count 16 = .ok (.aload_n 0, 1) := by decide +kernel
theorem dX8_count_17 : decode cX8_count 17 = .ok (.getfield 173, 3) := by decide +kernel
theorem dX8_count_20 : decode cX8_count 20 = .ok (.if_icmp .ge 18, 3) := by decide +kernel
theorem dX8_count_23 : decode cX8_count 23 = .ok (.iload_n 2, 1) := by decide +kernel
theorem dX8_count_24 : decode cX8_count 24 = .ok (.aload_n 0, 1) := by decide +kernel
theorem dX8_count_25 : decode cX8_count 25 = .ok (.getfield 19, 3) := by decide +kernel
theorem dX8_count_28 : decode cX8_count 28 = .ok (.iload_n 3, 1) := by decide +kernel
theorem dX8_count_29 : decode cX8_count 29 = .ok (.iaload, 1) := by decide +kernel
theorem dX8_count_30 : decode cX8_count 30 = .ok (.iadd, 1) := by decide +kernel
theorem dX8_count_31 : decode cX8_count 31 = .ok (.istore_n 2, 1) := by decide +kernel
theorem dX8_count_32 : decode cX8_count 32 = .ok (.iinc 3 1, 3) := by decide +kernel
theorem dX8_count_35 : decode cX8_count 35 = .ok (.goto (-20), 3) := by decide +kernel
theorem dX8_count_38 : decode cX8_count 38 = .ok (.iload_n 1, 1) := by decide +kernel
theorem dX8_count_39 : decode cX8_count 39 = .ok (.ifCond .ne 10, 3) := by decide +kernel
theorem dX8_count_42 : decode cX8_count 42 = .ok (.aload_n 0, 1) := by decide +kernel
theorem dX8_count_43 : decode cX8_count 43 = .ok (.getfield 173, 3) := by decide +kernel
theorem dX8_count_46 : decode cX8_count 46 = .ok (.goto 28, 3) := by decide +kernel
theorem dX8_count_49 : decode cX8_count 49 = .ok (.iload_n 1, 1) := by decide +kernel
theorem dX8_count_50 : decode cX8_count 50 = .ok (.iconst 1, 1) := by decide +kernel
theorem dX8_count_51 : decode cX8_count 51 = .ok (.if_icmp .ne 7, 3) := by decide +kernel
theorem dX8_count_54 : decode cX8_count 54 = .ok (.iload_n 2, 1) := by decide +kernel
theorem dX8_count_55 : decode cX8_count 55 = .ok (.goto 19, 3) := by decide +kernel
theorem dX8_count_58 : decode cX8_count 58 = .ok (.iload_n 1, 1) := by decide +kernel
theorem dX8_count_59 : decode cX8_count 59 = .ok (.iconst 2, 1) := by decide +kernel
theorem dX8_count_60 : decode cX8_count 60 = .ok (.if_icmp .ne 10, 3) := by decide +kernel
theorem dX8_count_63 : decode cX8_count 63 = .ok (.aload_n 0, 1) := by decide +kernel
theorem dX8_count_64 : decode cX8_count 64 = .ok (.getfield 196, 3) := by decide +kernel
theorem dX8_count_67 : decode cX8_count 67 = .ok (.goto 7, 3) := by decide +kernel
theorem dX8_count_70 : decode cX8_count 70 = .ok (.aload_n 0, 1) := by decide +kernel
theorem dX8_count_71 : decode cX8_count 71 = .ok (.getfield 120, 3) := by decide +kernel
theorem dX8_count_74 : decode cX8_count 74 = .ok (.ireturn, 1) := by decide +kernel
theorem dX8_trace_0 : decode cX8_trace 0 = .ok (.aload_n 0, 1) := by decide +kernel
theorem dX8_trace_1 : decode cX8_trace 1 = .ok (.getfield 273, 3) := by decide +kernel
theorem dX8_trace_4 : decode cX8_trace 4 = .ok (.lreturn, 1) := by decide +kernel
theorem dJ6_bitCount_0f7a4_0 : decode cJ6_bitCount_0f7a4 0 = .ok (.iload_n 0, 1) := by decide +kernel
theorem dJ6_bitCount_0f7a4_1 : decode cJ6_bitCount_0f7a4 1 = .ok (.iload_n 0, 1) := by decide +kernel
theorem dJ6_bitCount_0f7a4_2 : decode cJ6_bitCount_0f7a4 2 = .ok (.iconst 1, 1) := by decide +kernel
theorem dJ6_bitCount_0f7a4_3 : decode cJ6_bitCount_0f7a4 3 = .ok (.iushr, 1) := by decide +kernel
theorem dJ6_bitCount_0f7a4_4 : decode cJ6_bitCount_0f7a4 4 = .ok (.ldc_w 265, 3) := by decide +kernel
theorem dJ6_bitCount_0f7a4_7 : decode cJ6_bitCount_0f7a4 7 = .ok (.iand, 1) := by decide +kernel
theorem dJ6_bitCount_0f7a4_8 : decode cJ6_bitCount_0f7a4 8 = .ok (.isub, 1) := by decide +kernel
theorem dJ6_bitCount_0f7a4_9 : decode cJ6_bitCount_0f7a4 9 = .ok (.istore_n 0, 1) := by decide +kernel
theorem dJ6_bitCount_0f7a4_10 : decode cJ6_bitCount_0f7a4 10 = .ok (.iload_n 0, 1) := by decide +kernel
theorem dJ6_bitCount_0f7a4_11 : decode cJ6_bitCount_0f7a4 11 = .ok (.ldc_w 266, 3) := by decide +kernel
theorem dJ6_bitCount_0f7a4_14 : decode cJ6_bitCount_0f7a4 14 = .ok (.iand, 1) := by decide +kernel
theorem dJ6_bitCount_0f7a4_15 : decode cJ6_bitCount_0f7a4 15 = .ok (.iload_n 0, 1) := by decide +kernel
theorem dJ6_bitCount_0f7a4_16 : decode cJ6_bitCount_0f7a4 16 = .ok (.iconst 2, 1) := by decide +kernel
theorem dJ6_bitCount_0f7a4_17 : decode cJ6_bitCount_0f7a4 17 = .ok (.iushr, 1) := by decide +kernel
theorem dJ6_bitCount_0f7a4_18 : decode cJ6_bitCount_0f7a4 18 = .ok (.ldc_w 266, 3) := by decide +kernel
theorem dJ6_bitCount_0f7a4_21 : decode cJ6_bitCount_0f7a4 21 = .ok (.iand, 1) := by decide +kernel
theorem dJ6_bitCount_0f7a4_22 : decode cJ6_bitCount_0f7a4 22 = .ok (.iadd, 1) := by decide +kernel
theorem dJ6_bitCount_0f7a4_23 : decode cJ6_bitCount_0f7a4 23 = .ok (.istore_n 0, 1) := by decide +kernel
theorem dJ6_bitCount_0f7a4_24 : decode cJ6_bitCount_0f7a4 24 = .ok (.iload_n 0, 1) := by decide +kernel
theorem dJ6_bitCount_0f7a4_25 : decode cJ6_bitCount_0f7a4 25 = .ok (.iload_n 0, 1) := by decide +kernel
theorem dJ6_bitCount_0f7a4_26 : decode cJ6_bitCount_0f7a4 26 = .ok (.iconst 4, 1) := by decide +kernel
theorem dJ6_bitCount_0f7a4_27 : decode cJ6_bitCount_0f7a4 27 = .ok (.iushr, 1) := by decide +kernel
theorem dJ6_bitCount_0f7a4_28 : decode cJ6_bitCount_0f7a4 28 = .ok (.iadd, 1) := by decide +kernel
theorem dJ6_bitCount_0f7a4_29 : decode cJ6_bitCount_0f7a4 29 = .ok (.ldc_w 267, 3) := by decide +kernel
theorem dJ6_bitCount_0f7a4_32 : decode cJ6_bitCount_0f7a4 32 = .ok (.iand, 1) := by decide +kernel
theorem dJ6_bitCount_0f7a4_33 : decode cJ6_bitCount_0f7a4 33 = .ok (.istore_n 0, 1) := by decide +kernel
theorem dJ6_bitCount_0f7a4_34 : decode cJ6_bitCount_0f7a4 34 = .ok (.iload_n 0, 1) := by decide +kernel
theorem dJ6_bitCount_0f7a4_35 : decode cJ6_bitCount_0f7a4 35 = .ok (.iload_n 0, 1) := by decide +kernel
theorem dJ6_bitCount_0f7a4_36 : decode cJ6_bitCount_0f7a4 36 = .ok (.bipush 8, 2) := by decide +kernel
theorem dJ6_bitCount_0f7a4_38 : decode cJ6_bitCount_0f7a4 38 = .ok (.iushr, 1) := by decide +kernel
theorem dJ6_bitCount_0f7a4_39 : decode cJ6_bitCount_0f7a4 39 = .ok (.iadd, 1) := by decide +kernel
theorem dJ6_bitCount_0f7a4_40 : decode cJ6_bitCount_0f7a4 40 = .ok (.istore_n 0, 1) := by decide +kernel
theorem dJ6_bitCount_0f7a4_41 : decode cJ6_bitCount_0f7a4 41 = .ok (.iload_n 0, 1) := by decide +kernel
theorem dJ6_bitCount_0f7a4_42 : decode cJ6_bitCount_0f7a4 42 = .ok (.iload_n 0, 1) := by decide +kernel
theorem dJ6_bitCount_0f7a4_43 : decode cJ6_bitCount_0f7a4 43 = .ok (.bipush 16, 2) := by decide +kernel
theorem dJ6_bitCount_0f7a4_45 : decode cJ6_bitCount_0f7a4 45 = .ok (.iushr, 1) := by decide +kernel
theorem dJ6_bitCount_0f7a4_46 : decode cJ6_bitCount_0f7a4 46 = .ok (.iadd, 1) := by decide +kernel
theorem dJ6_bitCount_0f7a4_47 : decode cJ6_bitCount_0f7a4 47 = .ok (.istore_n 0, 1) := by decide +kernel
theorem dJ6_bitCount_0f7a4_48 : decode cJ6_bitCount_0f7a4 48 = .ok (.iload_n 0, 1) := by decide +kernel
theorem dJ6_bitCount_0f7a4_49 : decode cJ6_bitCount_0f7a4 49 = .ok (.bipush 63, 2) := by decide +kernel
theorem dJ6_bitCount_0f7a4_51 : decode cJ6_bitCount_0f7a4 51 = .ok (.iand, 1) := by decide +kernel
theorem dJ6_bitCount_0f7a4_52 : decode cJ6_bitCount_0f7a4 52 = .ok (.ireturn, 1) := by decide +kernel
theorem dJ9_abs_0f7a4_0 : decode cJ9_abs_0f7a4 0 = .ok (.iload_n 0, 1) := by decide +kernel
theorem dJ9_abs_0f7a4_1 : decode cJ9_abs_0f7a4 1 = .ok (.ifCond .ge 8, 3) := by decide +kernel
theorem dJ9_abs_0f7a4_4 : decode cJ9_abs_0f7a4 4 = .ok (.iload_n 0, 1) := by decide +kernel
theorem dJ9_abs_0f7a4_5 : decode cJ9_abs_0f7a4 5 = .ok (.ineg, 1) := by decide +kernel
theorem dJ9_abs_0f7a4_6 : decode cJ9_abs_0f7a4 6 = .ok (.goto 4, 3) := by decide +kernel
theorem dJ9_abs_0f7a4_9 : decode cJ9_abs_0f7a4 9 = .ok (.iload_n 0, 1) := by decide +kernel
theorem dJ9_abs_0f7a4_10 : decode cJ9_abs_0f7a4 10 = .ok (.ireturn, 1) := by decide +kernel
theorem dJ9_max_7cf53_0 : decode cJ9_max_7cf53 0 = .ok (.iload_n 0, 1) := by decide +kernel
theorem dJ9_max_7cf53_1 : decode cJ9_max_7cf53 1 = .ok (.iload_n 1, 1) := by decide +kernel
theorem dJ9_max_7cf53_2 : decode cJ9_max_7cf53 2 = .ok (.if_icmp .lt 7, 3) := by decide +kernel
theorem dJ9_max_7cf53_5 : decode cJ9_max_7cf53 5 = .ok (.iload_n 0, 1) := by decide +kernel
theorem dJ9_max_7cf53_6 : decode cJ9_max_7cf53 6 = .ok (.goto 4, 3) := by decide +kernel
theorem dJ9_max_7cf53_9 : decode cJ9_max_7cf53 9 = .ok (.iload_n 1, 1) := by decide +kernel
theorem dJ9_max_7cf53_10 : decode cJ9_max_7cf53 10 = .ok (.ireturn, 1) := by decide +kernel
theorem dJ9_min_7cf53_0 : decode cJ9_min_7cf53 0 = .ok (.iload_n 0, 1) := by decide +kernel
theorem dJ9_min_7cf53_1 : decode cJ9_min_7cf53 1 = .ok (.iload_n 1, 1) := by decide +kernel
theorem dJ9_min_7cf53_2 : decode cJ9_min_7cf53 2 = .ok (.if_icmp .gt 7, 3) := by decide +kernel
theorem dJ9_min_7cf53_5 : decode cJ9_min_7cf53 5 = .ok (.iload_n 0, 1) := by decide +kernel
theorem dJ9_min_7cf53_6 : decode cJ9_min_7cf53 6 = .ok (.goto 4, 3) := by decide +kernel
theorem dJ9_min_7cf53_9 : decode cJ9_min_7cf53 9 = .ok (.iload_n 1, 1) := by decide +kernel
theorem dJ9_min_7cf53_10 : decode cJ9_min_7cf53 10 = .ok (.ireturn, 1) := by decide +kernel
theorem dJ0_length_8abf5_0 : decode cJ0_length_8abf5 0 = .ok (.aload_n 0, 1) := by decide +kernel
theorem dJ0_length_8abf5_1 : decode cJ0_length_8abf5 1 = .ok (.getfield 9, 3) := by decide +kernel
theorem dJ0_length_8abf5_4 : decode cJ0_length_8abf5 4 = .ok (.arraylength, 1) := by decide +kernel
theorem dJ0_length_8abf5_5 : decode cJ0_length_8abf5 5 = .ok (.aload_n 0, 1) := by decide +kernel
theorem dJ0_length_8abf5_6 : decode cJ0_length_8abf5 6 = .ok (.invokevirtual 335, 3) := by decide +kernel
theorem dJ0_length_8abf5_9 : decode cJ0_length_8abf5 9 = .ok (.ishr, 1) := by decide +kernel
theorem dJ0_length_8abf5_10 : decode cJ0_length_8abf5 10 = .ok (.ireturn, 1) := by decide +kernel
theorem dJ0_charAt_5068e_0 : decode cJ0_charAt_5068e 0 = .ok (.aload_n 0, 1) := by decide +kernel
theorem dJ0_charAt_5068e_1 : decode cJ0_charAt_5068e 1 = .ok (.invokevirtual 492, 3) := by decide +kernel
theorem dJ0_charAt_5068e_4 : decode cJ0_charAt_5068e 4 = .ok (.ifCond .eq 12, 3) := by decide +kernel
theorem dJ0_charAt_5068e_7 : decode cJ0_charAt_5068e 7 = .ok (.aload_n 0, 1) := by decide +kernel
theorem dJ0_charAt_5068e_8 : decode cJ0_charAt_5068e 8 = .ok (.getfield 9, 3) := by decide +kernel
theorem dJ0_charAt_5068e_11 : decode cJ0_charAt_5068e 11 = .ok (.iload_n 1, 1) := by decide +kernel
theorem dJ0_charAt_5068e_12 : decode cJ0_charAt_5068e 12 = .ok (.invokestatic 495, 3) := by decide +kernel
theorem dJ0_charAt_5068e_15 : decode cJ0_charAt_5068e 15 = .ok (.ireturn, 1) := by decide +kernel
theorem dJ0_charAt_5068e_16 : decode cJ0_charAt_5068e 16 = .ok (.aload_n 0, 1) := by decide +kernel
theorem dJ0_charAt_5068e_17 : decode cJ0_charAt_5068e 17 = .ok (.getfield 9, 3) := by decide +kernel
theorem dJ0_charAt_5068e_20 : decode cJ0_charAt_5068e 20 = .ok (.iload_n 1, 1) := by decide +kernel
theorem dJ0_charAt_5068e_21 : decode cJ0_charAt_5068e 21 = .ok (.invokestatic 498, 3) := by decide +kernel
theorem dJ0_charAt_5068e_24 : decode cJ0_charAt_5068e 24 = .ok (.ireturn, 1) := by decide +kernel
theorem dJ0_coder_7d493_0 : decode cJ0_coder_7d493 0 = .ok (.getstatic 38, 3) := by decide +kernel
theorem dJ0_coder_7d493_3 : decode cJ0_coder_7d493 3 = .ok (.ifCond .eq 10, 3) := by decide +kernel
theorem dJ0_coder_7d493_6 : decode cJ0_coder_7d493 6 = .ok (.aload_n 0, 1) := by decide +kernel
theorem dJ0_coder_7d493_7 : decode cJ0_coder_7d493 7 = .ok (.getfield 15, 3) := by decide +kernel
theorem dJ0_coder_7d493_10 : decode cJ0_coder_7d493 10 = .ok (.goto 4, 3) := by decide +kernel
theorem dJ0_coder_7d493_13 : decode cJ0_coder_7d493 13 = .ok (.iconst 1, 1) := by decide +kernel
theorem dJ0_coder_7d493_14 : decode cJ0_coder_7d493 14 = .ok (.ireturn, 1) := by decide +kernel
theorem dJ0_isLatin1_aae02_0 : decode cJ0_isLatin1_aae02 0 = .ok (.getstatic 38, 3) := by decide +kernel
theorem dJ0_isLatin1_aae02_3 : decode cJ0_isLatin1_aae02 3 = .ok (.ifCond .eq 14, 3) := by decide +kernel
theorem dJ0_isLatin1_aae02_6 : decode cJ0_isLatin1_aae02 6 = .ok (.aload_n 0, 1) := by decide +kernel
theorem dJ0_isLatin1_aae02_7 : decode cJ0_isLatin1_aae02 7 = .ok (.getfield 15, 3) := by decide +kernel
theorem dJ0_isLatin1_aae02_10 : decode cJ0_isLatin1_aae02 10 = .ok (.ifCond .ne 7, 3) := by decide +kernel
theorem dJ0_isLatin1_aae02_13 : decode cJ0_isLatin1_aae02 13 = .ok (.iconst 1, 1) := by decide +kernel
theorem dJ0_isLatin1_aae02_14 : decode cJ0_isLatin1_aae02 14 = .ok (.goto 4, 3) := by decide +kernel
theorem dJ0_isLatin1_aae02_17 : decode cJ0_isLatin1_aae02 17 = .ok (.iconst 0, 1) := by decide +kernel
theorem dJ0_isLatin1_aae02_18 : decode cJ0_isLatin1_aae02 18 = .ok (.ireturn, 1) := by decide +kernel
theorem dJ0_checkIndex_df160_0 : decode cJ0_checkIndex_df160 0 = .ok (.iload_n 0, 1) := by decide +kernel
theorem dJ0_checkIndex_df160_1 : decode cJ0_checkIndex_df160 1 = .ok (.iload_n 1, 1) := by decide +kernel
theorem dJ0_checkIndex_df160_2 : decode cJ0_checkIndex_df160 2 = .ok (.getstatic 1053, 3) := by decide +kernel
theorem dJ0_checkIndex_df160_5 : decode cJ0_checkIndex_df160 5 = .ok (.invokestatic 1059, 3) := by decide +kernel
theorem dJ0_checkIndex_df160_8 : decode cJ0_checkIndex_df160 8 = .ok (.pop, 1) := by decide +kernel
theorem dJ0_checkIndex_df160_9 : decode cJ0_checkIndex_df160 9 = .ok (.return_, 1) := by decide +kernel
theorem dJ1_charAt_3b067_0 : decode cJ1_charAt_3b067 0 = .ok (.iload_n 1, 1) := by decide +kernel
theorem dJ1_charAt_3b067_1 : decode cJ1_charAt_3b067 1 = .ok (.aload_n 0, 1) := by decide +kernel
theorem dJ1_charAt_3b067_2 : decode cJ1_charAt_3b067 2 = .ok (.arraylength, 1) := by decide +kernel
theorem dJ1_charAt_3b067_3 : decode cJ1_charAt_3b067 3 = .ok (.invokestatic 9, 3) := by decide +kernel
theorem dJ1_charAt_3b067_6 : decode cJ1_charAt_3b067 6 = .ok (.aload_n 0, 1) := by decide +kernel
theorem dJ1_charAt_3b067_7 : decode cJ1_charAt_3b067 7 = .ok (.iload_n 1, 1) := by decide +kernel
theorem dJ1_charAt_3b067_8 : decode cJ1_charAt_3b067 8 = .ok (.baload, 1) := by decide +kernel
theorem dJ1_charAt_3b067_9 : decode cJ1_charAt_3b067 9 = .ok (.sipush 255, 3) := by decide +kernel
theorem dJ1_charAt_3b067_12 : decode cJ1_charAt_3b067 12 = .ok (.iand, 1) := by decide +kernel
theorem dJ1_charAt_3b067_13 : decode cJ1_charAt_3b067 13 = .ok (.i2c, 1) := by decide +kernel
theorem dJ1_charAt_3b067_14 : decode cJ1_charAt_3b067 14 = .ok (.ireturn, 1) := by decide +kernel
theorem dJ2_getChar_3b067_0 : decode cJ2_getChar_3b067 0 = .ok (.getstatic 44, 3) := by decide +kernel
theorem dJ2_getChar_3b067_3 : decode cJ2_getChar_3b067 3 = .ok (.ifCond .ne 25, 3) := by decide +kernel
theorem dJ2_getChar_3b067_6 : decode cJ2_getChar_3b067 6 = .ok (.iload_n 1, 1) := by decide +kernel
theorem dJ2_getChar_3b067_7 : decode cJ2_getChar_3b067 7 = .ok (.ifCond .lt 11, 3) := by decide +kernel
theorem dJ2_getChar_3b067_10 : decode cJ2_getChar_3b067 10 = .ok (.iload_n 1, 1) := by decide +kernel
theorem dJ2_getChar_3b067_11 : decode cJ2_getChar_3b067 11 = .ok (.aload_n 0, 1) := by decide +kernel
theorem dJ2_getChar_3b067_12 : decode cJ2_getChar_3b067 12 = .ok (.invokestatic 48, 3) := by decide +kernel
theorem dJ2_getChar_3b067_15 : decode cJ2_getChar_3b067 15 = .ok (.if_icmp .lt 13, 3) := by decide +kernel
theorem dJ2_getChar_3b067_18 : decode cJ2_getChar_3b067 18 = .ok (.new 52, 3) := by decide +kernel
theorem dJ2_getChar_3b067_21 : decode cJ2_getChar_3b067 21 = .ok (.dup, 1) := by decide +kernel
theorem dJ2_getChar_3b067_22 : decode cJ2_getChar_3b067 22 = .ok (.ldc 54, 2) := by decide +kernel
theorem dJ2_getChar_3b067_24 : decode cJ2_getChar_3b067 24 = .ok (.invokespecial 56, 3) := by decide +kernel
theorem dJ2_getChar_3b067_27 : decode cJ2_getChar_3b067 27 = .ok (.athrow, 1) := by decide +kernel
theorem dJ2_getChar_3b067_28 : decode cJ2_getChar_3b067 28 = .ok (.iload_n 1, 1) := by decide +kernel
theorem dJ2_getChar_3b067_29 : decode cJ2_getChar_3b067 29 = .ok (.iconst 1, 1) := by decide +kernel
theorem dJ2_getChar_3b067_30 : decode cJ2_getChar_3b067 30 = .ok (.ishl, 1) := by decide +kernel
theorem dJ2_getChar_3b067_31 : decode cJ2_getChar_3b067 31 = .ok (.istore_n 1, 1) := by decide +kernel
theorem dJ2_getChar_3b067_32 : decode cJ2_getChar_3b067 32 = .ok (.aload_n 0, 1) := by decide +kernel
theorem dJ2_getChar_3b067_33 : decode cJ2_getChar_3b067 33 = .ok (.iload_n 1, 1) := by decide +kernel
theorem dJ2_getChar_3b067_34 : decode cJ2_getChar_3b067 34 = .ok (.iinc 1 1, 3) := by decide +kernel
theorem dJ2_getChar_3b067_37 : decode cJ2_getChar_3b067 37 = .ok (.baload, 1) := by decide +kernel
theorem dJ2_getChar_3b067_38 : decode cJ2_getChar_3b067 38 = .ok (.sipush 255, 3) := by decide +kernel
theorem dJ2_getChar_3b067_41 : decode cJ2_getChar_3b067 41 = .ok (.iand, 1) := by decide +kernel
theorem dJ2_getChar_3b067_42 : decode cJ2_getChar_3b067 42 = .ok (.getstatic 59, 3) := by decide +kernel
theorem dJ2_getChar_3b067_45 : decode cJ2_getChar_3b067 45 = .ok (.ishl, 1) := by decide +kernel
theorem dJ2_getChar_3b067_46 : decode cJ2_getChar_3b067 46 = .ok (.aload_n 0, 1) := by decide +kernel
theorem dJ2_getChar_3b067_47 : decode cJ2_getChar_3b067 47 = .ok (.iload_n 1, 1) := by decide +kernel
theorem dJ2_getChar_3b067_48 : decode cJ2_getChar_3b067 48 = .ok (.baload, 1) := by decide +kernel
theorem dJ2_getChar_3b067_49 : decode cJ2_getChar_3b067 49 = .ok (.sipush 255, 3) := by decide +kernel
theorem dJ2_getChar_3b067_52 : decode cJ2_getChar_3b067 52 = .ok (.iand, 1) := by decide +kernel
theorem dJ2_getChar_3b067_53 : decode cJ2_getChar_3b067 53 = .ok (.getstatic 63, 3) := by decide +kernel
theorem dJ2_getChar_3b067_56 : decode cJ2_getChar_3b067 56 = .ok (.ishl, 1) := by decide +kernel
theorem dJ2_getChar_3b067_57 : decode cJ2_getChar_3b067 57 = .ok (.ior, 1) := by decide +kernel
theorem dJ2_getChar_3b067_58 : decode cJ2_getChar_3b067 58 = .ok (.i2c, 1) := by decide +kernel
theorem dJ2_getChar_3b067_59 : decode cJ2_getChar_3b067 59 = .ok (.ireturn, 1) := by decide +kernel
theorem dJ2_length_9d52b_0 : decode cJ2_length_9d52b 0 = .ok (.aload_n 0, 1) := by decide +kernel
theorem dJ2_length_9d52b_1 : decode cJ2_length_9d52b 1 = .ok (.arraylength, 1) := by decide +kernel
theorem dJ2_length_9d52b_2 : decode cJ2_length_9d52b 2 = .ok (.iconst 1, 1) := by decide +kernel
theorem dJ2_length_9d52b_3 : decode cJ2_length_9d52b 3 = .ok (.ishr, 1) := by decide +kernel
theorem dJ2_length_9d52b_4 : decode cJ2_length_9d52b 4 = .ok (.ireturn, 1) := by decide +kernel
theorem dJ2_charAt_3b067_0 : decode cJ2_charAt_3b067 0 = .ok (.iload_n 1, 1) := by decide +kernel
theorem dJ2_charAt_3b067_1 : decode cJ2_charAt_3b067 1 = .ok (.aload_n 0, 1) := by decide +kernel
theorem dJ2_charAt_3b067_2 : decode cJ2_charAt_3b067 2 = .ok (.invokestatic 67, 3) := by decide +kernel
theorem dJ2_charAt_3b067_5 : decode cJ2_charAt_3b067 5 = .ok (.aload_n 0, 1) := by decide +kernel
theorem dJ2_charAt_3b067_6 : decode cJ2_charAt_3b067 6 = .ok (.iload_n 1, 1) := by decide +kernel
theorem dJ2_charAt_3b067_7 : decode cJ2_charAt_3b067 7 = .ok (.invokestatic 71, 3) := by decide +kernel
theorem dJ2_charAt_3b067_10 : decode cJ2_charAt_3b067 10 = .ok (.ireturn, 1) := by decide +kernel
theorem dJ2_checkIndex_2214a_0 : decode cJ2_checkIndex_2214a 0 = .ok (.iload_n 0, 1) := by decide +kernel
theorem dJ2_checkIndex_2214a_1 : decode cJ2_checkIndex_2214a 1 = .ok (.aload_n 1, 1) := by decide +kernel
theorem dJ2_checkIndex_2214a_2 : decode cJ2_checkIndex_2214a 2 = .ok (.invokestatic 48, 3) := by decide +kernel
theorem dJ2_checkIndex_2214a_5 : decode cJ2_checkIndex_2214a 5 = .ok (.invokestatic 414, 3) := by decide +kernel
theorem dJ2_checkIndex_2214a_8 : decode cJ2_checkIndex_2214a 8 = .ok (.return_, 1) := by decide +kernel
theorem dJ7_fill_53178_0 : decode cJ7_fill_53178 0 = .ok (.iconst 0, 1) := by decide +kernel
theorem dJ7_fill_53178_1 : decode cJ7_fill_53178 1 = .ok (.istore_n 2, 1) := by decide +kernel
theorem dJ7_fill_53178_2 : decode cJ7_fill_53178 2 = .ok (.aload_n 0, 1) := by decide +kernel
theorem dJ7_fill_53178_3 : decode cJ7_fill_53178 3 = .ok (.arraylength, 1) := by decide +kernel
theorem dJ7_fill_53178_4 : decode cJ7_fill_53178 4 = .ok (.istore_n 3, 1) := by decide +kernel
theorem dJ7_fill_53178_5 : decode cJ7_fill_53178 5 = .ok (.iload_n 2, 1) := by decide +kernel
theorem dJ7_fill_53178_6 : decode cJ7_fill_53178 6 = .ok (.iload_n 3, 1) := by decide +kernel
theorem dJ7_fill_53178_7 : decode cJ7_fill_53178 7 = .ok (.if_icmp .ge 13, 3) := by decide +kernel
theorem dJ7_fill_53178_10 : decode cJ7_fill_53178 10 = .ok (.aload_n 0, 1) := by decide +kernel
theorem dJ7_fill_53178_11 : decode cJ7_fill_53178 11 = .ok (.iload_n 2, 1) := by decide +kernel
theorem dJ7_fill_53178_12 : decode cJ7_fill_53178 12 = .ok (.iload_n 1, 1) := by decide +kernel
theorem dJ7_fill_53178_13 : decode cJ7_fill_53178 13 = .ok (.iastore, 1) := by decide +kernel
theorem dJ7_fill_53178_14 : decode cJ7_fill_53178 14 = .ok (.iinc 2 1, 3) := by decide +kernel
theorem dJ7_fill_53178_17 : decode cJ7_fill_53178 17 = .ok (.goto (-12), 3) := by decide +kernel
theorem dJ7_fill_53178_20 : decode cJ7_fill_53178 20 = .ok (.return_, 1) := by decide +kernel
theorem dJ3_checkIndex_8e157_0 : decode cJ3_checkIndex_8e157 0 = .ok (.iload_n 0, 1) := by decide +kernel
theorem dJ3_checkIndex_8e157_1 : decode cJ3_checkIndex_8e157 1 = .ok (.ifCond .lt 8, 3) := by decide +kernel
theorem dJ3_checkIndex_8e157_4 : decode cJ3_checkIndex_8e157 4 = .ok (.iload_n 0, 1) := by decide +kernel
theorem dJ3_checkIndex_8e157_5 : decode cJ3_checkIndex_8e157 5 = .ok (.iload_n 1, 1) := by decide +kernel
theorem dJ3_checkIndex_8e157_6 : decode cJ3_checkIndex_8e157 6 = .ok (.if_icmp .lt 10, 3) := by decide +kernel
theorem dJ3_checkIndex_8e157_9 : decode cJ3_checkIndex_8e157 9 = .ok (.aload_n 2, 1) := by decide +kernel
theorem dJ3_checkIndex_8e157_10 : decode cJ3_checkIndex_8e157 10 = .ok (.iload_n 0, 1) := by decide +kernel
theorem dJ3_checkIndex_8e157_11 : decode cJ3_checkIndex_8e157 11 = .ok (.iload_n 1, 1) := by decide +kernel
theorem dJ3_checkIndex_8e157_12 : decode cJ3_checkIndex_8e157 12 = .ok (.invokestatic 95, 3) := by decide +kernel
theorem dJ3_checkIndex_8e157_15 : decode cJ3_checkIndex_8e157 15 = .ok (.athrow, 1) := by decide +kernel
theorem dJ3_checkIndex_8e157_16 : decode cJ3_checkIndex_8e157 16 = .ok (.iload_n 0, 1) := by decide +kernel
theorem dJ3_checkIndex_8e157_17 : decode cJ3_checkIndex_8e157 17 = .ok (.ireturn, 1) := by decide +kernel
theorem dL_law_0 : decode cL_law 0 = .ok (.new 7, 3) := by decide +kernel
theorem dL_law_3 : decode cL_law 3 = .ok (.dup, 1) := by decide +kernel
theorem dL_law_4 : decode cL_law 4 = .ok (.invokespecial 9, 3) := by decide +kernel
theorem dL_law_7 : decode cL_law 7 = .ok (.astore_n 1, 1) := by decide +kernel
theorem dL_law_8 : decode cL_law 8 = .ok (.new 10, 3) := by decide +kernel
theorem dL_law_11 : decode cL_law 11 = .ok (.dup, 1) := by decide +kernel
theorem dL_law_12 : decode cL_law 12 = .ok (.invokespecial 12, 3) := by decide +kernel
theorem dL_law_15 : decode cL_law 15 = .ok (.astore_n 2, 1) := by decide +kernel
theorem dL_law_16 : decode cL_law 16 = .ok (.iconst 0, 1) := by decide +kernel
theorem dL_law_17 : decode cL_law 17 = .ok (.istore_n 3, 1) := by decide +kernel
theorem dL_law_18 : decode cL_law 18 = .ok (.iload_n 3, 1) := by decide +kernel
theorem dL_law_19 : decode cL_law 19 = .ok (.aload_n 0, 1) := by decide +kernel
theorem dL_law_20 : decode cL_law 20 = .ok (.arraylength, 1) := by decide +kernel
theorem dL_law_21 : decode cL_law 21 = .ok (.iconst 4, 1) := by decide +kernel
theorem dL_law_22 : decode cL_law 22 = .ok (.isub, 1) := by decide +kernel
theorem dL_law_23 : decode cL_law 23 = .ok (.if_icmp .gt 885, 3) := by decide +kernel
theorem dL_law_26 : decode cL_law 26 = .ok (.aload_n 0, 1) := by decide +kernel
theorem dL_law_27 : decode cL_law 27 = .ok (.iload_n 3, 1) := by decide +kernel
theorem dL_law_28 : decode cL_law 28 = .ok (.iaload, 1) := by decide +kernel
theorem dL_law_29 : decode cL_law 29 = .ok (.bipush 31, 2) := by decide +kernel
theorem dL_law_31 : decode cL_law 31 = .ok (.iand, 1) := by decide +kernel
theorem dL_law_32 : decode cL_law 32 = .ok (.tableswitch 870 0 25 #[120, 183, 196, 209, 222, 245, 278, 321, 354, 387, 420, 454, 497, 520, 543, 576, 609, 642, 675, 698, 731, 744, 787, 810, 833, 856], 120) := by decide +kernel
theorem dL_law_152 : decode cL_law 152 = .ok (.aload_n 1, 1) := by decide +kernel
theorem dL_law_153 : decode cL_law 153 = .ok (.aload_n 0, 1) := by decide +kernel
theorem dL_law_154 : decode cL_law 154 = .ok (.iload_n 3, 1) := by decide +kernel
theorem dL_law_155 : decode cL_law 155 = .ok (.iconst 1, 1) := by decide +kernel
theorem dL_law_156 : decode cL_law 156 = .ok (.iadd, 1) := by decide +kernel
theorem dL_law_157 : decode cL_law 157 = .ok (.iaload, 1) := by decide +kernel
theorem dL_law_158 : decode cL_law 158 = .ok (.i2l, 1) := by decide +kernel
theorem dL_law_159 : decode cL_law 159 = .ok (.bipush 32, 2) := by decide +kernel
theorem dL_law_161 : decode cL_law 161 = .ok (.lshl, 1) := by decide +kernel
theorem dL_law_162 : decode cL_law 162 = .ok (.aload_n 0, 1) := by decide +kernel
theorem dL_law_163 : decode cL_law 163 = .ok (.iload_n 3, 1) := by decide +kernel
theorem dL_law_164 : decode cL_law 164 = .ok (.iconst 2, 1) := by decide +kernel
theorem dL_law_165 : decode cL_law 165 = .ok (.iadd, 1) := by decide +kernel
theorem dL_law_166 : decode cL_law 166 = .ok (.iaload, 1) := by decide +kernel
theorem dL_law_167 : decode cL_law 167 = .ok (.i2l, 1) := by decide +kernel
theorem dL_law_168 : decode cL_law 168 = .ok (.ldc2_w 13, 3) := by decide +kernel
theorem dL_law_171 : decode cL_law 171 = .ok (.land, 1) := by decide +kernel
theorem dL_law_172 : decode cL_law 172 = .ok (.lor, 1) := by decide +kernel
theorem dL_law_173 : decode cL_law 173 = .ok (.aload_n 0, 1) := by decide +kernel
theorem dL_law_174 : decode cL_law 174 = .ok (.iload_n 3, 1) := by decide +kernel
theorem dL_law_175 : decode cL_law 175 = .ok (.iconst 3, 1) := by decide +kernel
theorem dL_law_176 : decode cL_law 176 = .ok (.iadd, 1) := by decide +kernel
theorem dL_law_177 : decode cL_law 177 = .ok (.iaload, 1) := by decide +kernel
theorem dL_law_178 : decode cL_law 178 = .ok (.invokevirtual 15, 3) := by decide +kernel
theorem dL_law_181 : decode cL_law 181 = .ok (.aload_n 2, 1) := by decide +kernel
theorem dL_law_182 : decode cL_law 182 = .ok (.aload_n 0, 1) := by decide +kernel
theorem dL_law_183 : decode cL_law 183 = .ok (.iload_n 3, 1) := by decide +kernel
theorem dL_law_184 : decode cL_law 184 = .ok (.iconst 1, 1) := by decide +kernel
theorem dL_law_185 : decode cL_law 185 = .ok (.iadd, 1) := by decide +kernel
theorem dL_law_186 : decode cL_law 186 = .ok (.iaload, 1) := by decide +kernel
theorem dL_law_187 : decode cL_law 187 = .ok (.i2l, 1) := by decide +kernel
theorem dL_law_188 : decode cL_law 188 = .ok (.bipush 32, 2) := by decide +kernel
theorem dL_law_190 : decode cL_law 190 = .ok (.lshl, 1) := by decide +kernel
theorem dL_law_191 : decode cL_law 191 = .ok (.aload_n 0, 1) := by decide +kernel
theorem dL_law_192 : decode cL_law 192 = .ok (.iload_n 3, 1) := by decide +kernel
theorem dL_law_193 : decode cL_law 193 = .ok (.iconst 2, 1) := by decide +kernel
theorem dL_law_194 : decode cL_law 194 = .ok (.iadd, 1) := by decide +kernel
theorem dL_law_195 : decode cL_law 195 = .ok (.iaload, 1) := by decide +kernel
theorem dL_law_196 : decode cL_law 196 = .ok (.i2l, 1) := by decide +kernel
theorem dL_law_197 : decode cL_law 197 = .ok (.ldc2_w 13, 3) := by decide +kernel
theorem dL_law_200 : decode cL_law 200 = .ok (.land, 1) := by decide +kernel
theorem dL_law_201 : decode cL_law 201 = .ok (.lor, 1) := by decide +kernel
theorem dL_law_202 : decode cL_law 202 = .ok (.aload_n 0, 1) := by decide +kernel
theorem dL_law_203 : decode cL_law 203 = .ok (.iload_n 3, 1) := by decide +kernel
theorem dL_law_204 : decode cL_law 204 = .ok (.iconst 3, 1) := by decide +kernel
theorem dL_law_205 : decode cL_law 205 = .ok (.iadd, 1) := by decide +kernel
theorem dL_law_206 : decode cL_law 206 = .ok (.iaload, 1) := by decide +kernel
theorem dL_law_207 : decode cL_law 207 = .ok (.invokevirtual 19, 3) := by decide +kernel
theorem dL_law_210 : decode cL_law 210 = .ok (.if_icmp .eq 692, 3) := by decide +kernel
theorem dL_law_213 : decode cL_law 213 = .ok (.iconst 0, 1) := by decide +kernel
theorem dL_law_214 : decode cL_law 214 = .ok (.ireturn, 1) := by decide +kernel
theorem dL_law_215 : decode cL_law 215 = .ok (.aload_n 1, 1) := by decide +kernel
theorem dL_law_216 : decode cL_law 216 = .ok (.invokevirtual 20, 3) := by decide +kernel
theorem dL_law_219 : decode cL_law 219 = .ok (.aload_n 2, 1) := by decide +kernel
theorem dL_law_220 : decode cL_law 220 = .ok (.invokevirtual 24, 3) := by decide +kernel
theorem dL_law_223 : decode cL_law 223 = .ok (.if_icmp .eq 679, 3) := by decide +kernel
theorem dL_law_226 : decode cL_law 226 = .ok (.iconst 0, 1) := by decide +kernel
theorem dL_law_227 : decode cL_law 227 = .ok (.ireturn, 1) := by decide +kernel
theorem dL_law_228 : decode cL_law 228 = .ok (.aload_n 1, 1) := by decide +kernel
theorem dL_law_229 : decode cL_law 229 = .ok (.invokevirtual 25, 3) := by decide +kernel
theorem dL_law_232 : decode cL_law 232 = .ok (.aload_n 2, 1) := by decide +kernel
theorem dL_law_233 : decode cL_law 233 = .ok (.invokevirtual 28, 3) := by decide +kernel
theorem dL_law_236 : decode cL_law 236 = .ok (.if_icmp .eq 666, 3) := by decide +kernel
theorem dL_law_239 : decode cL_law 239 = .ok (.iconst 0, 1) := by decide +kernel
theorem dL_law_240 : decode cL_law 240 = .ok (.ireturn, 1) := by decide +kernel
theorem dL_law_241 : decode cL_law 241 = .ok (.aload_n 1, 1) := by decide +kernel
theorem dL_law_242 : decode cL_law 242 = .ok (.invokevirtual 29, 3) := by decide +kernel
theorem dL_law_245 : decode cL_law 245 = .ok (.aload_n 2, 1) := by decide +kernel
theorem dL_law_246 : decode cL_law 246 = .ok (.invokevirtual 32, 3) := by decide +kernel
theorem dL_law_249 : decode cL_law 249 = .ok (.if_icmp .eq 653, 3) := by decide +kernel
theorem dL_law_252 : decode cL_law 252 = .ok (.iconst 0, 1) := by decide +kernel
theorem dL_law_253 : decode cL_law 253 = .ok (.ireturn, 1) := by decide +kernel
theorem dL_law_254 : decode cL_law 254 = .ok (.aload_n 1, 1) := by decide +kernel
theorem dL_law_255 : decode cL_law 255 = .ok (.aload_n 0, 1) := by decide +kernel
theorem dL_law_256 : decode cL_law 256 = .ok (.iload_n 3, 1) := by decide +kernel
theorem dL_law_257 : decode cL_law 257 = .ok (.iconst 1, 1) := by decide +kernel
theorem dL_law_258 : decode cL_law 258 = .ok (.iadd, 1) := by decide +kernel
theorem dL_law_259 : decode cL_law 259 = .ok (.iaload, 1) := by decide +kernel
theorem dL_law_260 : decode cL_law 260 = .ok (.invokevirtual 33, 3) := by decide +kernel
theorem dL_law_263 : decode cL_law 263 = .ok (.aload_n 2, 1) := by decide +kernel
theorem dL_law_264 : decode cL_law 264 = .ok (.aload_n 0, 1) := by decide +kernel
theorem dL_law_265 : decode cL_law 265 = .ok (.iload_n 3, 1) := by decide +kernel
theorem dL_law_266 : decode cL_law 266 = .ok (.iconst 1, 1) := by decide +kernel
theorem dL_law_267 : decode cL_law 267 = .ok (.iadd, 1) := by decide +kernel
theorem dL_law_268 : decode cL_law 268 = .ok (.iaload, 1) := by decide +kernel
theorem dL_law_269 : decode cL_law 269 = .ok (.invokevirtual 37, 3) := by decide +kernel
theorem dL_law_272 : decode cL_law 272 = .ok (.if_icmp .eq 630, 3) := by decide +kernel
theorem dL_law_275 : decode cL_law 275 = .ok (.iconst 0, 1) := by decide +kernel
theorem dL_law_276 : decode cL_law 276 = .ok (.ireturn, 1) := by decide +kernel
theorem dL_law_277 : decode cL_law 277 = .ok (.aload_n 1, 1) := by decide +kernel
theorem dL_law_278 : decode cL_law 278 = .ok (.aload_n 0, 1) := by decide +kernel
theorem dL_law_279 : decode cL_law 279 = .ok (.iload_n 3, 1) := by decide +kernel
theorem dL_law_280 : decode cL_law 280 = .ok (.iconst 1, 1) := by decide +kernel
theorem dL_law_281 : decode cL_law 281 = .ok (.iadd, 1) := by decide +kernel
theorem dL_law_282 : decode cL_law 282 = .ok (.iaload, 1) := by decide +kernel
theorem dL_law_283 : decode cL_law 283 = .ok (.aload_n 0, 1) := by decide +kernel
theorem dL_law_284 : decode cL_law 284 = .ok (.iload_n 3, 1) := by decide +kernel
theorem dL_law_285 : decode cL_law 285 = .ok (.iconst 2, 1) := by decide +kernel
theorem dL_law_286 : decode cL_law 286 = .ok (.iadd, 1) := by decide +kernel
theorem dL_law_287 : decode cL_law 287 = .ok (.iaload, 1) := by decide +kernel
theorem dL_law_288 : decode cL_law 288 = .ok (.invokevirtual 38, 3) := by decide +kernel
theorem dL_law_291 : decode cL_law 291 = .ok (.aload_n 2, 1) := by decide +kernel
theorem dL_law_292 : decode cL_law 292 = .ok (.aload_n 0, 1) := by decide +kernel
theorem dL_law_293 : decode cL_law 293 = .ok (.iload_n 3, 1) := by decide +kernel
theorem dL_law_294 : decode cL_law 294 = .ok (.iconst 1, 1) := by decide +kernel
theorem dL_law_295 : decode cL_law 295 = .ok (.iadd, 1) := by decide +kernel
theorem dL_law_296 : decode cL_law 296 = .ok (.iaload, 1) := by decide +kernel
theorem dL_law_297 : decode cL_law 297 = .ok (.aload_n 0, 1) := by decide +kernel
theorem dL_law_298 : decode cL_law 298 = .ok (.iload_n 3, 1) := by decide +kernel
theorem dL_law_299 : decode cL_law 299 = .ok (.iconst 2, 1) := by decide +kernel
theorem dL_law_300 : decode cL_law 300 = .ok (.iadd, 1) := by decide +kernel
theorem dL_law_301 : decode cL_law 301 = .ok (.iaload, 1) := by decide +kernel
theorem dL_law_302 : decode cL_law 302 = .ok (.invokevirtual 42, 3) := by decide +kernel
theorem dL_law_305 : decode cL_law 305 = .ok (.if_icmp .eq 597, 3) := by decide +kernel
theorem dL_law_308 : decode cL_law 308 = .ok (.iconst 0, 1) := by decide +kernel
theorem dL_law_309 : decode cL_law 309 = .ok (.ireturn, 1) := by decide +kernel
theorem dL_law_310 : decode cL_law 310 = .ok (.aload_n 1, 1) := by decide +kernel
theorem dL_law_311 : decode cL_law 311 = .ok (.aload_n 0, 1) := by decide +kernel
theorem dL_law_312 : decode cL_law 312 = .ok (.iload_n 3, 1) := by decide +kernel
theorem dL_law_313 : decode cL_law 313 = .ok (.iconst 1, 1) := by decide +kernel
theorem dL_law_314 : decode cL_law 314 = .ok (.iadd, 1) := by decide +kernel
theorem dL_law_315 : decode cL_law 315 = .ok (.iaload, 1) := by decide +kernel
theorem dL_law_316 : decode cL_law 316 = .ok (.aload_n 0, 1) := by decide +kernel
theorem dL_law_317 : decode cL_law 317 = .ok (.iload_n 3, 1) := by decide +kernel
theorem dL_law_318 : decode cL_law 318 = .ok (.iconst 2, 1) := by decide +kernel
theorem dL_law_319 : decode cL_law 319 = .ok (.iadd, 1) := by decide +kernel
theorem dL_law_320 : decode cL_law 320 = .ok (.iaload, 1) := by decide +kernel
theorem dL_law_321 : decode cL_law 321 = .ok (.aload_n 0, 1) := by decide +kernel
theorem dL_law_322 : decode cL_law 322 = .ok (.iload_n 3, 1) := by decide +kernel
theorem dL_law_323 : decode cL_law 323 = .ok (.iconst 3, 1) := by decide +kernel
theorem dL_law_324 : decode cL_law 324 = .ok (.iadd, 1) := by decide +kernel
theorem dL_law_325 : decode cL_law 325 = .ok (.iaload, 1) := by decide +kernel
theorem dL_law_326 : decode cL_law 326 = .ok (.invokevirtual 43, 3) := by decide +kernel
theorem dL_law_329 : decode cL_law 329 = .ok (.aload_n 2, 1) := by decide +kernel
theorem dL_law_330 : decode cL_law 330 = .ok (.aload_n 0, 1) := by decide +kernel
theorem dL_law_331 : decode cL_law 331 = .ok (.iload_n 3, 1) := by decide +kernel
theorem dL_law_332 : decode cL_law 332 = .ok (.iconst 1, 1) := by decide +kernel
theorem dL_law_333 : decode cL_law 333 = .ok (.iadd, 1) := by decide +kernel
theorem dL_law_334 : decode cL_law 334 = .ok (.iaload, 1) := by decide +kernel
theorem dL_law_335 : decode cL_law 335 = .ok (.aload_n 0, 1) := by decide +kernel
theorem dL_law_336 : decode cL_law 336 = .ok (.iload_n 3, 1) := by decide +kernel
theorem dL_law_337 : decode cL_law 337 = .ok (.iconst 2, 1) := by decide +kernel
theorem dL_law_338 : decode cL_law 338 = .ok (.iadd, 1) := by decide +kernel
theorem dL_law_339 : decode cL_law 339 = .ok (.iaload, 1) := by decide +kernel
theorem dL_law_340 : decode cL_law 340 = .ok (.aload_n 0, 1) := by decide +kernel
theorem dL_law_341 : decode cL_law 341 = .ok (.iload_n 3, 1) := by decide +kernel
theorem dL_law_342 : decode cL_law 342 = .ok (.iconst 3, 1) := by decide +kernel
theorem dL_law_343 : decode cL_law 343 = .ok (.iadd, 1) := by decide +kernel
theorem dL_law_344 : decode cL_law 344 = .ok (.iaload, 1) := by decide +kernel
theorem dL_law_345 : decode cL_law 345 = .ok (.invokevirtual 47, 3) := by decide +kernel
theorem dL_law_348 : decode cL_law 348 = .ok (.if_icmp .eq 554, 3) := by decide +kernel
theorem dL_law_351 : decode cL_law 351 = .ok (.iconst 0, 1) := by decide +kernel
theorem dL_law_352 : decode cL_law 352 = .ok (.ireturn, 1) := by decide +kernel
theorem dL_law_353 : decode cL_law 353 = .ok (.aload_n 1, 1) := by decide +kernel
theorem dL_law_354 : decode cL_law 354 = .ok (.aload_n 0, 1) := by decide +kernel
theorem dL_law_355 : decode cL_law 355 = .ok (.iload_n 3, 1) := by decide +kernel
theorem dL_law_356 : decode cL_law 356 = .ok (.iconst 1, 1) := by decide +kernel
theorem dL_law_357 : decode cL_law 357 = .ok (.iadd, 1) := by decide +kernel
theorem dL_law_358 : decode cL_law 358 = .ok (.iaload, 1) := by decide +kernel
theorem dL_law_359 : decode cL_law 359 = .ok (.aload_n 0, 1) := by decide +kernel
theorem dL_law_360 : decode cL_law 360 = .ok (.iload_n 3, 1) := by decide +kernel
theorem dL_law_361 : decode cL_law 361 = .ok (.iconst 2, 1) := by decide +kernel
theorem dL_law_362 : decode cL_law 362 = .ok (.iadd, 1) := by decide +kernel
theorem dL_law_363 : decode cL_law 363 = .ok (.iaload, 1) := by decide +kernel
theorem dL_law_364 : decode cL_law 364 = .ok (.invokevirtual 48, 3) := by decide +kernel
theorem dL_law_367 : decode cL_law 367 = .ok (.aload_n 2, 1) := by decide +kernel
theorem dL_law_368 : decode cL_law 368 = .ok (.aload_n 0, 1) := by decide +kernel
theorem dL_law_369 : decode cL_law 369 = .ok (.iload_n 3, 1) := by decide +kernel
theorem dL_law_370 : decode cL_law 370 = .ok (.iconst 1, 1) := by decide +kernel
theorem dL_law_371 : decode cL_law 371 = .ok (.iadd, 1) := by decide +kernel
theorem dL_law_372 : decode cL_law 372 = .ok (.iaload, 1) := by decide +kernel
theorem dL_law_373 : decode cL_law 373 = .ok (.aload_n 0, 1) := by decide +kernel
theorem dL_law_374 : decode cL_law 374 = .ok (.iload_n 3, 1) := by decide +kernel
theorem dL_law_375 : decode cL_law 375 = .ok (.iconst 2, 1) := by decide +kernel
theorem dL_law_376 : decode cL_law 376 = .ok (.iadd, 1) := by decide +kernel
theorem dL_law_377 : decode cL_law 377 = .ok (.iaload, 1) := by decide +kernel
theorem dL_law_378 : decode cL_law 378 = .ok (.invokevirtual 51, 3) := by decide +kernel
theorem dL_law_381 : decode cL_law 381 = .ok (.if_icmp .eq 521, 3) := by decide +kernel
theorem dL_law_384 : decode cL_law 384 = .ok (.iconst 0, 1) := by decide +kernel
theorem dL_law_385 : decode cL_law 385 = .ok (.ireturn, 1) := by decide +kernel
theorem dL_law_386 : decode cL_law 386 = .ok (.aload_n 1, 1) := by decide +kernel
theorem dL_law_387 : decode cL_law 387 = .ok (.aload_n 0, 1) := by decide +kernel
theorem dL_law_388 : decode cL_law 388 = .ok (.iload_n 3, 1) := by decide +kernel
theorem dL_law_389 : decode cL_law 389 = .ok (.iconst 1, 1) := by decide +kernel
theorem dL_law_390 : decode cL_law 390 = .ok (.iadd, 1) := by decide +kernel
theorem dL_law_391 : decode cL_law 391 = .ok (.iaload, 1) := by decide +kernel
theorem dL_law_392 : decode cL_law 392 = .ok (.aload_n 0, 1) := by decide +kernel
theorem dL_law_393 : decode cL_law 393 = .ok (.iload_n 3, 1) := by decide +kernel
theorem dL_law_394 : decode cL_law 394 = .ok (.iconst 2, 1) := by decide +kernel
theorem dL_law_395 : decode cL_law 395 = .ok (.iadd, 1) := by decide +kernel
theorem dL_law_396 : decode cL_law 396 = .ok (.iaload, 1) := by decide +kernel
theorem dL_law_397 : decode cL_law 397 = .ok (.invokevirtual 52, 3) := by decide +kernel
theorem dL_law_400 : decode cL_law 400 = .ok (.aload_n 2, 1) := by decide +kernel
theorem dL_law_401 : decode cL_law 401 = .ok (.aload_n 0, 1) := by decide +kernel
theorem dL_law_402 : decode cL_law 402 = .ok (.iload_n 3, 1) := by decide +kernel
theorem dL_law_403 : decode cL_law 403 = .ok (.iconst 1, 1) := by decide +kernel
theorem dL_law_404 : decode cL_law 404 = .ok (.iadd, 1) := by decide +kernel
theorem dL_law_405 : decode cL_law 405 = .ok (.iaload, 1) := by decide +kernel
theorem dL_law_406 : decode cL_law 406 = .ok (.aload_n 0, 1) := by decide +kernel
theorem dL_law_407 : decode cL_law 407 = .ok (.iload_n 3, 1) := by decide +kernel
theorem dL_law_408 : decode cL_law 408 = .ok (.iconst 2, 1) := by decide +kernel
theorem dL_law_409 : decode cL_law 409 = .ok (.iadd, 1) := by decide +kernel
theorem dL_law_410 : decode cL_law 410 = .ok (.iaload, 1) := by decide +kernel
theorem dL_law_411 : decode cL_law 411 = .ok (.invokevirtual 55, 3) := by decide +kernel
theorem dL_law_414 : decode cL_law 414 = .ok (.if_icmp .eq 488, 3) := by decide +kernel
theorem dL_law_417 : decode cL_law 417 = .ok (.iconst 0, 1) := by decide +kernel
theorem dL_law_418 : decode cL_law 418 = .ok (.ireturn, 1) := by decide +kernel
theorem dL_law_419 : decode cL_law 419 = .ok (.aload_n 1, 1) := by decide +kernel
theorem dL_law_420 : decode cL_law 420 = .ok (.aload_n 0, 1) := by decide +kernel
theorem dL_law_421 : decode cL_law 421 = .ok (.iload_n 3, 1) := by decide +kernel
theorem dL_law_422 : decode cL_law 422 = .ok (.iconst 1, 1) := by decide +kernel
theorem dL_law_423 : decode cL_law 423 = .ok (.iadd, 1) := by decide +kernel
theorem dL_law_424 : decode cL_law 424 = .ok (.iaload, 1) := by decide +kernel
theorem dL_law_425 : decode cL_law 425 = .ok (.aload_n 0, 1) := by decide +kernel
theorem dL_law_426 : decode cL_law 426 = .ok (.iload_n 3, 1) := by decide +kernel
theorem dL_law_427 : decode cL_law 427 = .ok (.iconst 2, 1) := by decide +kernel
theorem dL_law_428 : decode cL_law 428 = .ok (.iadd, 1) := by decide +kernel
theorem dL_law_429 : decode cL_law 429 = .ok (.iaload, 1) := by decide +kernel
theorem dL_law_430 : decode cL_law 430 = .ok (.invokevirtual 56, 3) := by decide +kernel
theorem dL_law_433 : decode cL_law 433 = .ok (.aload_n 2, 1) := by decide +kernel
theorem dL_law_434 : decode cL_law 434 = .ok (.aload_n 0, 1) := by decide +kernel
theorem dL_law_435 : decode cL_law 435 = .ok (.iload_n 3, 1) := by decide +kernel
theorem dL_law_436 : decode cL_law 436 = .ok (.iconst 1, 1) := by decide +kernel
theorem dL_law_437 : decode cL_law 437 = .ok (.iadd, 1) := by decide +kernel
theorem dL_law_438 : decode cL_law 438 = .ok (.iaload, 1) := by decide +kernel
theorem dL_law_439 : decode cL_law 439 = .ok (.aload_n 0, 1) := by decide +kernel
theorem dL_law_440 : decode cL_law 440 = .ok (.iload_n 3, 1) := by decide +kernel
theorem dL_law_441 : decode cL_law 441 = .ok (.iconst 2, 1) := by decide +kernel
theorem dL_law_442 : decode cL_law 442 = .ok (.iadd, 1) := by decide +kernel
theorem dL_law_443 : decode cL_law 443 = .ok (.iaload, 1) := by decide +kernel
theorem dL_law_444 : decode cL_law 444 = .ok (.invokevirtual 59, 3) := by decide +kernel
theorem dL_law_447 : decode cL_law 447 = .ok (.if_icmp .eq 455, 3) := by decide +kernel
theorem dL_law_450 : decode cL_law 450 = .ok (.iconst 0, 1) := by decide +kernel
theorem dL_law_451 : decode cL_law 451 = .ok (.ireturn, 1) := by decide +kernel
theorem dL_law_452 : decode cL_law 452 = .ok (.aload_n 1, 1) := by decide +kernel
theorem dL_law_453 : decode cL_law 453 = .ok (.aload_n 0, 1) := by decide +kernel
theorem dL_law_454 : decode cL_law 454 = .ok (.iload_n 3, 1) := by decide +kernel
theorem dL_law_455 : decode cL_law 455 = .ok (.iconst 1, 1) := by decide +kernel
theorem dL_law_456 : decode cL_law 456 = .ok (.iadd, 1) := by decide +kernel
theorem dL_law_457 : decode cL_law 457 = .ok (.iaload, 1) := by decide +kernel
theorem dL_law_458 : decode cL_law 458 = .ok (.aload_n 0, 1) := by decide +kernel
theorem dL_law_459 : decode cL_law 459 = .ok (.iload_n 3, 1) := by decide +kernel
theorem dL_law_460 : decode cL_law 460 = .ok (.iconst 2, 1) := by decide +kernel
theorem dL_law_461 : decode cL_law 461 = .ok (.iadd, 1) := by decide +kernel
theorem dL_law_462 : decode cL_law 462 = .ok (.iaload, 1) := by decide +kernel
theorem dL_law_463 : decode cL_law 463 = .ok (.invokevirtual 60, 3) := by decide +kernel
theorem dL_law_466 : decode cL_law 466 = .ok (.aload_n 2, 1) := by decide +kernel
theorem dL_law_467 : decode cL_law 467 = .ok (.aload_n 0, 1) := by decide +kernel
theorem dL_law_468 : decode cL_law 468 = .ok (.iload_n 3, 1) := by decide +kernel
theorem dL_law_469 : decode cL_law 469 = .ok (.iconst 1, 1) := by decide +kernel
theorem dL_law_470 : decode cL_law 470 = .ok (.iadd, 1) := by decide +kernel
theorem dL_law_471 : decode cL_law 471 = .ok (.iaload, 1) := by decide +kernel
theorem dL_law_472 : decode cL_law 472 = .ok (.aload_n 0, 1) := by decide +kernel
theorem dL_law_473 : decode cL_law 473 = .ok (.iload_n 3, 1) := by decide +kernel
theorem dL_law_474 : decode cL_law 474 = .ok (.iconst 2, 1) := by decide +kernel
theorem dL_law_475 : decode cL_law 475 = .ok (.iadd, 1) := by decide +kernel
theorem dL_law_476 : decode cL_law 476 = .ok (.iaload, 1) := by decide +kernel
theorem dL_law_477 : decode cL_law 477 = .ok (.invokevirtual 64, 3) := by decide +kernel
theorem dL_law_480 : decode cL_law 480 = .ok (.lcmp, 1) := by decide +kernel
theorem dL_law_481 : decode cL_law 481 = .ok (.ifCond .eq 421, 3) := by decide +kernel
theorem dL_law_484 : decode cL_law 484 = .ok (.iconst 0, 1) := by decide +kernel
theorem dL_law_485 : decode cL_law 485 = .ok (.ireturn, 1) := by decide +kernel
theorem dL_law_486 : decode cL_law 486 = .ok (.aload_n 1, 1) := by decide +kernel
theorem dL_law_487 : decode cL_law 487 = .ok (.aload_n 0, 1) := by decide +kernel
theorem dL_law_488 : decode cL_law 488 = .ok (.iload_n 3, 1) := by decide +kernel
theorem dL_law_489 : decode cL_law 489 = .ok (.iconst 1, 1) := by decide +kernel
theorem dL_law_490 : decode cL_law 490 = .ok (.iadd, 1) := by decide +kernel
theorem dL_law_491 : decode cL_law 491 = .ok (.iaload, 1) := by decide +kernel
theorem dL_law_492 : decode cL_law 492 = .ok (.aload_n 0, 1) := by decide +kernel
theorem dL_law_493 : decode cL_law 493 = .ok (.iload_n 3, 1) := by decide +kernel
theorem dL_law_494 : decode cL_law 494 = .ok (.iconst 2, 1) := by decide +kernel
theorem dL_law_495 : decode cL_law 495 = .ok (.iadd, 1) := by decide +kernel
theorem dL_law_496 : decode cL_law 496 = .ok (.iaload, 1) := by decide +kernel
theorem dL_law_497 : decode cL_law 497 = .ok (.aload_n 0, 1) := by decide +kernel
theorem dL_law_498 : decode cL_law 498 = .ok (.iload_n 3, 1) := by decide +kernel
theorem dL_law_499 : decode cL_law 499 = .ok (.iconst 3, 1) := by decide +kernel
theorem dL_law_500 : decode cL_law 500 = .ok (.iadd, 1) := by decide +kernel
theorem dL_law_501 : decode cL_law 501 = .ok (.iaload, 1) := by decide +kernel
theorem dL_law_502 : decode cL_law 502 = .ok (.invokevirtual 65, 3) := by decide +kernel
theorem dL_law_505 : decode cL_law 505 = .ok (.aload_n 2, 1) := by decide +kernel
theorem dL_law_506 : decode cL_law 506 = .ok (.aload_n 0, 1) := by decide +kernel
theorem dL_law_507 : decode cL_law 507 = .ok (.iload_n 3, 1) := by decide +kernel
theorem dL_law_508 : decode cL_law 508 = .ok (.iconst 1, 1) := by decide +kernel
theorem dL_law_509 : decode cL_law 509 = .ok (.iadd, 1) := by decide +kernel
theorem dL_law_510 : decode cL_law 510 = .ok (.iaload, 1) := by decide +kernel
theorem dL_law_511 : decode cL_law 511 = .ok (.aload_n 0, 1) := by decide +kernel
theorem dL_law_512 : decode cL_law 512 = .ok (.iload_n 3, 1) := by decide +kernel
theorem dL_law_513 : decode cL_law 513 = .ok (.iconst 2, 1) := by decide +kernel
theorem dL_law_514 : decode cL_law 514 = .ok (.iadd, 1) := by decide +kernel
theorem dL_law_515 : decode cL_law 515 = .ok (.iaload, 1) := by decide +kernel
theorem dL_law_516 : decode cL_law 516 = .ok (.aload_n 0, 1) := by decide +kernel
theorem dL_law_517 : decode cL_law 517 = .ok (.iload_n 3, 1) := by decide +kernel
theorem dL_law_518 : decode cL_law 518 = .ok (.iconst 3, 1) := by decide +kernel
theorem dL_law_519 : decode cL_law 519 = .ok (.iadd, 1) := by decide +kernel
theorem dL_law_520 : decode cL_law 520 = .ok (.iaload, 1) := by decide +kernel
theorem dL_law_521 : decode cL_law 521 = .ok (.invokevirtual 68, 3) := by decide +kernel
theorem dL_law_524 : decode cL_law 524 = .ok (.if_icmp .eq 378, 3) := by decide +kernel
theorem dL_law_527 : decode cL_law 527 = .ok (.iconst 0, 1) := by decide +kernel
theorem dL_law_528 : decode cL_law 528 = .ok (.ireturn, 1) := by decide +kernel
theorem dL_law_529 : decode cL_law 529 = .ok (.aload_n 1, 1) := by decide +kernel
theorem dL_law_530 : decode cL_law 530 = .ok (.aload_n 0, 1) := by decide +kernel
theorem dL_law_531 : decode cL_law 531 = .ok (.iload_n 3, 1) := by decide +kernel
theorem dL_law_532 : decode cL_law 532 = .ok (.iconst 1, 1) := by decide +kernel
theorem dL_law_533 : decode cL_law 533 = .ok (.iadd, 1) := by decide +kernel
theorem dL_law_534 : decode cL_law 534 = .ok (.iaload, 1) := by decide +kernel
theorem dL_law_535 : decode cL_law 535 = .ok (.invokevirtual 69, 3) := by decide +kernel
theorem dL_law_538 : decode cL_law 538 = .ok (.aload_n 2, 1) := by decide +kernel
theorem dL_law_539 : decode cL_law 539 = .ok (.aload_n 0, 1) := by decide +kernel
theorem dL_law_540 : decode cL_law 540 = .ok (.iload_n 3, 1) := by decide +kernel
theorem dL_law_541 : decode cL_law 541 = .ok (.iconst 1, 1) := by decide +kernel
theorem dL_law_542 : decode cL_law 542 = .ok (.iadd, 1) := by decide +kernel
theorem dL_law_543 : decode cL_law 543 = .ok (.iaload, 1) := by decide +kernel
theorem dL_law_544 : decode cL_law 544 = .ok (.invokevirtual 72, 3) := by decide +kernel
theorem dL_law_547 : decode cL_law 547 = .ok (.if_icmp .eq 355, 3) := by decide +kernel
theorem dL_law_550 : decode cL_law 550 = .ok (.iconst 0, 1) := by decide +kernel
theorem dL_law_551 : decode cL_law 551 = .ok (.ireturn, 1) := by decide +kernel
theorem dL_law_552 : decode cL_law 552 = .ok (.aload_n 1, 1) := by decide +kernel
theorem dL_law_553 : decode cL_law 553 = .ok (.aload_n 0, 1) := by decide +kernel
theorem dL_law_554 : decode cL_law 554 = .ok (.iload_n 3, 1) := by decide +kernel
theorem dL_law_555 : decode cL_law 555 = .ok (.iconst 1, 1) := by decide +kernel
theorem dL_law_556 : decode cL_law 556 = .ok (.iadd, 1) := by decide +kernel
theorem dL_law_557 : decode cL_law 557 = .ok (.iaload, 1) := by decide +kernel
theorem dL_law_558 : decode cL_law 558 = .ok (.invokevirtual 73, 3) := by decide +kernel
theorem dL_law_561 : decode cL_law 561 = .ok (.aload_n 2, 1) := by decide +kernel
theorem dL_law_562 : decode cL_law 562 = .ok (.aload_n 0, 1) := by decide +kernel
theorem dL_law_563 : decode cL_law 563 = .ok (.iload_n 3, 1) := by decide +kernel
theorem dL_law_564 : decode cL_law 564 = .ok (.iconst 1, 1) := by decide +kernel
theorem dL_law_565 : decode cL_law 565 = .ok (.iadd, 1) := by decide +kernel
theorem dL_law_566 : decode cL_law 566 = .ok (.iaload, 1) := by decide +kernel
theorem dL_law_567 : decode cL_law 567 = .ok (.invokevirtual 76, 3) := by decide +kernel
theorem dL_law_570 : decode cL_law 570 = .ok (.if_icmp .eq 332, 3) := by decide +kernel
theorem dL_law_573 : decode cL_law 573 = .ok (.iconst 0, 1) := by decide +kernel
theorem dL_law_574 : decode cL_law 574 = .ok (.ireturn, 1) := by decide +kernel
theorem dL_law_575 : decode cL_law 575 = .ok (.aload_n 1, 1) := by decide +kernel
theorem dL_law_576 : decode cL_law 576 = .ok (.aload_n 0, 1) := by decide +kernel
theorem dL_law_577 : decode cL_law 577 = .ok (.iload_n 3, 1) := by decide +kernel
theorem dL_law_578 : decode cL_law 578 = .ok (.iconst 1, 1) := by decide +kernel
theorem dL_law_579 : decode cL_law 579 = .ok (.iadd, 1) := by decide +kernel
theorem dL_law_580 : decode cL_law 580 = .ok (.iaload, 1) := by decide +kernel
theorem dL_law_581 : decode cL_law 581 = .ok (.aload_n 0, 1) := by decide +kernel
theorem dL_law_582 : decode cL_law 582 = .ok (.iload_n 3, 1) := by decide +kernel
theorem dL_law_583 : decode cL_law 583 = .ok (.iconst 2, 1) := by decide +kernel
theorem dL_law_584 : decode cL_law 584 = .ok (.iadd, 1) := by decide +kernel
theorem dL_law_585 : decode cL_law 585 = .ok (.iaload, 1) := by decide +kernel
theorem dL_law_586 : decode cL_law 586 = .ok (.invokevirtual 77, 3) := by decide +kernel
theorem dL_law_589 : decode cL_law 589 = .ok (.aload_n 2, 1) := by decide +kernel
theorem dL_law_590 : decode cL_law 590 = .ok (.aload_n 0, 1) := by decide +kernel
theorem dL_law_591 : decode cL_law 591 = .ok (.iload_n 3, 1) := by decide +kernel
theorem dL_law_592 : decode cL_law 592 = .ok (.iconst 1, 1) := by decide +kernel
theorem dL_law_593 : decode cL_law 593 = .ok (.iadd, 1) := by decide +kernel
theorem dL_law_594 : decode cL_law 594 = .ok (.iaload, 1) := by decide +kernel
theorem dL_law_595 : decode cL_law 595 = .ok (.aload_n 0, 1) := by decide +kernel
theorem dL_law_596 : decode cL_law 596 = .ok (.iload_n 3, 1) := by decide +kernel
theorem dL_law_597 : decode cL_law 597 = .ok (.iconst 2, 1) := by decide +kernel
theorem dL_law_598 : decode cL_law 598 = .ok (.iadd, 1) := by decide +kernel
theorem dL_law_599 : decode cL_law 599 = .ok (.iaload, 1) := by decide +kernel
theorem dL_law_600 : decode cL_law 600 = .ok (.invokevirtual 80, 3) := by decide +kernel
theorem dL_law_603 : decode cL_law 603 = .ok (.if_icmp .eq 299, 3) := by decide +kernel
theorem dL_law_606 : decode cL_law 606 = .ok (.iconst 0, 1) := by decide +kernel
theorem dL_law_607 : decode cL_law 607 = .ok (.ireturn, 1) := by decide +kernel
theorem dL_law_608 : decode cL_law 608 = .ok (.aload_n 1, 1) := by decide +kernel
theorem dL_law_609 : decode cL_law 609 = .ok (.aload_n 0, 1) := by decide +kernel
theorem dL_law_610 : decode cL_law 610 = .ok (.iload_n 3, 1) := by decide +kernel
theorem dL_law_611 : decode cL_law 611 = .ok (.iconst 1, 1) := by decide +kernel
theorem dL_law_612 : decode cL_law 612 = .ok (.iadd, 1) := by decide +kernel
theorem dL_law_613 : decode cL_law 613 = .ok (.iaload, 1) := by decide +kernel
theorem dL_law_614 : decode cL_law 614 = .ok (.aload_n 0, 1) := by decide +kernel
theorem dL_law_615 : decode cL_law 615 = .ok (.iload_n 3, 1) := by decide +kernel
theorem dL_law_616 : decode cL_law 616 = .ok (.iconst 2, 1) := by decide +kernel
theorem dL_law_617 : decode cL_law 617 = .ok (.iadd, 1) := by decide +kernel
theorem dL_law_618 : decode cL_law 618 = .ok (.iaload, 1) := by decide +kernel
theorem dL_law_619 : decode cL_law 619 = .ok (.invokevirtual 81, 3) := by decide +kernel
theorem dL_law_622 : decode cL_law 622 = .ok (.aload_n 2, 1) := by decide +kernel
theorem dL_law_623 : decode cL_law 623 = .ok (.aload_n 0, 1) := by decide +kernel
theorem dL_law_624 : decode cL_law 624 = .ok (.iload_n 3, 1) := by decide +kernel
theorem dL_law_625 : decode cL_law 625 = .ok (.iconst 1, 1) := by decide +kernel
theorem dL_law_626 : decode cL_law 626 = .ok (.iadd, 1) := by decide +kernel
theorem dL_law_627 : decode cL_law 627 = .ok (.iaload, 1) := by decide +kernel
theorem dL_law_628 : decode cL_law 628 = .ok (.aload_n 0, 1) := by decide +kernel
theorem dL_law_629 : decode cL_law 629 = .ok (.iload_n 3, 1) := by decide +kernel
theorem dL_law_630 : decode cL_law 630 = .ok (.iconst 2, 1) := by decide +kernel
theorem dL_law_631 : decode cL_law 631 = .ok (.iadd, 1) := by decide +kernel
theorem dL_law_632 : decode cL_law 632 = .ok (.iaload, 1) := by decide +kernel
theorem dL_law_633 : decode cL_law 633 = .ok (.invokevirtual 84, 3) := by decide +kernel
theorem dL_law_636 : decode cL_law 636 = .ok (.if_icmp .eq 266, 3) := by decide +kernel
theorem dL_law_639 : decode cL_law 639 = .ok (.iconst 0, 1) := by decide +kernel
theorem dL_law_640 : decode cL_law 640 = .ok (.ireturn, 1) := by decide +kernel
theorem dL_law_641 : decode cL_law 641 = .ok (.aload_n 1, 1) := by decide +kernel
theorem dL_law_642 : decode cL_law 642 = .ok (.aload_n 0, 1) := by decide +kernel
theorem dL_law_643 : decode cL_law 643 = .ok (.iload_n 3, 1) := by decide +kernel
theorem dL_law_644 : decode cL_law 644 = .ok (.iconst 1, 1) := by decide +kernel
theorem dL_law_645 : decode cL_law 645 = .ok (.iadd, 1) := by decide +kernel
theorem dL_law_646 : decode cL_law 646 = .ok (.iaload, 1) := by decide +kernel
theorem dL_law_647 : decode cL_law 647 = .ok (.aload_n 0, 1) := by decide +kernel
theorem dL_law_648 : decode cL_law 648 = .ok (.iload_n 3, 1) := by decide +kernel
theorem dL_law_649 : decode cL_law 649 = .ok (.iconst 2, 1) := by decide +kernel
theorem dL_law_650 : decode cL_law 650 = .ok (.iadd, 1) := by decide +kernel
theorem dL_law_651 : decode cL_law 651 = .ok (.iaload, 1) := by decide +kernel
theorem dL_law_652 : decode cL_law 652 = .ok (.invokevirtual 85, 3) := by decide +kernel
theorem dL_law_655 : decode cL_law 655 = .ok (.aload_n 2, 1) := by decide +kernel
theorem dL_law_656 : decode cL_law 656 = .ok (.aload_n 0, 1) := by decide +kernel
theorem dL_law_657 : decode cL_law 657 = .ok (.iload_n 3, 1) := by decide +kernel
theorem dL_law_658 : decode cL_law 658 = .ok (.iconst 1, 1) := by decide +kernel
theorem dL_law_659 : decode cL_law 659 = .ok (.iadd, 1) := by decide +kernel
theorem dL_law_660 : decode cL_law 660 = .ok (.iaload, 1) := by decide +kernel
theorem dL_law_661 : decode cL_law 661 = .ok (.aload_n 0, 1) := by decide +kernel
theorem dL_law_662 : decode cL_law 662 = .ok (.iload_n 3, 1) := by decide +kernel
theorem dL_law_663 : decode cL_law 663 = .ok (.iconst 2, 1) := by decide +kernel
theorem dL_law_664 : decode cL_law 664 = .ok (.iadd, 1) := by decide +kernel
theorem dL_law_665 : decode cL_law 665 = .ok (.iaload, 1) := by decide +kernel
theorem dL_law_666 : decode cL_law 666 = .ok (.invokevirtual 88, 3) := by decide +kernel
theorem dL_law_669 : decode cL_law 669 = .ok (.if_icmp .eq 233, 3) := by decide +kernel
theorem dL_law_672 : decode cL_law 672 = .ok (.iconst 0, 1) := by decide +kernel
theorem dL_law_673 : decode cL_law 673 = .ok (.ireturn, 1) := by decide +kernel
theorem dL_law_674 : decode cL_law 674 = .ok (.aload_n 1, 1) := by decide +kernel
theorem dL_law_675 : decode cL_law 675 = .ok (.aload_n 0, 1) := by decide +kernel
theorem dL_law_676 : decode cL_law 676 = .ok (.iload_n 3, 1) := by decide +kernel
theorem dL_law_677 : decode cL_law 677 = .ok (.iconst 1, 1) := by decide +kernel
theorem dL_law_678 : decode cL_law 678 = .ok (.iadd, 1) := by decide +kernel
theorem dL_law_679 : decode cL_law 679 = .ok (.iaload, 1) := by decide +kernel
theorem dL_law_680 : decode cL_law 680 = .ok (.aload_n 0, 1) := by decide +kernel
theorem dL_law_681 : decode cL_law 681 = .ok (.iload_n 3, 1) := by decide +kernel
theorem dL_law_682 : decode cL_law 682 = .ok (.iconst 2, 1) := by decide +kernel
theorem dL_law_683 : decode cL_law 683 = .ok (.iadd, 1) := by decide +kernel
theorem dL_law_684 : decode cL_law 684 = .ok (.iaload, 1) := by decide +kernel
theorem dL_law_685 : decode cL_law 685 = .ok (.invokevirtual 89, 3) := by decide +kernel
theorem dL_law_688 : decode cL_law 688 = .ok (.aload_n 2, 1) := by decide +kernel
theorem dL_law_689 : decode cL_law 689 = .ok (.aload_n 0, 1) := by decide +kernel
theorem dL_law_690 : decode cL_law 690 = .ok (.iload_n 3, 1) := by decide +kernel
theorem dL_law_691 : decode cL_law 691 = .ok (.iconst 1, 1) := by decide +kernel
theorem dL_law_692 : decode cL_law 692 = .ok (.iadd, 1) := by decide +kernel
theorem dL_law_693 : decode cL_law 693 = .ok (.iaload, 1) := by decide +kernel
theorem dL_law_694 : decode cL_law 694 = .ok (.aload_n 0, 1) := by decide +kernel
theorem dL_law_695 : decode cL_law 695 = .ok (.iload_n 3, 1) := by decide +kernel
theorem dL_law_696 : decode cL_law 696 = .ok (.iconst 2, 1) := by decide +kernel
theorem dL_law_697 : decode cL_law 697 = .ok (.iadd, 1) := by decide +kernel
theorem dL_law_698 : decode cL_law 698 = .ok (.iaload, 1) := by decide +kernel
theorem dL_law_699 : decode cL_law 699 = .ok (.invokevirtual 92, 3) := by decide +kernel
theorem dL_law_702 : decode cL_law 702 = .ok (.if_icmp .eq 200, 3) := by decide +kernel
theorem dL_law_705 : decode cL_law 705 = .ok (.iconst 0, 1) := by decide +kernel
theorem dL_law_706 : decode cL_law 706 = .ok (.ireturn, 1) := by decide +kernel
theorem dL_law_707 : decode cL_law 707 = .ok (.aload_n 1, 1) := by decide +kernel
theorem dL_law_708 : decode cL_law 708 = .ok (.aload_n 0, 1) := by decide +kernel
theorem dL_law_709 : decode cL_law 709 = .ok (.iload_n 3, 1) := by decide +kernel
theorem dL_law_710 : decode cL_law 710 = .ok (.iconst 1, 1) := by decide +kernel
theorem dL_law_711 : decode cL_law 711 = .ok (.iadd, 1) := by decide +kernel
theorem dL_law_712 : decode cL_law 712 = .ok (.iaload, 1) := by decide +kernel
theorem dL_law_713 : decode cL_law 713 = .ok (.invokevirtual 93, 3) := by decide +kernel
theorem dL_law_716 : decode cL_law 716 = .ok (.aload_n 2, 1) := by decide +kernel
theorem dL_law_717 : decode cL_law 717 = .ok (.aload_n 0, 1) := by decide +kernel
theorem dL_law_718 : decode cL_law 718 = .ok (.iload_n 3, 1) := by decide +kernel
theorem dL_law_719 : decode cL_law 719 = .ok (.iconst 1, 1) := by decide +kernel
theorem dL_law_720 : decode cL_law 720 = .ok (.iadd, 1) := by decide +kernel
theorem dL_law_721 : decode cL_law 721 = .ok (.iaload, 1) := by decide +kernel
theorem dL_law_722 : decode cL_law 722 = .ok (.invokevirtual 96, 3) := by decide +kernel
theorem dL_law_725 : decode cL_law 725 = .ok (.if_icmp .eq 177, 3) := by decide +kernel
theorem dL_law_728 : decode cL_law 728 = .ok (.iconst 0, 1) := by decide +kernel
theorem dL_law_729 : decode cL_law 729 = .ok (.ireturn, 1) := by decide +kernel
theorem dL_law_730 : decode cL_law 730 = .ok (.aload_n 1, 1) := by decide +kernel
theorem dL_law_731 : decode cL_law 731 = .ok (.aload_n 0, 1) := by decide +kernel
theorem dL_law_732 : decode cL_law 732 = .ok (.iload_n 3, 1) := by decide +kernel
theorem dL_law_733 : decode cL_law 733 = .ok (.iconst 1, 1) := by decide +kernel
theorem dL_law_734 : decode cL_law 734 = .ok (.iadd, 1) := by decide +kernel
theorem dL_law_735 : decode cL_law 735 = .ok (.iaload, 1) := by decide +kernel
theorem dL_law_736 : decode cL_law 736 = .ok (.aload_n 0, 1) := by decide +kernel
theorem dL_law_737 : decode cL_law 737 = .ok (.iload_n 3, 1) := by decide +kernel
theorem dL_law_738 : decode cL_law 738 = .ok (.iconst 2, 1) := by decide +kernel
theorem dL_law_739 : decode cL_law 739 = .ok (.iadd, 1) := by decide +kernel
theorem dL_law_740 : decode cL_law 740 = .ok (.iaload, 1) := by decide +kernel
theorem dL_law_741 : decode cL_law 741 = .ok (.invokevirtual 97, 3) := by decide +kernel
theorem dL_law_744 : decode cL_law 744 = .ok (.aload_n 2, 1) := by decide +kernel
theorem dL_law_745 : decode cL_law 745 = .ok (.aload_n 0, 1) := by decide +kernel
theorem dL_law_746 : decode cL_law 746 = .ok (.iload_n 3, 1) := by decide +kernel
theorem dL_law_747 : decode cL_law 747 = .ok (.iconst 1, 1) := by decide +kernel
theorem dL_law_748 : decode cL_law 748 = .ok (.iadd, 1) := by decide +kernel
theorem dL_law_749 : decode cL_law 749 = .ok (.iaload, 1) := by decide +kernel
theorem dL_law_750 : decode cL_law 750 = .ok (.aload_n 0, 1) := by decide +kernel
theorem dL_law_751 : decode cL_law 751 = .ok (.iload_n 3, 1) := by decide +kernel
theorem dL_law_752 : decode cL_law 752 = .ok (.iconst 2, 1) := by decide +kernel
theorem dL_law_753 : decode cL_law 753 = .ok (.iadd, 1) := by decide +kernel
theorem dL_law_754 : decode cL_law 754 = .ok (.iaload, 1) := by decide +kernel
theorem dL_law_755 : decode cL_law 755 = .ok (.invokevirtual 100, 3) := by decide +kernel
theorem dL_law_758 : decode cL_law 758 = .ok (.if_icmp .eq 144, 3) := by decide +kernel
theorem dL_law_761 : decode cL_law 761 = .ok (.iconst 0, 1) := by decide +kernel
theorem dL_law_762 : decode cL_law 762 = .ok (.ireturn, 1) := by decide +kernel
theorem dL_law_763 : decode cL_law 763 = .ok (.aload_n 1, 1) := by decide +kernel
theorem dL_law_764 : decode cL_law 764 = .ok (.invokevirtual 101, 3) := by decide +kernel
theorem dL_law_767 : decode cL_law 767 = .ok (.aload_n 2, 1) := by decide +kernel
theorem dL_law_768 : decode cL_law 768 = .ok (.invokevirtual 104, 3) := by decide +kernel
theorem dL_law_771 : decode cL_law 771 = .ok (.if_icmp .eq 131, 3) := by decide +kernel
theorem dL_law_774 : decode cL_law 774 = .ok (.iconst 0, 1) := by decide +kernel
theorem dL_law_775 : decode cL_law 775 = .ok (.ireturn, 1) := by decide +kernel
theorem dL_law_776 : decode cL_law 776 = .ok (.aload_n 1, 1) := by decide +kernel
theorem dL_law_777 : decode cL_law 777 = .ok (.aload_n 0, 1) := by decide +kernel
theorem dL_law_778 : decode cL_law 778 = .ok (.iload_n 3, 1) := by decide +kernel
theorem dL_law_779 : decode cL_law 779 = .ok (.iconst 1, 1) := by decide +kernel
theorem dL_law_780 : decode cL_law 780 = .ok (.iadd, 1) := by decide +kernel
theorem dL_law_781 : decode cL_law 781 = .ok (.iaload, 1) := by decide +kernel
theorem dL_law_782 : decode cL_law 782 = .ok (.aload_n 0, 1) := by decide +kernel
theorem dL_law_783 : decode cL_law 783 = .ok (.iload_n 3, 1) := by decide +kernel
theorem dL_law_784 : decode cL_law 784 = .ok (.iconst 2, 1) := by decide +kernel
theorem dL_law_785 : decode cL_law 785 = .ok (.iadd, 1) := by decide +kernel
theorem dL_law_786 : decode cL_law 786 = .ok (.iaload, 1) := by decide +kernel
theorem dL_law_787 : decode cL_law 787 = .ok (.aload_n 0, 1) := by decide +kernel
theorem dL_law_788 : decode cL_law 788 = .ok (.iload_n 3, 1) := by decide +kernel
theorem dL_law_789 : decode cL_law 789 = .ok (.iconst 3, 1) := by decide +kernel
theorem dL_law_790 : decode cL_law 790 = .ok (.iadd, 1) := by decide +kernel
theorem dL_law_791 : decode cL_law 791 = .ok (.iaload, 1) := by decide +kernel
theorem dL_law_792 : decode cL_law 792 = .ok (.invokevirtual 105, 3) := by decide +kernel
theorem dL_law_795 : decode cL_law 795 = .ok (.aload_n 2, 1) := by decide +kernel
theorem dL_law_796 : decode cL_law 796 = .ok (.aload_n 0, 1) := by decide +kernel
theorem dL_law_797 : decode cL_law 797 = .ok (.iload_n 3, 1) := by decide +kernel
theorem dL_law_798 : decode cL_law 798 = .ok (.iconst 1, 1) := by decide +kernel
theorem dL_law_799 : decode cL_law 799 = .ok (.iadd, 1) := by decide +kernel
theorem dL_law_800 : decode cL_law 800 = .ok (.iaload, 1) := by decide +kernel
theorem dL_law_801 : decode cL_law 801 = .ok (.aload_n 0, 1) := by decide +kernel
theorem dL_law_802 : decode cL_law 802 = .ok (.iload_n 3, 1) := by decide +kernel
theorem dL_law_803 : decode cL_law 803 = .ok (.iconst 2, 1) := by decide +kernel
theorem dL_law_804 : decode cL_law 804 = .ok (.iadd, 1) := by decide +kernel
theorem dL_law_805 : decode cL_law 805 = .ok (.iaload, 1) := by decide +kernel
theorem dL_law_806 : decode cL_law 806 = .ok (.aload_n 0, 1) := by decide +kernel
theorem dL_law_807 : decode cL_law 807 = .ok (.iload_n 3, 1) := by decide +kernel
theorem dL_law_808 : decode cL_law 808 = .ok (.iconst 3, 1) := by decide +kernel
theorem dL_law_809 : decode cL_law 809 = .ok (.iadd, 1) := by decide +kernel
theorem dL_law_810 : decode cL_law 810 = .ok (.iaload, 1) := by decide +kernel
theorem dL_law_811 : decode cL_law 811 = .ok (.invokevirtual 108, 3) := by decide +kernel
theorem dL_law_814 : decode cL_law 814 = .ok (.if_icmp .eq 88, 3) := by decide +kernel
theorem dL_law_817 : decode cL_law 817 = .ok (.iconst 0, 1) := by decide +kernel
theorem dL_law_818 : decode cL_law 818 = .ok (.ireturn, 1) := by decide +kernel
theorem dL_law_819 : decode cL_law 819 = .ok (.aload_n 1, 1) := by decide +kernel
theorem dL_law_820 : decode cL_law 820 = .ok (.aload_n 0, 1) := by decide +kernel
theorem dL_law_821 : decode cL_law 821 = .ok (.iload_n 3, 1) := by decide +kernel
theorem dL_law_822 : decode cL_law 822 = .ok (.iconst 1, 1) := by decide +kernel
theorem dL_law_823 : decode cL_law 823 = .ok (.iadd, 1) := by decide +kernel
theorem dL_law_824 : decode cL_law 824 = .ok (.iaload, 1) := by decide +kernel
theorem dL_law_825 : decode cL_law 825 = .ok (.invokevirtual 109, 3) := by decide +kernel
theorem dL_law_828 : decode cL_law 828 = .ok (.aload_n 2, 1) := by decide +kernel
theorem dL_law_829 : decode cL_law 829 = .ok (.aload_n 0, 1) := by decide +kernel
theorem dL_law_830 : decode cL_law 830 = .ok (.iload_n 3, 1) := by decide +kernel
theorem dL_law_831 : decode cL_law 831 = .ok (.iconst 1, 1) := by decide +kernel
theorem dL_law_832 : decode cL_law 832 = .ok (.iadd, 1) := by decide +kernel
theorem dL_law_833 : decode cL_law 833 = .ok (.iaload, 1) := by decide +kernel
theorem dL_law_834 : decode cL_law 834 = .ok (.invokevirtual 112, 3) := by decide +kernel
theorem dL_law_837 : decode cL_law 837 = .ok (.if_icmp .eq 65, 3) := by decide +kernel
theorem dL_law_840 : decode cL_law 840 = .ok (.iconst 0, 1) := by decide +kernel
theorem dL_law_841 : decode cL_law 841 = .ok (.ireturn, 1) := by decide +kernel
theorem dL_law_842 : decode cL_law 842 = .ok (.aload_n 1, 1) := by decide +kernel
theorem dL_law_843 : decode cL_law 843 = .ok (.aload_n 0, 1) := by decide +kernel
theorem dL_law_844 : decode cL_law 844 = .ok (.iload_n 3, 1) := by decide +kernel
theorem dL_law_845 : decode cL_law 845 = .ok (.iconst 1, 1) := by decide +kernel
theorem dL_law_846 : decode cL_law 846 = .ok (.iadd, 1) := by decide +kernel
theorem dL_law_847 : decode cL_law 847 = .ok (.iaload, 1) := by decide +kernel
theorem dL_law_848 : decode cL_law 848 = .ok (.invokevirtual 113, 3) := by decide +kernel
theorem dL_law_851 : decode cL_law 851 = .ok (.aload_n 2, 1) := by decide +kernel
theorem dL_law_852 : decode cL_law 852 = .ok (.aload_n 0, 1) := by decide +kernel
theorem dL_law_853 : decode cL_law 853 = .ok (.iload_n 3, 1) := by decide +kernel
theorem dL_law_854 : decode cL_law 854 = .ok (.iconst 1, 1) := by decide +kernel
theorem dL_law_855 : decode cL_law 855 = .ok (.iadd, 1) := by decide +kernel
theorem dL_law_856 : decode cL_law 856 = .ok (.iaload, 1) := by decide +kernel
theorem dL_law_857 : decode cL_law 857 = .ok (.invokevirtual 116, 3) := by decide +kernel
theorem dL_law_860 : decode cL_law 860 = .ok (.if_icmp .eq 42, 3) := by decide +kernel
theorem dL_law_863 : decode cL_law 863 = .ok (.iconst 0, 1) := by decide +kernel
theorem dL_law_864 : decode cL_law 864 = .ok (.ireturn, 1) := by decide +kernel
theorem dL_law_865 : decode cL_law 865 = .ok (.aload_n 1, 1) := by decide +kernel
theorem dL_law_866 : decode cL_law 866 = .ok (.aload_n 0, 1) := by decide +kernel
theorem dL_law_867 : decode cL_law 867 = .ok (.iload_n 3, 1) := by decide +kernel
theorem dL_law_868 : decode cL_law 868 = .ok (.iconst 1, 1) := by decide +kernel
theorem dL_law_869 : decode cL_law 869 = .ok (.iadd, 1) := by decide +kernel
theorem dL_law_870 : decode cL_law 870 = .ok (.iaload, 1) := by decide +kernel
theorem dL_law_871 : decode cL_law 871 = .ok (.invokevirtual 117, 3) := by decide +kernel
theorem dL_law_874 : decode cL_law 874 = .ok (.aload_n 2, 1) := by decide +kernel
theorem dL_law_875 : decode cL_law 875 = .ok (.aload_n 0, 1) := by decide +kernel
theorem dL_law_876 : decode cL_law 876 = .ok (.iload_n 3, 1) := by decide +kernel
theorem dL_law_877 : decode cL_law 877 = .ok (.iconst 1, 1) := by decide +kernel
theorem dL_law_878 : decode cL_law 878 = .ok (.iadd, 1) := by decide +kernel
theorem dL_law_879 : decode cL_law 879 = .ok (.iaload, 1) := by decide +kernel
theorem dL_law_880 : decode cL_law 880 = .ok (.invokevirtual 120, 3) := by decide +kernel
theorem dL_law_883 : decode cL_law 883 = .ok (.if_icmp .eq 19, 3) := by decide +kernel
theorem dL_law_886 : decode cL_law 886 = .ok (.iconst 0, 1) := by decide +kernel
theorem dL_law_887 : decode cL_law 887 = .ok (.ireturn, 1) := by decide +kernel
theorem dL_law_888 : decode cL_law 888 = .ok (.aload_n 1, 1) := by decide +kernel
theorem dL_law_889 : decode cL_law 889 = .ok (.invokevirtual 121, 3) := by decide +kernel
theorem dL_law_892 : decode cL_law 892 = .ok (.aload_n 2, 1) := by decide +kernel
theorem dL_law_893 : decode cL_law 893 = .ok (.invokevirtual 125, 3) := by decide +kernel
theorem dL_law_896 : decode cL_law 896 = .ok (.lcmp, 1) := by decide +kernel
theorem dL_law_897 : decode cL_law 897 = .ok (.ifCond .eq 5, 3) := by decide +kernel
theorem dL_law_900 : decode cL_law 900 = .ok (.iconst 0, 1) := by decide +kernel
theorem dL_law_901 : decode cL_law 901 = .ok (.ireturn, 1) := by decide +kernel
theorem dL_law_902 : decode cL_law 902 = .ok (.iinc 3 4, 3) := by decide +kernel
theorem dL_law_905 : decode cL_law 905 = .ok (.goto (-887), 3) := by decide +kernel
theorem dL_law_908 : decode cL_law 908 = .ok (.iconst 1, 1) := by decide +kernel
theorem dL_law_909 : decode cL_law 909 = .ok (.ireturn, 1) := by decide +kernel
end
section
/-! the words: what the Statement's tables say, with 'selects' of the private methods, as far as it stays over calls -/
abbrev Tb : List Cond := lw_tbl.filter goodWord
theorem tb_in {x : Cond} (i : Nat) (h : lw_tbl[i]? = some x) (g : goodWord x = true) : x ∈ Tb := List.mem_filter.mpr ⟨by first | exact List.mem_of_getElem? h | exact List.getElem?_mem h, g⟩
theorem tb_ok {ws : List Cond} (h : ∀ w ∈ ws, w ∈ Tb) : GoodIn Tb ws := fun w hw => ⟨h w hw, good_of_word (List.mem_filter.mp (h w hw)).2⟩
end
section
/-! words, each by its place in the tables -/
set_option maxRecDepth 20000 in
theorem clw0 : ∀ x ∈ u_ws RX0 TX0 7, x ∈ Tb := fun x hx => by
  have e : u_ws RX0 TX0 7 = [337, 339, 341, 343, 345, 347, 349].filterMap (fun i => lw_tbl[i]?) := by decide +kernel
  have g : (u_ws RX0 TX0 7).all goodWord = true := by decide +kernel
  have hg := List.all_eq_true.mp g x hx
  rw [e] at hx
  obtain ⟨i, -, hi⟩ := List.mem_filterMap.mp hx
  exact tb_in i hi hg
set_option maxRecDepth 20000 in
theorem clw1 : ∀ x ∈ u_ws RX1 TX1 5, x ∈ Tb := fun x hx => by
  have e : u_ws RX1 TX1 5 = [164, 166, 168, 170, 172].filterMap (fun i => lw_tbl[i]?) := by decide +kernel
  have g : (u_ws RX1 TX1 5).all goodWord = true := by decide +kernel
  have hg := List.all_eq_true.mp g x hx
  rw [e] at hx
  obtain ⟨i, -, hi⟩ := List.mem_filterMap.mp hx
  exact tb_in i hi hg
set_option maxRecDepth 20000 in
theorem clw2 : ∀ x ∈ u_ws RX2 TX2 7, x ∈ Tb := fun x hx => by
  have e : u_ws RX2 TX2 7 = [203, 205, 207, 209, 211, 213, 215].filterMap (fun i => lw_tbl[i]?) := by decide +kernel
  have g : (u_ws RX2 TX2 7).all goodWord = true := by decide +kernel
  have hg := List.all_eq_true.mp g x hx
  rw [e] at hx
  obtain ⟨i, -, hi⟩ := List.mem_filterMap.mp hx
  exact tb_in i hi hg
set_option maxRecDepth 20000 in
theorem clw3 : ∀ x ∈ u_ws RX3 TX3 14, x ∈ Tb := fun x hx => by
  have e : u_ws RX3 TX3 14 = [246, 248, 250, 252, 254, 256, 258, 260, 262, 264, 266, 268, 270, 272].filterMap (fun i => lw_tbl[i]?) := by decide +kernel
  have g : (u_ws RX3 TX3 14).all goodWord = true := by decide +kernel
  have hg := List.all_eq_true.mp g x hx
  rw [e] at hx
  obtain ⟨i, -, hi⟩ := List.mem_filterMap.mp hx
  exact tb_in i hi hg
set_option maxRecDepth 20000 in
theorem clw4 : ∀ x ∈ u_ws RX4 TX4 3, x ∈ Tb := fun x hx => by
  have e : u_ws RX4 TX4 3 = [182, 184, 186].filterMap (fun i => lw_tbl[i]?) := by decide +kernel
  have g : (u_ws RX4 TX4 3).all goodWord = true := by decide +kernel
  have hg := List.all_eq_true.mp g x hx
  rw [e] at hx
  obtain ⟨i, -, hi⟩ := List.mem_filterMap.mp hx
  exact tb_in i hi hg
set_option maxRecDepth 20000 in
theorem clw5 : ∀ x ∈ u_ws RX5 TX5 8, x ∈ Tb := fun x hx => by
  have e : u_ws RX5 TX5 8 = [114, 116, 118, 120, 122, 124, 126, 128].filterMap (fun i => lw_tbl[i]?) := by decide +kernel
  have g : (u_ws RX5 TX5 8).all goodWord = true := by decide +kernel
  have hg := List.all_eq_true.mp g x hx
  rw [e] at hx
  obtain ⟨i, -, hi⟩ := List.mem_filterMap.mp hx
  exact tb_in i hi hg
set_option maxRecDepth 20000 in
theorem clw6 : ∀ x ∈ u_ws RX6 TX6 6, x ∈ Tb := fun x hx => by
  have e : u_ws RX6 TX6 6 = [292, 294, 296, 298, 300, 302].filterMap (fun i => lw_tbl[i]?) := by decide +kernel
  have g : (u_ws RX6 TX6 6).all goodWord = true := by decide +kernel
  have hg := List.all_eq_true.mp g x hx
  rw [e] at hx
  obtain ⟨i, -, hi⟩ := List.mem_filterMap.mp hx
  exact tb_in i hi hg
set_option maxRecDepth 20000 in
theorem clw7 : ∀ x ∈ u_ws RX7 TX7 12, x ∈ Tb := fun x hx => by
  have e : u_ws RX7 TX7 12 = [364, 366, 368, 370, 372, 374, 376, 378, 380, 382, 384, 386].filterMap (fun i => lw_tbl[i]?) := by decide +kernel
  have g : (u_ws RX7 TX7 12).all goodWord = true := by decide +kernel
  have hg := List.all_eq_true.mp g x hx
  rw [e] at hx
  obtain ⟨i, -, hi⟩ := List.mem_filterMap.mp hx
  exact tb_in i hi hg
set_option maxRecDepth 20000 in
theorem clw8 : ∀ x ∈ u_ws RX8 TX8 51, x ∈ Tb := fun x hx => by
  have e : u_ws RX8 TX8 51 = [907, 909, 911, 913, 915, 917, 919, 921, 923, 925, 927, 929, 931, 933, 935, 937, 939, 941, 943, 945, 947, 949, 951, 953, 955, 957, 959, 961, 963, 965, 967, 969, 971, 973, 975, 977, 979, 981, 983, 985, 987, 989, 991, 993, 995, 997, 999, 1001, 1003, 1005, 1007].filterMap (fun i => lw_tbl[i]?) := by decide +kernel
  have g : (u_ws RX8 TX8 51).all goodWord = true := by decide +kernel
  have hg := List.all_eq_true.mp g x hx
  rw [e] at hx
  obtain ⟨i, -, hi⟩ := List.mem_filterMap.mp hx
  exact tb_in i hi hg
theorem in_X7 : Cond.initialized RX7 ∈ Tb := tb_in 72 (by decide +kernel) rfl
theorem in_X0 : Cond.initialized RX0 ∈ Tb := tb_in 79 (by decide +kernel) rfl
theorem in_X1 : Cond.initialized RX1 ∈ Tb := tb_in 75 (by decide +kernel) rfl
theorem in_X2 : Cond.initialized RX2 ∈ Tb := tb_in 76 (by decide +kernel) rfl
theorem in_X3 : Cond.initialized RX3 ∈ Tb := tb_in 77 (by decide +kernel) rfl
theorem in_X4 : Cond.initialized RX4 ∈ Tb := tb_in 74 (by decide +kernel) rfl
theorem in_X5 : Cond.initialized RX5 ∈ Tb := tb_in 73 (by decide +kernel) rfl
theorem in_X6 : Cond.initialized RX6 ∈ Tb := tb_in 78 (by decide +kernel) rfl
theorem in_X8 : Cond.initialized RX8 ∈ Tb := tb_in 81 (by decide +kernel) rfl
theorem in_J6 : Cond.initialized RJ6 ∈ Tb := tb_in 87 (by decide +kernel) rfl
theorem in_J9 : Cond.initialized RJ9 ∈ Tb := tb_in 86 (by decide +kernel) rfl
theorem in_J0 : Cond.initialized RJ0 ∈ Tb := tb_in 82 (by decide +kernel) rfl
theorem in_J1 : Cond.initialized RJ1 ∈ Tb := tb_in 83 (by decide +kernel) rfl
theorem in_J2 : Cond.initialized RJ2 ∈ Tb := tb_in 85 (by decide +kernel) rfl
theorem in_J7 : Cond.initialized RJ7 ∈ Tb := tb_in 80 (by decide +kernel) rfl
theorem in_J3 : Cond.initialized RJ3 ∈ Tb := tb_in 84 (by decide +kernel) rfl
theorem cd_X0_init : Cond.code yX0_init cX0_init 1 none ∈ Tb := tb_in 309 (by decide +kernel) rfl
theorem im_X0_init : Cond.instanceMethod yX0_init ∈ Tb := tb_in 308 (by decide +kernel) rfl
theorem cd_X0_empty : Cond.code yX0_empty cX0_empty 1 none ∈ Tb := tb_in 314 (by decide +kernel) rfl
theorem im_X0_empty : Cond.instanceMethod yX0_empty ∈ Tb := tb_in 313 (by decide +kernel) rfl
theorem se_X0_empty : Cond.selects RX0 yX0_empty yX0_empty ∈ Tb := tb_in 0 (by decide +kernel) rfl
theorem cd_X0_read : Cond.code yX0_read cX0_read 2 (some .boolean) ∈ Tb := tb_in 524 (by decide +kernel) rfl
theorem im_X0_read : Cond.instanceMethod yX0_read ∈ Tb := tb_in 522 (by decide +kernel) rfl
theorem se_X0_read : Cond.selects RX0 yX0_read yX0_read ∈ Tb := tb_in 523 (by decide +kernel) rfl
theorem cd_X0_readItem : Cond.code yX0_readItem cX0_readItem 2 (some .boolean) ∈ Tb := tb_in 529 (by decide +kernel) rfl
theorem im_X0_readItem : Cond.instanceMethod yX0_readItem ∈ Tb := tb_in 528 (by decide +kernel) rfl
theorem se_X0_readItem : Cond.selects RX0 yX0_readItem yX0_readItem ∈ Tb := tb_in 8 (by decide +kernel) rfl
theorem cd_X0_readStuff : Cond.code yX0_readStuff cX0_readStuff 4 (some .boolean) ∈ Tb := tb_in 534 (by decide +kernel) rfl
theorem im_X0_readStuff : Cond.instanceMethod yX0_readStuff ∈ Tb := tb_in 533 (by decide +kernel) rfl
theorem se_X0_readStuff : Cond.selects RX0 yX0_readStuff yX0_readStuff ∈ Tb := tb_in 9 (by decide +kernel) rfl
theorem cd_X0_readAlike : Cond.code yX0_readAlike cX0_readAlike 3 (some .boolean) ∈ Tb := tb_in 539 (by decide +kernel) rfl
theorem im_X0_readAlike : Cond.instanceMethod yX0_readAlike ∈ Tb := tb_in 538 (by decide +kernel) rfl
theorem se_X0_readAlike : Cond.selects RX0 yX0_readAlike yX0_readAlike ∈ Tb := tb_in 10 (by decide +kernel) rfl
theorem cd_X0_readBill : Cond.code yX0_readBill cX0_readBill 2 (some .boolean) ∈ Tb := tb_in 547 (by decide +kernel) rfl
theorem im_X0_readBill : Cond.instanceMethod yX0_readBill ∈ Tb := tb_in 546 (by decide +kernel) rfl
theorem se_X0_readBill : Cond.selects RX0 yX0_readBill yX0_readBill ∈ Tb := tb_in 11 (by decide +kernel) rfl
theorem cd_X1_init : Cond.code yX1_init cX1_init 1 none ∈ Tb := tb_in 144 (by decide +kernel) rfl
theorem im_X1_init : Cond.instanceMethod yX1_init ∈ Tb := tb_in 143 (by decide +kernel) rfl
theorem cd_X1_read : Cond.code yX1_read cX1_read 2 (some .boolean) ∈ Tb := tb_in 495 (by decide +kernel) rfl
theorem im_X1_read : Cond.instanceMethod yX1_read ∈ Tb := tb_in 493 (by decide +kernel) rfl
theorem se_X1_read : Cond.selects RX1 yX1_read yX1_read ∈ Tb := tb_in 494 (by decide +kernel) rfl
theorem cd_X1_readCoats : Cond.code yX1_readCoats cX1_readCoats 2 (some .boolean) ∈ Tb := tb_in 508 (by decide +kernel) rfl
theorem im_X1_readCoats : Cond.instanceMethod yX1_readCoats ∈ Tb := tb_in 507 (by decide +kernel) rfl
theorem se_X1_readCoats : Cond.selects RX1 yX1_readCoats yX1_readCoats ∈ Tb := tb_in 7 (by decide +kernel) rfl
theorem cd_X1_copy : Cond.code yX1_copy cX1_copy 2 none ∈ Tb := tb_in 830 (by decide +kernel) rfl
theorem im_X1_copy : Cond.instanceMethod yX1_copy ∈ Tb := tb_in 828 (by decide +kernel) rfl
theorem se_X1_copy : Cond.selects RX1 yX1_copy yX1_copy ∈ Tb := tb_in 829 (by decide +kernel) rfl
theorem cd_X2_init : Cond.code yX2_init cX2_init 1 none ∈ Tb := tb_in 194 (by decide +kernel) rfl
theorem im_X2_init : Cond.instanceMethod yX2_init ∈ Tb := tb_in 193 (by decide +kernel) rfl
theorem cd_X2_lay : Cond.code yX2_lay cX2_lay 8 none ∈ Tb := tb_in 646 (by decide +kernel) rfl
theorem im_X2_lay : Cond.instanceMethod yX2_lay ∈ Tb := tb_in 644 (by decide +kernel) rfl
theorem se_X2_lay : Cond.selects RX2 yX2_lay yX2_lay ∈ Tb := tb_in 645 (by decide +kernel) rfl
theorem cd_X2_leastCost : Cond.code yX2_leastCost cX2_leastCost 1 (some .int) ∈ Tb := tb_in 665 (by decide +kernel) rfl
theorem im_X2_leastCost : Cond.instanceMethod yX2_leastCost ∈ Tb := tb_in 663 (by decide +kernel) rfl
theorem se_X2_leastCost : Cond.selects RX2 yX2_leastCost yX2_leastCost ∈ Tb := tb_in 664 (by decide +kernel) rfl
theorem cd_X2_leastWays : Cond.code yX2_leastWays cX2_leastWays 1 (some .long) ∈ Tb := tb_in 674 (by decide +kernel) rfl
theorem im_X2_leastWays : Cond.instanceMethod yX2_leastWays ∈ Tb := tb_in 672 (by decide +kernel) rfl
theorem se_X2_leastWays : Cond.selects RX2 yX2_leastWays yX2_leastWays ∈ Tb := tb_in 673 (by decide +kernel) rfl
theorem cd_X2_beside : Cond.code yX2_beside cX2_beside 5 (some .int) ∈ Tb := tb_in 682 (by decide +kernel) rfl
theorem im_X2_beside : Cond.instanceMethod yX2_beside ∈ Tb := tb_in 680 (by decide +kernel) rfl
theorem se_X2_beside : Cond.selects RX2 yX2_beside yX2_beside ∈ Tb := tb_in 681 (by decide +kernel) rfl
theorem cd_X2_nearest : Cond.code yX2_nearest cX2_nearest 4 (some .int) ∈ Tb := tb_in 686 (by decide +kernel) rfl
theorem im_X2_nearest : Cond.instanceMethod yX2_nearest ∈ Tb := tb_in 685 (by decide +kernel) rfl
theorem se_X2_nearest : Cond.selects RX2 yX2_nearest yX2_nearest ∈ Tb := tb_in 29 (by decide +kernel) rfl
theorem cd_X2_fill : Cond.code yX2_fill cX2_fill 9 none ∈ Tb := tb_in 650 (by decide +kernel) rfl
theorem im_X2_fill : Cond.instanceMethod yX2_fill ∈ Tb := tb_in 649 (by decide +kernel) rfl
theorem se_X2_fill : Cond.selects RX2 yX2_fill yX2_fill ∈ Tb := tb_in 26 (by decide +kernel) rfl
theorem cd_X2_isSame : Cond.code yX2_isSame cX2_isSame 3 (some .boolean) ∈ Tb := tb_in 654 (by decide +kernel) rfl
theorem im_X2_isSame : Cond.instanceMethod yX2_isSame ∈ Tb := tb_in 653 (by decide +kernel) rfl
theorem se_X2_isSame : Cond.selects RX2 yX2_isSame yX2_isSame ∈ Tb := tb_in 27 (by decide +kernel) rfl
theorem cd_X2_costBeside : Cond.code yX2_costBeside cX2_costBeside 5 (some .int) ∈ Tb := tb_in 658 (by decide +kernel) rfl
theorem im_X2_costBeside : Cond.instanceMethod yX2_costBeside ∈ Tb := tb_in 657 (by decide +kernel) rfl
theorem se_X2_costBeside : Cond.selects RX2 yX2_costBeside yX2_costBeside ∈ Tb := tb_in 28 (by decide +kernel) rfl
theorem cd_X3_init : Cond.code yX3_init cX3_init 1 none ∈ Tb := tb_in 223 (by decide +kernel) rfl
theorem im_X3_init : Cond.instanceMethod yX3_init ∈ Tb := tb_in 222 (by decide +kernel) rfl
theorem cd_X3_find : Cond.code yX3_find cX3_find 6 none ∈ Tb := tb_in 583 (by decide +kernel) rfl
theorem im_X3_find : Cond.instanceMethod yX3_find ∈ Tb := tb_in 581 (by decide +kernel) rfl
theorem se_X3_find : Cond.selects RX3 yX3_find yX3_find ∈ Tb := tb_in 582 (by decide +kernel) rfl
theorem cd_X3_notIn : Cond.code yX3_notIn cX3_notIn 4 (some .int) ∈ Tb := tb_in 780 (by decide +kernel) rfl
theorem im_X3_notIn : Cond.instanceMethod yX3_notIn ∈ Tb := tb_in 778 (by decide +kernel) rfl
theorem se_X3_notIn : Cond.selects RX3 yX3_notIn yX3_notIn ∈ Tb := tb_in 779 (by decide +kernel) rfl
theorem cd_X3_findServing : Cond.code yX3_findServing cX3_findServing 3 none ∈ Tb := tb_in 594 (by decide +kernel) rfl
theorem im_X3_findServing : Cond.instanceMethod yX3_findServing ∈ Tb := tb_in 593 (by decide +kernel) rfl
theorem se_X3_findServing : Cond.selects RX3 yX3_findServing yX3_findServing ∈ Tb := tb_in 17 (by decide +kernel) rfl
theorem cd_X3_fillRow : Cond.code yX3_fillRow cX3_fillRow 10 none ∈ Tb := tb_in 602 (by decide +kernel) rfl
theorem im_X3_fillRow : Cond.instanceMethod yX3_fillRow ∈ Tb := tb_in 601 (by decide +kernel) rfl
theorem se_X3_fillRow : Cond.selects RX3 yX3_fillRow yX3_fillRow ∈ Tb := tb_in 19 (by decide +kernel) rfl
theorem cd_X3_walk : Cond.code yX3_walk cX3_walk 3 none ∈ Tb := tb_in 606 (by decide +kernel) rfl
theorem im_X3_walk : Cond.instanceMethod yX3_walk ∈ Tb := tb_in 605 (by decide +kernel) rfl
theorem se_X3_walk : Cond.selects RX3 yX3_walk yX3_walk ∈ Tb := tb_in 20 (by decide +kernel) rfl
theorem cd_X3_firstColour : Cond.code yX3_firstColour cX3_firstColour 4 (some .int) ∈ Tb := tb_in 610 (by decide +kernel) rfl
theorem im_X3_firstColour : Cond.instanceMethod yX3_firstColour ∈ Tb := tb_in 609 (by decide +kernel) rfl
theorem se_X3_firstColour : Cond.selects RX3 yX3_firstColour yX3_firstColour ∈ Tb := tb_in 21 (by decide +kernel) rfl
theorem cd_X3_paint : Cond.code yX3_paint cX3_paint 3 none ∈ Tb := tb_in 614 (by decide +kernel) rfl
theorem im_X3_paint : Cond.instanceMethod yX3_paint ∈ Tb := tb_in 613 (by decide +kernel) rfl
theorem se_X3_paint : Cond.selects RX3 yX3_paint yX3_paint ∈ Tb := tb_in 22 (by decide +kernel) rfl
theorem cd_X3_look : Cond.code yX3_look cX3_look 6 none ∈ Tb := tb_in 587 (by decide +kernel) rfl
theorem im_X3_look : Cond.instanceMethod yX3_look ∈ Tb := tb_in 586 (by decide +kernel) rfl
theorem se_X3_look : Cond.selects RX3 yX3_look yX3_look ∈ Tb := tb_in 16 (by decide +kernel) rfl
theorem cd_X3_strideOf : Cond.code yX3_strideOf cX3_strideOf 5 (some .int) ∈ Tb := tb_in 598 (by decide +kernel) rfl
theorem im_X3_strideOf : Cond.instanceMethod yX3_strideOf ∈ Tb := tb_in 597 (by decide +kernel) rfl
theorem se_X3_strideOf : Cond.selects RX3 yX3_strideOf yX3_strideOf ∈ Tb := tb_in 18 (by decide +kernel) rfl
theorem cd_X4_init : Cond.code yX4_init cX4_init 2 none ∈ Tb := tb_in 137 (by decide +kernel) rfl
theorem im_X4_init : Cond.instanceMethod yX4_init ∈ Tb := tb_in 136 (by decide +kernel) rfl
theorem cd_X4_takeOut : Cond.code yX4_takeOut cX4_takeOut 4 none ∈ Tb := tb_in 559 (by decide +kernel) rfl
theorem im_X4_takeOut : Cond.instanceMethod yX4_takeOut ∈ Tb := tb_in 557 (by decide +kernel) rfl
theorem se_X4_takeOut : Cond.selects RX4 yX4_takeOut yX4_takeOut ∈ Tb := tb_in 558 (by decide +kernel) rfl
theorem cd_X4_copy : Cond.code yX4_copy cX4_copy 3 none ∈ Tb := tb_in 826 (by decide +kernel) rfl
theorem im_X4_copy : Cond.instanceMethod yX4_copy ∈ Tb := tb_in 824 (by decide +kernel) rfl
theorem se_X4_copy : Cond.selects RX4 yX4_copy yX4_copy ∈ Tb := tb_in 825 (by decide +kernel) rfl
theorem cd_X4_coats : Cond.code yX4_coats cX4_coats 3 (some .int) ∈ Tb := tb_in 845 (by decide +kernel) rfl
theorem im_X4_coats : Cond.instanceMethod yX4_coats ∈ Tb := tb_in 843 (by decide +kernel) rfl
theorem se_X4_coats : Cond.selects RX4 yX4_coats yX4_coats ∈ Tb := tb_in 844 (by decide +kernel) rfl
theorem cd_X4_inRoom : Cond.code yX4_inRoom cX4_inRoom 4 (some .int) ∈ Tb := tb_in 776 (by decide +kernel) rfl
theorem im_X4_inRoom : Cond.instanceMethod yX4_inRoom ∈ Tb := tb_in 774 (by decide +kernel) rfl
theorem se_X4_inRoom : Cond.selects RX4 yX4_inRoom yX4_inRoom ∈ Tb := tb_in 775 (by decide +kernel) rfl
theorem cd_X5_init : Cond.code yX5_init cX5_init 1 none ∈ Tb := tb_in 101 (by decide +kernel) rfl
theorem im_X5_init : Cond.instanceMethod yX5_init ∈ Tb := tb_in 100 (by decide +kernel) rfl
theorem cd_X5_add : Cond.code yX5_add cX5_add 5 (some .boolean) ∈ Tb := tb_in 396 (by decide +kernel) rfl
theorem im_X5_add : Cond.instanceMethod yX5_add ∈ Tb := tb_in 394 (by decide +kernel) rfl
theorem se_X5_add : Cond.selects RX5 yX5_add yX5_add ∈ Tb := tb_in 395 (by decide +kernel) rfl
theorem cd_X5_split : Cond.code yX5_split cX5_split 2 none ∈ Tb := tb_in 408 (by decide +kernel) rfl
theorem im_X5_split : Cond.instanceMethod yX5_split ∈ Tb := tb_in 406 (by decide +kernel) rfl
theorem se_X5_split : Cond.selects RX5 yX5_split yX5_split ∈ Tb := tb_in 407 (by decide +kernel) rfl
theorem cd_X5_isAt : Cond.code yX5_isAt cX5_isAt 2 (some .boolean) ∈ Tb := tb_in 512 (by decide +kernel) rfl
theorem im_X5_isAt : Cond.instanceMethod yX5_isAt ∈ Tb := tb_in 510 (by decide +kernel) rfl
theorem se_X5_isAt : Cond.selects RX5 yX5_isAt yX5_isAt ∈ Tb := tb_in 511 (by decide +kernel) rfl
theorem cd_X5_fault : Cond.code yX5_fault cX5_fault 1 (some .int) ∈ Tb := tb_in 516 (by decide +kernel) rfl
theorem im_X5_fault : Cond.instanceMethod yX5_fault ∈ Tb := tb_in 514 (by decide +kernel) rfl
theorem se_X5_fault : Cond.selects RX5 yX5_fault yX5_fault ∈ Tb := tb_in 515 (by decide +kernel) rfl
theorem cd_X5_take : Cond.code yX5_take cX5_take 2 (some .boolean) ∈ Tb := tb_in 499 (by decide +kernel) rfl
theorem im_X5_take : Cond.instanceMethod yX5_take ∈ Tb := tb_in 497 (by decide +kernel) rfl
theorem se_X5_take : Cond.selects RX5 yX5_take yX5_take ∈ Tb := tb_in 498 (by decide +kernel) rfl
theorem cd_X5_takeNumber : Cond.code yX5_takeNumber cX5_takeNumber 3 (some .boolean) ∈ Tb := tb_in 503 (by decide +kernel) rfl
theorem im_X5_takeNumber : Cond.instanceMethod yX5_takeNumber ∈ Tb := tb_in 501 (by decide +kernel) rfl
theorem se_X5_takeNumber : Cond.selects RX5 yX5_takeNumber yX5_takeNumber ∈ Tb := tb_in 502 (by decide +kernel) rfl
theorem cd_X5_takeColourBut : Cond.code yX5_takeColourBut cX5_takeColourBut 2 (some .boolean) ∈ Tb := tb_in 543 (by decide +kernel) rfl
theorem im_X5_takeColourBut : Cond.instanceMethod yX5_takeColourBut ∈ Tb := tb_in 541 (by decide +kernel) rfl
theorem se_X5_takeColourBut : Cond.selects RX5 yX5_takeColourBut yX5_takeColourBut ∈ Tb := tb_in 542 (by decide +kernel) rfl
theorem cd_X5_beginsToken : Cond.code yX5_beginsToken cX5_beginsToken 4 (some .boolean) ∈ Tb := tb_in 412 (by decide +kernel) rfl
theorem im_X5_beginsToken : Cond.instanceMethod yX5_beginsToken ∈ Tb := tb_in 411 (by decide +kernel) rfl
theorem se_X5_beginsToken : Cond.selects RX5 yX5_beginsToken yX5_beginsToken ∈ Tb := tb_in 1 (by decide +kernel) rfl
theorem cd_X5_readToken : Cond.code yX5_readToken cX5_readToken 2 none ∈ Tb := tb_in 422 (by decide +kernel) rfl
theorem im_X5_readToken : Cond.instanceMethod yX5_readToken ∈ Tb := tb_in 421 (by decide +kernel) rfl
theorem se_X5_readToken : Cond.selects RX5 yX5_readToken yX5_readToken ∈ Tb := tb_in 2 (by decide +kernel) rfl
theorem cd_X5_readNumber : Cond.code yX5_readNumber cX5_readNumber 5 none ∈ Tb := tb_in 426 (by decide +kernel) rfl
theorem im_X5_readNumber : Cond.instanceMethod yX5_readNumber ∈ Tb := tb_in 425 (by decide +kernel) rfl
theorem se_X5_readNumber : Cond.selects RX5 yX5_readNumber yX5_readNumber ∈ Tb := tb_in 3 (by decide +kernel) rfl
theorem cd_X5_readWord : Cond.code yX5_readWord cX5_readWord 4 none ∈ Tb := tb_in 430 (by decide +kernel) rfl
theorem im_X5_readWord : Cond.instanceMethod yX5_readWord ∈ Tb := tb_in 429 (by decide +kernel) rfl
theorem se_X5_readWord : Cond.selects RX5 yX5_readWord yX5_readWord ∈ Tb := tb_in 4 (by decide +kernel) rfl
theorem cd_X5_kindOfWord : Cond.code yX5_kindOfWord cX5_kindOfWord 3 (some .int) ∈ Tb := tb_in 434 (by decide +kernel) rfl
theorem im_X5_kindOfWord : Cond.instanceMethod yX5_kindOfWord ∈ Tb := tb_in 433 (by decide +kernel) rfl
theorem se_X5_kindOfWord : Cond.selects RX5 yX5_kindOfWord yX5_kindOfWord ∈ Tb := tb_in 5 (by decide +kernel) rfl
theorem cd_X5_isWord : Cond.code yX5_isWord cX5_isWord 5 (some .boolean) ∈ Tb := tb_in 439 (by decide +kernel) rfl
theorem im_X5_isWord : Cond.instanceMethod yX5_isWord ∈ Tb := tb_in 438 (by decide +kernel) rfl
theorem se_X5_isWord : Cond.selects RX5 yX5_isWord yX5_isWord ∈ Tb := tb_in 6 (by decide +kernel) rfl
theorem cd_X5_isDigit : Cond.code yX5_isDigit cX5_isDigit 1 (some .boolean) ∈ Tb := tb_in 418 (by decide +kernel) rfl
theorem sm_X5_isDigit : Cond.static yX5_isDigit ∈ Tb := tb_in 417 (by decide +kernel) rfl
theorem cd_X5_isLetter : Cond.code yX5_isLetter cX5_isLetter 1 (some .boolean) ∈ Tb := tb_in 415 (by decide +kernel) rfl
theorem sm_X5_isLetter : Cond.static yX5_isLetter ∈ Tb := tb_in 414 (by decide +kernel) rfl
theorem cd_X6_init : Cond.code yX6_init cX6_init 1 none ∈ Tb := tb_in 279 (by decide +kernel) rfl
theorem im_X6_init : Cond.instanceMethod yX6_init ∈ Tb := tb_in 278 (by decide +kernel) rfl
theorem cd_X6_find : Cond.code yX6_find cX6_find 8 none ∈ Tb := tb_in 722 (by decide +kernel) rfl
theorem im_X6_find : Cond.instanceMethod yX6_find ∈ Tb := tb_in 720 (by decide +kernel) rfl
theorem se_X6_find : Cond.selects RX6 yX6_find yX6_find ∈ Tb := tb_in 721 (by decide +kernel) rfl
theorem cd_X6_match : Cond.code yX6_match cX6_match 6 none ∈ Tb := tb_in 746 (by decide +kernel) rfl
theorem im_X6_match : Cond.instanceMethod yX6_match ∈ Tb := tb_in 744 (by decide +kernel) rfl
theorem se_X6_match : Cond.selects RX6 yX6_match yX6_match ∈ Tb := tb_in 745 (by decide +kernel) rfl
theorem cd_X6_mostFrom : Cond.code yX6_mostFrom cX6_mostFrom 7 (some .int) ∈ Tb := tb_in 750 (by decide +kernel) rfl
theorem im_X6_mostFrom : Cond.instanceMethod yX6_mostFrom ∈ Tb := tb_in 749 (by decide +kernel) rfl
theorem se_X6_mostFrom : Cond.selects RX6 yX6_mostFrom yX6_mostFrom ∈ Tb := tb_in 35 (by decide +kernel) rfl
theorem cd_X6_leastBill : Cond.code yX6_leastBill cX6_leastBill 7 (some .int) ∈ Tb := tb_in 758 (by decide +kernel) rfl
theorem im_X6_leastBill : Cond.instanceMethod yX6_leastBill ∈ Tb := tb_in 757 (by decide +kernel) rfl
theorem se_X6_leastBill : Cond.selects RX6 yX6_leastBill yX6_leastBill ∈ Tb := tb_in 37 (by decide +kernel) rfl
theorem cd_X6_fits : Cond.code yX6_fits cX6_fits 8 (some .boolean) ∈ Tb := tb_in 754 (by decide +kernel) rfl
theorem im_X6_fits : Cond.instanceMethod yX6_fits ∈ Tb := tb_in 753 (by decide +kernel) rfl
theorem se_X6_fits : Cond.selects RX6 yX6_fits yX6_fits ∈ Tb := tb_in 36 (by decide +kernel) rfl
theorem cd_X7_init : Cond.code yX7_init cX7_init 2 none ∈ Tb := tb_in 93 (by decide +kernel) rfl
theorem im_X7_init : Cond.instanceMethod yX7_init ∈ Tb := tb_in 92 (by decide +kernel) rfl
theorem cd_X7_type : Cond.code yX7_type cX7_type 4 (some .int) ∈ Tb := tb_in 392 (by decide +kernel) rfl
theorem im_X7_type : Cond.instanceMethod yX7_type ∈ Tb := tb_in 390 (by decide +kernel) rfl
theorem se_X7_type : Cond.selects RX7 yX7_type yX7_type ∈ Tb := tb_in 391 (by decide +kernel) rfl
theorem cd_X7_clear : Cond.code yX7_clear cX7_clear 2 (some .int) ∈ Tb := tb_in 400 (by decide +kernel) rfl
theorem im_X7_clear : Cond.instanceMethod yX7_clear ∈ Tb := tb_in 398 (by decide +kernel) rfl
theorem se_X7_clear : Cond.selects RX7 yX7_clear yX7_clear ∈ Tb := tb_in 399 (by decide +kernel) rfl
theorem cd_X7_chip : Cond.code yX7_chip cX7_chip 1 (some .int) ∈ Tb := tb_in 404 (by decide +kernel) rfl
theorem im_X7_chip : Cond.instanceMethod yX7_chip ∈ Tb := tb_in 402 (by decide +kernel) rfl
theorem se_X7_chip : Cond.selects RX7 yX7_chip yX7_chip ∈ Tb := tb_in 403 (by decide +kernel) rfl
theorem cd_X7_book : Cond.code yX7_book cX7_book 2 (some .int) ∈ Tb := tb_in 520 (by decide +kernel) rfl
theorem im_X7_book : Cond.instanceMethod yX7_book ∈ Tb := tb_in 518 (by decide +kernel) rfl
theorem se_X7_book : Cond.selects RX7 yX7_book yX7_book ∈ Tb := tb_in 519 (by decide +kernel) rfl
theorem cd_X7_drop : Cond.code yX7_drop cX7_drop 2 (some .int) ∈ Tb := tb_in 551 (by decide +kernel) rfl
theorem im_X7_drop : Cond.instanceMethod yX7_drop ∈ Tb := tb_in 549 (by decide +kernel) rfl
theorem se_X7_drop : Cond.selects RX7 yX7_drop yX7_drop ∈ Tb := tb_in 550 (by decide +kernel) rfl
theorem cd_X7_about : Cond.code yX7_about cX7_about 4 (some .int) ∈ Tb := tb_in 563 (by decide +kernel) rfl
theorem im_X7_about : Cond.instanceMethod yX7_about ∈ Tb := tb_in 561 (by decide +kernel) rfl
theorem se_X7_about : Cond.selects RX7 yX7_about yX7_about ∈ Tb := tb_in 562 (by decide +kernel) rfl
theorem cd_X7_coat : Cond.code yX7_coat cX7_coat 4 (some .int) ∈ Tb := tb_in 567 (by decide +kernel) rfl
theorem im_X7_coat : Cond.instanceMethod yX7_coat ∈ Tb := tb_in 565 (by decide +kernel) rfl
theorem se_X7_coat : Cond.selects RX7 yX7_coat yX7_coat ∈ Tb := tb_in 566 (by decide +kernel) rfl
theorem cd_X7_colour : Cond.code yX7_colour cX7_colour 3 (some .int) ∈ Tb := tb_in 622 (by decide +kernel) rfl
theorem im_X7_colour : Cond.instanceMethod yX7_colour ∈ Tb := tb_in 620 (by decide +kernel) rfl
theorem se_X7_colour : Cond.selects RX7 yX7_colour yX7_colour ∈ Tb := tb_in 621 (by decide +kernel) rfl
theorem cd_X7_tune : Cond.code yX7_tune cX7_tune 4 (some .int) ∈ Tb := tb_in 626 (by decide +kernel) rfl
theorem im_X7_tune : Cond.instanceMethod yX7_tune ∈ Tb := tb_in 624 (by decide +kernel) rfl
theorem se_X7_tune : Cond.selects RX7 yX7_tune yX7_tune ∈ Tb := tb_in 625 (by decide +kernel) rfl
theorem cd_X7_least : Cond.code yX7_least cX7_least 3 (some .int) ∈ Tb := tb_in 634 (by decide +kernel) rfl
theorem im_X7_least : Cond.instanceMethod yX7_least ∈ Tb := tb_in 632 (by decide +kernel) rfl
theorem se_X7_least : Cond.selects RX7 yX7_least yX7_least ∈ Tb := tb_in 633 (by decide +kernel) rfl
theorem cd_X7_ways : Cond.code yX7_ways cX7_ways 3 (some .long) ∈ Tb := tb_in 669 (by decide +kernel) rfl
theorem im_X7_ways : Cond.instanceMethod yX7_ways ∈ Tb := tb_in 667 (by decide +kernel) rfl
theorem se_X7_ways : Cond.selects RX7 yX7_ways yX7_ways ∈ Tb := tb_in 668 (by decide +kernel) rfl
theorem cd_X7_laid : Cond.code yX7_laid cX7_laid 4 (some .int) ∈ Tb := tb_in 678 (by decide +kernel) rfl
theorem im_X7_laid : Cond.instanceMethod yX7_laid ∈ Tb := tb_in 676 (by decide +kernel) rfl
theorem se_X7_laid : Cond.selects RX7 yX7_laid yX7_laid ∈ Tb := tb_in 677 (by decide +kernel) rfl
theorem cd_X7_painting : Cond.code yX7_painting cX7_painting 2 (some .int) ∈ Tb := tb_in 690 (by decide +kernel) rfl
theorem im_X7_painting : Cond.instanceMethod yX7_painting ∈ Tb := tb_in 688 (by decide +kernel) rfl
theorem se_X7_painting : Cond.selects RX7 yX7_painting yX7_painting ∈ Tb := tb_in 689 (by decide +kernel) rfl
theorem cd_X7_had : Cond.code yX7_had cX7_had 2 (some .int) ∈ Tb := tb_in 698 (by decide +kernel) rfl
theorem im_X7_had : Cond.instanceMethod yX7_had ∈ Tb := tb_in 696 (by decide +kernel) rfl
theorem se_X7_had : Cond.selects RX7 yX7_had yX7_had ∈ Tb := tb_in 697 (by decide +kernel) rfl
theorem cd_X7_face : Cond.code yX7_face cX7_face 3 (some .int) ∈ Tb := tb_in 702 (by decide +kernel) rfl
theorem im_X7_face : Cond.instanceMethod yX7_face ∈ Tb := tb_in 700 (by decide +kernel) rfl
theorem se_X7_face : Cond.selects RX7 yX7_face yX7_face ∈ Tb := tb_in 701 (by decide +kernel) rfl
theorem cd_X7_span : Cond.code yX7_span cX7_span 3 (some .int) ∈ Tb := tb_in 718 (by decide +kernel) rfl
theorem im_X7_span : Cond.instanceMethod yX7_span ∈ Tb := tb_in 716 (by decide +kernel) rfl
theorem se_X7_span : Cond.selects RX7 yX7_span yX7_span ∈ Tb := tb_in 717 (by decide +kernel) rfl
theorem cd_X7_day : Cond.code yX7_day cX7_day 3 (some .int) ∈ Tb := tb_in 730 (by decide +kernel) rfl
theorem im_X7_day : Cond.instanceMethod yX7_day ∈ Tb := tb_in 728 (by decide +kernel) rfl
theorem se_X7_day : Cond.selects RX7 yX7_day yX7_day ∈ Tb := tb_in 729 (by decide +kernel) rfl
theorem cd_X7_bill : Cond.code yX7_bill cX7_bill 3 (some .int) ∈ Tb := tb_in 738 (by decide +kernel) rfl
theorem im_X7_bill : Cond.instanceMethod yX7_bill ∈ Tb := tb_in 736 (by decide +kernel) rfl
theorem se_X7_bill : Cond.selects RX7 yX7_bill yX7_bill ∈ Tb := tb_in 737 (by decide +kernel) rfl
theorem cd_X7_billed : Cond.code yX7_billed cX7_billed 2 (some .int) ∈ Tb := tb_in 742 (by decide +kernel) rfl
theorem im_X7_billed : Cond.instanceMethod yX7_billed ∈ Tb := tb_in 740 (by decide +kernel) rfl
theorem se_X7_billed : Cond.selects RX7 yX7_billed yX7_billed ∈ Tb := tb_in 741 (by decide +kernel) rfl
theorem cd_X7_enough : Cond.code yX7_enough cX7_enough 10 (some .int) ∈ Tb := tb_in 762 (by decide +kernel) rfl
theorem im_X7_enough : Cond.instanceMethod yX7_enough ∈ Tb := tb_in 760 (by decide +kernel) rfl
theorem se_X7_enough : Cond.selects RX7 yX7_enough yX7_enough ∈ Tb := tb_in 761 (by decide +kernel) rfl
theorem cd_X7_next : Cond.code yX7_next cX7_next 6 (some .int) ∈ Tb := tb_in 772 (by decide +kernel) rfl
theorem im_X7_next : Cond.instanceMethod yX7_next ∈ Tb := tb_in 770 (by decide +kernel) rfl
theorem se_X7_next : Cond.selects RX7 yX7_next yX7_next ∈ Tb := tb_in 771 (by decide +kernel) rfl
theorem cd_X7_rank : Cond.code yX7_rank cX7_rank 4 (some .int) ∈ Tb := tb_in 784 (by decide +kernel) rfl
theorem im_X7_rank : Cond.instanceMethod yX7_rank ∈ Tb := tb_in 782 (by decide +kernel) rfl
theorem se_X7_rank : Cond.selects RX7 yX7_rank yX7_rank ∈ Tb := tb_in 783 (by decide +kernel) rfl
theorem cd_X7_keep : Cond.code yX7_keep cX7_keep 2 (some .int) ∈ Tb := tb_in 822 (by decide +kernel) rfl
theorem im_X7_keep : Cond.instanceMethod yX7_keep ∈ Tb := tb_in 820 (by decide +kernel) rfl
theorem se_X7_keep : Cond.selects RX7 yX7_keep yX7_keep ∈ Tb := tb_in 821 (by decide +kernel) rfl
theorem cd_X7_back : Cond.code yX7_back cX7_back 2 (some .int) ∈ Tb := tb_in 837 (by decide +kernel) rfl
theorem im_X7_back : Cond.instanceMethod yX7_back ∈ Tb := tb_in 835 (by decide +kernel) rfl
theorem se_X7_back : Cond.selects RX7 yX7_back yX7_back ∈ Tb := tb_in 836 (by decide +kernel) rfl
theorem cd_X7_count : Cond.code yX7_count cX7_count 2 (some .int) ∈ Tb := tb_in 841 (by decide +kernel) rfl
theorem im_X7_count : Cond.instanceMethod yX7_count ∈ Tb := tb_in 839 (by decide +kernel) rfl
theorem se_X7_count : Cond.selects RX7 yX7_count yX7_count ∈ Tb := tb_in 840 (by decide +kernel) rfl
theorem cd_X7_trace : Cond.code yX7_trace cX7_trace 1 (some .long) ∈ Tb := tb_in 849 (by decide +kernel) rfl
theorem im_X7_trace : Cond.instanceMethod yX7_trace ∈ Tb := tb_in 847 (by decide +kernel) rfl
theorem se_X7_trace : Cond.selects RX7 yX7_trace yX7_trace ∈ Tb := tb_in 848 (by decide +kernel) rfl
theorem cd_X7_isChip : Cond.code yX7_isChip cX7_isChip 2 (some .boolean) ∈ Tb := tb_in 555 (by decide +kernel) rfl
theorem im_X7_isChip : Cond.instanceMethod yX7_isChip ∈ Tb := tb_in 554 (by decide +kernel) rfl
theorem se_X7_isChip : Cond.selects RX7 yX7_isChip yX7_isChip ∈ Tb := tb_in 12 (by decide +kernel) rfl
theorem cd_X7_isCoat : Cond.code yX7_isCoat cX7_isCoat 3 (some .boolean) ∈ Tb := tb_in 571 (by decide +kernel) rfl
theorem im_X7_isCoat : Cond.instanceMethod yX7_isCoat ∈ Tb := tb_in 570 (by decide +kernel) rfl
theorem se_X7_isCoat : Cond.selects RX7 yX7_isCoat yX7_isCoat ∈ Tb := tb_in 13 (by decide +kernel) rfl
theorem cd_X7_areTwo : Cond.code yX7_areTwo cX7_areTwo 3 (some .boolean) ∈ Tb := tb_in 638 (by decide +kernel) rfl
theorem im_X7_areTwo : Cond.instanceMethod yX7_areTwo ∈ Tb := tb_in 637 (by decide +kernel) rfl
theorem se_X7_areTwo : Cond.selects RX7 yX7_areTwo yX7_areTwo ∈ Tb := tb_in 24 (by decide +kernel) rfl
theorem cd_X7_isPainting : Cond.code yX7_isPainting cX7_isPainting 2 (some .boolean) ∈ Tb := tb_in 694 (by decide +kernel) rfl
theorem im_X7_isPainting : Cond.instanceMethod yX7_isPainting ∈ Tb := tb_in 693 (by decide +kernel) rfl
theorem se_X7_isPainting : Cond.selects RX7 yX7_isPainting yX7_isPainting ∈ Tb := tb_in 30 (by decide +kernel) rfl
theorem cd_X7_findSame : Cond.code yX7_findSame cX7_findSame 2 none ∈ Tb := tb_in 579 (by decide +kernel) rfl
theorem im_X7_findSame : Cond.instanceMethod yX7_findSame ∈ Tb := tb_in 578 (by decide +kernel) rfl
theorem se_X7_findSame : Cond.selects RX7 yX7_findSame yX7_findSame ∈ Tb := tb_in 15 (by decide +kernel) rfl
theorem cd_X7_lay : Cond.code yX7_lay cX7_lay 3 none ∈ Tb := tb_in 642 (by decide +kernel) rfl
theorem im_X7_lay : Cond.instanceMethod yX7_lay ∈ Tb := tb_in 641 (by decide +kernel) rfl
theorem se_X7_lay : Cond.selects RX7 yX7_lay yX7_lay ∈ Tb := tb_in 25 (by decide +kernel) rfl
theorem cd_X7_settle : Cond.code yX7_settle cX7_settle 1 none ∈ Tb := tb_in 575 (by decide +kernel) rfl
theorem im_X7_settle : Cond.instanceMethod yX7_settle ∈ Tb := tb_in 574 (by decide +kernel) rfl
theorem se_X7_settle : Cond.selects RX7 yX7_settle yX7_settle ∈ Tb := tb_in 14 (by decide +kernel) rfl
theorem cd_X7_paintingOf : Cond.code yX7_paintingOf cX7_paintingOf 3 (some .int) ∈ Tb := tb_in 618 (by decide +kernel) rfl
theorem im_X7_paintingOf : Cond.instanceMethod yX7_paintingOf ∈ Tb := tb_in 617 (by decide +kernel) rfl
theorem se_X7_paintingOf : Cond.selects RX7 yX7_paintingOf yX7_paintingOf ∈ Tb := tb_in 23 (by decide +kernel) rfl
theorem cd_X7_missedBy : Cond.code yX7_missedBy cX7_missedBy 3 (some .int) ∈ Tb := tb_in 706 (by decide +kernel) rfl
theorem im_X7_missedBy : Cond.instanceMethod yX7_missedBy ∈ Tb := tb_in 705 (by decide +kernel) rfl
theorem se_X7_missedBy : Cond.selects RX7 yX7_missedBy yX7_missedBy ∈ Tb := tb_in 31 (by decide +kernel) rfl
theorem cd_X7_ageOf : Cond.code yX7_ageOf cX7_ageOf 2 (some .int) ∈ Tb := tb_in 710 (by decide +kernel) rfl
theorem im_X7_ageOf : Cond.instanceMethod yX7_ageOf ∈ Tb := tb_in 709 (by decide +kernel) rfl
theorem se_X7_ageOf : Cond.selects RX7 yX7_ageOf yX7_ageOf ∈ Tb := tb_in 32 (by decide +kernel) rfl
theorem cd_X7_movedFrom : Cond.code yX7_movedFrom cX7_movedFrom 8 (some .int) ∈ Tb := tb_in 714 (by decide +kernel) rfl
theorem im_X7_movedFrom : Cond.instanceMethod yX7_movedFrom ∈ Tb := tb_in 713 (by decide +kernel) rfl
theorem se_X7_movedFrom : Cond.selects RX7 yX7_movedFrom yX7_movedFrom ∈ Tb := tb_in 33 (by decide +kernel) rfl
theorem cd_X7_lastCoats : Cond.code yX7_lastCoats cX7_lastCoats 7 (some .int) ∈ Tb := tb_in 734 (by decide +kernel) rfl
theorem im_X7_lastCoats : Cond.instanceMethod yX7_lastCoats ∈ Tb := tb_in 733 (by decide +kernel) rfl
theorem se_X7_lastCoats : Cond.selects RX7 yX7_lastCoats yX7_lastCoats ∈ Tb := tb_in 34 (by decide +kernel) rfl
theorem cd_X7_oddsOfAll : Cond.code yX7_oddsOfAll cX7_oddsOfAll 6 (some .long) ∈ Tb := tb_in 767 (by decide +kernel) rfl
theorem sm_X7_oddsOfAll : Cond.static yX7_oddsOfAll ∈ Tb := tb_in 766 (by decide +kernel) rfl
theorem cd_X7_asCoat : Cond.code yX7_asCoat cX7_asCoat 3 (some .int) ∈ Tb := tb_in 789 (by decide +kernel) rfl
theorem im_X7_asCoat : Cond.instanceMethod yX7_asCoat ∈ Tb := tb_in 788 (by decide +kernel) rfl
theorem se_X7_asCoat : Cond.selects RX7 yX7_asCoat yX7_asCoat ∈ Tb := tb_in 38 (by decide +kernel) rfl
theorem cd_X7_asWhole : Cond.code yX7_asWhole cX7_asWhole 3 (some .int) ∈ Tb := tb_in 793 (by decide +kernel) rfl
theorem im_X7_asWhole : Cond.instanceMethod yX7_asWhole ∈ Tb := tb_in 792 (by decide +kernel) rfl
theorem se_X7_asWhole : Cond.selects RX7 yX7_asWhole yX7_asWhole ∈ Tb := tb_in 39 (by decide +kernel) rfl
theorem cd_X7_asUnder : Cond.code yX7_asUnder cX7_asUnder 3 (some .int) ∈ Tb := tb_in 803 (by decide +kernel) rfl
theorem im_X7_asUnder : Cond.instanceMethod yX7_asUnder ∈ Tb := tb_in 802 (by decide +kernel) rfl
theorem se_X7_asUnder : Cond.selects RX7 yX7_asUnder yX7_asUnder ∈ Tb := tb_in 40 (by decide +kernel) rfl
theorem cd_X7_asPatch : Cond.code yX7_asPatch cX7_asPatch 3 (some .int) ∈ Tb := tb_in 808 (by decide +kernel) rfl
theorem im_X7_asPatch : Cond.instanceMethod yX7_asPatch ∈ Tb := tb_in 807 (by decide +kernel) rfl
theorem se_X7_asPatch : Cond.selects RX7 yX7_asPatch yX7_asPatch ∈ Tb := tb_in 41 (by decide +kernel) rfl
theorem cd_X7_asScraped : Cond.code yX7_asScraped cX7_asScraped 3 (some .int) ∈ Tb := tb_in 813 (by decide +kernel) rfl
theorem im_X7_asScraped : Cond.instanceMethod yX7_asScraped ∈ Tb := tb_in 812 (by decide +kernel) rfl
theorem se_X7_asScraped : Cond.selects RX7 yX7_asScraped yX7_asScraped ∈ Tb := tb_in 42 (by decide +kernel) rfl
theorem cd_X7_asVarnish : Cond.code yX7_asVarnish cX7_asVarnish 3 (some .int) ∈ Tb := tb_in 817 (by decide +kernel) rfl
theorem im_X7_asVarnish : Cond.instanceMethod yX7_asVarnish ∈ Tb := tb_in 816 (by decide +kernel) rfl
theorem se_X7_asVarnish : Cond.selects RX7 yX7_asVarnish yX7_asVarnish ∈ Tb := tb_in 43 (by decide +kernel) rfl
theorem cd_X8_init : Cond.code yX8_init cX8_init 2 none ∈ Tb := tb_in 854 (by decide +kernel) rfl
theorem im_X8_init : Cond.instanceMethod yX8_init ∈ Tb := tb_in 853 (by decide +kernel) rfl
theorem cd_X8_in : Cond.code yX8_in cX8_in 3 (some .boolean) ∈ Tb := tb_in 1016 (by decide +kernel) rfl
theorem sm_X8_in : Cond.static yX8_in ∈ Tb := tb_in 1015 (by decide +kernel) rfl
theorem cd_X8_type : Cond.code yX8_type cX8_type 5 (some .int) ∈ Tb := tb_in 1013 (by decide +kernel) rfl
theorem im_X8_type : Cond.instanceMethod yX8_type ∈ Tb := tb_in 1011 (by decide +kernel) rfl
theorem se_X8_type : Cond.selects RX8 yX8_type yX8_type ∈ Tb := tb_in 1012 (by decide +kernel) rfl
theorem cd_X8_clear : Cond.code yX8_clear cX8_clear 2 (some .int) ∈ Tb := tb_in 1021 (by decide +kernel) rfl
theorem im_X8_clear : Cond.instanceMethod yX8_clear ∈ Tb := tb_in 1019 (by decide +kernel) rfl
theorem se_X8_clear : Cond.selects RX8 yX8_clear yX8_clear ∈ Tb := tb_in 1020 (by decide +kernel) rfl
theorem cd_X8_isLetter : Cond.code yX8_isLetter cX8_isLetter 1 (some .boolean) ∈ Tb := tb_in 1040 (by decide +kernel) rfl
theorem sm_X8_isLetter : Cond.static yX8_isLetter ∈ Tb := tb_in 1039 (by decide +kernel) rfl
theorem cd_X8_isDigit : Cond.code yX8_isDigit cX8_isDigit 1 (some .boolean) ∈ Tb := tb_in 1052 (by decide +kernel) rfl
theorem sm_X8_isDigit : Cond.static yX8_isDigit ∈ Tb := tb_in 1051 (by decide +kernel) rfl
theorem cd_X8_look : Cond.code yX8_look cX8_look 1 (some .int) ∈ Tb := tb_in 1037 (by decide +kernel) rfl
theorem im_X8_look : Cond.instanceMethod yX8_look ∈ Tb := tb_in 1036 (by decide +kernel) rfl
theorem se_X8_look : Cond.selects RX8 yX8_look yX8_look ∈ Tb := tb_in 46 (by decide +kernel) rfl
theorem cd_X8_read : Cond.code yX8_read cX8_read 2 none ∈ Tb := tb_in 1033 (by decide +kernel) rfl
theorem im_X8_read : Cond.instanceMethod yX8_read ∈ Tb := tb_in 1032 (by decide +kernel) rfl
theorem se_X8_read : Cond.selects RX8 yX8_read yX8_read ∈ Tb := tb_in 45 (by decide +kernel) rfl
theorem cd_X8_word : Cond.code yX8_word cX8_word 3 none ∈ Tb := tb_in 1044 (by decide +kernel) rfl
theorem im_X8_word : Cond.instanceMethod yX8_word ∈ Tb := tb_in 1043 (by decide +kernel) rfl
theorem se_X8_word : Cond.selects RX8 yX8_word yX8_word ∈ Tb := tb_in 47 (by decide +kernel) rfl
theorem cd_X8_isNumber : Cond.code yX8_isNumber cX8_isNumber 3 (some .boolean) ∈ Tb := tb_in 1056 (by decide +kernel) rfl
theorem im_X8_isNumber : Cond.instanceMethod yX8_isNumber ∈ Tb := tb_in 1055 (by decide +kernel) rfl
theorem se_X8_isNumber : Cond.selects RX8 yX8_isNumber yX8_isNumber ∈ Tb := tb_in 48 (by decide +kernel) rfl
theorem cd_X8_isChip : Cond.code yX8_isChip cX8_isChip 1 (some .boolean) ∈ Tb := tb_in 1029 (by decide +kernel) rfl
theorem im_X8_isChip : Cond.instanceMethod yX8_isChip ∈ Tb := tb_in 1028 (by decide +kernel) rfl
theorem se_X8_isChip : Cond.selects RX8 yX8_isChip yX8_isChip ∈ Tb := tb_in 44 (by decide +kernel) rfl
theorem cd_X8_chip : Cond.code yX8_chip cX8_chip 2 (some .int) ∈ Tb := tb_in 1025 (by decide +kernel) rfl
theorem im_X8_chip : Cond.instanceMethod yX8_chip ∈ Tb := tb_in 1023 (by decide +kernel) rfl
theorem se_X8_chip : Cond.selects RX8 yX8_chip yX8_chip ∈ Tb := tb_in 1024 (by decide +kernel) rfl
theorem cd_X8_isStuff : Cond.code yX8_isStuff cX8_isStuff 4 (some .boolean) ∈ Tb := tb_in 1064 (by decide +kernel) rfl
theorem im_X8_isStuff : Cond.instanceMethod yX8_isStuff ∈ Tb := tb_in 1063 (by decide +kernel) rfl
theorem se_X8_isStuff : Cond.selects RX8 yX8_isStuff yX8_isStuff ∈ Tb := tb_in 49 (by decide +kernel) rfl
theorem cd_X8_areAlike : Cond.code yX8_areAlike cX8_areAlike 3 (some .boolean) ∈ Tb := tb_in 1068 (by decide +kernel) rfl
theorem im_X8_areAlike : Cond.instanceMethod yX8_areAlike ∈ Tb := tb_in 1067 (by decide +kernel) rfl
theorem se_X8_areAlike : Cond.selects RX8 yX8_areAlike yX8_areAlike ∈ Tb := tb_in 50 (by decide +kernel) rfl
theorem cd_X8_isBill : Cond.code yX8_isBill cX8_isBill 1 (some .boolean) ∈ Tb := tb_in 1072 (by decide +kernel) rfl
theorem im_X8_isBill : Cond.instanceMethod yX8_isBill ∈ Tb := tb_in 1071 (by decide +kernel) rfl
theorem se_X8_isBill : Cond.selects RX8 yX8_isBill yX8_isBill ∈ Tb := tb_in 51 (by decide +kernel) rfl
theorem cd_X8_book : Cond.code yX8_book cX8_book 3 (some .int) ∈ Tb := tb_in 1060 (by decide +kernel) rfl
theorem im_X8_book : Cond.instanceMethod yX8_book ∈ Tb := tb_in 1058 (by decide +kernel) rfl
theorem se_X8_book : Cond.selects RX8 yX8_book yX8_book ∈ Tb := tb_in 1059 (by decide +kernel) rfl
theorem cd_X8_isChipAt : Cond.code yX8_isChipAt cX8_isChipAt 2 (some .boolean) ∈ Tb := tb_in 1080 (by decide +kernel) rfl
theorem im_X8_isChipAt : Cond.instanceMethod yX8_isChipAt ∈ Tb := tb_in 1079 (by decide +kernel) rfl
theorem se_X8_isChipAt : Cond.selects RX8 yX8_isChipAt yX8_isChipAt ∈ Tb := tb_in 52 (by decide +kernel) rfl
theorem cd_X8_drop : Cond.code yX8_drop cX8_drop 4 (some .int) ∈ Tb := tb_in 1076 (by decide +kernel) rfl
theorem im_X8_drop : Cond.instanceMethod yX8_drop ∈ Tb := tb_in 1074 (by decide +kernel) rfl
theorem se_X8_drop : Cond.selects RX8 yX8_drop yX8_drop ∈ Tb := tb_in 1075 (by decide +kernel) rfl
theorem cd_X8_about : Cond.code yX8_about cX8_about 3 (some .int) ∈ Tb := tb_in 1084 (by decide +kernel) rfl
theorem im_X8_about : Cond.instanceMethod yX8_about ∈ Tb := tb_in 1082 (by decide +kernel) rfl
theorem se_X8_about : Cond.selects RX8 yX8_about yX8_about ∈ Tb := tb_in 1083 (by decide +kernel) rfl
theorem cd_X8_isCoat : Cond.code yX8_isCoat cX8_isCoat 3 (some .boolean) ∈ Tb := tb_in 1092 (by decide +kernel) rfl
theorem im_X8_isCoat : Cond.instanceMethod yX8_isCoat ∈ Tb := tb_in 1091 (by decide +kernel) rfl
theorem se_X8_isCoat : Cond.selects RX8 yX8_isCoat yX8_isCoat ∈ Tb := tb_in 53 (by decide +kernel) rfl
theorem cd_X8_coat : Cond.code yX8_coat cX8_coat 4 (some .int) ∈ Tb := tb_in 1088 (by decide +kernel) rfl
theorem im_X8_coat : Cond.instanceMethod yX8_coat ∈ Tb := tb_in 1086 (by decide +kernel) rfl
theorem se_X8_coat : Cond.selects RX8 yX8_coat yX8_coat ∈ Tb := tb_in 1087 (by decide +kernel) rfl
theorem cd_X8_colour : Cond.code yX8_colour cX8_colour 3 (some .int) ∈ Tb := tb_in 1124 (by decide +kernel) rfl
theorem im_X8_colour : Cond.instanceMethod yX8_colour ∈ Tb := tb_in 1122 (by decide +kernel) rfl
theorem se_X8_colour : Cond.selects RX8 yX8_colour yX8_colour ∈ Tb := tb_in 1123 (by decide +kernel) rfl
theorem cd_X8_tune : Cond.code yX8_tune cX8_tune 5 (some .int) ∈ Tb := tb_in 1128 (by decide +kernel) rfl
theorem im_X8_tune : Cond.instanceMethod yX8_tune ∈ Tb := tb_in 1126 (by decide +kernel) rfl
theorem se_X8_tune : Cond.selects RX8 yX8_tune yX8_tune ∈ Tb := tb_in 1127 (by decide +kernel) rfl
theorem cd_X8_isSame : Cond.code yX8_isSame cX8_isSame 3 (some .boolean) ∈ Tb := tb_in 1108 (by decide +kernel) rfl
theorem im_X8_isSame : Cond.instanceMethod yX8_isSame ∈ Tb := tb_in 1107 (by decide +kernel) rfl
theorem se_X8_isSame : Cond.selects RX8 yX8_isSame yX8_isSame ∈ Tb := tb_in 57 (by decide +kernel) rfl
theorem cd_X8_costOf : Cond.code yX8_costOf cX8_costOf 7 (some .int) ∈ Tb := tb_in 1148 (by decide +kernel) rfl
theorem im_X8_costOf : Cond.instanceMethod yX8_costOf ∈ Tb := tb_in 1147 (by decide +kernel) rfl
theorem se_X8_costOf : Cond.selects RX8 yX8_costOf yX8_costOf ∈ Tb := tb_in 64 (by decide +kernel) rfl
theorem cd_X8_areSame : Cond.code yX8_areSame cX8_areSame 5 (some .boolean) ∈ Tb := tb_in 1144 (by decide +kernel) rfl
theorem im_X8_areSame : Cond.instanceMethod yX8_areSame ∈ Tb := tb_in 1143 (by decide +kernel) rfl
theorem se_X8_areSame : Cond.selects RX8 yX8_areSame yX8_areSame ∈ Tb := tb_in 63 (by decide +kernel) rfl
theorem cd_X8_lay : Cond.code yX8_lay cX8_lay 9 none ∈ Tb := tb_in 1140 (by decide +kernel) rfl
theorem im_X8_lay : Cond.instanceMethod yX8_lay ∈ Tb := tb_in 1139 (by decide +kernel) rfl
theorem se_X8_lay : Cond.selects RX8 yX8_lay yX8_lay ∈ Tb := tb_in 62 (by decide +kernel) rfl
theorem cd_X8_areTwo : Cond.code yX8_areTwo cX8_areTwo 3 (some .boolean) ∈ Tb := tb_in 1136 (by decide +kernel) rfl
theorem im_X8_areTwo : Cond.instanceMethod yX8_areTwo ∈ Tb := tb_in 1135 (by decide +kernel) rfl
theorem se_X8_areTwo : Cond.selects RX8 yX8_areTwo yX8_areTwo ∈ Tb := tb_in 61 (by decide +kernel) rfl
theorem cd_X8_least : Cond.code yX8_least cX8_least 3 (some .int) ∈ Tb := tb_in 1132 (by decide +kernel) rfl
theorem im_X8_least : Cond.instanceMethod yX8_least ∈ Tb := tb_in 1130 (by decide +kernel) rfl
theorem se_X8_least : Cond.selects RX8 yX8_least yX8_least ∈ Tb := tb_in 1131 (by decide +kernel) rfl
theorem cd_X8_ways : Cond.code yX8_ways cX8_ways 3 (some .long) ∈ Tb := tb_in 1152 (by decide +kernel) rfl
theorem im_X8_ways : Cond.instanceMethod yX8_ways ∈ Tb := tb_in 1150 (by decide +kernel) rfl
theorem se_X8_ways : Cond.selects RX8 yX8_ways yX8_ways ∈ Tb := tb_in 1151 (by decide +kernel) rfl
theorem cd_X8_laid : Cond.code yX8_laid cX8_laid 8 (some .int) ∈ Tb := tb_in 1157 (by decide +kernel) rfl
theorem im_X8_laid : Cond.instanceMethod yX8_laid ∈ Tb := tb_in 1155 (by decide +kernel) rfl
theorem se_X8_laid : Cond.selects RX8 yX8_laid yX8_laid ∈ Tb := tb_in 1156 (by decide +kernel) rfl
theorem cd_X8_behind : Cond.code yX8_behind cX8_behind 5 (some .int) ∈ Tb := tb_in 1104 (by decide +kernel) rfl
theorem im_X8_behind : Cond.instanceMethod yX8_behind ∈ Tb := tb_in 1103 (by decide +kernel) rfl
theorem se_X8_behind : Cond.selects RX8 yX8_behind yX8_behind ∈ Tb := tb_in 56 (by decide +kernel) rfl
theorem cd_X8_make : Cond.code yX8_make cX8_make 3 none ∈ Tb := tb_in 1096 (by decide +kernel) rfl
theorem im_X8_make : Cond.instanceMethod yX8_make ∈ Tb := tb_in 1095 (by decide +kernel) rfl
theorem se_X8_make : Cond.selects RX8 yX8_make yX8_make ∈ Tb := tb_in 54 (by decide +kernel) rfl
theorem cd_X8_weigh : Cond.code yX8_weigh cX8_weigh 8 none ∈ Tb := tb_in 1100 (by decide +kernel) rfl
theorem im_X8_weigh : Cond.instanceMethod yX8_weigh ∈ Tb := tb_in 1099 (by decide +kernel) rfl
theorem se_X8_weigh : Cond.selects RX8 yX8_weigh yX8_weigh ∈ Tb := tb_in 55 (by decide +kernel) rfl
theorem cd_X8_goOn : Cond.code yX8_goOn cX8_goOn 5 (some .int) ∈ Tb := tb_in 1112 (by decide +kernel) rfl
theorem im_X8_goOn : Cond.instanceMethod yX8_goOn ∈ Tb := tb_in 1111 (by decide +kernel) rfl
theorem se_X8_goOn : Cond.selects RX8 yX8_goOn yX8_goOn ∈ Tb := tb_in 58 (by decide +kernel) rfl
theorem cd_X8_hasPainting : Cond.code yX8_hasPainting cX8_hasPainting 5 (some .boolean) ∈ Tb := tb_in 1169 (by decide +kernel) rfl
theorem im_X8_hasPainting : Cond.instanceMethod yX8_hasPainting ∈ Tb := tb_in 1168 (by decide +kernel) rfl
theorem se_X8_hasPainting : Cond.selects RX8 yX8_hasPainting yX8_hasPainting ∈ Tb := tb_in 65 (by decide +kernel) rfl
theorem cd_X8_painting : Cond.code yX8_painting cX8_painting 2 (some .int) ∈ Tb := tb_in 1161 (by decide +kernel) rfl
theorem im_X8_painting : Cond.instanceMethod yX8_painting ∈ Tb := tb_in 1159 (by decide +kernel) rfl
theorem se_X8_painting : Cond.selects RX8 yX8_painting yX8_painting ∈ Tb := tb_in 1160 (by decide +kernel) rfl
theorem cd_X8_had : Cond.code yX8_had cX8_had 4 (some .int) ∈ Tb := tb_in 1165 (by decide +kernel) rfl
theorem im_X8_had : Cond.instanceMethod yX8_had ∈ Tb := tb_in 1163 (by decide +kernel) rfl
theorem se_X8_had : Cond.selects RX8 yX8_had yX8_had ∈ Tb := tb_in 1164 (by decide +kernel) rfl
theorem cd_X8_moved : Cond.code yX8_moved cX8_moved 6 (some .int) ∈ Tb := tb_in 1177 (by decide +kernel) rfl
theorem im_X8_moved : Cond.instanceMethod yX8_moved ∈ Tb := tb_in 1176 (by decide +kernel) rfl
theorem se_X8_moved : Cond.selects RX8 yX8_moved yX8_moved ∈ Tb := tb_in 66 (by decide +kernel) rfl
theorem cd_X8_face : Cond.code yX8_face cX8_face 5 (some .int) ∈ Tb := tb_in 1173 (by decide +kernel) rfl
theorem im_X8_face : Cond.instanceMethod yX8_face ∈ Tb := tb_in 1171 (by decide +kernel) rfl
theorem se_X8_face : Cond.selects RX8 yX8_face yX8_face ∈ Tb := tb_in 1172 (by decide +kernel) rfl
theorem cd_X8_later : Cond.code yX8_later cX8_later 5 (some .int) ∈ Tb := tb_in 1120 (by decide +kernel) rfl
theorem im_X8_later : Cond.instanceMethod yX8_later ∈ Tb := tb_in 1119 (by decide +kernel) rfl
theorem se_X8_later : Cond.selects RX8 yX8_later yX8_later ∈ Tb := tb_in 60 (by decide +kernel) rfl
theorem cd_X8_years : Cond.code yX8_years cX8_years 3 none ∈ Tb := tb_in 1116 (by decide +kernel) rfl
theorem im_X8_years : Cond.instanceMethod yX8_years ∈ Tb := tb_in 1115 (by decide +kernel) rfl
theorem se_X8_years : Cond.selects RX8 yX8_years yX8_years ∈ Tb := tb_in 59 (by decide +kernel) rfl
theorem cd_X8_span : Cond.code yX8_span cX8_span 3 (some .int) ∈ Tb := tb_in 1182 (by decide +kernel) rfl
theorem im_X8_span : Cond.instanceMethod yX8_span ∈ Tb := tb_in 1180 (by decide +kernel) rfl
theorem se_X8_span : Cond.selects RX8 yX8_span yX8_span ∈ Tb := tb_in 1181 (by decide +kernel) rfl
theorem cd_X8_day : Cond.code yX8_day cX8_day 6 (some .int) ∈ Tb := tb_in 1186 (by decide +kernel) rfl
theorem im_X8_day : Cond.instanceMethod yX8_day ∈ Tb := tb_in 1184 (by decide +kernel) rfl
theorem se_X8_day : Cond.selects RX8 yX8_day yX8_day ∈ Tb := tb_in 1185 (by decide +kernel) rfl
theorem cd_X8_bill : Cond.code yX8_bill cX8_bill 3 (some .int) ∈ Tb := tb_in 1190 (by decide +kernel) rfl
theorem im_X8_bill : Cond.instanceMethod yX8_bill ∈ Tb := tb_in 1188 (by decide +kernel) rfl
theorem se_X8_bill : Cond.selects RX8 yX8_bill yX8_bill ∈ Tb := tb_in 1189 (by decide +kernel) rfl
theorem cd_X8_suits : Cond.code yX8_suits cX8_suits 4 (some .boolean) ∈ Tb := tb_in 1198 (by decide +kernel) rfl
theorem im_X8_suits : Cond.instanceMethod yX8_suits ∈ Tb := tb_in 1197 (by decide +kernel) rfl
theorem se_X8_suits : Cond.selects RX8 yX8_suits yX8_suits ∈ Tb := tb_in 67 (by decide +kernel) rfl
theorem cd_X8_billed : Cond.code yX8_billed cX8_billed 6 (some .int) ∈ Tb := tb_in 1194 (by decide +kernel) rfl
theorem im_X8_billed : Cond.instanceMethod yX8_billed ∈ Tb := tb_in 1192 (by decide +kernel) rfl
theorem se_X8_billed : Cond.selects RX8 yX8_billed yX8_billed ∈ Tb := tb_in 1193 (by decide +kernel) rfl
theorem cd_X8_enough : Cond.code yX8_enough cX8_enough 13 (some .int) ∈ Tb := tb_in 1202 (by decide +kernel) rfl
theorem im_X8_enough : Cond.instanceMethod yX8_enough ∈ Tb := tb_in 1200 (by decide +kernel) rfl
theorem se_X8_enough : Cond.selects RX8 yX8_enough yX8_enough ∈ Tb := tb_in 1201 (by decide +kernel) rfl
theorem cd_X8_next : Cond.code yX8_next cX8_next 9 (some .int) ∈ Tb := tb_in 1209 (by decide +kernel) rfl
theorem im_X8_next : Cond.instanceMethod yX8_next ∈ Tb := tb_in 1207 (by decide +kernel) rfl
theorem se_X8_next : Cond.selects RX8 yX8_next yX8_next ∈ Tb := tb_in 1208 (by decide +kernel) rfl
theorem cd_X8_ofCoat : Cond.code yX8_ofCoat cX8_ofCoat 3 (some .int) ∈ Tb := tb_in 1218 (by decide +kernel) rfl
theorem im_X8_ofCoat : Cond.instanceMethod yX8_ofCoat ∈ Tb := tb_in 1217 (by decide +kernel) rfl
theorem se_X8_ofCoat : Cond.selects RX8 yX8_ofCoat yX8_ofCoat ∈ Tb := tb_in 68 (by decide +kernel) rfl
theorem cd_X8_ofWhole : Cond.code yX8_ofWhole cX8_ofWhole 5 (some .int) ∈ Tb := tb_in 1222 (by decide +kernel) rfl
theorem im_X8_ofWhole : Cond.instanceMethod yX8_ofWhole ∈ Tb := tb_in 1221 (by decide +kernel) rfl
theorem se_X8_ofWhole : Cond.selects RX8 yX8_ofWhole yX8_ofWhole ∈ Tb := tb_in 69 (by decide +kernel) rfl
theorem cd_X8_ofUnder : Cond.code yX8_ofUnder cX8_ofUnder 3 (some .int) ∈ Tb := tb_in 1226 (by decide +kernel) rfl
theorem im_X8_ofUnder : Cond.instanceMethod yX8_ofUnder ∈ Tb := tb_in 1225 (by decide +kernel) rfl
theorem se_X8_ofUnder : Cond.selects RX8 yX8_ofUnder yX8_ofUnder ∈ Tb := tb_in 70 (by decide +kernel) rfl
theorem cd_X8_rank : Cond.code yX8_rank cX8_rank 4 (some .int) ∈ Tb := tb_in 1213 (by decide +kernel) rfl
theorem im_X8_rank : Cond.instanceMethod yX8_rank ∈ Tb := tb_in 1211 (by decide +kernel) rfl
theorem se_X8_rank : Cond.selects RX8 yX8_rank yX8_rank ∈ Tb := tb_in 1212 (by decide +kernel) rfl
theorem cd_X8_keep : Cond.code yX8_keep cX8_keep 3 (some .int) ∈ Tb := tb_in 1233 (by decide +kernel) rfl
theorem im_X8_keep : Cond.instanceMethod yX8_keep ∈ Tb := tb_in 1231 (by decide +kernel) rfl
theorem se_X8_keep : Cond.selects RX8 yX8_keep yX8_keep ∈ Tb := tb_in 1232 (by decide +kernel) rfl
theorem cd_X8_back : Cond.code yX8_back cX8_back 3 (some .int) ∈ Tb := tb_in 1237 (by decide +kernel) rfl
theorem im_X8_back : Cond.instanceMethod yX8_back ∈ Tb := tb_in 1235 (by decide +kernel) rfl
theorem se_X8_back : Cond.selects RX8 yX8_back yX8_back ∈ Tb := tb_in 1236 (by decide +kernel) rfl
theorem cd_X8_count : Cond.code yX8_count cX8_count 4 (some .int) ∈ Tb := tb_in 1241 (by decide +kernel) rfl
theorem im_X8_count : Cond.instanceMethod yX8_count ∈ Tb := tb_in 1239 (by decide +kernel) rfl
theorem se_X8_count : Cond.selects RX8 yX8_count yX8_count ∈ Tb := tb_in 1240 (by decide +kernel) rfl
theorem cd_X8_trace : Cond.code yX8_trace cX8_trace 1 (some .long) ∈ Tb := tb_in 1245 (by decide +kernel) rfl
theorem im_X8_trace : Cond.instanceMethod yX8_trace ∈ Tb := tb_in 1243 (by decide +kernel) rfl
theorem se_X8_trace : Cond.selects RX8 yX8_trace yX8_trace ∈ Tb := tb_in 1244 (by decide +kernel) rfl
theorem cd_J6_bitCount_0f7a4 : Cond.code yJ6_bitCount_0f7a4 cJ6_bitCount_0f7a4 1 (some .int) ∈ Tb := tb_in 796 (by decide +kernel) rfl
theorem sm_J6_bitCount_0f7a4 : Cond.static yJ6_bitCount_0f7a4 ∈ Tb := tb_in 795 (by decide +kernel) rfl
theorem cd_J9_abs_0f7a4 : Cond.code yJ9_abs_0f7a4 cJ9_abs_0f7a4 1 (some .int) ∈ Tb := tb_in 661 (by decide +kernel) rfl
theorem sm_J9_abs_0f7a4 : Cond.static yJ9_abs_0f7a4 ∈ Tb := tb_in 660 (by decide +kernel) rfl
theorem cd_J9_max_7cf53 : Cond.code yJ9_max_7cf53 cJ9_max_7cf53 2 (some .int) ∈ Tb := tb_in 590 (by decide +kernel) rfl
theorem sm_J9_max_7cf53 : Cond.static yJ9_max_7cf53 ∈ Tb := tb_in 589 (by decide +kernel) rfl
theorem cd_J9_min_7cf53 : Cond.code yJ9_min_7cf53 cJ9_min_7cf53 2 (some .int) ∈ Tb := tb_in 726 (by decide +kernel) rfl
theorem sm_J9_min_7cf53 : Cond.static yJ9_min_7cf53 ∈ Tb := tb_in 725 (by decide +kernel) rfl
theorem cd_J0_length_8abf5 : Cond.code yJ0_length_8abf5 cJ0_length_8abf5 1 (some .int) ∈ Tb := tb_in 443 (by decide +kernel) rfl
theorem im_J0_length_8abf5 : Cond.instanceMethod yJ0_length_8abf5 ∈ Tb := tb_in 441 (by decide +kernel) rfl
theorem se_J0_length_8abf5 : Cond.selects RJ0 yJ0_length_8abf5 yJ0_length_8abf5 ∈ Tb := tb_in 442 (by decide +kernel) rfl
theorem cd_J0_charAt_5068e : Cond.code yJ0_charAt_5068e cJ0_charAt_5068e 2 (some .char) ∈ Tb := tb_in 453 (by decide +kernel) rfl
theorem im_J0_charAt_5068e : Cond.instanceMethod yJ0_charAt_5068e ∈ Tb := tb_in 451 (by decide +kernel) rfl
theorem se_J0_charAt_5068e : Cond.selects RJ0 yJ0_charAt_5068e yJ0_charAt_5068e ∈ Tb := tb_in 452 (by decide +kernel) rfl
theorem cd_J0_coder_7d493 : Cond.code yJ0_coder_7d493 cJ0_coder_7d493 1 (some .byte) ∈ Tb := tb_in 447 (by decide +kernel) rfl
theorem im_J0_coder_7d493 : Cond.instanceMethod yJ0_coder_7d493 ∈ Tb := tb_in 445 (by decide +kernel) rfl
theorem se_J0_coder_7d493 : Cond.selects RJ0 yJ0_coder_7d493 yJ0_coder_7d493 ∈ Tb := tb_in 446 (by decide +kernel) rfl
theorem cd_J0_isLatin1_aae02 : Cond.code yJ0_isLatin1_aae02 cJ0_isLatin1_aae02 1 (some .boolean) ∈ Tb := tb_in 457 (by decide +kernel) rfl
theorem im_J0_isLatin1_aae02 : Cond.instanceMethod yJ0_isLatin1_aae02 ∈ Tb := tb_in 455 (by decide +kernel) rfl
theorem se_J0_isLatin1_aae02 : Cond.selects RJ0 yJ0_isLatin1_aae02 yJ0_isLatin1_aae02 ∈ Tb := tb_in 456 (by decide +kernel) rfl
theorem cd_J0_checkIndex_df160 : Cond.code yJ0_checkIndex_df160 cJ0_checkIndex_df160 2 none ∈ Tb := tb_in 463 (by decide +kernel) rfl
theorem sm_J0_checkIndex_df160 : Cond.static yJ0_checkIndex_df160 ∈ Tb := tb_in 462 (by decide +kernel) rfl
theorem cd_J1_charAt_3b067 : Cond.code yJ1_charAt_3b067 cJ1_charAt_3b067 2 (some .char) ∈ Tb := tb_in 460 (by decide +kernel) rfl
theorem sm_J1_charAt_3b067 : Cond.static yJ1_charAt_3b067 ∈ Tb := tb_in 459 (by decide +kernel) rfl
theorem cd_J2_getChar_3b067 : Cond.code yJ2_getChar_3b067 cJ2_getChar_3b067 2 (some .char) ∈ Tb := tb_in 481 (by decide +kernel) rfl
theorem sm_J2_getChar_3b067 : Cond.static yJ2_getChar_3b067 ∈ Tb := tb_in 480 (by decide +kernel) rfl
theorem cd_J2_length_9d52b : Cond.code yJ2_length_9d52b cJ2_length_9d52b 1 (some .int) ∈ Tb := tb_in 477 (by decide +kernel) rfl
theorem sm_J2_length_9d52b : Cond.static yJ2_length_9d52b ∈ Tb := tb_in 476 (by decide +kernel) rfl
theorem cd_J2_charAt_3b067 : Cond.code yJ2_charAt_3b067 cJ2_charAt_3b067 2 (some .char) ∈ Tb := tb_in 471 (by decide +kernel) rfl
theorem sm_J2_charAt_3b067 : Cond.static yJ2_charAt_3b067 ∈ Tb := tb_in 470 (by decide +kernel) rfl
theorem cd_J2_checkIndex_2214a : Cond.code yJ2_checkIndex_2214a cJ2_checkIndex_2214a 2 none ∈ Tb := tb_in 474 (by decide +kernel) rfl
theorem sm_J2_checkIndex_2214a : Cond.static yJ2_checkIndex_2214a ∈ Tb := tb_in 473 (by decide +kernel) rfl
theorem cd_J7_fill_53178 : Cond.code yJ7_fill_53178 cJ7_fill_53178 4 none ∈ Tb := tb_in 317 (by decide +kernel) rfl
theorem sm_J7_fill_53178 : Cond.static yJ7_fill_53178 ∈ Tb := tb_in 316 (by decide +kernel) rfl
theorem cd_J3_checkIndex_8e157 : Cond.code yJ3_checkIndex_8e157 cJ3_checkIndex_8e157 3 (some .int) ∈ Tb := tb_in 468 (by decide +kernel) rfl
theorem sm_J3_checkIndex_8e157 : Cond.static yJ3_checkIndex_8e157 ∈ Tb := tb_in 467 (by decide +kernel) rfl
theorem cl_L_7 : Cond.classLink RL 7 RX7 ∈ Tb := tb_in 89 (by decide +kernel) rfl
theorem nw_X7 : Cond.instantiable RX7 12 ∈ Tb := tb_in 90 (by decide +kernel) rfl
theorem ml_L_9 : Cond.methodLink RL 9 yX7_init ∈ Tb := tb_in 91 (by decide +kernel) rfl
theorem cl_X7_9 : Cond.classLink RX7 9 RX5 ∈ Tb := tb_in 97 (by decide +kernel) rfl
theorem nw_X5 : Cond.instantiable RX5 8 ∈ Tb := tb_in 98 (by decide +kernel) rfl
theorem fl_X5_9 : Cond.fieldLink RX5 9 (TX5 0).1 (TX5 0).2.1 (TX5 0).2.2.1 ∈ Tb := tb_in 103 (by decide +kernel) rfl
theorem fl_X5_25 : Cond.fieldLink RX5 25 (TX5 1).1 (TX5 1).2.1 (TX5 1).2.2.1 ∈ Tb := tb_in 104 (by decide +kernel) rfl
theorem fl_X7_69 : Cond.fieldLink RX7 69 (TX5 1).1 (TX5 1).2.1 (TX5 1).2.2.1 ∈ Tb := tb_in 105 (by decide +kernel) rfl
theorem fl_X1_28 : Cond.fieldLink RX1 28 (TX5 2).1 (TX5 2).2.1 (TX5 2).2.2.1 ∈ Tb := tb_in 106 (by decide +kernel) rfl
theorem fl_X0_65 : Cond.fieldLink RX0 65 (TX5 2).1 (TX5 2).2.1 (TX5 2).2.2.1 ∈ Tb := tb_in 107 (by decide +kernel) rfl
theorem fl_X5_43 : Cond.fieldLink RX5 43 (TX5 2).1 (TX5 2).2.1 (TX5 2).2.2.1 ∈ Tb := tb_in 108 (by decide +kernel) rfl
theorem fl_X5_15 : Cond.fieldLink RX5 15 (TX5 3).1 (TX5 3).2.1 (TX5 3).2.2.1 ∈ Tb := tb_in 109 (by decide +kernel) rfl
theorem fl_X5_19 : Cond.fieldLink RX5 19 (TX5 4).1 (TX5 4).2.1 (TX5 4).2.2.1 ∈ Tb := tb_in 110 (by decide +kernel) rfl
theorem fl_X5_22 : Cond.fieldLink RX5 22 (TX5 5).1 (TX5 5).2.1 (TX5 5).2.2.1 ∈ Tb := tb_in 111 (by decide +kernel) rfl
theorem fl_X5_29 : Cond.fieldLink RX5 29 (TX5 6).1 (TX5 6).2.1 (TX5 6).2.2.1 ∈ Tb := tb_in 112 (by decide +kernel) rfl
theorem fl_X5_32 : Cond.fieldLink RX5 32 (TX5 7).1 (TX5 7).2.1 (TX5 7).2.2.1 ∈ Tb := tb_in 113 (by decide +kernel) rfl
theorem cl_X7_16 : Cond.classLink RX7 16 RX4 ∈ Tb := tb_in 133 (by decide +kernel) rfl
theorem nw_X4 : Cond.instantiable RX4 3 ∈ Tb := tb_in 134 (by decide +kernel) rfl
theorem ml_X7_18 : Cond.methodLink RX7 18 yX4_init ∈ Tb := tb_in 135 (by decide +kernel) rfl
theorem cl_X4_9 : Cond.classLink RX4 9 RX1 ∈ Tb := tb_in 139 (by decide +kernel) rfl
theorem nw_X1 : Cond.instantiable RX1 5 ∈ Tb := tb_in 141 (by decide +kernel) rfl
theorem fl_X1_9 : Cond.fieldLink RX1 9 (TX1 0).1 (TX1 0).2.1 (TX1 0).2.2.1 ∈ Tb := tb_in 146 (by decide +kernel) rfl
theorem fl_X3_87 : Cond.fieldLink RX3 87 (TX1 0).1 (TX1 0).2.1 (TX1 0).2.2.1 ∈ Tb := tb_in 147 (by decide +kernel) rfl
theorem fl_X2_57 : Cond.fieldLink RX2 57 (TX1 0).1 (TX1 0).2.1 (TX1 0).2.2.1 ∈ Tb := tb_in 148 (by decide +kernel) rfl
theorem fl_X7_122 : Cond.fieldLink RX7 122 (TX1 0).1 (TX1 0).2.1 (TX1 0).2.2.1 ∈ Tb := tb_in 149 (by decide +kernel) rfl
theorem fl_X1_15 : Cond.fieldLink RX1 15 (TX1 1).1 (TX1 1).2.1 (TX1 1).2.2.1 ∈ Tb := tb_in 150 (by decide +kernel) rfl
theorem fl_X7_125 : Cond.fieldLink RX7 125 (TX1 1).1 (TX1 1).2.1 (TX1 1).2.2.1 ∈ Tb := tb_in 151 (by decide +kernel) rfl
theorem fl_X3_95 : Cond.fieldLink RX3 95 (TX1 1).1 (TX1 1).2.1 (TX1 1).2.2.1 ∈ Tb := tb_in 152 (by decide +kernel) rfl
theorem fl_X2_60 : Cond.fieldLink RX2 60 (TX1 1).1 (TX1 1).2.1 (TX1 1).2.2.1 ∈ Tb := tb_in 153 (by decide +kernel) rfl
theorem fl_X1_32 : Cond.fieldLink RX1 32 (TX1 2).1 (TX1 2).2.1 (TX1 2).2.2.1 ∈ Tb := tb_in 154 (by decide +kernel) rfl
theorem fl_X4_29 : Cond.fieldLink RX4 29 (TX1 2).1 (TX1 2).2.1 (TX1 2).2.2.1 ∈ Tb := tb_in 155 (by decide +kernel) rfl
theorem fl_X7_109 : Cond.fieldLink RX7 109 (TX1 2).1 (TX1 2).2.1 (TX1 2).2.2.1 ∈ Tb := tb_in 156 (by decide +kernel) rfl
theorem fl_X2_36 : Cond.fieldLink RX2 36 (TX1 3).1 (TX1 3).2.1 (TX1 3).2.2.1 ∈ Tb := tb_in 157 (by decide +kernel) rfl
theorem fl_X3_60 : Cond.fieldLink RX3 60 (TX1 3).1 (TX1 3).2.1 (TX1 3).2.2.1 ∈ Tb := tb_in 158 (by decide +kernel) rfl
theorem fl_X1_46 : Cond.fieldLink RX1 46 (TX1 3).1 (TX1 3).2.1 (TX1 3).2.2.1 ∈ Tb := tb_in 159 (by decide +kernel) rfl
theorem fl_X4_26 : Cond.fieldLink RX4 26 (TX1 3).1 (TX1 3).2.1 (TX1 3).2.2.1 ∈ Tb := tb_in 160 (by decide +kernel) rfl
theorem fl_X7_115 : Cond.fieldLink RX7 115 (TX1 3).1 (TX1 3).2.1 (TX1 3).2.2.1 ∈ Tb := tb_in 161 (by decide +kernel) rfl
theorem fl_X1_35 : Cond.fieldLink RX1 35 (TX1 4).1 (TX1 4).2.1 (TX1 4).2.2.1 ∈ Tb := tb_in 162 (by decide +kernel) rfl
theorem fl_X7_112 : Cond.fieldLink RX7 112 (TX1 4).1 (TX1 4).2.1 (TX1 4).2.2.1 ∈ Tb := tb_in 163 (by decide +kernel) rfl
theorem fl_X4_11 : Cond.fieldLink RX4 11 (TX4 0).1 (TX4 0).2.1 (TX4 0).2.2.1 ∈ Tb := tb_in 175 (by decide +kernel) rfl
theorem fl_X3_56 : Cond.fieldLink RX3 56 (TX4 0).1 (TX4 0).2.1 (TX4 0).2.2.1 ∈ Tb := tb_in 176 (by decide +kernel) rfl
theorem fl_X7_79 : Cond.fieldLink RX7 79 (TX4 0).1 (TX4 0).2.1 (TX4 0).2.2.1 ∈ Tb := tb_in 177 (by decide +kernel) rfl
theorem fl_X4_18 : Cond.fieldLink RX4 18 (TX4 1).1 (TX4 1).2.1 (TX4 1).2.2.1 ∈ Tb := tb_in 178 (by decide +kernel) rfl
theorem fl_X3_50 : Cond.fieldLink RX3 50 (TX4 1).1 (TX4 1).2.1 (TX4 1).2.2.1 ∈ Tb := tb_in 179 (by decide +kernel) rfl
theorem fl_X7_73 : Cond.fieldLink RX7 73 (TX4 1).1 (TX4 1).2.1 (TX4 1).2.2.1 ∈ Tb := tb_in 180 (by decide +kernel) rfl
theorem fl_X7_261 : Cond.fieldLink RX7 261 (TX4 2).1 (TX4 2).2.1 (TX4 2).2.2.1 ∈ Tb := tb_in 181 (by decide +kernel) rfl
theorem cl_X7_34 : Cond.classLink RX7 34 RX2 ∈ Tb := tb_in 190 (by decide +kernel) rfl
theorem nw_X2 : Cond.instantiable RX2 7 ∈ Tb := tb_in 191 (by decide +kernel) rfl
theorem fl_X2_11 : Cond.fieldLink RX2 11 (TX2 0).1 (TX2 0).2.1 (TX2 0).2.2.1 ∈ Tb := tb_in 196 (by decide +kernel) rfl
theorem fl_X2_15 : Cond.fieldLink RX2 15 (TX2 1).1 (TX2 1).2.1 (TX2 1).2.2.1 ∈ Tb := tb_in 197 (by decide +kernel) rfl
theorem fl_X2_19 : Cond.fieldLink RX2 19 (TX2 2).1 (TX2 2).2.1 (TX2 2).2.2.1 ∈ Tb := tb_in 198 (by decide +kernel) rfl
theorem fl_X2_23 : Cond.fieldLink RX2 23 (TX2 3).1 (TX2 3).2.1 (TX2 3).2.2.1 ∈ Tb := tb_in 199 (by decide +kernel) rfl
theorem fl_X2_26 : Cond.fieldLink RX2 26 (TX2 4).1 (TX2 4).2.1 (TX2 4).2.2.1 ∈ Tb := tb_in 200 (by decide +kernel) rfl
theorem fl_X2_29 : Cond.fieldLink RX2 29 (TX2 5).1 (TX2 5).2.1 (TX2 5).2.2.1 ∈ Tb := tb_in 201 (by decide +kernel) rfl
theorem fl_X2_33 : Cond.fieldLink RX2 33 (TX2 6).1 (TX2 6).2.1 (TX2 6).2.2.1 ∈ Tb := tb_in 202 (by decide +kernel) rfl
theorem cl_X7_41 : Cond.classLink RX7 41 RX3 ∈ Tb := tb_in 219 (by decide +kernel) rfl
theorem nw_X3 : Cond.instantiable RX3 14 ∈ Tb := tb_in 220 (by decide +kernel) rfl
theorem fl_X6_24 : Cond.fieldLink RX6 24 (TX3 0).1 (TX3 0).2.1 (TX3 0).2.2.1 ∈ Tb := tb_in 225 (by decide +kernel) rfl
theorem fl_X3_79 : Cond.fieldLink RX3 79 (TX3 0).1 (TX3 0).2.1 (TX3 0).2.2.1 ∈ Tb := tb_in 226 (by decide +kernel) rfl
theorem fl_X7_170 : Cond.fieldLink RX7 170 (TX3 0).1 (TX3 0).2.1 (TX3 0).2.2.1 ∈ Tb := tb_in 227 (by decide +kernel) rfl
theorem fl_X3_9 : Cond.fieldLink RX3 9 (TX3 1).1 (TX3 1).2.1 (TX3 1).2.2.1 ∈ Tb := tb_in 228 (by decide +kernel) rfl
theorem fl_X6_34 : Cond.fieldLink RX6 34 (TX3 1).1 (TX3 1).2.1 (TX3 1).2.2.1 ∈ Tb := tb_in 229 (by decide +kernel) rfl
theorem fl_X7_174 : Cond.fieldLink RX7 174 (TX3 1).1 (TX3 1).2.1 (TX3 1).2.2.1 ∈ Tb := tb_in 230 (by decide +kernel) rfl
theorem fl_X3_15 : Cond.fieldLink RX3 15 (TX3 2).1 (TX3 2).2.1 (TX3 2).2.2.1 ∈ Tb := tb_in 231 (by decide +kernel) rfl
theorem fl_X7_175 : Cond.fieldLink RX7 175 (TX3 2).1 (TX3 2).2.1 (TX3 2).2.2.1 ∈ Tb := tb_in 232 (by decide +kernel) rfl
theorem fl_X3_18 : Cond.fieldLink RX3 18 (TX3 3).1 (TX3 3).2.1 (TX3 3).2.2.1 ∈ Tb := tb_in 233 (by decide +kernel) rfl
theorem fl_X6_51 : Cond.fieldLink RX6 51 (TX3 3).1 (TX3 3).2.1 (TX3 3).2.2.1 ∈ Tb := tb_in 234 (by decide +kernel) rfl
theorem fl_X3_21 : Cond.fieldLink RX3 21 (TX3 4).1 (TX3 4).2.1 (TX3 4).2.2.1 ∈ Tb := tb_in 235 (by decide +kernel) rfl
theorem fl_X7_280 : Cond.fieldLink RX7 280 (TX3 4).1 (TX3 4).2.1 (TX3 4).2.2.1 ∈ Tb := tb_in 236 (by decide +kernel) rfl
theorem fl_X3_24 : Cond.fieldLink RX3 24 (TX3 5).1 (TX3 5).2.1 (TX3 5).2.2.1 ∈ Tb := tb_in 237 (by decide +kernel) rfl
theorem fl_X3_28 : Cond.fieldLink RX3 28 (TX3 6).1 (TX3 6).2.1 (TX3 6).2.2.1 ∈ Tb := tb_in 238 (by decide +kernel) rfl
theorem fl_X3_31 : Cond.fieldLink RX3 31 (TX3 7).1 (TX3 7).2.1 (TX3 7).2.2.1 ∈ Tb := tb_in 239 (by decide +kernel) rfl
theorem fl_X3_34 : Cond.fieldLink RX3 34 (TX3 8).1 (TX3 8).2.1 (TX3 8).2.2.1 ∈ Tb := tb_in 240 (by decide +kernel) rfl
theorem fl_X3_37 : Cond.fieldLink RX3 37 (TX3 9).1 (TX3 9).2.1 (TX3 9).2.2.1 ∈ Tb := tb_in 241 (by decide +kernel) rfl
theorem fl_X3_40 : Cond.fieldLink RX3 40 (TX3 10).1 (TX3 10).2.1 (TX3 10).2.2.1 ∈ Tb := tb_in 242 (by decide +kernel) rfl
theorem fl_X3_80 : Cond.fieldLink RX3 80 (TX3 11).1 (TX3 11).2.1 (TX3 11).2.2.1 ∈ Tb := tb_in 243 (by decide +kernel) rfl
theorem fl_X3_43 : Cond.fieldLink RX3 43 (TX3 12).1 (TX3 12).2.1 (TX3 12).2.2.1 ∈ Tb := tb_in 244 (by decide +kernel) rfl
theorem fl_X3_47 : Cond.fieldLink RX3 47 (TX3 13).1 (TX3 13).2.1 (TX3 13).2.2.1 ∈ Tb := tb_in 245 (by decide +kernel) rfl
theorem cl_X7_48 : Cond.classLink RX7 48 RX6 ∈ Tb := tb_in 275 (by decide +kernel) rfl
theorem nw_X6 : Cond.instantiable RX6 6 ∈ Tb := tb_in 276 (by decide +kernel) rfl
theorem fl_X6_30 : Cond.fieldLink RX6 30 (TX6 0).1 (TX6 0).2.1 (TX6 0).2.2.1 ∈ Tb := tb_in 281 (by decide +kernel) rfl
theorem fl_X7_191 : Cond.fieldLink RX7 191 (TX6 0).1 (TX6 0).2.1 (TX6 0).2.2.1 ∈ Tb := tb_in 282 (by decide +kernel) rfl
theorem fl_X6_9 : Cond.fieldLink RX6 9 (TX6 1).1 (TX6 1).2.1 (TX6 1).2.2.1 ∈ Tb := tb_in 283 (by decide +kernel) rfl
theorem fl_X7_194 : Cond.fieldLink RX7 194 (TX6 1).1 (TX6 1).2.1 (TX6 1).2.2.1 ∈ Tb := tb_in 284 (by decide +kernel) rfl
theorem fl_X6_15 : Cond.fieldLink RX6 15 (TX6 2).1 (TX6 2).2.1 (TX6 2).2.2.1 ∈ Tb := tb_in 285 (by decide +kernel) rfl
theorem fl_X7_197 : Cond.fieldLink RX7 197 (TX6 2).1 (TX6 2).2.1 (TX6 2).2.2.1 ∈ Tb := tb_in 286 (by decide +kernel) rfl
theorem fl_X6_67 : Cond.fieldLink RX6 67 (TX6 3).1 (TX6 3).2.1 (TX6 3).2.2.1 ∈ Tb := tb_in 287 (by decide +kernel) rfl
theorem fl_X7_216 : Cond.fieldLink RX7 216 (TX6 3).1 (TX6 3).2.1 (TX6 3).2.2.1 ∈ Tb := tb_in 288 (by decide +kernel) rfl
theorem fl_X6_18 : Cond.fieldLink RX6 18 (TX6 4).1 (TX6 4).2.1 (TX6 4).2.2.1 ∈ Tb := tb_in 289 (by decide +kernel) rfl
theorem fl_X7_219 : Cond.fieldLink RX7 219 (TX6 4).1 (TX6 4).2.1 (TX6 4).2.2.1 ∈ Tb := tb_in 290 (by decide +kernel) rfl
theorem fl_X6_21 : Cond.fieldLink RX6 21 (TX6 5).1 (TX6 5).2.1 (TX6 5).2.2.1 ∈ Tb := tb_in 291 (by decide +kernel) rfl
theorem cl_X7_55 : Cond.classLink RX7 55 RX0 ∈ Tb := tb_in 305 (by decide +kernel) rfl
theorem nw_X0 : Cond.instantiable RX0 7 ∈ Tb := tb_in 306 (by decide +kernel) rfl
theorem ml_X7_57 : Cond.methodLink RX7 57 yX0_init ∈ Tb := tb_in 307 (by decide +kernel) rfl
theorem ml_X0_27 : Cond.methodLink RX0 27 yX0_empty ∈ Tb := tb_in 311 (by decide +kernel) rfl
theorem ml_X0_30 : Cond.methodLink RX0 30 yJ7_fill_53178 ∈ Tb := tb_in 315 (by decide +kernel) rfl
theorem fl_X0_9 : Cond.fieldLink RX0 9 (TX0 0).1 (TX0 0).2.1 (TX0 0).2.2.1 ∈ Tb := tb_in 318 (by decide +kernel) rfl
theorem fl_X6_37 : Cond.fieldLink RX6 37 (TX0 0).1 (TX0 0).2.1 (TX0 0).2.2.1 ∈ Tb := tb_in 319 (by decide +kernel) rfl
theorem fl_X7_135 : Cond.fieldLink RX7 135 (TX0 0).1 (TX0 0).2.1 (TX0 0).2.2.1 ∈ Tb := tb_in 320 (by decide +kernel) rfl
theorem fl_X0_15 : Cond.fieldLink RX0 15 (TX0 1).1 (TX0 1).2.1 (TX0 1).2.2.1 ∈ Tb := tb_in 321 (by decide +kernel) rfl
theorem fl_X6_48 : Cond.fieldLink RX6 48 (TX0 1).1 (TX0 1).2.1 (TX0 1).2.2.1 ∈ Tb := tb_in 322 (by decide +kernel) rfl
theorem fl_X7_138 : Cond.fieldLink RX7 138 (TX0 1).1 (TX0 1).2.1 (TX0 1).2.2.1 ∈ Tb := tb_in 323 (by decide +kernel) rfl
theorem fl_X0_18 : Cond.fieldLink RX0 18 (TX0 2).1 (TX0 2).2.1 (TX0 2).2.2.1 ∈ Tb := tb_in 324 (by decide +kernel) rfl
theorem fl_X7_141 : Cond.fieldLink RX7 141 (TX0 2).1 (TX0 2).2.1 (TX0 2).2.2.1 ∈ Tb := tb_in 325 (by decide +kernel) rfl
theorem fl_X0_21 : Cond.fieldLink RX0 21 (TX0 3).1 (TX0 3).2.1 (TX0 3).2.2.1 ∈ Tb := tb_in 326 (by decide +kernel) rfl
theorem fl_X6_74 : Cond.fieldLink RX6 74 (TX0 3).1 (TX0 3).2.1 (TX0 3).2.2.1 ∈ Tb := tb_in 327 (by decide +kernel) rfl
theorem fl_X7_206 : Cond.fieldLink RX7 206 (TX0 3).1 (TX0 3).2.1 (TX0 3).2.2.1 ∈ Tb := tb_in 328 (by decide +kernel) rfl
theorem fl_X0_24 : Cond.fieldLink RX0 24 (TX0 4).1 (TX0 4).2.1 (TX0 4).2.2.1 ∈ Tb := tb_in 329 (by decide +kernel) rfl
theorem fl_X6_77 : Cond.fieldLink RX6 77 (TX0 4).1 (TX0 4).2.1 (TX0 4).2.2.1 ∈ Tb := tb_in 330 (by decide +kernel) rfl
theorem fl_X7_209 : Cond.fieldLink RX7 209 (TX0 4).1 (TX0 4).2.1 (TX0 4).2.2.1 ∈ Tb := tb_in 331 (by decide +kernel) rfl
theorem fl_X0_36 : Cond.fieldLink RX0 36 (TX0 5).1 (TX0 5).2.1 (TX0 5).2.2.1 ∈ Tb := tb_in 332 (by decide +kernel) rfl
theorem fl_X6_57 : Cond.fieldLink RX6 57 (TX0 5).1 (TX0 5).2.1 (TX0 5).2.2.1 ∈ Tb := tb_in 333 (by decide +kernel) rfl
theorem fl_X7_203 : Cond.fieldLink RX7 203 (TX0 5).1 (TX0 5).2.1 (TX0 5).2.2.1 ∈ Tb := tb_in 334 (by decide +kernel) rfl
theorem fl_X0_40 : Cond.fieldLink RX0 40 (TX0 6).1 (TX0 6).2.1 (TX0 6).2.2.1 ∈ Tb := tb_in 335 (by decide +kernel) rfl
theorem fl_X7_98 : Cond.fieldLink RX7 98 (TX0 6).1 (TX0 6).2.1 (TX0 6).2.2.1 ∈ Tb := tb_in 336 (by decide +kernel) rfl
theorem fl_X7_12 : Cond.fieldLink RX7 12 (TX7 0).1 (TX7 0).2.1 (TX7 0).2.2.1 ∈ Tb := tb_in 352 (by decide +kernel) rfl
theorem fl_X7_19 : Cond.fieldLink RX7 19 (TX7 1).1 (TX7 1).2.1 (TX7 1).2.2.1 ∈ Tb := tb_in 353 (by decide +kernel) rfl
theorem fl_X7_23 : Cond.fieldLink RX7 23 (TX7 2).1 (TX7 2).2.1 (TX7 2).2.2.1 ∈ Tb := tb_in 354 (by decide +kernel) rfl
theorem fl_X7_27 : Cond.fieldLink RX7 27 (TX7 3).1 (TX7 3).2.1 (TX7 3).2.2.1 ∈ Tb := tb_in 355 (by decide +kernel) rfl
theorem fl_X7_31 : Cond.fieldLink RX7 31 (TX7 4).1 (TX7 4).2.1 (TX7 4).2.2.1 ∈ Tb := tb_in 356 (by decide +kernel) rfl
theorem fl_X7_37 : Cond.fieldLink RX7 37 (TX7 5).1 (TX7 5).2.1 (TX7 5).2.2.1 ∈ Tb := tb_in 357 (by decide +kernel) rfl
theorem fl_X7_44 : Cond.fieldLink RX7 44 (TX7 6).1 (TX7 6).2.1 (TX7 6).2.2.1 ∈ Tb := tb_in 358 (by decide +kernel) rfl
theorem fl_X7_51 : Cond.fieldLink RX7 51 (TX7 7).1 (TX7 7).2.1 (TX7 7).2.2.1 ∈ Tb := tb_in 359 (by decide +kernel) rfl
theorem fl_X7_58 : Cond.fieldLink RX7 58 (TX7 8).1 (TX7 8).2.1 (TX7 8).2.2.1 ∈ Tb := tb_in 360 (by decide +kernel) rfl
theorem fl_X7_62 : Cond.fieldLink RX7 62 (TX7 9).1 (TX7 9).2.1 (TX7 9).2.2.1 ∈ Tb := tb_in 361 (by decide +kernel) rfl
theorem fl_X7_93 : Cond.fieldLink RX7 93 (TX7 10).1 (TX7 10).2.1 (TX7 10).2.2.1 ∈ Tb := tb_in 362 (by decide +kernel) rfl
theorem fl_X7_267 : Cond.fieldLink RX7 267 (TX7 11).1 (TX7 11).2.1 (TX7 11).2.2.1 ∈ Tb := tb_in 363 (by decide +kernel) rfl
theorem ml_L_15 : Cond.methodLink RL 15 yX7_type ∈ Tb := tb_in 389 (by decide +kernel) rfl
theorem ml_X7_65 : Cond.methodLink RX7 65 yX5_add ∈ Tb := tb_in 393 (by decide +kernel) rfl
theorem ml_L_20 : Cond.methodLink RL 20 yX7_clear ∈ Tb := tb_in 397 (by decide +kernel) rfl
theorem ml_L_25 : Cond.methodLink RL 25 yX7_chip ∈ Tb := tb_in 401 (by decide +kernel) rfl
theorem ml_X7_76 : Cond.methodLink RX7 76 yX5_split ∈ Tb := tb_in 405 (by decide +kernel) rfl
theorem ml_X5_35 : Cond.methodLink RX5 35 yX5_beginsToken ∈ Tb := tb_in 409 (by decide +kernel) rfl
theorem ml_X5_49 : Cond.methodLink RX5 49 yX5_isLetter ∈ Tb := tb_in 413 (by decide +kernel) rfl
theorem ml_X5_52 : Cond.methodLink RX5 52 yX5_isDigit ∈ Tb := tb_in 416 (by decide +kernel) rfl
theorem ml_X5_39 : Cond.methodLink RX5 39 yX5_readToken ∈ Tb := tb_in 419 (by decide +kernel) rfl
theorem ml_X5_55 : Cond.methodLink RX5 55 yX5_readNumber ∈ Tb := tb_in 423 (by decide +kernel) rfl
theorem ml_X5_58 : Cond.methodLink RX5 58 yX5_readWord ∈ Tb := tb_in 427 (by decide +kernel) rfl
theorem ml_X5_61 : Cond.methodLink RX5 61 yX5_kindOfWord ∈ Tb := tb_in 431 (by decide +kernel) rfl
theorem ml_X5_67 : Cond.methodLink RX5 67 yX5_isWord ∈ Tb := tb_in 436 (by decide +kernel) rfl
theorem ml_X5_79 : Cond.methodLink RX5 79 yJ0_length_8abf5 ∈ Tb := tb_in 440 (by decide +kernel) rfl
theorem ml_J0_335 : Cond.methodLink RJ0 335 yJ0_coder_7d493 ∈ Tb := tb_in 444 (by decide +kernel) rfl
theorem ml_X5_84 : Cond.methodLink RX5 84 yJ0_charAt_5068e ∈ Tb := tb_in 450 (by decide +kernel) rfl
theorem ml_J0_492 : Cond.methodLink RJ0 492 yJ0_isLatin1_aae02 ∈ Tb := tb_in 454 (by decide +kernel) rfl
theorem ml_J0_495 : Cond.methodLink RJ0 495 yJ1_charAt_3b067 ∈ Tb := tb_in 458 (by decide +kernel) rfl
theorem ml_J1_9 : Cond.methodLink RJ1 9 yJ0_checkIndex_df160 ∈ Tb := tb_in 461 (by decide +kernel) rfl
theorem ml_J0_1059 : Cond.methodLink RJ0 1059 yJ3_checkIndex_8e157 ∈ Tb := tb_in 466 (by decide +kernel) rfl
theorem ml_J0_498 : Cond.methodLink RJ0 498 yJ2_charAt_3b067 ∈ Tb := tb_in 469 (by decide +kernel) rfl
theorem ml_J2_67 : Cond.methodLink RJ2 67 yJ2_checkIndex_2214a ∈ Tb := tb_in 472 (by decide +kernel) rfl
theorem ml_J2_48 : Cond.methodLink RJ2 48 yJ2_length_9d52b ∈ Tb := tb_in 475 (by decide +kernel) rfl
theorem ml_J2_414 : Cond.methodLink RJ2 414 yJ0_checkIndex_df160 ∈ Tb := tb_in 478 (by decide +kernel) rfl
theorem ml_J2_71 : Cond.methodLink RJ2 71 yJ2_getChar_3b067 ∈ Tb := tb_in 479 (by decide +kernel) rfl
theorem ml_X7_83 : Cond.methodLink RX7 83 yX1_read ∈ Tb := tb_in 492 (by decide +kernel) rfl
theorem ml_X1_20 : Cond.methodLink RX1 20 yX5_take ∈ Tb := tb_in 496 (by decide +kernel) rfl
theorem ml_X1_24 : Cond.methodLink RX1 24 yX5_takeNumber ∈ Tb := tb_in 500 (by decide +kernel) rfl
theorem ml_X5_46 : Cond.methodLink RX5 46 yX5_take ∈ Tb := tb_in 504 (by decide +kernel) rfl
theorem ml_X1_39 : Cond.methodLink RX1 39 yX1_readCoats ∈ Tb := tb_in 505 (by decide +kernel) rfl
theorem ml_X1_43 : Cond.methodLink RX1 43 yX5_isAt ∈ Tb := tb_in 509 (by decide +kernel) rfl
theorem ml_X7_89 : Cond.methodLink RX7 89 yX5_fault ∈ Tb := tb_in 513 (by decide +kernel) rfl
theorem ml_L_29 : Cond.methodLink RL 29 yX7_book ∈ Tb := tb_in 517 (by decide +kernel) rfl
theorem ml_X7_97 : Cond.methodLink RX7 97 yX0_read ∈ Tb := tb_in 521 (by decide +kernel) rfl
theorem ml_X0_45 : Cond.methodLink RX0 45 yX5_isAt ∈ Tb := tb_in 525 (by decide +kernel) rfl
theorem ml_X0_49 : Cond.methodLink RX0 49 yX0_readItem ∈ Tb := tb_in 526 (by decide +kernel) rfl
theorem ml_X0_53 : Cond.methodLink RX0 53 yX5_take ∈ Tb := tb_in 530 (by decide +kernel) rfl
theorem ml_X0_56 : Cond.methodLink RX0 56 yX0_readStuff ∈ Tb := tb_in 531 (by decide +kernel) rfl
theorem ml_X0_68 : Cond.methodLink RX0 68 yX5_takeNumber ∈ Tb := tb_in 535 (by decide +kernel) rfl
theorem ml_X0_59 : Cond.methodLink RX0 59 yX0_readAlike ∈ Tb := tb_in 536 (by decide +kernel) rfl
theorem ml_X0_72 : Cond.methodLink RX0 72 yX5_takeColourBut ∈ Tb := tb_in 540 (by decide +kernel) rfl
theorem ml_X0_62 : Cond.methodLink RX0 62 yX0_readBill ∈ Tb := tb_in 544 (by decide +kernel) rfl
theorem ml_L_33 : Cond.methodLink RL 33 yX7_drop ∈ Tb := tb_in 548 (by decide +kernel) rfl
theorem ml_X7_101 : Cond.methodLink RX7 101 yX7_isChip ∈ Tb := tb_in 552 (by decide +kernel) rfl
theorem ml_X7_105 : Cond.methodLink RX7 105 yX4_takeOut ∈ Tb := tb_in 556 (by decide +kernel) rfl
theorem ml_L_38 : Cond.methodLink RL 38 yX7_about ∈ Tb := tb_in 560 (by decide +kernel) rfl
theorem ml_L_43 : Cond.methodLink RL 43 yX7_coat ∈ Tb := tb_in 564 (by decide +kernel) rfl
theorem ml_X7_118 : Cond.methodLink RX7 118 yX7_isCoat ∈ Tb := tb_in 568 (by decide +kernel) rfl
theorem ml_X7_128 : Cond.methodLink RX7 128 yX7_settle ∈ Tb := tb_in 572 (by decide +kernel) rfl
theorem ml_X7_271 : Cond.methodLink RX7 271 yX7_findSame ∈ Tb := tb_in 576 (by decide +kernel) rfl
theorem ml_X7_277 : Cond.methodLink RX7 277 yX3_find ∈ Tb := tb_in 580 (by decide +kernel) rfl
theorem ml_X3_65 : Cond.methodLink RX3 65 yX3_look ∈ Tb := tb_in 584 (by decide +kernel) rfl
theorem ml_X3_96 : Cond.methodLink RX3 96 yJ9_max_7cf53 ∈ Tb := tb_in 588 (by decide +kernel) rfl
theorem ml_X3_69 : Cond.methodLink RX3 69 yX3_findServing ∈ Tb := tb_in 591 (by decide +kernel) rfl
theorem ml_X3_83 : Cond.methodLink RX3 83 yX3_strideOf ∈ Tb := tb_in 595 (by decide +kernel) rfl
theorem ml_X3_72 : Cond.methodLink RX3 72 yX3_fillRow ∈ Tb := tb_in 599 (by decide +kernel) rfl
theorem ml_X3_76 : Cond.methodLink RX3 76 yX3_walk ∈ Tb := tb_in 603 (by decide +kernel) rfl
theorem ml_X3_88 : Cond.methodLink RX3 88 yX3_firstColour ∈ Tb := tb_in 607 (by decide +kernel) rfl
theorem ml_X3_92 : Cond.methodLink RX3 92 yX3_paint ∈ Tb := tb_in 611 (by decide +kernel) rfl
theorem ml_X7_131 : Cond.methodLink RX7 131 yX7_paintingOf ∈ Tb := tb_in 615 (by decide +kernel) rfl
theorem ml_L_48 : Cond.methodLink RL 48 yX7_colour ∈ Tb := tb_in 619 (by decide +kernel) rfl
theorem ml_L_52 : Cond.methodLink RL 52 yX7_tune ∈ Tb := tb_in 623 (by decide +kernel) rfl
theorem ml_L_56 : Cond.methodLink RL 56 yX7_least ∈ Tb := tb_in 631 (by decide +kernel) rfl
theorem ml_X7_150 : Cond.methodLink RX7 150 yX7_areTwo ∈ Tb := tb_in 635 (by decide +kernel) rfl
theorem ml_X7_153 : Cond.methodLink RX7 153 yX7_lay ∈ Tb := tb_in 639 (by decide +kernel) rfl
theorem ml_X7_274 : Cond.methodLink RX7 274 yX2_lay ∈ Tb := tb_in 643 (by decide +kernel) rfl
theorem ml_X2_41 : Cond.methodLink RX2 41 yX2_fill ∈ Tb := tb_in 647 (by decide +kernel) rfl
theorem ml_X2_49 : Cond.methodLink RX2 49 yX2_isSame ∈ Tb := tb_in 651 (by decide +kernel) rfl
theorem ml_X2_53 : Cond.methodLink RX2 53 yX2_costBeside ∈ Tb := tb_in 655 (by decide +kernel) rfl
theorem ml_X2_63 : Cond.methodLink RX2 63 yJ9_abs_0f7a4 ∈ Tb := tb_in 659 (by decide +kernel) rfl
theorem ml_X7_157 : Cond.methodLink RX7 157 yX2_leastCost ∈ Tb := tb_in 662 (by decide +kernel) rfl
theorem ml_L_60 : Cond.methodLink RL 60 yX7_ways ∈ Tb := tb_in 666 (by decide +kernel) rfl
theorem co_X7_160 : Cond.constantLong RX7 160 (-1) ∈ Tb := tb_in 670 (by decide +kernel) rfl
theorem ml_X7_162 : Cond.methodLink RX7 162 yX2_leastWays ∈ Tb := tb_in 671 (by decide +kernel) rfl
theorem ml_L_65 : Cond.methodLink RL 65 yX7_laid ∈ Tb := tb_in 675 (by decide +kernel) rfl
theorem ml_X7_166 : Cond.methodLink RX7 166 yX2_beside ∈ Tb := tb_in 679 (by decide +kernel) rfl
theorem ml_X2_45 : Cond.methodLink RX2 45 yX2_nearest ∈ Tb := tb_in 683 (by decide +kernel) rfl
theorem ml_L_69 : Cond.methodLink RL 69 yX7_painting ∈ Tb := tb_in 687 (by decide +kernel) rfl
theorem ml_X7_171 : Cond.methodLink RX7 171 yX7_isPainting ∈ Tb := tb_in 691 (by decide +kernel) rfl
theorem ml_L_73 : Cond.methodLink RL 73 yX7_had ∈ Tb := tb_in 695 (by decide +kernel) rfl
theorem ml_L_77 : Cond.methodLink RL 77 yX7_face ∈ Tb := tb_in 699 (by decide +kernel) rfl
theorem ml_X7_178 : Cond.methodLink RX7 178 yX7_missedBy ∈ Tb := tb_in 703 (by decide +kernel) rfl
theorem ml_X7_181 : Cond.methodLink RX7 181 yX7_ageOf ∈ Tb := tb_in 707 (by decide +kernel) rfl
theorem ml_X7_184 : Cond.methodLink RX7 184 yX7_movedFrom ∈ Tb := tb_in 711 (by decide +kernel) rfl
theorem ml_L_81 : Cond.methodLink RL 81 yX7_span ∈ Tb := tb_in 715 (by decide +kernel) rfl
theorem ml_X7_187 : Cond.methodLink RX7 187 yX6_find ∈ Tb := tb_in 719 (by decide +kernel) rfl
theorem ml_X6_42 : Cond.methodLink RX6 42 yJ9_max_7cf53 ∈ Tb := tb_in 723 (by decide +kernel) rfl
theorem ml_X6_54 : Cond.methodLink RX6 54 yJ9_min_7cf53 ∈ Tb := tb_in 724 (by decide +kernel) rfl
theorem ml_L_85 : Cond.methodLink RL 85 yX7_day ∈ Tb := tb_in 727 (by decide +kernel) rfl
theorem ml_X7_200 : Cond.methodLink RX7 200 yX7_lastCoats ∈ Tb := tb_in 731 (by decide +kernel) rfl
theorem ml_L_89 : Cond.methodLink RL 89 yX7_bill ∈ Tb := tb_in 735 (by decide +kernel) rfl
theorem ml_L_93 : Cond.methodLink RL 93 yX7_billed ∈ Tb := tb_in 739 (by decide +kernel) rfl
theorem ml_X7_212 : Cond.methodLink RX7 212 yX6_match ∈ Tb := tb_in 743 (by decide +kernel) rfl
theorem ml_X6_60 : Cond.methodLink RX6 60 yX6_mostFrom ∈ Tb := tb_in 747 (by decide +kernel) rfl
theorem ml_X6_70 : Cond.methodLink RX6 70 yX6_fits ∈ Tb := tb_in 751 (by decide +kernel) rfl
theorem ml_X6_64 : Cond.methodLink RX6 64 yX6_leastBill ∈ Tb := tb_in 755 (by decide +kernel) rfl
theorem ml_L_97 : Cond.methodLink RL 97 yX7_enough ∈ Tb := tb_in 759 (by decide +kernel) rfl
theorem co_X7_222 : Cond.constantLong RX7 222 (10) ∈ Tb := tb_in 763 (by decide +kernel) rfl
theorem co_X7_224 : Cond.constantLong RX7 224 (1000000) ∈ Tb := tb_in 764 (by decide +kernel) rfl
theorem ml_X7_226 : Cond.methodLink RX7 226 yX7_oddsOfAll ∈ Tb := tb_in 765 (by decide +kernel) rfl
theorem co_X7_230 : Cond.constantLong RX7 230 (10000) ∈ Tb := tb_in 768 (by decide +kernel) rfl
theorem ml_L_101 : Cond.methodLink RL 101 yX7_next ∈ Tb := tb_in 769 (by decide +kernel) rfl
theorem ml_X7_232 : Cond.methodLink RX7 232 yX4_inRoom ∈ Tb := tb_in 773 (by decide +kernel) rfl
theorem ml_X7_235 : Cond.methodLink RX7 235 yX3_notIn ∈ Tb := tb_in 777 (by decide +kernel) rfl
theorem ml_L_105 : Cond.methodLink RL 105 yX7_rank ∈ Tb := tb_in 781 (by decide +kernel) rfl
theorem co_X7_238 : Cond.constant RX7 238 (-1000000) ∈ Tb := tb_in 785 (by decide +kernel) rfl
theorem ml_X7_239 : Cond.methodLink RX7 239 yX7_asCoat ∈ Tb := tb_in 786 (by decide +kernel) rfl
theorem ml_X7_242 : Cond.methodLink RX7 242 yX7_asWhole ∈ Tb := tb_in 790 (by decide +kernel) rfl
theorem ml_X7_283 : Cond.methodLink RX7 283 yJ6_bitCount_0f7a4 ∈ Tb := tb_in 794 (by decide +kernel) rfl
theorem co_J6_265 : Cond.constant RJ6 265 (1431655765) ∈ Tb := tb_in 797 (by decide +kernel) rfl
theorem co_J6_266 : Cond.constant RJ6 266 (858993459) ∈ Tb := tb_in 798 (by decide +kernel) rfl
theorem co_J6_267 : Cond.constant RJ6 267 (252645135) ∈ Tb := tb_in 799 (by decide +kernel) rfl
theorem ml_X7_245 : Cond.methodLink RX7 245 yX7_asUnder ∈ Tb := tb_in 800 (by decide +kernel) rfl
theorem co_X7_288 : Cond.constantLong RX7 288 (100) ∈ Tb := tb_in 804 (by decide +kernel) rfl
theorem ml_X7_248 : Cond.methodLink RX7 248 yX7_asPatch ∈ Tb := tb_in 805 (by decide +kernel) rfl
theorem co_X7_290 : Cond.constantLong RX7 290 (1000) ∈ Tb := tb_in 809 (by decide +kernel) rfl
theorem ml_X7_251 : Cond.methodLink RX7 251 yX7_asScraped ∈ Tb := tb_in 810 (by decide +kernel) rfl
theorem ml_X7_254 : Cond.methodLink RX7 254 yX7_asVarnish ∈ Tb := tb_in 814 (by decide +kernel) rfl
theorem co_X7_292 : Cond.constantLong RX7 292 (100000) ∈ Tb := tb_in 818 (by decide +kernel) rfl
theorem ml_L_109 : Cond.methodLink RL 109 yX7_keep ∈ Tb := tb_in 819 (by decide +kernel) rfl
theorem ml_X7_257 : Cond.methodLink RX7 257 yX4_copy ∈ Tb := tb_in 823 (by decide +kernel) rfl
theorem ml_X4_22 : Cond.methodLink RX4 22 yX1_copy ∈ Tb := tb_in 827 (by decide +kernel) rfl
theorem ml_L_113 : Cond.methodLink RL 113 yX7_back ∈ Tb := tb_in 834 (by decide +kernel) rfl
theorem ml_L_117 : Cond.methodLink RL 117 yX7_count ∈ Tb := tb_in 838 (by decide +kernel) rfl
theorem ml_X7_264 : Cond.methodLink RX7 264 yX4_coats ∈ Tb := tb_in 842 (by decide +kernel) rfl
theorem ml_L_121 : Cond.methodLink RL 121 yX7_trace ∈ Tb := tb_in 846 (by decide +kernel) rfl
theorem cl_L_10 : Cond.classLink RL 10 RX8 ∈ Tb := tb_in 850 (by decide +kernel) rfl
theorem nw_X8 : Cond.instantiable RX8 51 ∈ Tb := tb_in 851 (by decide +kernel) rfl
theorem ml_L_12 : Cond.methodLink RL 12 yX8_init ∈ Tb := tb_in 852 (by decide +kernel) rfl
theorem fl_X8_7 : Cond.fieldLink RX8 7 (TX8 0).1 (TX8 0).2.1 (TX8 0).2.2.1 ∈ Tb := tb_in 856 (by decide +kernel) rfl
theorem fl_X8_120 : Cond.fieldLink RX8 120 (TX8 1).1 (TX8 1).2.1 (TX8 1).2.2.1 ∈ Tb := tb_in 857 (by decide +kernel) rfl
theorem fl_X8_126 : Cond.fieldLink RX8 126 (TX8 2).1 (TX8 2).2.1 (TX8 2).2.2.1 ∈ Tb := tb_in 858 (by decide +kernel) rfl
theorem fl_X8_133 : Cond.fieldLink RX8 133 (TX8 3).1 (TX8 3).2.1 (TX8 3).2.2.1 ∈ Tb := tb_in 859 (by decide +kernel) rfl
theorem fl_X8_136 : Cond.fieldLink RX8 136 (TX8 4).1 (TX8 4).2.1 (TX8 4).2.2.1 ∈ Tb := tb_in 860 (by decide +kernel) rfl
theorem fl_X8_149 : Cond.fieldLink RX8 149 (TX8 5).1 (TX8 5).2.1 (TX8 5).2.2.1 ∈ Tb := tb_in 861 (by decide +kernel) rfl
theorem fl_X8_173 : Cond.fieldLink RX8 173 (TX8 6).1 (TX8 6).2.1 (TX8 6).2.2.1 ∈ Tb := tb_in 862 (by decide +kernel) rfl
theorem fl_X8_13 : Cond.fieldLink RX8 13 (TX8 7).1 (TX8 7).2.1 (TX8 7).2.2.1 ∈ Tb := tb_in 863 (by decide +kernel) rfl
theorem fl_X8_16 : Cond.fieldLink RX8 16 (TX8 8).1 (TX8 8).2.1 (TX8 8).2.2.1 ∈ Tb := tb_in 864 (by decide +kernel) rfl
theorem fl_X8_19 : Cond.fieldLink RX8 19 (TX8 9).1 (TX8 9).2.1 (TX8 9).2.2.1 ∈ Tb := tb_in 865 (by decide +kernel) rfl
theorem fl_X8_22 : Cond.fieldLink RX8 22 (TX8 10).1 (TX8 10).2.1 (TX8 10).2.2.1 ∈ Tb := tb_in 866 (by decide +kernel) rfl
theorem fl_X8_25 : Cond.fieldLink RX8 25 (TX8 11).1 (TX8 11).2.1 (TX8 11).2.2.1 ∈ Tb := tb_in 867 (by decide +kernel) rfl
theorem fl_X8_28 : Cond.fieldLink RX8 28 (TX8 12).1 (TX8 12).2.1 (TX8 12).2.2.1 ∈ Tb := tb_in 868 (by decide +kernel) rfl
theorem fl_X8_31 : Cond.fieldLink RX8 31 (TX8 13).1 (TX8 13).2.1 (TX8 13).2.2.1 ∈ Tb := tb_in 869 (by decide +kernel) rfl
theorem fl_X8_34 : Cond.fieldLink RX8 34 (TX8 14).1 (TX8 14).2.1 (TX8 14).2.2.1 ∈ Tb := tb_in 870 (by decide +kernel) rfl
theorem fl_X8_37 : Cond.fieldLink RX8 37 (TX8 15).1 (TX8 15).2.1 (TX8 15).2.2.1 ∈ Tb := tb_in 871 (by decide +kernel) rfl
theorem fl_X8_40 : Cond.fieldLink RX8 40 (TX8 16).1 (TX8 16).2.1 (TX8 16).2.2.1 ∈ Tb := tb_in 872 (by decide +kernel) rfl
theorem fl_X8_196 : Cond.fieldLink RX8 196 (TX8 17).1 (TX8 17).2.1 (TX8 17).2.2.1 ∈ Tb := tb_in 873 (by decide +kernel) rfl
theorem fl_X8_43 : Cond.fieldLink RX8 43 (TX8 18).1 (TX8 18).2.1 (TX8 18).2.2.1 ∈ Tb := tb_in 874 (by decide +kernel) rfl
theorem fl_X8_46 : Cond.fieldLink RX8 46 (TX8 19).1 (TX8 19).2.1 (TX8 19).2.2.1 ∈ Tb := tb_in 875 (by decide +kernel) rfl
theorem fl_X8_49 : Cond.fieldLink RX8 49 (TX8 20).1 (TX8 20).2.1 (TX8 20).2.2.1 ∈ Tb := tb_in 876 (by decide +kernel) rfl
theorem fl_X8_52 : Cond.fieldLink RX8 52 (TX8 21).1 (TX8 21).2.1 (TX8 21).2.2.1 ∈ Tb := tb_in 877 (by decide +kernel) rfl
theorem fl_X8_55 : Cond.fieldLink RX8 55 (TX8 22).1 (TX8 22).2.1 (TX8 22).2.2.1 ∈ Tb := tb_in 878 (by decide +kernel) rfl
theorem fl_X8_58 : Cond.fieldLink RX8 58 (TX8 23).1 (TX8 23).2.1 (TX8 23).2.2.1 ∈ Tb := tb_in 879 (by decide +kernel) rfl
theorem fl_X8_61 : Cond.fieldLink RX8 61 (TX8 24).1 (TX8 24).2.1 (TX8 24).2.2.1 ∈ Tb := tb_in 880 (by decide +kernel) rfl
theorem fl_X8_64 : Cond.fieldLink RX8 64 (TX8 25).1 (TX8 25).2.1 (TX8 25).2.2.1 ∈ Tb := tb_in 881 (by decide +kernel) rfl
theorem fl_X8_67 : Cond.fieldLink RX8 67 (TX8 26).1 (TX8 26).2.1 (TX8 26).2.2.1 ∈ Tb := tb_in 882 (by decide +kernel) rfl
theorem fl_X8_70 : Cond.fieldLink RX8 70 (TX8 27).1 (TX8 27).2.1 (TX8 27).2.2.1 ∈ Tb := tb_in 883 (by decide +kernel) rfl
theorem fl_X8_73 : Cond.fieldLink RX8 73 (TX8 28).1 (TX8 28).2.1 (TX8 28).2.2.1 ∈ Tb := tb_in 884 (by decide +kernel) rfl
theorem fl_X8_76 : Cond.fieldLink RX8 76 (TX8 29).1 (TX8 29).2.1 (TX8 29).2.2.1 ∈ Tb := tb_in 885 (by decide +kernel) rfl
theorem fl_X8_79 : Cond.fieldLink RX8 79 (TX8 30).1 (TX8 30).2.1 (TX8 30).2.2.1 ∈ Tb := tb_in 886 (by decide +kernel) rfl
theorem fl_X8_82 : Cond.fieldLink RX8 82 (TX8 31).1 (TX8 31).2.1 (TX8 31).2.2.1 ∈ Tb := tb_in 887 (by decide +kernel) rfl
theorem fl_X8_273 : Cond.fieldLink RX8 273 (TX8 32).1 (TX8 32).2.1 (TX8 32).2.2.1 ∈ Tb := tb_in 888 (by decide +kernel) rfl
theorem fl_X8_85 : Cond.fieldLink RX8 85 (TX8 33).1 (TX8 33).2.1 (TX8 33).2.2.1 ∈ Tb := tb_in 889 (by decide +kernel) rfl
theorem fl_X8_88 : Cond.fieldLink RX8 88 (TX8 34).1 (TX8 34).2.1 (TX8 34).2.2.1 ∈ Tb := tb_in 890 (by decide +kernel) rfl
theorem fl_X8_92 : Cond.fieldLink RX8 92 (TX8 35).1 (TX8 35).2.1 (TX8 35).2.2.1 ∈ Tb := tb_in 891 (by decide +kernel) rfl
theorem fl_X8_95 : Cond.fieldLink RX8 95 (TX8 36).1 (TX8 36).2.1 (TX8 36).2.2.1 ∈ Tb := tb_in 892 (by decide +kernel) rfl
theorem fl_X8_98 : Cond.fieldLink RX8 98 (TX8 37).1 (TX8 37).2.1 (TX8 37).2.2.1 ∈ Tb := tb_in 893 (by decide +kernel) rfl
theorem fl_X8_235 : Cond.fieldLink RX8 235 (TX8 38).1 (TX8 38).2.1 (TX8 38).2.2.1 ∈ Tb := tb_in 894 (by decide +kernel) rfl
theorem fl_X8_101 : Cond.fieldLink RX8 101 (TX8 39).1 (TX8 39).2.1 (TX8 39).2.2.1 ∈ Tb := tb_in 895 (by decide +kernel) rfl
theorem fl_X8_104 : Cond.fieldLink RX8 104 (TX8 40).1 (TX8 40).2.1 (TX8 40).2.2.1 ∈ Tb := tb_in 896 (by decide +kernel) rfl
theorem fl_X8_180 : Cond.fieldLink RX8 180 (TX8 41).1 (TX8 41).2.1 (TX8 41).2.2.1 ∈ Tb := tb_in 897 (by decide +kernel) rfl
theorem fl_X8_107 : Cond.fieldLink RX8 107 (TX8 42).1 (TX8 42).2.1 (TX8 42).2.2.1 ∈ Tb := tb_in 898 (by decide +kernel) rfl
theorem fl_X8_110 : Cond.fieldLink RX8 110 (TX8 43).1 (TX8 43).2.1 (TX8 43).2.2.1 ∈ Tb := tb_in 899 (by decide +kernel) rfl
theorem fl_X8_258 : Cond.fieldLink RX8 258 (TX8 44).1 (TX8 44).2.1 (TX8 44).2.2.1 ∈ Tb := tb_in 900 (by decide +kernel) rfl
theorem fl_X8_113 : Cond.fieldLink RX8 113 (TX8 45).1 (TX8 45).2.1 (TX8 45).2.2.1 ∈ Tb := tb_in 901 (by decide +kernel) rfl
theorem fl_X8_164 : Cond.fieldLink RX8 164 (TX8 46).1 (TX8 46).2.1 (TX8 46).2.2.1 ∈ Tb := tb_in 902 (by decide +kernel) rfl
theorem fl_X8_167 : Cond.fieldLink RX8 167 (TX8 47).1 (TX8 47).2.1 (TX8 47).2.2.1 ∈ Tb := tb_in 903 (by decide +kernel) rfl
theorem fl_X8_170 : Cond.fieldLink RX8 170 (TX8 48).1 (TX8 48).2.1 (TX8 48).2.2.1 ∈ Tb := tb_in 904 (by decide +kernel) rfl
theorem fl_X8_184 : Cond.fieldLink RX8 184 (TX8 49).1 (TX8 49).2.1 (TX8 49).2.2.1 ∈ Tb := tb_in 905 (by decide +kernel) rfl
theorem fl_X8_228 : Cond.fieldLink RX8 228 (TX8 50).1 (TX8 50).2.1 (TX8 50).2.2.1 ∈ Tb := tb_in 906 (by decide +kernel) rfl
theorem ml_L_19 : Cond.methodLink RL 19 yX8_type ∈ Tb := tb_in 1010 (by decide +kernel) rfl
theorem ml_X8_116 : Cond.methodLink RX8 116 yX8_in ∈ Tb := tb_in 1014 (by decide +kernel) rfl
theorem co_X8_124 : Cond.constantLong RX8 124 (255) ∈ Tb := tb_in 1017 (by decide +kernel) rfl
theorem ml_L_24 : Cond.methodLink RL 24 yX8_clear ∈ Tb := tb_in 1018 (by decide +kernel) rfl
theorem ml_L_28 : Cond.methodLink RL 28 yX8_chip ∈ Tb := tb_in 1022 (by decide +kernel) rfl
theorem ml_X8_176 : Cond.methodLink RX8 176 yX8_isChip ∈ Tb := tb_in 1026 (by decide +kernel) rfl
theorem ml_X8_157 : Cond.methodLink RX8 157 yX8_read ∈ Tb := tb_in 1030 (by decide +kernel) rfl
theorem ml_X8_129 : Cond.methodLink RX8 129 yX8_look ∈ Tb := tb_in 1034 (by decide +kernel) rfl
theorem ml_X8_139 : Cond.methodLink RX8 139 yX8_isLetter ∈ Tb := tb_in 1038 (by decide +kernel) rfl
theorem ml_X8_143 : Cond.methodLink RX8 143 yX8_word ∈ Tb := tb_in 1041 (by decide +kernel) rfl
theorem co_X8_152 : Cond.constant RX8 152 (605677) ∈ Tb := tb_in 1045 (by decide +kernel) rfl
theorem co_X8_153 : Cond.constant RX8 153 (17287347) ∈ Tb := tb_in 1046 (by decide +kernel) rfl
theorem co_X8_154 : Cond.constant RX8 154 (20600006) ∈ Tb := tb_in 1047 (by decide +kernel) rfl
theorem co_X8_155 : Cond.constant RX8 155 (1451365) ∈ Tb := tb_in 1048 (by decide +kernel) rfl
theorem co_X8_156 : Cond.constant RX8 156 (75148) ∈ Tb := tb_in 1049 (by decide +kernel) rfl
theorem ml_X8_146 : Cond.methodLink RX8 146 yX8_isDigit ∈ Tb := tb_in 1050 (by decide +kernel) rfl
theorem ml_X8_160 : Cond.methodLink RX8 160 yX8_isNumber ∈ Tb := tb_in 1053 (by decide +kernel) rfl
theorem ml_L_32 : Cond.methodLink RL 32 yX8_book ∈ Tb := tb_in 1057 (by decide +kernel) rfl
theorem ml_X8_187 : Cond.methodLink RX8 187 yX8_isStuff ∈ Tb := tb_in 1061 (by decide +kernel) rfl
theorem ml_X8_190 : Cond.methodLink RX8 190 yX8_areAlike ∈ Tb := tb_in 1065 (by decide +kernel) rfl
theorem ml_X8_193 : Cond.methodLink RX8 193 yX8_isBill ∈ Tb := tb_in 1069 (by decide +kernel) rfl
theorem ml_L_37 : Cond.methodLink RL 37 yX8_drop ∈ Tb := tb_in 1073 (by decide +kernel) rfl
theorem ml_X8_199 : Cond.methodLink RX8 199 yX8_isChipAt ∈ Tb := tb_in 1077 (by decide +kernel) rfl
theorem ml_L_42 : Cond.methodLink RL 42 yX8_about ∈ Tb := tb_in 1081 (by decide +kernel) rfl
theorem ml_L_47 : Cond.methodLink RL 47 yX8_coat ∈ Tb := tb_in 1085 (by decide +kernel) rfl
theorem ml_X8_202 : Cond.methodLink RX8 202 yX8_isCoat ∈ Tb := tb_in 1089 (by decide +kernel) rfl
theorem ml_X8_205 : Cond.methodLink RX8 205 yX8_make ∈ Tb := tb_in 1093 (by decide +kernel) rfl
theorem ml_X8_231 : Cond.methodLink RX8 231 yX8_weigh ∈ Tb := tb_in 1097 (by decide +kernel) rfl
theorem ml_X8_245 : Cond.methodLink RX8 245 yX8_behind ∈ Tb := tb_in 1101 (by decide +kernel) rfl
theorem ml_X8_208 : Cond.methodLink RX8 208 yX8_isSame ∈ Tb := tb_in 1105 (by decide +kernel) rfl
theorem ml_X8_238 : Cond.methodLink RX8 238 yX8_goOn ∈ Tb := tb_in 1109 (by decide +kernel) rfl
theorem ml_X8_242 : Cond.methodLink RX8 242 yX8_years ∈ Tb := tb_in 1113 (by decide +kernel) rfl
theorem ml_X8_261 : Cond.methodLink RX8 261 yX8_later ∈ Tb := tb_in 1117 (by decide +kernel) rfl
theorem ml_L_51 : Cond.methodLink RL 51 yX8_colour ∈ Tb := tb_in 1121 (by decide +kernel) rfl
theorem ml_L_55 : Cond.methodLink RL 55 yX8_tune ∈ Tb := tb_in 1125 (by decide +kernel) rfl
theorem ml_L_59 : Cond.methodLink RL 59 yX8_least ∈ Tb := tb_in 1129 (by decide +kernel) rfl
theorem ml_X8_219 : Cond.methodLink RX8 219 yX8_areTwo ∈ Tb := tb_in 1133 (by decide +kernel) rfl
theorem ml_X8_222 : Cond.methodLink RX8 222 yX8_lay ∈ Tb := tb_in 1137 (by decide +kernel) rfl
theorem ml_X8_211 : Cond.methodLink RX8 211 yX8_areSame ∈ Tb := tb_in 1141 (by decide +kernel) rfl
theorem ml_X8_215 : Cond.methodLink RX8 215 yX8_costOf ∈ Tb := tb_in 1145 (by decide +kernel) rfl
theorem ml_L_64 : Cond.methodLink RL 64 yX8_ways ∈ Tb := tb_in 1149 (by decide +kernel) rfl
theorem co_X8_226 : Cond.constantLong RX8 226 (-1) ∈ Tb := tb_in 1153 (by decide +kernel) rfl
theorem ml_L_68 : Cond.methodLink RL 68 yX8_laid ∈ Tb := tb_in 1154 (by decide +kernel) rfl
theorem ml_L_72 : Cond.methodLink RL 72 yX8_painting ∈ Tb := tb_in 1158 (by decide +kernel) rfl
theorem ml_L_76 : Cond.methodLink RL 76 yX8_had ∈ Tb := tb_in 1162 (by decide +kernel) rfl
theorem ml_X8_248 : Cond.methodLink RX8 248 yX8_hasPainting ∈ Tb := tb_in 1166 (by decide +kernel) rfl
theorem ml_L_80 : Cond.methodLink RL 80 yX8_face ∈ Tb := tb_in 1170 (by decide +kernel) rfl
theorem ml_X8_255 : Cond.methodLink RX8 255 yX8_moved ∈ Tb := tb_in 1174 (by decide +kernel) rfl
theorem ml_X8_251 : Cond.methodLink RX8 251 yX8_least ∈ Tb := tb_in 1178 (by decide +kernel) rfl
theorem ml_L_84 : Cond.methodLink RL 84 yX8_span ∈ Tb := tb_in 1179 (by decide +kernel) rfl
theorem ml_L_88 : Cond.methodLink RL 88 yX8_day ∈ Tb := tb_in 1183 (by decide +kernel) rfl
theorem ml_L_92 : Cond.methodLink RL 92 yX8_bill ∈ Tb := tb_in 1187 (by decide +kernel) rfl
theorem ml_L_96 : Cond.methodLink RL 96 yX8_billed ∈ Tb := tb_in 1191 (by decide +kernel) rfl
theorem ml_X8_264 : Cond.methodLink RX8 264 yX8_suits ∈ Tb := tb_in 1195 (by decide +kernel) rfl
theorem ml_L_100 : Cond.methodLink RL 100 yX8_enough ∈ Tb := tb_in 1199 (by decide +kernel) rfl
theorem co_X8_267 : Cond.constantLong RX8 267 (10) ∈ Tb := tb_in 1203 (by decide +kernel) rfl
theorem co_X8_269 : Cond.constantLong RX8 269 (1000000) ∈ Tb := tb_in 1204 (by decide +kernel) rfl
theorem co_X8_271 : Cond.constantLong RX8 271 (10000) ∈ Tb := tb_in 1205 (by decide +kernel) rfl
theorem ml_L_104 : Cond.methodLink RL 104 yX8_next ∈ Tb := tb_in 1206 (by decide +kernel) rfl
theorem ml_L_108 : Cond.methodLink RL 108 yX8_rank ∈ Tb := tb_in 1210 (by decide +kernel) rfl
theorem co_X8_282 : Cond.constant RX8 282 (-1000000) ∈ Tb := tb_in 1214 (by decide +kernel) rfl
theorem ml_X8_277 : Cond.methodLink RX8 277 yX8_ofCoat ∈ Tb := tb_in 1215 (by decide +kernel) rfl
theorem ml_X8_283 : Cond.methodLink RX8 283 yX8_ofWhole ∈ Tb := tb_in 1219 (by decide +kernel) rfl
theorem ml_X8_286 : Cond.methodLink RX8 286 yX8_ofUnder ∈ Tb := tb_in 1223 (by decide +kernel) rfl
theorem co_X8_280 : Cond.constantLong RX8 280 (100) ∈ Tb := tb_in 1227 (by decide +kernel) rfl
theorem co_X8_289 : Cond.constantLong RX8 289 (1000) ∈ Tb := tb_in 1228 (by decide +kernel) rfl
theorem co_X8_291 : Cond.constantLong RX8 291 (100000) ∈ Tb := tb_in 1229 (by decide +kernel) rfl
theorem ml_L_112 : Cond.methodLink RL 112 yX8_keep ∈ Tb := tb_in 1230 (by decide +kernel) rfl
theorem ml_L_116 : Cond.methodLink RL 116 yX8_back ∈ Tb := tb_in 1234 (by decide +kernel) rfl
theorem ml_L_120 : Cond.methodLink RL 120 yX8_count ∈ Tb := tb_in 1238 (by decide +kernel) rfl
theorem ml_L_125 : Cond.methodLink RL 125 yX8_trace ∈ Tb := tb_in 1242 (by decide +kernel) rfl
theorem co_L_13 : Cond.constantLong RL 13 (4294967295) ∈ Tb := tb_in 1246 (by decide +kernel) rfl
end
section
/-! A LAYER OVER THE KIT: one heap for both systems. A cell's abstract name is its place in the order of making (0 .. 117); 1000 and on are cells that were there before (the script, static tables, texts).
    AH: what the int-like places, the long places and the reference places of each cell hold. -/
abbrev AH : Type := (Nat → Nat → Int32) × (Nat → Nat → Int64) × (Nat → Nat → Option Nat)
def up {α : Type} (f : Nat → α) (k : Nat) (v : α) : Nat → α := fun j => if j = k then v else f j
theorem up_s {α : Type} {f : Nat → α} {k : Nat} {v : α} : up f k v k = v := by simp [up]
theorem up_n {α : Type} {f : Nat → α} {k j : Nat} {v : α} (h : j ≠ k) : up f k v j = f j := by simp [up, h]
def sI (h : AH) (a k : Nat) (v : Int32) : AH := (up h.1 a (up (h.1 a) k v), h.2)
def sL (h : AH) (a k : Nat) (v : Int64) : AH := (h.1, up h.2.1 a (up (h.2.1 a) k v), h.2.2)
def sR (h : AH) (a k : Nat) (v : Option Nat) : AH := (h.1, h.2.1, up h.2.2 a (up (h.2.2 a) k v))
/-- what each cell is: an object of a class (its number, how many fields), or an array (100 int, 101 byte, 102 long, 103 Chip, 104 Shelf; its length) -/
def layL : List (Nat × Nat) := [(7, 12), (5, 8), (101, 400), (100, 401), (100, 401), (100, 401), (4, 3), (103, 4),
  (1, 5), (100, 10), (100, 10), (1, 5), (100, 10), (100, 10), (1, 5), (100, 10), (100, 10), (1, 5), (100, 10), (100, 10),
  (104, 2), (100, 5), (100, 12), (2, 7), (100, 121), (102, 121),
  (3, 14), (100, 40), (100, 40), (100, 40), (100, 40), (101, 14641), (100, 4), (100, 4), (100, 4), (100, 12), (100, 12),
  (6, 6), (100, 40), (100, 40), (100, 40), (100, 369),
  (0, 7), (100, 12), (100, 12), (100, 12), (100, 8), (100, 8), (0, 7), (100, 12), (100, 12), (100, 12), (100, 8), (100, 8),
  (4, 3), (103, 4), (1, 5), (100, 10), (100, 10), (1, 5), (100, 10), (100, 10), (1, 5), (100, 10), (100, 10), (1, 5), (100, 10), (100, 10),
  (4, 3), (103, 4), (1, 5), (100, 10), (100, 10), (1, 5), (100, 10), (100, 10), (1, 5), (100, 10), (100, 10), (1, 5), (100, 10), (100, 10),
  (8, 51), (100, 400), (100, 4), (100, 4), (100, 4), (100, 40), (100, 40), (100, 10), (100, 10), (100, 12), (100, 12), (100, 12), (100, 8), (100, 8),
  (100, 12), (100, 12), (100, 12), (100, 8), (100, 8), (100, 5), (100, 2), (100, 8), (100, 8), (100, 8), (100, 80), (100, 80),
  (100, 121), (102, 121), (100, 14641), (100, 4), (100, 4), (100, 40), (100, 40), (100, 40), (100, 40), (100, 369)]
def lay (a : Nat) : Nat × Nat := layL.getD a (999, 0)
abbrev NN : Nat := 118
theorem lay_lt {a c n : Nat} (h : lay a = (c, n)) (hc : c ≠ 999) : a < NN := by
  by_cases ha : a < NN
  · exact ha
  · have : lay a = (999, 0) := by
      unfold lay
      rw [List.getD_eq_getElem?_getD, List.getElem?_eq_none (show 118 ≤ a from Nat.not_lt.mp ha)]
      rfl
    rw [this] at h
    exact absurd (congrArg Prod.fst h).symm hc
/-- of a class's fields: 0 int-like, 1 long, 2 a reference -/
def ftL : List (List Nat) := [[2, 2, 2, 2, 2, 0, 0], [2, 2, 0, 0, 0], [2, 2, 2, 2, 2, 0, 0], [0, 2, 2, 2, 2, 2, 2, 2, 2, 2, 2, 0, 2, 2], [2, 0, 0], [2, 0, 0, 2, 2, 2, 0, 0], [0, 2, 2, 0, 2, 2], [2, 2, 2, 2, 2, 2, 2, 2, 2, 2, 0, 1],
  [2, 0, 0, 0, 0, 0, 0, 2, 2, 2, 2, 2, 2, 2, 2, 2, 2, 0, 2, 2, 2, 2, 2, 2, 2, 2, 2, 2, 2, 2, 2, 2, 1, 2, 2, 2, 2, 2, 0, 2, 2, 0, 2, 2, 0, 2, 0, 0, 0, 0, 0]]
def ft (c k : Nat) : Nat := (ftL.getD c []).getD k 0
/-- references that are set once, in a constructor: what they are, by the object's class and its own place -/
def srC (c a k : Nat) : Option Nat := match c with
  | 0 => if k < 5 then some (a + 1 + k) else none
  | 1 => if k < 2 then some (a + 1 + k) else none
  | 2 => if k < 2 then some (a + 1 + k) else none
  | 3 => if 1 ≤ k ∧ k ≤ 10 then some (a + k) else none
  | 4 => if k = 0 then some (a + 1) else none
  | 5 => ([some 2, none, none, some 3, some 4, some 5] : List (Option Nat)).getD k none
  | 6 => ([none, some 38, some 39, none, some 40, some 41] : List (Option Nat)).getD k none
  | 7 => ([some 1, some 6, some 20, some 21, some 22, some 23, some 26, some 37] : List (Option Nat)).getD k none
  | 8 => ([some 83, none, none, none, none, none, none, some 84, some 85, some 86, some 87, some 88, some 89, some 90, some 91, some 92, some 93, none, some 94, some 95, some 96, some 97, some 98, some 99, some 100, some 101, some 102, some 103, some 104, some 105, some 106, some 107, none, some 108, some 109, some 110, some 111, some 112, none, some 113, some 114, none, some 115, some 116, none, some 117] : List (Option Nat)).getD k none
  | _ => none
def SR (a k : Nat) : Option Nat := srC (lay a).1 a k
def SR0 (_ _ : Nat) : Option Nat := none
/-! the ground: the state at the law's entry, where abstract cells lie, the classes' numbers, the array classes', which references are fixed -/
abbrev Gm : Type := State × (Nat → Nat) × va_G × (Nat → ClassId) × (Nat → Nat → Option Nat)
def cv (r : Nat → Nat) (v : Value) : Value := match v with
  | .ref a => .ref (r a)
  | w => w
def cvq (r : Nat → Nat) (q : Nat × Value) : Nat × Value := (q.1, cv r q.2)
def rv (r : Nat → Nat) (x : Option Nat) : Value := va_rf (x.map r)
def fv (G : Gm) (h : AH) (a c k : Nat) : Value := if ft c k = 0 then .int (h.1 a k) else if ft c k = 1 then .long (h.2.1 a k) else match G.2.2.2.2 a k with
  | some b => .ref (G.2.1 b)
  | none => rv G.2.1 (h.2.2 a k)
def fvs (G : Gm) (h : AH) (a c n : Nat) : List Value := (List.range n).map (fv G h a c)
def ac (G : Gm) (h : AH) (a t n : Nat) : ClassId × vp_A := (G.2.2.2.1 t, n, if t < 2 then .inl (h.1 a) else if t = 2 then .inr (.inl (h.2.1 a)) else .inr (.inr (.inr (.inr (fun i => (h.2.2 a i).map G.2.1)))))
def ce (G : Gm) (h : AH) (a : Nat) : va_E := if (lay a).1 < 100 then .inr ((lay a).1, fvs G h a (lay a).1 (lay a).2) else .inl (ac G h a ((lay a).1 - 100) (lay a).2)
def wl (G : Gm) (n : Nat) (h : AH) : va_W := (List.range n).map (fun a => (G.2.1 a, ce G h a))
def tys5 (G : Gm) : List (ClassId × FieldType) := [(G.2.2.2.1 0, .int), (G.2.2.2.1 1, .byte), (G.2.2.2.1 2, .long), (G.2.2.2.1 3, .object RX1), (G.2.2.2.1 4, .object RX4)]
abbrev bs (G : Gm) : Nat := G.1.heap.size
abbrev aA (G : Gm) : Nat → Prop := fun q => bs G ≤ q
def wd (G : Gm) (n : Nat) (h : AH) (H : Heap) : Prop := va_P G.2.2.1 vwCl (wl G n h) H ∧ H.size = bs G + n ∧ ∀ q : Nat, q < bs G → H[q]? = G.1.heap[q]?
/-- texts and tables that were there before -/
def txL : List Nat := [4, 5, 5, 5, 4]
def txB : List (List Int32) := [[114, 111, 111, 109], [112, 111, 114, 101, 115], [115, 116, 117, 102, 102], [97, 108, 105, 107, 101], [98, 105, 108, 108]]
def tuLo : List Int32 := [1, 0, 0, 0, 0]
def tuHi : List Int32 := [50, 9, 1, 20, 9]
def Ext (G : Gm) : Prop :=
  vk_S 5 txL txB (fun i => G.2.1 (1010 + i)) (fun i => G.2.1 (1020 + i)) (aA G) G.1 G.1.heap ∧
  (vk_R RX5 65 "room" (G.2.1 1010) G.1 ∧ vk_R RX5 71 "pores" (G.2.1 1011) G.1 ∧ vk_R RX5 73 "stuff" (G.2.1 1012) G.1 ∧ vk_R RX5 75 "alike" (G.2.1 1013) G.1 ∧ vk_R RX5 77 "bill" (G.2.1 1014) G.1) ∧
  (va_Z RX7 "TUNE_LOW" "[I" (.ref (G.2.1 1001)) (aA G) G.1 G.1.heap ∧ va_T .int (G.2.1 1001) 5 (fun j => .int (tuLo.getD j 0)) (aA G) G.1 G.1.heap) ∧
  (va_Z RX7 "TUNE_HIGH" "[I" (.ref (G.2.1 1002)) (aA G) G.1 G.1.heap ∧ va_T .int (G.2.1 1002) 5 (fun j => .int (tuHi.getD j 0)) (aA G) G.1 G.1.heap) ∧
  va_Z "java/lang/String" "COMPACT_STRINGS" "Z" (.int 1) (aA G) G.1 G.1.heap ∧ (va_Z "jdk/internal/util/Preconditions" "SIOOBE_FORMATTER" "Ljava/util/function/BiFunction;" .null (aA G) G.1 G.1.heap ∨ va_Z "jdk/internal/util/Preconditions" "SIOOBE_FORMATTER" "Ljava/util/function/BiFunction;" (.ref (G.2.1 1030)) (aA G) G.1 G.1.heap)
def Env0 (G : Gm) : Prop := (∀ a : Nat, a < 1000 → G.2.1 a = bs G + a) ∧ va_K G.2.2.1 vwCl (tys5 G) G.1 ∧ Ext G
/-! a frame: the ground, the launch, the machine's own, the locals' number -/
abbrev Fr : Type := Gm × Launch × Program × Env × Room × State × MethodId × Array Value × List Frame × Method × Code × Nat
abbrev fG (F : Fr) : Gm := F.1
abbrev fl (F : Fr) : Launch := F.2.1
abbrev fp (F : Fr) : Program := F.2.2.1
abbrev fe (F : Fr) : Env := F.2.2.2.1
abbrev fR (F : Fr) : Room := F.2.2.2.2.1
abbrev fs (F : Fr) : State := F.2.2.2.2.2.1
abbrev fm (F : Fr) : MethodId := F.2.2.2.2.2.2.1
abbrev fa (F : Fr) : Array Value := F.2.2.2.2.2.2.2.1
abbrev fb (F : Fr) : List Frame := F.2.2.2.2.2.2.2.2.1
abbrev ft' (F : Fr) : Method := F.2.2.2.2.2.2.2.2.2.1
abbrev fc (F : Fr) : Code := F.2.2.2.2.2.2.2.2.2.2.1
abbrev fn (F : Fr) : Nat := F.2.2.2.2.2.2.2.2.2.2.2
abbrev fr (F : Fr) : Nat → Nat := F.1.2.1
abbrev WW (F : Fr) (H : Heap) (locs : List Loc) (cells slots : Nat) (Z : State → Prop) (g : JFrame) : Prop := W (fp F) (fl F) (fe F) (fR F) (fs F) (fm F) (fa F) (fb F) (ft' F) (fc F) H locs cells slots Z g
/-- THE JUDGEMENT: at pc, with the locals lv, the stack st and the heap h (w: cells made so far in all; this method's own cells and slots), the machine comes to Z -/
def Gd (F : Fr) (Z : State → Prop) (w : Nat × Nat × Nat) (h : AH) (pc : Nat) (lv : List (Nat × Value)) (st : List Value) : Prop :=
  ∀ (H : Heap) (locs : List Loc) (ls : Array Slot), wd (fG F) w.1 h H → va_S (aA (fG F)) (fs F).heap H locs → lv_has ls (fn F) (lv.map (cvq (fr F))) → WW F H locs w.2.1 w.2.2 Z (F0 (fm F) pc ls (st.map (cv (fr F))))
/-- what a method's frame has -/
def Ok (F : Fr) (own : String) (cc : ByteArray) (nL : Nat) (rm : Room) (rt : Option FieldType) : Prop :=
  (fp F).tables.exec = Jvm.exec ∧ (fc F).code = cc ∧ (fc F).maxLocals = fn F ∧ (fs F).vm.findClass own = some (fm F).cls ∧ (∀ x ∈ Tb, x.before (fa F) (fs F) = true) ∧ (fG F).1.WarmedH (fs F).vm ∧ Env0 (fG F) ∧ (ft' F).locks = false ∧ (∀ q : Nat, q < bs (fG F) → (fs F).heap[q]? = (fG F).1.heap[q]?) ∧ fn F = nL ∧ fR F = rm ∧ (ft' F).sig.returnType = rt ∧ bs (fG F) ≤ (fs F).heap.size
def lget (lv : List (Nat × Value)) (i : Nat) : Option Value := match lv with
  | [] => none
  | q :: l => if q.1 = i then some q.2 else lget l i
theorem lget_mem {lv : List (Nat × Value)} {i : Nat} {v : Value} (h : lget lv i = some v) : (i, v) ∈ lv := by
  induction lv with
  | nil => cases h
  | cons q l ih =>
    unfold lget at h
    by_cases hq : q.1 = i
    · rw [if_pos hq] at h
      cases h
      subst hq
      exact List.mem_cons_self
    · rw [if_neg hq] at h
      exact List.mem_cons_of_mem _ (ih h)
theorem lv_of {r : Nat → Nat} {ls : Array Slot} {n : Nat} {lv : List (Nat × Value)} {i : Nat} {v : Value} (hl : lv_has ls n (lv.map (cvq r))) (h : lget lv i = some v) : ls[i]? = some (.val (cv r v)) :=
  hl.2.2 (i, cv r v) (List.mem_map.mpr ⟨(i, v), lget_mem h, rfl⟩)
theorem cv_cat (r : Nat → Nat) (v : Value) : (cv r v).category = v.category := by cases v <;> rfl
/-- the world's cells -/
theorem wl_at {G : Gm} {n : Nat} {h : AH} {a : Nat} (ha : a < n) : (wl G n h)[a]? = some (G.2.1 a, ce G h a) := by
  unfold wl
  rw [List.getElem?_map, List.getElem?_range ha]
  rfl
theorem wl_len {G : Gm} {n : Nat} {h : AH} : (wl G n h).length = n := by simp [wl]
theorem wl_D {G : Gm} (hE : Env0 G) {n : Nat} (hn : n ≤ 1000) {h : AH} : va_D (aA G) (wl G n h) := by
  have key : ∀ (k : Nat) (q : Nat × va_E), (wl G n h)[k]? = some q → q.1 = bs G + k := by
    intro k q hk
    have hl : k < n := by
      have := (List.getElem?_eq_some_iff.mp hk).1
      rw [wl_len] at this
      exact this
    rw [wl_at hl] at hk
    cases hk
    exact hE.1 k (by omega)
  refine ⟨fun i j x y hi hj e => ?_, fun k q hk => ?_⟩
  · rw [key i x hi, key j y hj] at e
    omega
  · rw [key k q hk]
    exact Nat.le_add_right _ _
theorem wl_set {G : Gm} {n : Nat} {h h2 : AH} {a : Nat} {e : va_E} (he : e = ce G h2 a) (ho : ∀ b, b ≠ a → ce G h2 b = ce G h b) : (wl G n h).set a (G.2.1 a, e) = wl G n h2 := by
  apply List.ext_getElem?
  intro k
  by_cases hk : k < n
  · by_cases hka : k = a
    · subst hka
      rw [List.getElem?_set_self (by rw [wl_len]; exact hk), wl_at hk, he]
    · rw [List.getElem?_set_ne (Ne.symm hka), wl_at hk, wl_at hk, ho k hka]
  · rw [List.getElem?_eq_none (by rw [List.length_set, wl_len]; omega), List.getElem?_eq_none (by rw [wl_len]; omega)]
theorem wl_push {G : Gm} {n : Nat} {h h2 : AH} {e : va_E} (he : e = ce G h2 n) (ho : ∀ b, b ≠ n → ce G h2 b = ce G h b) : wl G n h ++ [(G.2.1 n, e)] = wl G (n + 1) h2 := by
  apply List.ext_getElem?
  intro k
  by_cases hk : k < n
  · rw [List.getElem?_append_left (by rw [wl_len]; exact hk), wl_at hk, wl_at (by omega), ho k (by omega)]
  · by_cases hkn : k = n
    · subst hkn
      rw [List.getElem?_append_right (by rw [wl_len]; omega), wl_len, wl_at (by omega), Nat.sub_self, he]
      rfl
    · rw [List.getElem?_eq_none (by rw [List.length_append, wl_len]; simp; omega), List.getElem?_eq_none (by rw [wl_len]; omega)]
theorem ce_o {G : Gm} {h : AH} {a c n : Nat} (ha : lay a = (c, n)) (hc : c < 100) : ce G h a = .inr (c, fvs G h a c n) := by
  unfold ce
  rw [ha]
  simp [hc]
theorem ce_a {G : Gm} {h : AH} {a t n : Nat} (ha : lay a = (100 + t, n)) : ce G h a = .inl (ac G h a t n) := by
  unfold ce
  rw [ha]
  have : ¬ (100 + t < 100) := by omega
  simp [this]
theorem fvs_at {G : Gm} {h : AH} {a c n k : Nat} (hk : k < n) : (fvs G h a c n)[k]? = some (fv G h a c k) := by
  unfold fvs
  rw [List.getElem?_map, List.getElem?_range hk]
  rfl
theorem fvs_len {G : Gm} {h : AH} {a c n : Nat} : (fvs G h a c n).length = n := by simp [fvs]
theorem fvs_set {G : Gm} {h h2 : AH} {a c n k : Nat} {v : Value} (hv : v = fv G h2 a c k) (ho : ∀ j, j ≠ k → fv G h2 a c j = fv G h a c j) : (fvs G h a c n).set k v = fvs G h2 a c n := by
  apply List.ext_getElem?
  intro j
  by_cases hj : j < n
  · by_cases hjk : j = k
    · subst hjk
      rw [List.getElem?_set_self (by rw [fvs_len]; exact hj), fvs_at hj, hv]
    · rw [List.getElem?_set_ne (Ne.symm hjk), fvs_at hj, fvs_at hj, ho j hjk]
  · rw [List.getElem?_eq_none (by rw [List.length_set, fvs_len]; omega), List.getElem?_eq_none (by rw [fvs_len]; omega)]
theorem fv_i {G : Gm} {h : AH} {a c k : Nat} (hf : ft c k = 0) : fv G h a c k = .int (h.1 a k) := by simp [fv, hf]
theorem fv_l {G : Gm} {h : AH} {a c k : Nat} (hf : ft c k = 1) : fv G h a c k = .long (h.2.1 a k) := by simp [fv, hf]
theorem fv_s {G : Gm} {h : AH} {a c k b : Nat} (hf : ft c k = 2) (hs : G.2.2.2.2 a k = some b) : fv G h a c k = .ref (G.2.1 b) := by simp [fv, hf, hs]
theorem fv_r {G : Gm} {h : AH} {a c k : Nat} (hf : ft c k = 2) (hs : G.2.2.2.2 a k = none) : fv G h a c k = rv G.2.1 (h.2.2 a k) := by simp [fv, hf, hs]
/-! what writes do to cells -/
theorem sI_1 {h : AH} {a k : Nat} {v : Int32} : (sI h a k v).1 a = up (h.1 a) k v := by simp [sI, up]
theorem sI_o {h : AH} {a b k : Nat} {v : Int32} (hb : b ≠ a) : (sI h a k v).1 b = h.1 b := by simp [sI, up, hb]
theorem sI_2 {h : AH} {a k : Nat} {v : Int32} : (sI h a k v).2 = h.2 := rfl
theorem sL_1 {h : AH} {a k : Nat} {v : Int64} : (sL h a k v).2.1 a = up (h.2.1 a) k v := by simp [sL, up]
theorem sL_o {h : AH} {a b k : Nat} {v : Int64} (hb : b ≠ a) : (sL h a k v).2.1 b = h.2.1 b := by simp [sL, up, hb]
theorem sR_1 {h : AH} {a k : Nat} {v : Option Nat} : (sR h a k v).2.2 a = up (h.2.2 a) k v := by simp [sR, up]
theorem sR_o {h : AH} {a b k : Nat} {v : Option Nat} (hb : b ≠ a) : (sR h a k v).2.2 b = h.2.2 b := by simp [sR, up, hb]
theorem fv_congr {G : Gm} {h h2 : AH} {a c k : Nat} (h1 : h2.1 a k = h.1 a k) (h3 : h2.2.1 a k = h.2.1 a k) (h4 : h2.2.2 a k = h.2.2 a k) : fv G h2 a c k = fv G h a c k := by simp [fv, h1, h3, h4]
theorem ce_congr {G : Gm} {h h2 : AH} {a : Nat} (h1 : h2.1 a = h.1 a) (h3 : h2.2.1 a = h.2.1 a) (h4 : h2.2.2 a = h.2.2 a) : ce G h2 a = ce G h a := by
  have e : fv G h2 a = fv G h a := by funext c k; exact fv_congr (by rw [h1]) (by rw [h3]) (by rw [h4])
  simp only [ce, fvs, ac, e, h1, h3, h4]
theorem ce_sI {G : Gm} {h : AH} {a b k : Nat} {v : Int32} (hb : b ≠ a) : ce G (sI h a k v) b = ce G h b := ce_congr (sI_o hb) rfl rfl
theorem ce_sL {G : Gm} {h : AH} {a b k : Nat} {v : Int64} (hb : b ≠ a) : ce G (sL h a k v) b = ce G h b := ce_congr rfl (sL_o hb) rfl
theorem ce_sR {G : Gm} {h : AH} {a b k : Nat} {v : Option Nat} (hb : b ≠ a) : ce G (sR h a k v) b = ce G h b := ce_congr rfl rfl (sR_o hb)
end
section
/-! ROWS OF THE LAYER: an instruction, a row -/
section GR
variable {F : Fr} {Z : State → Prop} {w : Nat × Nat × Nat} {h : AH} {pc : Nat} {lv : List (Nat × Value)} {st : List Value} {own : String} {cc : ByteArray} {nL : Nat} {rm : Room} {rt : Option FieldType}
theorem g_iadd (O : Ok F own cc nL rm rt) {x y : Int32} (d : decode cc pc = .ok (.iadd, 1)) (k : Gd F Z w h (pc + 1) lv (.int (x + y) :: st)) : Gd F Z w h pc lv (.int y :: .int x :: st) := fun H locs ls hw hS hl => lv_iadd O.1 O.2.1 d (k H locs ls hw hS hl)
theorem g_isub (O : Ok F own cc nL rm rt) {x y : Int32} (d : decode cc pc = .ok (.isub, 1)) (k : Gd F Z w h (pc + 1) lv (.int (x - y) :: st)) : Gd F Z w h pc lv (.int y :: .int x :: st) := fun H locs ls hw hS hl => lv_isub O.1 O.2.1 d (k H locs ls hw hS hl)
theorem g_imul (O : Ok F own cc nL rm rt) {x y : Int32} (d : decode cc pc = .ok (.imul, 1)) (k : Gd F Z w h (pc + 1) lv (.int (x * y) :: st)) : Gd F Z w h pc lv (.int y :: .int x :: st) := fun H locs ls hw hS hl => lv_imul O.1 O.2.1 d (k H locs ls hw hS hl)
theorem g_iand (O : Ok F own cc nL rm rt) {x y : Int32} (d : decode cc pc = .ok (.iand, 1)) (k : Gd F Z w h (pc + 1) lv (.int (x &&& y) :: st)) : Gd F Z w h pc lv (.int y :: .int x :: st) := fun H locs ls hw hS hl => lv_iand O.1 O.2.1 d (k H locs ls hw hS hl)
theorem g_ior (O : Ok F own cc nL rm rt) {x y : Int32} (d : decode cc pc = .ok (.ior, 1)) (k : Gd F Z w h (pc + 1) lv (.int (x ||| y) :: st)) : Gd F Z w h pc lv (.int y :: .int x :: st) := fun H locs ls hw hS hl => lv_ior O.1 O.2.1 d (k H locs ls hw hS hl)
theorem g_ixor (O : Ok F own cc nL rm rt) {x y : Int32} (d : decode cc pc = .ok (.ixor, 1)) (k : Gd F Z w h (pc + 1) lv (.int (x ^^^ y) :: st)) : Gd F Z w h pc lv (.int y :: .int x :: st) := fun H locs ls hw hS hl => lv_ixor O.1 O.2.1 d (k H locs ls hw hS hl)
theorem g_ishl (O : Ok F own cc nL rm rt) {x y : Int32} (d : decode cc pc = .ok (.ishl, 1)) (k : Gd F Z w h (pc + 1) lv (.int (x <<< (y &&& 31)) :: st)) : Gd F Z w h pc lv (.int y :: .int x :: st) := fun H locs ls hw hS hl => lv_ishl O.1 O.2.1 d (k H locs ls hw hS hl)
theorem g_ishr (O : Ok F own cc nL rm rt) {x y : Int32} (d : decode cc pc = .ok (.ishr, 1)) (k : Gd F Z w h (pc + 1) lv (.int (x >>> (y &&& 31)) :: st)) : Gd F Z w h pc lv (.int y :: .int x :: st) := fun H locs ls hw hS hl => lv_ishr O.1 O.2.1 d (k H locs ls hw hS hl)
theorem g_iushr (O : Ok F own cc nL rm rt) {x y : Int32} (d : decode cc pc = .ok (.iushr, 1)) (k : Gd F Z w h (pc + 1) lv (.int ((x.toUInt32 >>> (y.toUInt32 &&& Int32.toUInt32 31)).toInt32) :: st)) : Gd F Z w h pc lv (.int y :: .int x :: st) := fun H locs ls hw hS hl => lv_iushr O.1 O.2.1 d rfl (k H locs ls hw hS hl)
theorem g_ladd (O : Ok F own cc nL rm rt) {x y : Int64} (d : decode cc pc = .ok (.ladd, 1)) (k : Gd F Z w h (pc + 1) lv (.long (x + y) :: st)) : Gd F Z w h pc lv (.long y :: .long x :: st) := fun H locs ls hw hS hl => lv_ladd O.1 O.2.1 d (k H locs ls hw hS hl)
theorem g_lsub (O : Ok F own cc nL rm rt) {x y : Int64} (d : decode cc pc = .ok (.lsub, 1)) (k : Gd F Z w h (pc + 1) lv (.long (x - y) :: st)) : Gd F Z w h pc lv (.long y :: .long x :: st) := fun H locs ls hw hS hl => lv_lsub O.1 O.2.1 d (k H locs ls hw hS hl)
theorem g_lmul (O : Ok F own cc nL rm rt) {x y : Int64} (d : decode cc pc = .ok (.lmul, 1)) (k : Gd F Z w h (pc + 1) lv (.long (x * y) :: st)) : Gd F Z w h pc lv (.long y :: .long x :: st) := fun H locs ls hw hS hl => lv_lmul O.1 O.2.1 d (k H locs ls hw hS hl)
theorem g_land (O : Ok F own cc nL rm rt) {x y : Int64} (d : decode cc pc = .ok (.land, 1)) (k : Gd F Z w h (pc + 1) lv (.long (x &&& y) :: st)) : Gd F Z w h pc lv (.long y :: .long x :: st) := fun H locs ls hw hS hl => lv_land O.1 O.2.1 d (k H locs ls hw hS hl)
theorem g_lor (O : Ok F own cc nL rm rt) {x y : Int64} (d : decode cc pc = .ok (.lor, 1)) (k : Gd F Z w h (pc + 1) lv (.long (x ||| y) :: st)) : Gd F Z w h pc lv (.long y :: .long x :: st) := fun H locs ls hw hS hl => lv_lor O.1 O.2.1 d (k H locs ls hw hS hl)
theorem g_lushr (O : Ok F own cc nL rm rt) {x : Int64} {y : Int32} (d : decode cc pc = .ok (.lushr, 1)) (k : Gd F Z w h (pc + 1) lv (.long ((x.toUInt64 >>> (y.toInt64.toUInt64 &&& Int64.toUInt64 63)).toInt64) :: st)) : Gd F Z w h pc lv (.int y :: .long x :: st) := fun H locs ls hw hS hl => lv_lushr O.1 O.2.1 d rfl (k H locs ls hw hS hl)
theorem g_lshl (O : Ok F own cc nL rm rt) {x : Int64} {y : Int32} (d : decode cc pc = .ok (.lshl, 1)) (k : Gd F Z w h (pc + 1) lv (.long (x <<< (y.toInt64 &&& 63)) :: st)) : Gd F Z w h pc lv (.int y :: .long x :: st) := fun H locs ls hw hS hl => lv_lshl O.1 O.2.1 d rfl (k H locs ls hw hS hl)
theorem g_lshr (O : Ok F own cc nL rm rt) {x : Int64} {y : Int32} (d : decode cc pc = .ok (.lshr, 1)) (k : Gd F Z w h (pc + 1) lv (.long (x >>> (y.toInt64 &&& 63)) :: st)) : Gd F Z w h pc lv (.int y :: .long x :: st) := fun H locs ls hw hS hl => lv_lshr O.1 O.2.1 d rfl (k H locs ls hw hS hl)
theorem g_idiv (O : Ok F own cc nL rm rt) {x y : Int32} (hne : ¬ y = 0) (d : decode cc pc = .ok (.idiv, 1)) (k : Gd F Z w h (pc + 1) lv (.int (x / y) :: st)) : Gd F Z w h pc lv (.int y :: .int x :: st) := fun H locs ls hw hS hl => lv_idiv O.1 O.2.1 d hne (k H locs ls hw hS hl)
theorem g_irem (O : Ok F own cc nL rm rt) {x y : Int32} (hne : ¬ y = 0) (d : decode cc pc = .ok (.irem, 1)) (k : Gd F Z w h (pc + 1) lv (.int (x - x / y * y) :: st)) : Gd F Z w h pc lv (.int y :: .int x :: st) := fun H locs ls hw hS hl => lv_irem O.1 O.2.1 d hne (k H locs ls hw hS hl)
theorem g_ldiv (O : Ok F own cc nL rm rt) {x y : Int64} (hne : ¬ y = 0) (d : decode cc pc = .ok (.ldiv, 1)) (k : Gd F Z w h (pc + 1) lv (.long (x / y) :: st)) : Gd F Z w h pc lv (.long y :: .long x :: st) := fun H locs ls hw hS hl => lv_ldiv O.1 O.2.1 d hne (k H locs ls hw hS hl)
theorem g_ineg (O : Ok F own cc nL rm rt) {x : Int32} (d : decode cc pc = .ok (.ineg, 1)) (k : Gd F Z w h (pc + 1) lv (.int (-x) :: st)) : Gd F Z w h pc lv (.int x :: st) := fun H locs ls hw hS hl => lv_ineg O.1 O.2.1 d (k H locs ls hw hS hl)
theorem g_i2l (O : Ok F own cc nL rm rt) {x : Int32} (d : decode cc pc = .ok (.i2l, 1)) (k : Gd F Z w h (pc + 1) lv (.long x.toInt64 :: st)) : Gd F Z w h pc lv (.int x :: st) := fun H locs ls hw hS hl => lv_i2l O.1 O.2.1 d rfl (k H locs ls hw hS hl)
theorem g_l2i (O : Ok F own cc nL rm rt) {x : Int64} (d : decode cc pc = .ok (.l2i, 1)) (k : Gd F Z w h (pc + 1) lv (.int x.toInt32 :: st)) : Gd F Z w h pc lv (.long x :: st) := fun H locs ls hw hS hl => lv_l2i O.1 O.2.1 d rfl (k H locs ls hw hS hl)
theorem g_i2b (O : Ok F own cc nL rm rt) {x : Int32} (d : decode cc pc = .ok (.i2b, 1)) (k : Gd F Z w h (pc + 1) lv (.int x.toInt8.toInt32 :: st)) : Gd F Z w h pc lv (.int x :: st) := fun H locs ls hw hS hl => lv_i2b O.1 O.2.1 d rfl (k H locs ls hw hS hl)
theorem g_i2c (O : Ok F own cc nL rm rt) {x : Int32} (d : decode cc pc = .ok (.i2c, 1)) (k : Gd F Z w h (pc + 1) lv (.int (x.toUInt32 % 65536).toInt32 :: st)) : Gd F Z w h pc lv (.int x :: st) := fun H locs ls hw hS hl => lv_i2c O.1 O.2.1 d rfl (k H locs ls hw hS hl)
theorem g_lcmp (O : Ok F own cc nL rm rt) {x y : Int64} (d : decode cc pc = .ok (.lcmp, 1)) (k : Gd F Z w h (pc + 1) lv (.int (lg_cmp x y) :: st)) : Gd F Z w h pc lv (.long y :: .long x :: st) := fun H locs ls hw hS hl => W.lcmp O.1 O.2.1 d (k H locs ls hw hS hl)
theorem g_iconst (O : Ok F own cc nL rm rt) {n : Int} {v : Int32} (hv : Int32.ofInt n = v) (d : decode cc pc = .ok (.iconst n, 1)) (k : Gd F Z w h (pc + 1) lv (.int v :: st)) : Gd F Z w h pc lv (st) := fun H locs ls hw hS hl => lv_iconst O.1 O.2.1 d hv (k H locs ls hw hS hl)
theorem g_bipush (O : Ok F own cc nL rm rt) {n : Int} {v : Int32} (hv : (Int8.ofInt n).toInt32 = v) (d : decode cc pc = .ok (.bipush n, 2)) (k : Gd F Z w h (pc + 2) lv (.int v :: st)) : Gd F Z w h pc lv (st) := fun H locs ls hw hS hl => lv_bipush O.1 O.2.1 d hv (k H locs ls hw hS hl)
theorem g_sipush (O : Ok F own cc nL rm rt) {n : Int} {v : Int32} (hv : (Int16.ofInt n).toInt32 = v) (d : decode cc pc = .ok (.sipush n, 3)) (k : Gd F Z w h (pc + 3) lv (.int v :: st)) : Gd F Z w h pc lv (st) := fun H locs ls hw hS hl => lv_sipush O.1 O.2.1 d hv (k H locs ls hw hS hl)
theorem g_lconst (O : Ok F own cc nL rm rt) {n : Fin 2} {v : Int64} (hv : Int64.ofNat (n : Nat) = v) (d : decode cc pc = .ok (.lconst n, 1)) (k : Gd F Z w h (pc + 1) lv (.long v :: st)) : Gd F Z w h pc lv (st) := fun H locs ls hw hS hl => lv_lconst O.1 O.2.1 d hv (k H locs ls hw hS hl)
theorem g_ldc (O : Ok F own cc nL rm rt) {i : Nat} {v : Int32} (hc : Cond.constant own i v ∈ Tb) (d : decode cc pc = .ok (.ldc i, 2)) (k : Gd F Z w h (pc + 2) lv (.int v :: st)) : Gd F Z w h pc lv (st) := fun H locs ls hw hS hl => lv_ldc O.1 O.2.1 O.2.2.2.1 (O.2.2.2.2.1 _ hc) d (k H locs ls hw hS hl)
theorem g_ldcw (O : Ok F own cc nL rm rt) {i : Nat} {v : Int32} (hc : Cond.constant own i v ∈ Tb) (d : decode cc pc = .ok (.ldc_w i, 3)) (k : Gd F Z w h (pc + 3) lv (.int v :: st)) : Gd F Z w h pc lv (st) := fun H locs ls hw hS hl => lv_ldcw O.1 O.2.1 O.2.2.2.1 (O.2.2.2.2.1 _ hc) d (k H locs ls hw hS hl)
theorem g_ldc2 (O : Ok F own cc nL rm rt) {i : Nat} {v : Int64} (hc : Cond.constantLong own i v ∈ Tb) (d : decode cc pc = .ok (.ldc2_w i, 3)) (k : Gd F Z w h (pc + 3) lv (.long v :: st)) : Gd F Z w h pc lv (st) := fun H locs ls hw hS hl => lv_ldc2 O.1 O.2.1 O.2.2.2.1 (O.2.2.2.2.1 _ hc) d (k H locs ls hw hS hl)
theorem g_dup (O : Ok F own cc nL rm rt) {v : Value} (hc : v.category = 1) (d : decode cc pc = .ok (.dup, 1)) (k : Gd F Z w h (pc + 1) lv (v :: v :: st)) : Gd F Z w h pc lv (v :: st) := fun H locs ls hw hS hl => lv_dup O.1 O.2.1 d (by rw [cv_cat]; exact hc) (k H locs ls hw hS hl)
theorem g_dup2 (O : Ok F own cc nL rm rt) {v u : Value} (hc : v.category = 1) (hu : u.category = 1) (d : decode cc pc = .ok (.dup2, 1)) (k : Gd F Z w h (pc + 1) lv (v :: u :: v :: u :: st)) : Gd F Z w h pc lv (v :: u :: st) := fun H locs ls hw hS hl => lv_dup2_11 O.1 O.2.1 d (by rw [cv_cat]; exact hc) (by rw [cv_cat]; exact hu) (k H locs ls hw hS hl)
theorem g_pop (O : Ok F own cc nL rm rt) {v : Value} (hc : v.category = 1) (d : decode cc pc = .ok (.pop, 1)) (k : Gd F Z w h (pc + 1) lv (st)) : Gd F Z w h pc lv (v :: st) := fun H locs ls hw hS hl => lv_pop O.1 O.2.1 d (by rw [cv_cat]; exact hc) (k H locs ls hw hS hl)
theorem g_iloadn (O : Ok F own cc nL rm rt) {k : Fin 4} {x : Int32} (e : lget lv (k : Nat) = some (.int x)) (d : decode cc pc = .ok (.iload_n k, 1)) (k : Gd F Z w h (pc + 1) lv (.int x :: st)) : Gd F Z w h pc lv (st) := fun H locs ls hw hS hl => lv_iload_n O.1 O.2.1 d rfl (lv_of hl e) (k H locs ls hw hS hl)
theorem g_iload (O : Ok F own cc nL rm rt) {i : Nat} {x : Int32} (e : lget lv i = some (.int x)) (d : decode cc pc = .ok (.iload i, 2)) (k : Gd F Z w h (pc + 2) lv (.int x :: st)) : Gd F Z w h pc lv (st) := fun H locs ls hw hS hl => lv_iload O.1 O.2.1 d (lv_of hl e) (k H locs ls hw hS hl)
theorem g_lloadn (O : Ok F own cc nL rm rt) {k : Fin 4} {x : Int64} (e : lget lv (k : Nat) = some (.long x)) (d : decode cc pc = .ok (.lload_n k, 1)) (k : Gd F Z w h (pc + 1) lv (.long x :: st)) : Gd F Z w h pc lv (st) := fun H locs ls hw hS hl => lv_lload_n O.1 O.2.1 d rfl (lv_of hl e) (k H locs ls hw hS hl)
theorem g_lload (O : Ok F own cc nL rm rt) {i : Nat} {x : Int64} (e : lget lv i = some (.long x)) (d : decode cc pc = .ok (.lload i, 2)) (k : Gd F Z w h (pc + 2) lv (.long x :: st)) : Gd F Z w h pc lv (st) := fun H locs ls hw hS hl => lv_lload O.1 O.2.1 d (lv_of hl e) (k H locs ls hw hS hl)
theorem g_aloadn (O : Ok F own cc nL rm rt) {k : Fin 4} {x : Nat} (e : lget lv (k : Nat) = some (.ref x)) (d : decode cc pc = .ok (.aload_n k, 1)) (k : Gd F Z w h (pc + 1) lv (.ref x :: st)) : Gd F Z w h pc lv (st) := fun H locs ls hw hS hl => lv_aload_n O.1 O.2.1 d rfl (lv_of hl e) (k H locs ls hw hS hl)
theorem g_aload (O : Ok F own cc nL rm rt) {i : Nat} {x : Nat} (e : lget lv i = some (.ref x)) (d : decode cc pc = .ok (.aload i, 2)) (k : Gd F Z w h (pc + 2) lv (.ref x :: st)) : Gd F Z w h pc lv (st) := fun H locs ls hw hS hl => lv_aload O.1 O.2.1 d (lv_of hl e) (k H locs ls hw hS hl)
/-- the locals behind a store -/
def lput (lv : List (Nat × Value)) (i : Nat) (v : Value) : List (Nat × Value) := lv.filter (fun q => decide (q.1 < i) && !(q.1 + 1 == i && q.2.category == 2)) ++ (i, v) :: lv.filter (fun q => decide (i + v.category ≤ q.1))
theorem lput_in {r : Nat → Nat} {i : Nat} {v : Value} (lv : List (Nat × Value)) (hc : v.category = 1) : ∀ q ∈ (lput lv i v).map (cvq r), q ∈ (i, cv r v) :: (lv.map (cvq r)).filter (fun q => !(q.1 == i) && !(q.1 + 1 == i && q.2.category == 2)) := by
  intro q hq
  obtain ⟨p, hp, rfl⟩ := List.mem_map.mp hq
  unfold lput at hp
  rcases List.mem_append.mp hp with h1 | h1
  · obtain ⟨h2, h3⟩ := List.mem_filter.mp h1
    refine List.mem_cons_of_mem _ (List.mem_filter.mpr ⟨List.mem_map.mpr ⟨p, h2, rfl⟩, ?_⟩)
    simp only [Bool.and_eq_true, decide_eq_true_eq] at h3
    have h4 : (cvq r p).1 = p.1 := rfl
    have h5 : (cvq r p).2.category = p.2.category := cv_cat r p.2
    rw [h4, h5]
    simp only [Bool.and_eq_true]
    refine ⟨?_, h3.2⟩
    simp; omega
  · rcases List.mem_cons.mp h1 with h2 | h2
    · subst h2
      exact List.mem_cons_self
    · obtain ⟨h2, h3⟩ := List.mem_filter.mp h2
      refine List.mem_cons_of_mem _ (List.mem_filter.mpr ⟨List.mem_map.mpr ⟨p, h2, rfl⟩, ?_⟩)
      rw [hc] at h3
      simp only [decide_eq_true_eq] at h3
      have h4 : (cvq r p).1 = p.1 := rfl
      rw [h4]
      simp; omega
theorem lput_in2 {r : Nat → Nat} {i : Nat} {v : Value} (lv : List (Nat × Value)) (hc : v.category = 2) : ∀ q ∈ (lput lv i v).map (cvq r), q ∈ (i, cv r v) :: (lv.map (cvq r)).filter (fun q => !(q.1 == i) && (!(q.1 == i + 1) && !(q.1 + 1 == i && q.2.category == 2))) := by
  intro q hq
  obtain ⟨p, hp, rfl⟩ := List.mem_map.mp hq
  unfold lput at hp
  rcases List.mem_append.mp hp with h1 | h1
  · obtain ⟨h2, h3⟩ := List.mem_filter.mp h1
    refine List.mem_cons_of_mem _ (List.mem_filter.mpr ⟨List.mem_map.mpr ⟨p, h2, rfl⟩, ?_⟩)
    simp only [Bool.and_eq_true, decide_eq_true_eq] at h3
    have h4 : (cvq r p).1 = p.1 := rfl
    have h5 : (cvq r p).2.category = p.2.category := cv_cat r p.2
    rw [h4, h5]
    simp only [Bool.and_eq_true]
    refine ⟨?_, ?_, h3.2⟩
    · simp; omega
    · simp; omega
  · rcases List.mem_cons.mp h1 with h2 | h2
    · subst h2
      exact List.mem_cons_self
    · obtain ⟨h2, h3⟩ := List.mem_filter.mp h2
      refine List.mem_cons_of_mem _ (List.mem_filter.mpr ⟨List.mem_map.mpr ⟨p, h2, rfl⟩, ?_⟩)
      rw [hc] at h3
      simp only [decide_eq_true_eq] at h3
      have h4 : (cvq r p).1 = p.1 := rfl
      rw [h4]
      simp; omega
theorem lv_less {ls : Array Slot} {n : Nat} {l l' : List (Nat × Value)} (hl : lv_has ls n l) (h : ∀ q ∈ l', q ∈ l) : lv_has ls n l' := ⟨hl.1, hl.2.1, fun q hq => hl.2.2 q (h q hq)⟩
theorem g_istoren (O : Ok F own cc nL rm rt) {k : Fin 4} {i : Nat} {x : Int32} {lv' : List (Nat × Value)} (d : decode cc pc = .ok (.istore_n k, 1)) (hi : (k : Nat) = i) (hn : i < nL) (e : lput lv i (.int x) = lv') (kk : Gd F Z w h (pc + 1) lv' st) : Gd F Z w h pc lv (.int x :: st) := fun H locs ls hw hS hl => lv_istore_n O.1 O.2.1 d hi hl (by rw [O.2.2.2.2.2.2.2.2.2.1]; exact hn) rfl (fun ls' hl' => kk H locs ls' hw hS (lv_less hl' (by rw [← e]; exact lput_in lv rfl)))
theorem g_istore (O : Ok F own cc nL rm rt) {i : Nat} {x : Int32} {lv' : List (Nat × Value)} (d : decode cc pc = .ok (.istore i, 2)) (hn : i < nL) (e : lput lv i (.int x) = lv') (kk : Gd F Z w h (pc + 2) lv' st) : Gd F Z w h pc lv (.int x :: st) := fun H locs ls hw hS hl => lv_istore O.1 O.2.1 d hl (by rw [O.2.2.2.2.2.2.2.2.2.1]; exact hn) rfl (fun ls' hl' => kk H locs ls' hw hS (lv_less hl' (by rw [← e]; exact lput_in lv rfl)))
theorem g_astoren (O : Ok F own cc nL rm rt) {k : Fin 4} {i : Nat} {x : Nat} {lv' : List (Nat × Value)} (d : decode cc pc = .ok (.astore_n k, 1)) (hi : (k : Nat) = i) (hn : i < nL) (e : lput lv i (.ref x) = lv') (kk : Gd F Z w h (pc + 1) lv' st) : Gd F Z w h pc lv (.ref x :: st) := fun H locs ls hw hS hl => lv_astore_n O.1 O.2.1 d hi hl (by rw [O.2.2.2.2.2.2.2.2.2.1]; exact hn) rfl (fun ls' hl' => kk H locs ls' hw hS (lv_less hl' (by rw [← e]; exact lput_in lv rfl)))
theorem g_astore (O : Ok F own cc nL rm rt) {i : Nat} {x : Nat} {lv' : List (Nat × Value)} (d : decode cc pc = .ok (.astore i, 2)) (hn : i < nL) (e : lput lv i (.ref x) = lv') (kk : Gd F Z w h (pc + 2) lv' st) : Gd F Z w h pc lv (.ref x :: st) := fun H locs ls hw hS hl => lv_astore O.1 O.2.1 d hl (by rw [O.2.2.2.2.2.2.2.2.2.1]; exact hn) rfl (fun ls' hl' => kk H locs ls' hw hS (lv_less hl' (by rw [← e]; exact lput_in lv rfl)))
theorem g_lstoren (O : Ok F own cc nL rm rt) {k : Fin 4} {i : Nat} {x : Int64} {lv' : List (Nat × Value)} (d : decode cc pc = .ok (.lstore_n k, 1)) (hi : (k : Nat) = i) (hn : i + 1 < nL) (e : lput lv i (.long x) = lv') (kk : Gd F Z w h (pc + 1) lv' st) : Gd F Z w h pc lv (.long x :: st) := fun H locs ls hw hS hl => lv_lstore_n O.1 O.2.1 d hi hl (by rw [O.2.2.2.2.2.2.2.2.2.1]; exact hn) rfl (fun ls' hl' => kk H locs ls' hw hS (lv_less hl' (by rw [← e]; exact lput_in2 lv rfl)))
theorem g_lstore (O : Ok F own cc nL rm rt) {i : Nat} {x : Int64} {lv' : List (Nat × Value)} (d : decode cc pc = .ok (.lstore i, 2)) (hn : i + 1 < nL) (e : lput lv i (.long x) = lv') (kk : Gd F Z w h (pc + 2) lv' st) : Gd F Z w h pc lv (.long x :: st) := fun H locs ls hw hS hl => lv_lstore O.1 O.2.1 d hl (by rw [O.2.2.2.2.2.2.2.2.2.1]; exact hn) rfl (fun ls' hl' => kk H locs ls' hw hS (lv_less hl' (by rw [← e]; exact lput_in2 lv rfl)))
theorem g_iinc (O : Ok F own cc nL rm rt) {i : Nat} {n : Int} {x v : Int32} {lv' : List (Nat × Value)} (d : decode cc pc = .ok (.iinc i n, 3)) (e0 : lget lv i = some (.int x)) (hv : x + Int32.ofInt n = v) (hn : i < nL) (e : lput lv i (.int v) = lv') (kk : Gd F Z w h (pc + 3) lv' st) : Gd F Z w h pc lv st := fun H locs ls hw hS hl => by
  obtain ⟨k, hk⟩ := List.getElem?_of_mem (List.mem_map.mpr ⟨(i, .int x), lget_mem e0, rfl⟩ : cvq (fr F) (i, .int x) ∈ lv.map (cvq (fr F)))
  exact lv_iinc (k := k) (x := x) O.1 O.2.1 d hl hk hv (by rw [O.2.2.2.2.2.2.2.2.2.1]; exact hn) rfl (fun ls' hl' => kk H locs ls' hw hS (lv_less hl' (by rw [← e]; exact lput_in lv rfl)))
/-- fewer locals -/
theorem g_sub {lv' : List (Nat × Value)} (ks : List Nat) (e : lv_pick lv ks = lv') (kk : Gd F Z w h pc lv' st) : Gd F Z w h pc lv st := fun H locs ls hw hS hl => kk H locs ls hw hS (lv_less hl (fun q hq => by
  obtain ⟨p, hp, rfl⟩ := List.mem_map.mp hq
  rw [← e] at hp
  obtain ⟨i, -, hi⟩ := List.mem_filterMap.mp hp
  exact List.mem_map.mpr ⟨p, by first | exact List.mem_of_getElem? hi | exact List.getElem?_mem hi, rfl⟩))
theorem g_if_eq (O : Ok F own cc nL rm rt) {x : Int32} {off : Int} {tgt : Nat} (d : decode cc pc = .ok (.ifCond .eq off, 3)) (ht : (pc : Int) + off = (tgt : Int)) (kt : x = 0 → Gd F Z w h tgt lv st) (kf : ¬ x = 0 → Gd F Z w h (pc + 3) lv st) : Gd F Z w h pc lv (.int x :: st) := fun H locs ls hw hS hl => lv_if_eq O.1 O.2.1 d ht (fun q => kt q H locs ls hw hS hl) (fun q => kf q H locs ls hw hS hl)
theorem g_icmp_eq (O : Ok F own cc nL rm rt) {x y : Int32} {off : Int} {tgt : Nat} (d : decode cc pc = .ok (.if_icmp .eq off, 3)) (ht : (pc : Int) + off = (tgt : Int)) (kt : x = y → Gd F Z w h tgt lv st) (kf : ¬ x = y → Gd F Z w h (pc + 3) lv st) : Gd F Z w h pc lv (.int y :: .int x :: st) := fun H locs ls hw hS hl => lv_icmp_eq O.1 O.2.1 d ht (fun q => kt q H locs ls hw hS hl) (fun q => kf q H locs ls hw hS hl)
theorem g_if_ne (O : Ok F own cc nL rm rt) {x : Int32} {off : Int} {tgt : Nat} (d : decode cc pc = .ok (.ifCond .ne off, 3)) (ht : (pc : Int) + off = (tgt : Int)) (kt : ¬ x = 0 → Gd F Z w h tgt lv st) (kf : x = 0 → Gd F Z w h (pc + 3) lv st) : Gd F Z w h pc lv (.int x :: st) := fun H locs ls hw hS hl => lv_if_ne O.1 O.2.1 d ht (fun q => kt q H locs ls hw hS hl) (fun q => kf q H locs ls hw hS hl)
theorem g_icmp_ne (O : Ok F own cc nL rm rt) {x y : Int32} {off : Int} {tgt : Nat} (d : decode cc pc = .ok (.if_icmp .ne off, 3)) (ht : (pc : Int) + off = (tgt : Int)) (kt : ¬ x = y → Gd F Z w h tgt lv st) (kf : x = y → Gd F Z w h (pc + 3) lv st) : Gd F Z w h pc lv (.int y :: .int x :: st) := fun H locs ls hw hS hl => lv_icmp_ne O.1 O.2.1 d ht (fun q => kt q H locs ls hw hS hl) (fun q => kf q H locs ls hw hS hl)
theorem g_if_lt (O : Ok F own cc nL rm rt) {x : Int32} {off : Int} {tgt : Nat} (d : decode cc pc = .ok (.ifCond .lt off, 3)) (ht : (pc : Int) + off = (tgt : Int)) (kt : x < 0 → Gd F Z w h tgt lv st) (kf : ¬ x < 0 → Gd F Z w h (pc + 3) lv st) : Gd F Z w h pc lv (.int x :: st) := fun H locs ls hw hS hl => lv_if_lt O.1 O.2.1 d ht (fun q => kt q H locs ls hw hS hl) (fun q => kf q H locs ls hw hS hl)
theorem g_icmp_lt (O : Ok F own cc nL rm rt) {x y : Int32} {off : Int} {tgt : Nat} (d : decode cc pc = .ok (.if_icmp .lt off, 3)) (ht : (pc : Int) + off = (tgt : Int)) (kt : x < y → Gd F Z w h tgt lv st) (kf : ¬ x < y → Gd F Z w h (pc + 3) lv st) : Gd F Z w h pc lv (.int y :: .int x :: st) := fun H locs ls hw hS hl => lv_icmp_lt O.1 O.2.1 d ht (fun q => kt q H locs ls hw hS hl) (fun q => kf q H locs ls hw hS hl)
theorem g_if_ge (O : Ok F own cc nL rm rt) {x : Int32} {off : Int} {tgt : Nat} (d : decode cc pc = .ok (.ifCond .ge off, 3)) (ht : (pc : Int) + off = (tgt : Int)) (kt : 0 ≤ x → Gd F Z w h tgt lv st) (kf : ¬ 0 ≤ x → Gd F Z w h (pc + 3) lv st) : Gd F Z w h pc lv (.int x :: st) := fun H locs ls hw hS hl => lv_if_ge O.1 O.2.1 d ht (fun q => kt q H locs ls hw hS hl) (fun q => kf q H locs ls hw hS hl)
theorem g_icmp_ge (O : Ok F own cc nL rm rt) {x y : Int32} {off : Int} {tgt : Nat} (d : decode cc pc = .ok (.if_icmp .ge off, 3)) (ht : (pc : Int) + off = (tgt : Int)) (kt : y ≤ x → Gd F Z w h tgt lv st) (kf : ¬ y ≤ x → Gd F Z w h (pc + 3) lv st) : Gd F Z w h pc lv (.int y :: .int x :: st) := fun H locs ls hw hS hl => lv_icmp_ge O.1 O.2.1 d ht (fun q => kt q H locs ls hw hS hl) (fun q => kf q H locs ls hw hS hl)
theorem g_if_gt (O : Ok F own cc nL rm rt) {x : Int32} {off : Int} {tgt : Nat} (d : decode cc pc = .ok (.ifCond .gt off, 3)) (ht : (pc : Int) + off = (tgt : Int)) (kt : 0 < x → Gd F Z w h tgt lv st) (kf : ¬ 0 < x → Gd F Z w h (pc + 3) lv st) : Gd F Z w h pc lv (.int x :: st) := fun H locs ls hw hS hl => lv_if_gt O.1 O.2.1 d ht (fun q => kt q H locs ls hw hS hl) (fun q => kf q H locs ls hw hS hl)
theorem g_icmp_gt (O : Ok F own cc nL rm rt) {x y : Int32} {off : Int} {tgt : Nat} (d : decode cc pc = .ok (.if_icmp .gt off, 3)) (ht : (pc : Int) + off = (tgt : Int)) (kt : y < x → Gd F Z w h tgt lv st) (kf : ¬ y < x → Gd F Z w h (pc + 3) lv st) : Gd F Z w h pc lv (.int y :: .int x :: st) := fun H locs ls hw hS hl => lv_icmp_gt O.1 O.2.1 d ht (fun q => kt q H locs ls hw hS hl) (fun q => kf q H locs ls hw hS hl)
theorem g_if_le (O : Ok F own cc nL rm rt) {x : Int32} {off : Int} {tgt : Nat} (d : decode cc pc = .ok (.ifCond .le off, 3)) (ht : (pc : Int) + off = (tgt : Int)) (kt : x ≤ 0 → Gd F Z w h tgt lv st) (kf : ¬ x ≤ 0 → Gd F Z w h (pc + 3) lv st) : Gd F Z w h pc lv (.int x :: st) := fun H locs ls hw hS hl => lv_if_le O.1 O.2.1 d ht (fun q => kt q H locs ls hw hS hl) (fun q => kf q H locs ls hw hS hl)
theorem g_icmp_le (O : Ok F own cc nL rm rt) {x y : Int32} {off : Int} {tgt : Nat} (d : decode cc pc = .ok (.if_icmp .le off, 3)) (ht : (pc : Int) + off = (tgt : Int)) (kt : x ≤ y → Gd F Z w h tgt lv st) (kf : ¬ x ≤ y → Gd F Z w h (pc + 3) lv st) : Gd F Z w h pc lv (.int y :: .int x :: st) := fun H locs ls hw hS hl => lv_icmp_le O.1 O.2.1 d ht (fun q => kt q H locs ls hw hS hl) (fun q => kf q H locs ls hw hS hl)
theorem g_goto (O : Ok F own cc nL rm rt) {off : Int} {tgt : Nat} (d : decode cc pc = .ok (.goto off, 3)) (ht : (pc : Int) + off = (tgt : Int)) (k : Gd F Z w h tgt lv st) : Gd F Z w h pc lv st := fun H locs ls hw hS hl => lv_goto O.1 O.2.1 d ht (k H locs ls hw hS hl)
end GR
end
section
/-! ROWS OF THE LAYER: fields, arrays, returns, calls -/
/-- an Int32 by its number -/
def I (z : Int) : Int32 := Int32.ofInt z
theorem I_nat (j : Nat) : I (j : Int) = nI j := by
  unfold I nI
  first | rfl | exact (Int32.ofInt_natCast j) | (apply Int32.toInt_inj.mp; simp)
theorem I_in {j n : Nat} (h : j < n) (hn : n < 2 ^ 31) : vp_in (I (j : Int)) n := by rw [I_nat]; exact vp_in_nI h hn
theorem I_cl {j : Nat} (h : j < 2 ^ 31) : (I (j : Int)).toNatClampNeg = j := by rw [I_nat]; exact nI_clamp h
def Cls (c : Nat) (C : String) (T : u_T) (N : Nat) : Prop := vwCl[c]? = some (C, T, N) ∧ (∀ x ∈ u_ws C T N, x ∈ Tb) ∧ c < 100 ∧ ∃ ty0 : Nat → FieldType, (∀ k, k < N → parseFieldDescriptor (T k).2.2.1 = some (ty0 k)) ∧ ∀ a, a < N → ∀ b, b < N → a ≠ b → (T a).2.1 ≠ (T b).2.1
theorem okK {F : Fr} {own : String} {cc : ByteArray} {nL : Nat} {rm : Room} {rt : Option FieldType} (O : Ok F own cc nL rm rt) : va_K (fG F).2.2.1 vwCl (tys5 (fG F)) (fs F) := va_K.moved O.2.2.2.2.2.1.alike O.2.2.2.2.2.2.1.2.1
theorem okE {F : Fr} {own : String} {cc : ByteArray} {nL : Nat} {rm : Room} {rt : Option FieldType} (O : Ok F own cc nL rm rt) : Env0 (fG F) := O.2.2.2.2.2.2.1
theorem okS {F : Fr} {own : String} {cc : ByteArray} {nL : Nat} {rm : Room} {rt : Option FieldType} (O : Ok F own cc nL rm rt) {x : Cond} (hx : x ∈ Tb) : x.before (fa F) (fs F) = true := O.2.2.2.2.1 x hx
theorem wd_set {G : Gm} {n a : Nat} {h h2 : AH} {H H1 : Heap} (hE : Env0 G) (hn : n ≤ 1000) (hw : wd G n h H) (ha : a < n) (he : va_at G.2.2.1 vwCl (G.2.1 a, ce G h2 a) H1) (z : H1.size = H.size) (oq : ∀ q : Nat, q ≠ G.2.1 a → H1[q]? = H[q]?) (ho : ∀ b, b ≠ a → ce G h2 b = ce G h b) : wd G n h2 H1 := by
  refine ⟨?_, by rw [z]; exact hw.2.1, fun q hq => ?_⟩
  · have := hw.1.set (wl_D hE hn) (wl_at ha) he oq
    rwa [wl_set rfl ho] at this
  · rw [oq q (by rw [hE.1 a (by omega)]; omega)]
    exact hw.2.2 q hq
section GH
variable {F : Fr} {Z : State → Prop} {w : Nat × Nat × Nat} {h : AH} {pc : Nat} {lv : List (Nat × Value)} {st : List Value} {own : String} {cc : ByteArray} {nL : Nat} {rm : Room} {rt : Option FieldType} {c i k a N n b : Nat} {C : String} {T : u_T}
theorem g_get (O : Ok F own cc nL rm rt) (hC : Cls c C T N) (hl : Cond.fieldLink own i (T k).1 (T k).2.1 (T k).2.2.1 ∈ Tb) (d : decode cc pc = .ok (.getfield i, 3)) (ha : lay a = (c, N)) (hn : a < w.1) (hk : k < N) {v : Value} (hv : fv (fG F) h a c k = cv (fr F) v) (kk : Gd F Z w h (pc + 3) lv (v :: st)) : Gd F Z w h pc lv (.ref a :: st) :=
  fun H locs ls hw hS hl' => va_get (D := (fG F).2.2.1) (ci := c) (C := C) (T := T) (N := N) O.1 O.2.1 O.2.2.2.2.1 hC.2.1 O.2.2.2.1 (okK O) hw.1 a (by rw [wl_at hn, ce_o ha hC.2.2.1]) hC.1 k hk (okS O hl) (fun _ x => x) (by rw [fvs_at hk, hv]) d (kk H locs ls hw hS hl')
theorem g_getI (O : Ok F own cc nL rm rt) (hC : Cls c C T N) (hl : Cond.fieldLink own i (T k).1 (T k).2.1 (T k).2.2.1 ∈ Tb) (d : decode cc pc = .ok (.getfield i, 3)) (ha : lay a = (c, N)) (hn : a < w.1) (hk : k < N) (hf : ft c k = 0) {v : Int32} (hv : h.1 a k = v) (kk : Gd F Z w h (pc + 3) lv (.int v :: st)) : Gd F Z w h pc lv (.ref a :: st) :=
  g_get O hC hl d ha hn hk (by rw [fv_i hf, hv]; rfl) kk
theorem g_getL (O : Ok F own cc nL rm rt) (hC : Cls c C T N) (hl : Cond.fieldLink own i (T k).1 (T k).2.1 (T k).2.2.1 ∈ Tb) (d : decode cc pc = .ok (.getfield i, 3)) (ha : lay a = (c, N)) (hn : a < w.1) (hk : k < N) (hf : ft c k = 1) {v : Int64} (hv : h.2.1 a k = v) (kk : Gd F Z w h (pc + 3) lv (.long v :: st)) : Gd F Z w h pc lv (.ref a :: st) :=
  g_get O hC hl d ha hn hk (by rw [fv_l hf, hv]; rfl) kk
/-- a fixed reference -/
theorem g_getS (O : Ok F own cc nL rm rt) (hC : Cls c C T N) (hl : Cond.fieldLink own i (T k).1 (T k).2.1 (T k).2.2.1 ∈ Tb) (d : decode cc pc = .ok (.getfield i, 3)) (ha : lay a = (c, N)) (hn : a < w.1) (hk : k < N) (hf : ft c k = 2) (hs : (fG F).2.2.2.2 a k = some b) (kk : Gd F Z w h (pc + 3) lv (.ref b :: st)) : Gd F Z w h pc lv (.ref a :: st) :=
  g_get O hC hl d ha hn hk (by rw [fv_s hf hs]; rfl) kk
/-- a reference that the heap holds -/
theorem g_getR (O : Ok F own cc nL rm rt) (hC : Cls c C T N) (hl : Cond.fieldLink own i (T k).1 (T k).2.1 (T k).2.2.1 ∈ Tb) (d : decode cc pc = .ok (.getfield i, 3)) (ha : lay a = (c, N)) (hn : a < w.1) (hk : k < N) (hf : ft c k = 2) (hs : (fG F).2.2.2.2 a k = none) (hv : h.2.2 a k = some b) (kk : Gd F Z w h (pc + 3) lv (.ref b :: st)) : Gd F Z w h pc lv (.ref a :: st) :=
  g_get O hC hl d ha hn hk (by rw [fv_r hf hs, hv]; rfl) kk
theorem g_put (O : Ok F own cc nL rm rt) (hC : Cls c C T N) (hl : Cond.fieldLink own i (T k).1 (T k).2.1 (T k).2.2.1 ∈ Tb) (d : decode cc pc = .ok (.putfield i, 3)) (ha : lay a = (c, N)) (hn : a < w.1) (hn1 : w.1 ≤ 1000) (hk : k < N)
    (hfin : (T k).2.2.2 = false ∨ ((T k).2.2.2 = true ∧ (ft' F).name = "<init>" ∧ (T k).1 = own)) {ty : FieldType} {v : Value} (hd : parseFieldDescriptor (T k).2.2.1 = some ty) (hnr : narrow ty (cv (fr F) v) = cv (fr F) v) (hft : fits ty (cv (fr F) v) = true) {h2 : AH} (hv : cv (fr F) v = fv (fG F) h2 a c k) (ho : ∀ j, j ≠ k → fv (fG F) h2 a c j = fv (fG F) h a c j) (hb : ∀ b, b ≠ a → ce (fG F) h2 b = ce (fG F) h b)
    (kk : Gd F Z w h2 (pc + 3) lv st) : Gd F Z w h pc lv (v :: .ref a :: st) := by
  intro H locs ls hw hS hl'
  have hK := okK O
  have hts := O.2.2.2.2.1
  obtain ⟨hc, hin, hc100, ty0, hty, hnm⟩ := hC
  have hap := va_apart (own := own) hts hin ty0 hty hnm hK hc
  have he : (wl (fG F) w.1 h)[a]? = some (fr F a, .inr (c, fvs (fG F) h a c N)) := by rw [wl_at hn, ce_o ha hc100]
  obtain ⟨r, h1, cell, q1, q2, q3, q4⟩ := hw.1 a _ he
  have hr : r = (C, T, N) := Option.some.inj (h1.symm.trans hc)
  subst hr
  obtain ⟨hSl, hfc, kC, hkC, hkind⟩ := hK.1 c _ hc
  obtain ⟨cf, kf, fi, f, hi, hsl⟩ := hSl k hk
  have hst := (u_facts hfc hkC (u_lays hts hin hk) hi).1
  have fin : ∀ H' : Heap, H'[fr F a]? = some (cell.setSlot f.slot (cv (fr F) v)) → H'.size = H.size → (∀ q, q ≠ fr F a → H'[q]? = H[q]?) → WW F H' (locs ++ [⟨fr F a, f.slot⟩]) w.2.1 w.2.2 Z (F0 (fm F) (pc + 3) ls (st.map (cv (fr F)))) := by
    intro H' e1 e2 e3
    refine kk H' _ ls (wd_set (okE O) hn1 hw hn ?_ e2 e3 hb) (hS.put e2 e3 (by have e9 := (okE O).1 a (by omega); show bs (fG F) ≤ fr F a; have e8 : fr F a = bs (fG F) + a := e9; omega)) hl'
    rw [ce_o ha hc100]
    rw [hsl] at e1
    refine ⟨_, hc, ?_⟩
    have := t_OB.to (V := updV (vp_V (fvs (fG F) h a c N)) k (cv (fr F) v)) ⟨_, e1, q2, q3, t_set q4 hap hk (cv (fr F) v)⟩ (fun j _ => vp_updV_set (by rw [fvs_len]; exact hk) (cv (fr F) v) j)
    rwa [fvs_set hv ho] at this
  rcases hfin with hfin | ⟨hfin, hin2, hdecl⟩
  · have hlay := hts _ (hin _ (u_in_lay hk))
    unfold u_lay at hlay
    rw [if_neg (by rw [hfin]; decide)] at hlay
    have h6 := u_store hfc hkC hkind hlay hi hd hnr hft
    exact W.putK O.1 O.2.1 (f := f) ⟨O.2.2.2.1, okS O hl, ⟨_, _, _, hi⟩, hst⟩ (by rw [q2]; exact h6) q1 q3 (by rw [hsl]; exact k2_hasslot (q4 k hk)) rfl rfl d fin
  · have hlay := hts _ (hin _ (u_in_lay hk))
    unfold u_lay at hlay
    rw [if_pos hfin] at hlay
    have hcf : (fm F).cls = cf := by
      obtain ⟨_, _, c', _, _, _, -, -, hf', -, -, -, hown2, -⟩ := Cond.laysFinal_spec hlay
      have e1 : c' = cf := by have := hi.symm.trans hf'; simp at this; exact this.1.symm
      rw [hdecl] at hown2
      rw [← e1]; exact Option.some.inj (O.2.2.2.1.symm.trans hown2)
    have h6 := u_fits hfc hkC hkind (Or.inr hlay) hi hd hnr hft
    exact W.putFinK O.1 O.2.1 O.2.2.2.1 (okS O hl) hi hst hcf hin2 (by rw [q2]; exact h6) q1 q3 (by rw [hsl]; exact k2_hasslot (q4 k hk)) rfl rfl d fin
theorem fv_sI {G : Gm} {h : AH} {a k j c : Nat} {v : Int32} (hj : j ≠ k) : fv G (sI h a k v) a c j = fv G h a c j := fv_congr (by rw [sI_1, up_n hj]) rfl rfl
theorem fv_sL {G : Gm} {h : AH} {a k j c : Nat} {v : Int64} (hj : j ≠ k) : fv G (sL h a k v) a c j = fv G h a c j := fv_congr rfl (by rw [sL_1, up_n hj]) rfl
theorem fv_sR {G : Gm} {h : AH} {a k j c : Nat} {v : Option Nat} (hj : j ≠ k) : fv G (sR h a k v) a c j = fv G h a c j := fv_congr rfl rfl (by rw [sR_1, up_n hj])
theorem g_putI (O : Ok F own cc nL rm rt) (hC : Cls c C T N) (hl : Cond.fieldLink own i (T k).1 (T k).2.1 (T k).2.2.1 ∈ Tb) (d : decode cc pc = .ok (.putfield i, 3)) (ha : lay a = (c, N)) (hn : a < w.1) (hn1 : w.1 ≤ 1000) (hk : k < N) (hf : ft c k = 0) (hfin : (T k).2.2.2 = false) (hd : parseFieldDescriptor (T k).2.2.1 = some .int) {v : Int32} (kk : Gd F Z w (sI h a k v) (pc + 3) lv st) : Gd F Z w h pc lv (.int v :: .ref a :: st) :=
  g_put O hC hl d ha hn hn1 hk (Or.inl hfin) hd (h2 := sI h a k v) rfl rfl (by rw [fv_i hf, sI_1, up_s]; rfl) (fun j hj => fv_sI hj) (fun b hb => ce_sI hb) kk
theorem g_putZ (O : Ok F own cc nL rm rt) (hC : Cls c C T N) (hl : Cond.fieldLink own i (T k).1 (T k).2.1 (T k).2.2.1 ∈ Tb) (d : decode cc pc = .ok (.putfield i, 3)) (ha : lay a = (c, N)) (hn : a < w.1) (hn1 : w.1 ≤ 1000) (hk : k < N) (hf : ft c k = 0) (hfin : (T k).2.2.2 = false) (hd : parseFieldDescriptor (T k).2.2.1 = some .boolean) {v : Int32} (hv : v = 0 ∨ v = 1) (kk : Gd F Z w (sI h a k v) (pc + 3) lv st) : Gd F Z w h pc lv (.int v :: .ref a :: st) :=
  g_put O hC hl d ha hn hn1 hk (Or.inl hfin) hd (h2 := sI h a k v) (by rcases hv with rfl | rfl <;> rfl) (by rcases hv with rfl | rfl <;> rfl) (by rw [fv_i hf, sI_1, up_s]; rfl) (fun j hj => fv_sI hj) (fun b hb => ce_sI hb) kk
theorem g_putL (O : Ok F own cc nL rm rt) (hC : Cls c C T N) (hl : Cond.fieldLink own i (T k).1 (T k).2.1 (T k).2.2.1 ∈ Tb) (d : decode cc pc = .ok (.putfield i, 3)) (ha : lay a = (c, N)) (hn : a < w.1) (hn1 : w.1 ≤ 1000) (hk : k < N) (hf : ft c k = 1) (hfin : (T k).2.2.2 = false) (hd : parseFieldDescriptor (T k).2.2.1 = some .long) {v : Int64} (kk : Gd F Z w (sL h a k v) (pc + 3) lv st) : Gd F Z w h pc lv (.long v :: .ref a :: st) :=
  g_put O hC hl d ha hn hn1 hk (Or.inl hfin) hd (h2 := sL h a k v) rfl rfl (by rw [fv_l hf, sL_1, up_s]; rfl) (fun j hj => fv_sL hj) (fun b hb => ce_sL hb) kk
theorem g_putR (O : Ok F own cc nL rm rt) (hC : Cls c C T N) (hl : Cond.fieldLink own i (T k).1 (T k).2.1 (T k).2.2.1 ∈ Tb) (d : decode cc pc = .ok (.putfield i, 3)) (ha : lay a = (c, N)) (hn : a < w.1) (hn1 : w.1 ≤ 1000) (hk : k < N) (hf : ft c k = 2) (hs : (fG F).2.2.2.2 a k = none) (hfin : (T k).2.2.2 = false) {ty : FieldType} (hd : parseFieldDescriptor (T k).2.2.1 = some ty) {v : Nat} (hnr : narrow ty (.ref (fr F v)) = .ref (fr F v)) (hft : fits ty (.ref (fr F v)) = true) (kk : Gd F Z w (sR h a k (some v)) (pc + 3) lv st) : Gd F Z w h pc lv (.ref v :: .ref a :: st) :=
  g_put O hC hl d ha hn hn1 hk (Or.inl hfin) hd (h2 := sR h a k (some v)) hnr hft (by rw [fv_r hf hs, sR_1, up_s]; rfl) (fun j hj => fv_sR hj) (fun b hb => ce_sR hb) kk
theorem g_putF (O : Ok F own cc nL rm rt) (hC : Cls c C T N) (hl : Cond.fieldLink own i (T k).1 (T k).2.1 (T k).2.2.1 ∈ Tb) (d : decode cc pc = .ok (.putfield i, 3)) (ha : lay a = (c, N)) (hn : a < w.1) (hn1 : w.1 ≤ 1000) (hk : k < N) (hf : ft c k = 2) (hs : (fG F).2.2.2.2 a k = none) (hfin : (T k).2.2.2 = true) (hi : (ft' F).name = "<init>") (ho : (T k).1 = own) {ty : FieldType} (hd : parseFieldDescriptor (T k).2.2.1 = some ty) {v : Nat} (hnr : narrow ty (.ref (fr F v)) = .ref (fr F v)) (hft : fits ty (.ref (fr F v)) = true) (kk : Gd F Z w (sR h a k (some v)) (pc + 3) lv st) : Gd F Z w h pc lv (.ref v :: .ref a :: st) :=
  g_put O hC hl d ha hn hn1 hk (Or.inr ⟨hfin, hi, ho⟩) hd (h2 := sR h a k (some v)) hnr hft (by rw [fv_r hf hs, sR_1, up_s]; rfl) (fun j hj => fv_sR hj) (fun b hb => ce_sR hb) kk
/-! arrays -/
theorem wl_i (ha : lay a = (100, n)) (hn : a < w.1) : (wl (fG F) w.1 h)[a]? = some (fr F a, .inl ((fG F).2.2.2.1 0, n, .inl (h.1 a))) := by rw [wl_at hn, ce_a (t := 0) ha]; rfl
theorem wl_b (ha : lay a = (101, n)) (hn : a < w.1) : (wl (fG F) w.1 h)[a]? = some (fr F a, .inl ((fG F).2.2.2.1 1, n, .inl (h.1 a))) := by rw [wl_at hn, ce_a (t := 1) ha]; rfl
theorem wl_l (ha : lay a = (102, n)) (hn : a < w.1) : (wl (fG F) w.1 h)[a]? = some (fr F a, .inl ((fG F).2.2.2.1 2, n, .inr (.inl (h.2.1 a)))) := by rw [wl_at hn, ce_a (t := 2) ha]; rfl
theorem wl_q {t : Nat} (ha : lay a = (103 + t, n)) (hn : a < w.1) : (wl (fG F) w.1 h)[a]? = some (fr F a, .inl ((fG F).2.2.2.1 (3 + t), n, .inr (.inr (.inr (.inr (fun i => (h.2.2 a i).map (fr F))))))) := by
  rw [wl_at hn, ce_a (t := 3 + t) (by rw [ha]; congr 1; omega)]
  have h1 : ¬ (3 + t < 2) := by omega
  have h2 : ¬ (3 + t = 2) := by omega
  simp [ac, h1, h2]
theorem g_iald (O : Ok F own cc nL rm rt) (d : decode cc pc = .ok (.iaload, 1)) {x : Int32} {j : Nat} (e : x = I (j : Int)) (ha : lay a = (100, n)) (hn : a < w.1) (hj : j < n) (hN : n < 2 ^ 31) {v : Int32} (hv : h.1 a j = v) (kk : Gd F Z w h (pc + 1) lv (.int v :: st)) : Gd F Z w h pc lv (.int x :: .ref a :: st) := by
  subst e; subst hv
  intro H locs ls hw hS hl'
  refine va_iald O.1 O.2.1 (okK O) hw.1 a 0 (wl_i ha hn) rfl (I_in hj hN) d ?_
  rw [I_cl (by omega)]
  exact kk H locs ls hw hS hl'
theorem g_bald (O : Ok F own cc nL rm rt) (d : decode cc pc = .ok (.baload, 1)) {x : Int32} {j : Nat} (e : x = I (j : Int)) (ha : lay a = (101, n)) (hn : a < w.1) (hj : j < n) (hN : n < 2 ^ 31) {v : Int32} (hv : h.1 a j = v) (kk : Gd F Z w h (pc + 1) lv (.int v :: st)) : Gd F Z w h pc lv (.int x :: .ref a :: st) := by
  subst e; subst hv
  intro H locs ls hw hS hl'
  refine va_bald O.1 O.2.1 (okK O) hw.1 a 1 (wl_b ha hn) rfl (I_in hj hN) d ?_
  rw [I_cl (by omega)]
  exact kk H locs ls hw hS hl'
theorem g_lald (O : Ok F own cc nL rm rt) (d : decode cc pc = .ok (.laload, 1)) {x : Int32} {j : Nat} (e : x = I (j : Int)) (ha : lay a = (102, n)) (hn : a < w.1) (hj : j < n) (hN : n < 2 ^ 31) {v : Int64} (hv : h.2.1 a j = v) (kk : Gd F Z w h (pc + 1) lv (.long v :: st)) : Gd F Z w h pc lv (.int x :: .ref a :: st) := by
  subst e; subst hv
  intro H locs ls hw hS hl'
  refine va_lald O.1 O.2.1 (okK O) hw.1 a 2 (wl_l ha hn) rfl (I_in hj hN) d ?_
  rw [I_cl (by omega)]
  exact kk H locs ls hw hS hl'
theorem g_aald (O : Ok F own cc nL rm rt) (d : decode cc pc = .ok (.aaload, 1)) {x : Int32} {j t : Nat} (e : x = I (j : Int)) (ht : t < 2) (ha : lay a = (103 + t, n)) (hn : a < w.1) (hj : j < n) (hN : n < 2 ^ 31) (hv : h.2.2 a j = some b) (kk : Gd F Z w h (pc + 1) lv (.ref b :: st)) : Gd F Z w h pc lv (.int x :: .ref a :: st) := by
  subst e
  intro H locs ls hw hS hl'
  rcases (show t = 0 ∨ t = 1 by omega) with rfl | rfl
  · refine va_aldq (C := RX1) O.1 O.2.1 (okK O) hw.1 a 3 (wl_q (t := 0) ha hn) rfl (I_in hj hN) d ?_
    rw [I_cl (by omega)]
    simp only [hv]
    exact kk H locs ls hw hS hl'
  · refine va_aldq (C := RX4) O.1 O.2.1 (okK O) hw.1 a 4 (wl_q (t := 1) ha hn) rfl (I_in hj hN) d ?_
    rw [I_cl (by omega)]
    simp only [hv]
    exact kk H locs ls hw hS hl'
theorem g_alen (O : Ok F own cc nL rm rt) (d : decode cc pc = .ok (.arraylength, 1)) (ha : lay a = (100, n)) (hn : a < w.1) (kk : Gd F Z w h (pc + 1) lv (.int (I (n : Int)) :: st)) : Gd F Z w h pc lv (.ref a :: st) :=
  fun H locs ls hw hS hl' => va_alen O.1 O.2.1 (okK O) hw.1 a 0 (wl_i ha hn) rfl (I_nat n).symm d (kk H locs ls hw hS hl')
theorem ce_i {G : Gm} {h : AH} (ha : lay a = (100, n)) : ce G h a = .inl (G.2.2.2.1 0, n, .inl (h.1 a)) := by rw [ce_a (t := 0) ha]; rfl
theorem ce_b {G : Gm} {h : AH} (ha : lay a = (101, n)) : ce G h a = .inl (G.2.2.2.1 1, n, .inl (h.1 a)) := by rw [ce_a (t := 1) ha]; rfl
theorem ce_l {G : Gm} {h : AH} (ha : lay a = (102, n)) : ce G h a = .inl (G.2.2.2.1 2, n, .inr (.inl (h.2.1 a))) := by rw [ce_a (t := 2) ha]; rfl
theorem ce_q {G : Gm} {h : AH} {t : Nat} (ha : lay a = (103 + t, n)) : ce G h a = .inl (G.2.2.2.1 (3 + t), n, .inr (.inr (.inr (.inr (fun i => (h.2.2 a i).map G.2.1))))) := by
  rw [ce_a (t := 3 + t) (by rw [ha]; congr 1; omega)]
  have h1 : ¬ (3 + t < 2) := by omega
  have h2 : ¬ (3 + t = 2) := by omega
  simp [ac, h1, h2]
theorem aA_at (O : Ok F own cc nL rm rt) (ha : a < 1000) : aA (fG F) (fr F a) := by have e8 : fr F a = bs (fG F) + a := (okE O).1 a ha; show bs (fG F) ≤ fr F a; omega
theorem g_iast (O : Ok F own cc nL rm rt) (d : decode cc pc = .ok (.iastore, 1)) {x y : Int32} {j : Nat} (e : x = I (j : Int)) (ha : lay a = (100, n)) (hn : a < w.1) (hn1 : w.1 ≤ 1000) (hj : j < n) (hN : n < 2 ^ 31) (kk : Gd F Z w (sI h a j y) (pc + 1) lv st) : Gd F Z w h pc lv (.int y :: .int x :: .ref a :: st) := by
  subst e
  intro H locs ls hw hS hl'
  have hin := I_in hj hN
  refine W.iast O.1 O.2.1 (hw.1 a _ (wl_i ha hn)) (((okK O).2 0 _ rfl).1 n (fun j => .int (h.1 a j))) (fun q => by cases q) (by show ¬ (_ < 0 ∨ (arrV _ _ _).slots.size ≤ _); rw [arrV_size]; exact hin) rfl rfl d fun H1 e z oq => ?_
  refine kk H1 _ ls (wd_set (okE O) hn1 hw hn ?_ z oq (fun b hb => ce_sI hb)) (hS.put z oq (aA_at O (by omega))) hl'
  rw [ce_i ha]
  show H1[fr F a]? = some (vp_cell _ _)
  rw [e, vp_cell_i, vp_cell_i, arrV_store, I_cl (by omega), sI_1]
  congr 2
  funext q
  by_cases hq : q = j
  · subst hq
    simp [updV, up]
  · simp [updV, up, hq]
theorem g_bast (O : Ok F own cc nL rm rt) (d : decode cc pc = .ok (.bastore, 1)) {x y : Int32} {j : Nat} (e : x = I (j : Int)) (ha : lay a = (101, n)) (hn : a < w.1) (hn1 : w.1 ≤ 1000) (hj : j < n) (hN : n < 2 ^ 31) (kk : Gd F Z w (sI h a j y.toInt8.toInt32) (pc + 1) lv st) : Gd F Z w h pc lv (.int y :: .int x :: .ref a :: st) := by
  subst e
  intro H locs ls hw hS hl'
  have hin := I_in hj hN
  refine W.bast O.1 O.2.1 (hw.1 a _ (wl_b ha hn)) (((okK O).2 1 _ rfl).1 n (fun j => .int (h.1 a j))) (fun q => by cases q) (by show ¬ (_ < 0 ∨ (arrV _ _ _).slots.size ≤ _); rw [arrV_size]; exact hin) rfl rfl d fun H1 e z oq => ?_
  refine kk H1 _ ls (wd_set (okE O) hn1 hw hn ?_ z oq (fun b hb => ce_sI hb)) (hS.put z oq (aA_at O (by omega))) hl'
  rw [ce_b ha]
  show H1[fr F a]? = some (vp_cell _ _)
  rw [e, vp_cell_i, vp_cell_i, arrV_store, I_cl (by omega), sI_1]
  congr 2
  funext q
  by_cases hq : q = j
  · subst hq
    simp [updV, up, narrow]
  · simp [updV, up, hq]
theorem g_last (O : Ok F own cc nL rm rt) (d : decode cc pc = .ok (.lastore, 1)) {x : Int32} {y : Int64} {j : Nat} (e : x = I (j : Int)) (ha : lay a = (102, n)) (hn : a < w.1) (hn1 : w.1 ≤ 1000) (hj : j < n) (hN : n < 2 ^ 31) (kk : Gd F Z w (sL h a j y) (pc + 1) lv st) : Gd F Z w h pc lv (.long y :: .int x :: .ref a :: st) := by
  subst e
  intro H locs ls hw hS hl'
  have hin := I_in hj hN
  refine W.last O.1 O.2.1 (hw.1 a _ (wl_l ha hn)) (((okK O).2 2 _ rfl).1 n (fun j => .long (h.2.1 a j))) (fun q => by cases q) (by show ¬ (_ < 0 ∨ (arrV _ _ _).slots.size ≤ _); rw [arrV_size]; exact hin) rfl rfl d fun H1 e z oq => ?_
  refine kk H1 _ ls (wd_set (okE O) hn1 hw hn ?_ z oq (fun b hb => ce_sL hb)) (hS.put z oq (aA_at O (by omega))) hl'
  rw [ce_l ha]
  show H1[fr F a]? = some (vp_cell _ _)
  rw [e, vp_cell_l, vp_cell_l, arrV_store, I_cl (by omega), sL_1]
  congr 2
  funext q
  by_cases hq : q = j
  · subst hq
    simp [updV, up]
  · simp [updV, up, hq]
theorem g_aast (O : Ok F own cc nL rm rt) (d : decode cc pc = .ok (.aastore, 1)) {x : Int32} {j t : Nat} (e : x = I (j : Int)) (ha : lay a = (103 + t, n)) (hn : a < w.1) (hn1 : w.1 ≤ 1000) (hj : j < n) (hN : n < 2 ^ 31) {N2 : Nat} (hC : Cls c C T N2) (ht : (tys5 (fG F))[3 + t]? = some ((fG F).2.2.2.1 (3 + t), .object C)) (hb : lay b = (c, N2)) (hbn : b < w.1) (kk : Gd F Z w (sR h a j (some b)) (pc + 1) lv st) : Gd F Z w h pc lv (.ref b :: .int x :: .ref a :: st) := by
  subst e
  intro H locs ls hw hS hl'
  have hK := okK O
  have hlt : (I (j : Int)).toNatClampNeg < n := by rw [I_cl (by omega)]; exact hj
  have h0 : ¬ I (j : Int) < 0 := fun q => I_in hj hN (Or.inl q)
  have hv : (wl (fG F) w.1 h)[b]? = some (fr F b, .inr (c, fvs (fG F) h b c N2)) := by rw [wl_at hbn, ce_o hb hC.2.2.1]
  obtain ⟨r', hr', cellV, g1, g2, g3, -⟩ := hw.1 b _ hv
  have hcls := (hK.1 c _ hC.1).2
  obtain ⟨kA, comp, k1, k2, k3, -⟩ := (hK.2 (3 + t) _ ht).2
  have hcomp : comp = (fG F).2.2.1.1 c := Option.some.inj (k3.symm.trans hcls.1)
  subst hcomp
  obtain ⟨kC, hkC, -⟩ := hcls.2
  refine W.aast O.1 O.2.1 (hw.1 a _ (wl_q ha hn)) (fun q h => by cases h) (fun h => by cases h) k1 k2 rfl hkC ⟨h0, by show _ < (arrV _ _ _).slots.size; rw [arrV_size]; exact hlt⟩ g1 (fun q h => by rw [g3] at h; cases h) (by rw [g2]; exact hkC) (by rw [g2]; exact va_assign hcls) rfl rfl d fun H1 e z oq => ?_
  refine kk H1 _ ls (wd_set (okE O) hn1 hw hn ?_ z oq (fun b hb => ce_sR hb)) (hS.put z oq (aA_at O (by omega))) hl'
  rw [ce_q ha]
  show H1[fr F a]? = some (vp_cell _ _)
  rw [e, vp_cell_q, vp_cell_q, arrV_store, I_cl (by omega), sR_1]
  congr 2
  funext q
  by_cases hq : q = j
  · subst hq
    simp [updV, up, va_rf]
  · simp [updV, up, hq]
end GH
end
section
/-! contracts, returns, calls -/
abbrev MD : Type := MethodName × ByteArray × Nat × Option FieldType × Room
def wsm (M : MD) : List Cond := .code M.1 M.2.1 M.2.2.1 M.2.2.2.1 :: Tb
def Pc (G : Gm) (av : List Value) (n : Nat) (h : AH) : Array Value → State → Prop := fun v U => v = (av.map (cv G.2.1)).toArray ∧ wd G n h U.heap ∧ G.1.WarmedH U.vm ∧ Env0 G
def Qc (G : Gm) (n : Nat) (Q : Option Value → AH → Prop) : Array Value → State → Outcome → State → Prop := fun _ _ oc t => ∃ (r : Option Value) (h : AH), oc = .returned (r.map (cv G.2.1)) ∧ Q r h ∧ wd G n h t.heap
/-- w: the cells at the start, the cells and slots that the method makes -/
def Spec (G : Gm) (l : Launch) (M : MD) (w : Nat × Nat × Nat) (h : AH) (av : List Value) (Q : Option Value → AH → Prop) : Prop := Met l M.1 (wsm M) M.2.2.2.2 (Pc G av w.1 h) (Qc G (w.1 + w.2.1) Q) w.2.1 w.2.2 (aA G)
def MZ (F : Fr) (w : Nat × Nat × Nat) (Q : Option Value → AH → Prop) : State → Prop := MQ (fb F) (Qc (fG F) w.1 Q) (fa F) (fs F) w.2.1 w.2.2 (aA (fG F))
theorem Spec.mono {G : Gm} {l : Launch} {M : MD} {w : Nat × Nat × Nat} {h : AH} {av : List Value} {Q Q2 : Option Value → AH → Prop} (S : Spec G l M w h av Q) (k : ∀ r h', Q r h' → Q2 r h') : Spec G l M w h av Q2 := by
  unfold Spec Met MetFree at S ⊢
  intro p e ha hc hk s m args below hf hap hP hK
  obtain ⟨t, o, h1, h2, h3, ⟨r, h', q1, q2, q3⟩, h4⟩ := S p e ha hc hk s m args below hf hap hP hK
  exact ⟨t, o, h1, h2, h3, ⟨r, h', q1, k r h' q2, q3⟩, h4⟩
theorem args_cv (r : Nat → Nat) : ∀ (n : Nat) (av : List Value), lv_args n (av.map (cv r)) = (lv_args n av).map (cvq r)
  | _, [] => rfl
  | n, v :: l => by
    simp only [List.map_cons, lv_args]
    rw [cv_cat, args_cv r _ l]
    rfl
theorem sl_cv (r : Nat → Nat) (av : List Value) : (lg_sl (av.map (cv r))).length = (lg_sl av).length := by
  induction av with
  | nil => rfl
  | cons v l ih =>
    have h1 : ∀ x : Value, ∀ l : List Value, lg_sl (x :: l) = (if x.category = 2 then [.val x, .second] else [.val x]) ++ lg_sl l := fun _ _ => rfl
    rw [List.map_cons, h1, h1, List.length_append, List.length_append, ih, cv_cat]
    by_cases hc : v.category = 2 <;> simp [hc]
theorem spec_of {G : Gm} {l : Launch} {M : MD} {n mc ms : Nat} {h : AH} {av : List Value} {Q : Option Value → AH → Prop} (hy : plainName M.1.cls = true) (hlen : (lg_sl av).length ≤ M.2.2.1)
    (body : ∀ X, Ok (G, l, X) M.1.cls M.2.1 M.2.2.1 M.2.2.2.2 M.2.2.2.1 → (ft' (G, l, X)).name = M.1.name → Gd (G, l, X) (MZ (G, l, X) (n + mc, mc, ms) Q) (n, 0, 0) h 0 (lv_args 0 av) []) : Spec G l M (n, mc, ms) h av Q := by
  refine Met.ofW (cc := M.2.1) (maxL := M.2.2.1) (ret := M.2.2.2.1) hy rfl ?_
  intro p e s m args below meth c s₁ B hml hv
  obtain ⟨rfl, hw, hWm, hE⟩ := hv
  have hts := atoms_spec (ws := wsm M) B.pre
  have hown : s.vm.findClass M.1.cls = some m.cls := findClass_of_methodNamed B.named
  have O : Ok (G, l, p, e, M.2.2.2.2, s, m, (av.map (cv G.2.1)).toArray, below, meth, c, M.2.2.1) M.1.cls M.2.1 M.2.2.1 M.2.2.2.2 M.2.2.2.1 :=
    ⟨B.exec, B.bytes, hml, hown, fun x hx => hts x (List.mem_cons_of_mem _ hx), hWm, hE, B.notSynchronized, hw.2.2, rfl, rfl, B.returns, by have := hw.2.1; show bs G ≤ s.heap.size; omega⟩
  have hb := body (p, e, M.2.2.2.2, s, m, (av.map (cv G.2.1)).toArray, below, meth, c, M.2.2.1) O (name_of_methodNamed B.named B.method).1
  rw [lg_entry_eq]
  refine hb s.heap [] _ hw va_S.rf ?_
  have hl := lv_entry (av.map (cv G.2.1)) (n := M.2.2.1) (by rw [sl_cv]; exact hlen)
  rw [args_cv] at hl
  exact hl
section GC
variable {F : Fr} {Z : State → Prop} {w : Nat × Nat × Nat} {h : AH} {pc : Nat} {lv : List (Nat × Value)} {st : List Value} {own : String} {cc : ByteArray} {nL : Nat} {rm : Room} {rt : Option FieldType} {c i k a N n b : Nat} {C : String} {T : u_T}
theorem qc_of {Q : Option Value → AH → Prop} {H : Heap} {r : Option Value} {v : Option Value} (hw : wd (fG F) w.1 h H) (q : Q r h) (hr : v = r.map (cv (fr F))) : ∀ t : State, t.heap = H → (fs F).WarmedH t.vm → Qc (fG F) w.1 Q (fa F) (fs F) (.returned v) t := fun t ht _ => ⟨r, h, by rw [hr], q, by rw [ht]; exact hw⟩
theorem g_iret (O : Ok F own cc nL rm (some .int)) {Q : Option Value → AH → Prop} (d : decode cc pc = .ok (.ireturn, 1)) {v : Int32} (q : Q (some (.int v)) h) : Gd F (MZ F w Q) w h pc lv [.int v] :=
  fun H locs ls hw hS hl => W.iret (v := v) O.1 O.2.1 O.2.2.2.2.2.2.2.2.2.2.2.1 (qc_of hw q rfl) hS.2.2 d O.2.2.2.2.2.2.2.1
theorem g_zret (O : Ok F own cc nL rm (some .boolean)) {Q : Option Value → AH → Prop} (d : decode cc pc = .ok (.ireturn, 1)) {v : Int32} (hv : v = 0 ∨ v = 1) (q : Q (some (.int v)) h) : Gd F (MZ F w Q) w h pc lv [.int v] :=
  fun H locs ls hw hS hl => W.zret (v := v) (ty := .boolean) O.1 O.2.1 O.2.2.2.2.2.2.2.2.2.2.2.1 (by rcases hv with rfl | rfl <;> rfl) (qc_of hw q rfl) hS.2.2 d O.2.2.2.2.2.2.2.1
theorem g_tret {ty : FieldType} (O : Ok F own cc nL rm (some ty)) {Q : Option Value → AH → Prop} (d : decode cc pc = .ok (.ireturn, 1)) {v : Int32} (hv : narrow ty (.int v) = .int v) (q : Q (some (.int v)) h) : Gd F (MZ F w Q) w h pc lv [.int v] :=
  fun H locs ls hw hS hl => W.zret (v := v) (ty := ty) O.1 O.2.1 O.2.2.2.2.2.2.2.2.2.2.2.1 hv (qc_of hw q rfl) hS.2.2 d O.2.2.2.2.2.2.2.1
theorem g_lret (O : Ok F own cc nL rm (some .long)) {Q : Option Value → AH → Prop} (d : decode cc pc = .ok (.lreturn, 1)) {v : Int64} (q : Q (some (.long v)) h) : Gd F (MZ F w Q) w h pc lv [.long v] :=
  fun H locs ls hw hS hl => W.lret (v := v) O.1 O.2.1 O.2.2.2.2.2.2.2.2.2.2.2.1 (qc_of hw q rfl) hS.2.2 d O.2.2.2.2.2.2.2.1
theorem g_vret (O : Ok F own cc nL rm none) {Q : Option Value → AH → Prop} (d : decode cc pc = .ok (.return_, 1)) (q : Q none h) : Gd F (MZ F w Q) w h pc lv [] :=
  fun H locs ls hw hS hl => W.vret O.1 O.2.1 O.2.2.2.2.2.2.2.2.2.2.2.1 (qc_of hw q rfl) hS.2.2 d O.2.2.2.2.2.2.2.1
/-- what every call asks of the method that it calls -/
def Mk (M : MD) (n : Nat) : Prop := Cond.initialized M.1.cls ∈ Tb ∧ Cond.code M.1 M.2.1 M.2.2.1 M.2.2.2.1 ∈ Tb ∧ M.1.cls ≠ "java/lang/invoke/MethodHandle" ∧ M.1.cls ≠ "java/lang/invoke/VarHandle" ∧ (parseMethodDescriptor M.1.desc).map (fun d => d.parameters.length) = some n
theorem mk_good {M : MD} {n : Nat} (hM : Mk M n) : GoodIn Tb (wsm M) := tb_ok (fun x hx => by
  rcases List.mem_cons.mp hx with rfl | hx
  · exact hM.2.1
  · exact hx)
theorem mk_cb (O : Ok F own cc nL rm rt) {M : MD} {mc ms : Nat} (hM : Mk M n) (hl : Cond.methodLink own i M.1 ∈ Tb) (hr : M.2.2.2.2.cells = mc ∧ M.2.2.2.2.slots = ms ∧ M.2.2.2.2.frames + 1 ≤ rm.frames ∧ 8 + (M.2.2.1 + 11) + M.2.2.2.2.locals ≤ rm.locals) : CallB (fR F) (fs F) (fa F) own i M.1 M.2.1 M.2.2.1 M.2.2.2.1 (wsm M) M.2.2.2.2 mc ms n :=
  callB_of (Ts := Tb) n O.2.2.2.2.1 (mk_good hM) rfl hr.1 hr.2.1 (okS O hM.1) (okS O hl) hM.2.2 (by rw [O.2.2.2.2.2.2.2.2.2.2.1]; exact hr.2.2)
theorem pc_blind {G : Gm} {av : List Value} {n : Nat} {h : AH} : FrameBlind (Pc G av n h) := fun a U g mk q => ⟨q.1, q.2.1, q.2.2.1, q.2.2.2⟩
theorem pc_at (O : Ok F own cc nL rm rt) {H : Heap} {av : List Value} {n : Nat} (hw : wd (fG F) n h H) : ∀ U : State, U.heap = H → (fs F).WarmedH U.vm → Pc (fG F) av n h (av.map (cv (fr F))).toArray U := fun U hU hW => ⟨rfl, by rw [hU]; exact hw, State.WarmedH.trans O.2.2.2.2.2.1 hW, okE O⟩
/-- behind a call -/
theorem g_back (O : Ok F own cc nL rm rt) {H : Heap} {locs : List Loc} {ls : Array Slot} {mc ms : Nat} {st0 : List Value} {a' : Array Value} (hw0 : wd (fG F) w.1 h H) (hS : va_S (aA (fG F)) (fs F).heap H locs) (hl : lv_has ls (fn F) (lv.map (cvq (fr F))))
    (hr : va_Run (fp F) (fl F) (fe F) (fR F) (fs F) (fm F) (fa F) (fb F) (ft' F) (fc F) H locs w.2.1 w.2.2 mc ms (F0 (fm F) pc ls st0) (st.map (cv (fr F))) (Qc (fG F) (w.1 + mc) (fun r h' => Gd F Z (w.1 + mc, w.2.1 + mc, w.2.2 + ms) h' (pc + 3) lv (r.toList ++ st)) a') (aA (fG F))) : WW F H locs w.2.1 w.2.2 Z (F0 (fm F) pc ls st0) := by
  intro Ts hT X
  obtain ⟨v, st₀, t, T', L, h0, X', hL, e1, e2, ⟨r, h', hv, hg, hw'⟩, go⟩ := hr Ts hT X
  have hv : v = r.map (cv (fr F)) := by cases hv; rfl
  have hS' : va_S (aA (fG F)) (fs F).heap t.heap (locs ++ L) := by
    refine ⟨by have h1 := hS.1; have h2 := hw0.2.1; have h3 := hw'.2.1; omega, fun q h1 h2 => ?_, fun q hq => ?_⟩
    · have hq : q < bs (fG F) := Nat.not_le.mp h2
      rw [hw'.2.2 q hq, O.2.2.2.2.2.2.2.2.1 q hq]
    · rcases List.mem_append.mp hq with h1 | h1
      · exact hS.2.2 q h1
      · exact hL q h1
  have key := hg t.heap (locs ++ L) ls hw' hS' hl T' e1 X'
  obtain ⟨t2, a1, b1⟩ := key
  refine ⟨t2, go t2 ?_, b1⟩
  have e9 : (r.toList ++ st).map (cv (fr F)) = v.toList ++ st.map (cv (fr F)) := by
    rw [hv]
    cases r <;> simp
  rw [e9] at a1
  exact a1
theorem cat_cv (st : List Value) (r : Nat → Nat) : ((st.map (cv r)).map fun v => v.category).sum = (st.map fun v => v.category).sum := by
  induction st with
  | nil => rfl
  | cons v l ih => simp only [List.map_cons, List.sum_cons, cv_cat, ih]
theorem g_callV (O : Ok F own cc nL rm rt) {M : MD} {mc ms : Nat} {av : List Value} (hM : Mk M n) (hl : Cond.methodLink own i M.1 ∈ Tb) (hi : Cond.instanceMethod M.1 ∈ Tb) (hs : Cond.selects M.1.cls M.1 M.1 ∈ Tb) (hC : Cls c M.1.cls T N) (ha : lay a = (c, N)) (han : a < w.1) (hr : M.2.2.2.2.cells = mc ∧ M.2.2.2.2.slots = ms ∧ M.2.2.2.2.frames + 1 ≤ rm.frames ∧ 8 + (M.2.2.1 + 11) + M.2.2.2.2.locals ≤ rm.locals) (hn : av.length = n) (hW : (st.map fun v => v.category).sum ≤ 8) (hrm : w.2.1 + mc ≤ rm.cells ∧ w.2.2 + ms ≤ rm.slots) (d : decode cc pc = .ok (.invokevirtual i, 3))
    (S : Spec (fG F) (fl F) M (w.1, mc, ms) h (.ref a :: av) (fun r h' => Gd F Z (w.1 + mc, w.2.1 + mc, w.2.2 + ms) h' (pc + 3) lv (r.toList ++ st))) {st0 : List Value} (hst : st0 = av.reverse ++ .ref a :: st) : Gd F Z w h pc lv st0 := by
  subst hst
  intro H locs ls hw hS hl'
  have hrv : ∃ cellB : Cell, H[fr F a]? = some cellB ∧ cellB.vm.isStatics = false ∧ (fs F).vm.findClass M.1.cls = some cellB.cls := va_recv (okK O) hw.1 hC.1 (show (wl (fG F) w.1 h)[a]? = some (fr F a, .inr (c, fvs (fG F) h a c N)) by rw [wl_at han, ce_o ha hC.2.2.1])
  refine g_back O hw hS hl' (va_runV (As := av.map (cv (fr F))) (b := fr F a) (C := M.1.cls) ⟨O.1, O.2.1, O.2.2.1, O.2.2.2.1, O.2.2.2.2.1⟩ S ⟨mk_cb O hM hl hr, okS O hi, okS O hs⟩ ⟨pc_blind, hrv, pc_at (av := .ref a :: av) O hw⟩ rfl (by rw [List.length_map]; exact hn) hl'.1 ?_ (lv_room (by rw [cat_cv]; exact hW)) d (by rw [O.2.2.2.2.2.2.2.2.2.2.1]; exact hrm))
  show ((av.reverse ++ .ref a :: st).map (cv (fr F))) = _
  rw [List.map_append, List.map_reverse]
  rfl
theorem g_callS (O : Ok F own cc nL rm rt) {M : MD} {mc ms : Nat} {av : List Value} (hM : Mk M n) (hl : Cond.methodLink own i M.1 ∈ Tb) (hi : Cond.static M.1 ∈ Tb) (hr : M.2.2.2.2.cells = mc ∧ M.2.2.2.2.slots = ms ∧ M.2.2.2.2.frames + 1 ≤ rm.frames ∧ 8 + (M.2.2.1 + 11) + M.2.2.2.2.locals ≤ rm.locals) (hn : av.length = n) (hW : (st.map fun v => v.category).sum ≤ 8) (hrm : w.2.1 + mc ≤ rm.cells ∧ w.2.2 + ms ≤ rm.slots) (d : decode cc pc = .ok (.invokestatic i, 3))
    (S : Spec (fG F) (fl F) M (w.1, mc, ms) h av (fun r h' => Gd F Z (w.1 + mc, w.2.1 + mc, w.2.2 + ms) h' (pc + 3) lv (r.toList ++ st))) {st0 : List Value} (hst : st0 = av.reverse ++ st) : Gd F Z w h pc lv st0 := by
  subst hst
  intro H locs ls hw hS hl'
  refine g_back O hw hS hl' (va_runS (As := av.map (cv (fr F))) ⟨O.1, O.2.1, O.2.2.1, O.2.2.2.1, O.2.2.2.2.1⟩ S ⟨mk_cb O hM hl hr, okS O hi⟩ ⟨pc_blind, pc_at (av := av) O hw⟩ rfl (by rw [List.length_map]; exact hn) hl'.1 ?_ (lv_room (by rw [cat_cv]; exact hW)) d (by rw [O.2.2.2.2.2.2.2.2.2.2.1]; exact hrm))
  show ((av.reverse ++ st).map (cv (fr F))) = _
  rw [List.map_append, List.map_reverse]
theorem g_callI (O : Ok F own cc nL rm rt) {M : MD} {mc ms : Nat} {av : List Value} (hM : Mk M n) (hrt : M.2.2.2.1 = none) (hl : Cond.methodLink own i M.1 ∈ Tb) (hi : Cond.instanceMethod M.1 ∈ Tb) (hy : M.1.name = "<init>") (hr : M.2.2.2.2.cells = mc ∧ M.2.2.2.2.slots = ms ∧ M.2.2.2.2.frames + 1 ≤ rm.frames ∧ 8 + (M.2.2.1 + 11) + M.2.2.2.2.locals ≤ rm.locals) (hn : av.length = n) (hW : (st.map fun v => v.category).sum ≤ 8) (hrm : w.2.1 + mc ≤ rm.cells ∧ w.2.2 + ms ≤ rm.slots) (d : decode cc pc = .ok (.invokespecial i, 3))
    (S : Spec (fG F) (fl F) M (w.1, mc, ms) h (.ref a :: av) (fun r h' => Gd F Z (w.1 + mc, w.2.1 + mc, w.2.2 + ms) h' (pc + 3) lv (r.toList ++ st))) {st0 : List Value} (hst : st0 = av.reverse ++ .ref a :: st) : Gd F Z w h pc lv st0 := by
  subst hst
  intro H locs ls hw hS hl'
  have cb := mk_cb O hM hl hr
  rw [hrt] at cb
  refine g_back O hw hS hl' (va_runI (As := av.map (cv (fr F))) (b := fr F a) ⟨O.1, O.2.1, O.2.2.1, O.2.2.2.1, O.2.2.2.2.1⟩ S ⟨cb, hy, okS O hi⟩ ⟨pc_blind, pc_at (av := .ref a :: av) O hw⟩ rfl (by rw [List.length_map]; exact hn) hl'.1 ?_ (lv_room (by rw [cat_cv]; exact hW)) d (by rw [O.2.2.2.2.2.2.2.2.2.2.1]; exact hrm))
  show ((av.reverse ++ .ref a :: st).map (cv (fr F))) = _
  rw [List.map_append, List.map_reverse]
  rfl
end GC
end
section
/-! methods, and the words that their instructions link, each by its place in the tables -/
theorem ltb {a b : Nat} (h : Nat.ble (a + 1) b = true) : a < b := Nat.le_of_ble_eq_true h
theorem leb {a b : Nat} (h : Nat.ble a b = true) : a ≤ b := Nat.le_of_ble_eq_true h
theorem cls0 : Cls 0 RX0 TX0 7 := ⟨rfl, clw0, by decide, tyX0, tyX0_ok, nmX0⟩
theorem cls1 : Cls 1 RX1 TX1 5 := ⟨rfl, clw1, by decide, tyX1, tyX1_ok, nmX1⟩
theorem cls2 : Cls 2 RX2 TX2 7 := ⟨rfl, clw2, by decide, tyX2, tyX2_ok, nmX2⟩
theorem cls3 : Cls 3 RX3 TX3 14 := ⟨rfl, clw3, by decide, tyX3, tyX3_ok, nmX3⟩
theorem cls4 : Cls 4 RX4 TX4 3 := ⟨rfl, clw4, by decide, tyX4, tyX4_ok, nmX4⟩
theorem cls5 : Cls 5 RX5 TX5 8 := ⟨rfl, clw5, by decide, tyX5, tyX5_ok, nmX5⟩
theorem cls6 : Cls 6 RX6 TX6 6 := ⟨rfl, clw6, by decide, tyX6, tyX6_ok, nmX6⟩
theorem cls7 : Cls 7 RX7 TX7 12 := ⟨rfl, clw7, by decide, tyX7, tyX7_ok, nmX7⟩
theorem cls8 : Cls 8 RX8 TX8 51 := ⟨rfl, clw8, by decide, tyX8, tyX8_ok, nmX8⟩
abbrev mX0_init : MD := (yX0_init, cX0_init, 1, none, { frames := 2, cells := 5, slots := 52, locals := 43 })
theorem mk_X0_init : Mk mX0_init 0 := ⟨in_X0, cd_X0_init, by decide, by decide, by decide +kernel⟩
abbrev mX0_empty : MD := (yX0_empty, cX0_empty, 1, none, { frames := 1, cells := 0, slots := 0, locals := 23 })
theorem mk_X0_empty : Mk mX0_empty 0 := ⟨in_X0, cd_X0_empty, by decide, by decide, by decide +kernel⟩
abbrev mX0_read : MD := (yX0_read, cX0_read, 2, (some .boolean), { frames := 4, cells := 0, slots := 0, locals := 87 })
theorem mk_X0_read : Mk mX0_read 1 := ⟨in_X0, cd_X0_read, by decide, by decide, by decide +kernel⟩
abbrev mX0_readItem : MD := (yX0_readItem, cX0_readItem, 2, (some .boolean), { frames := 3, cells := 0, slots := 0, locals := 66 })
theorem mk_X0_readItem : Mk mX0_readItem 1 := ⟨in_X0, cd_X0_readItem, by decide, by decide, by decide +kernel⟩
abbrev mX0_readStuff : MD := (yX0_readStuff, cX0_readStuff, 4, (some .boolean), { frames := 2, cells := 0, slots := 0, locals := 43 })
theorem mk_X0_readStuff : Mk mX0_readStuff 1 := ⟨in_X0, cd_X0_readStuff, by decide, by decide, by decide +kernel⟩
abbrev mX0_readAlike : MD := (yX0_readAlike, cX0_readAlike, 3, (some .boolean), { frames := 2, cells := 0, slots := 0, locals := 42 })
theorem mk_X0_readAlike : Mk mX0_readAlike 1 := ⟨in_X0, cd_X0_readAlike, by decide, by decide, by decide +kernel⟩
abbrev mX0_readBill : MD := (yX0_readBill, cX0_readBill, 2, (some .boolean), { frames := 2, cells := 0, slots := 0, locals := 43 })
theorem mk_X0_readBill : Mk mX0_readBill 1 := ⟨in_X0, cd_X0_readBill, by decide, by decide, by decide +kernel⟩
abbrev mX1_init : MD := (yX1_init, cX1_init, 1, none, { frames := 1, cells := 2, slots := 20, locals := 20 })
theorem mk_X1_init : Mk mX1_init 0 := ⟨in_X1, cd_X1_init, by decide, by decide, by decide +kernel⟩
abbrev mX1_read : MD := (yX1_read, cX1_read, 2, (some .boolean), { frames := 3, cells := 0, slots := 0, locals := 64 })
theorem mk_X1_read : Mk mX1_read 1 := ⟨in_X1, cd_X1_read, by decide, by decide, by decide +kernel⟩
abbrev mX1_readCoats : MD := (yX1_readCoats, cX1_readCoats, 2, (some .boolean), { frames := 2, cells := 0, slots := 0, locals := 43 })
theorem mk_X1_readCoats : Mk mX1_readCoats 1 := ⟨in_X1, cd_X1_readCoats, by decide, by decide, by decide +kernel⟩
abbrev mX1_copy : MD := (yX1_copy, cX1_copy, 2, none, { frames := 1, cells := 0, slots := 0, locals := 54 })
theorem mk_X1_copy : Mk mX1_copy 1 := ⟨in_X1, cd_X1_copy, by decide, by decide, by decide +kernel⟩
abbrev mX2_init : MD := (yX2_init, cX2_init, 1, none, { frames := 1, cells := 2, slots := 242, locals := 20 })
theorem mk_X2_init : Mk mX2_init 0 := ⟨in_X2, cd_X2_init, by decide, by decide, by decide +kernel⟩
abbrev mX2_lay : MD := (yX2_lay, cX2_lay, 8, none, { frames := 3, cells := 0, slots := 0, locals := 72 })
theorem mk_X2_lay : Mk mX2_lay 5 := ⟨in_X2, cd_X2_lay, by decide, by decide, by decide +kernel⟩
abbrev mX2_leastCost : MD := (yX2_leastCost, cX2_leastCost, 1, (some .int), { frames := 0, cells := 0, slots := 0, locals := 0 })
theorem mk_X2_leastCost : Mk mX2_leastCost 0 := ⟨in_X2, cd_X2_leastCost, by decide, by decide, by decide +kernel⟩
abbrev mX2_leastWays : MD := (yX2_leastWays, cX2_leastWays, 1, (some .long), { frames := 0, cells := 0, slots := 0, locals := 0 })
theorem mk_X2_leastWays : Mk mX2_leastWays 0 := ⟨in_X2, cd_X2_leastWays, by decide, by decide, by decide +kernel⟩
abbrev mX2_beside : MD := (yX2_beside, cX2_beside, 5, (some .int), { frames := 3, cells := 0, slots := 0, locals := 67 })
theorem mk_X2_beside : Mk mX2_beside 1 := ⟨in_X2, cd_X2_beside, by decide, by decide, by decide +kernel⟩
abbrev mX2_nearest : MD := (yX2_nearest, cX2_nearest, 4, (some .int), { frames := 2, cells := 0, slots := 0, locals := 44 })
theorem mk_X2_nearest : Mk mX2_nearest 2 := ⟨in_X2, cd_X2_nearest, by decide, by decide, by decide +kernel⟩
abbrev mX2_fill : MD := (yX2_fill, cX2_fill, 9, none, { frames := 2, cells := 0, slots := 0, locals := 44 })
theorem mk_X2_fill : Mk mX2_fill 2 := ⟨in_X2, cd_X2_fill, by decide, by decide, by decide +kernel⟩
abbrev mX2_isSame : MD := (yX2_isSame, cX2_isSame, 3, (some .boolean), { frames := 0, cells := 0, slots := 0, locals := 0 })
theorem mk_X2_isSame : Mk mX2_isSame 2 := ⟨in_X2, cd_X2_isSame, by decide, by decide, by decide +kernel⟩
abbrev mX2_costBeside : MD := (yX2_costBeside, cX2_costBeside, 5, (some .int), { frames := 1, cells := 0, slots := 0, locals := 20 })
theorem mk_X2_costBeside : Mk mX2_costBeside 3 := ⟨in_X2, cd_X2_costBeside, by decide, by decide, by decide +kernel⟩
abbrev mX3_init : MD := (yX3_init, cX3_init, 1, none, { frames := 1, cells := 10, slots := 14837, locals := 20 })
theorem mk_X3_init : Mk mX3_init 0 := ⟨in_X3, cd_X3_init, by decide, by decide, by decide +kernel⟩
abbrev mX3_find : MD := (yX3_find, cX3_find, 6, none, { frames := 3, cells := 0, slots := 0, locals := 69 })
theorem mk_X3_find : Mk mX3_find 2 := ⟨in_X3, cd_X3_find, by decide, by decide, by decide +kernel⟩
abbrev mX3_notIn : MD := (yX3_notIn, cX3_notIn, 4, (some .int), { frames := 0, cells := 0, slots := 0, locals := 0 })
theorem mk_X3_notIn : Mk mX3_notIn 1 := ⟨in_X3, cd_X3_notIn, by decide, by decide, by decide +kernel⟩
abbrev mX3_findServing : MD := (yX3_findServing, cX3_findServing, 3, none, { frames := 1, cells := 0, slots := 0, locals := 24 })
theorem mk_X3_findServing : Mk mX3_findServing 0 := ⟨in_X3, cd_X3_findServing, by decide, by decide, by decide +kernel⟩
abbrev mX3_fillRow : MD := (yX3_fillRow, cX3_fillRow, 10, none, { frames := 0, cells := 0, slots := 0, locals := 0 })
theorem mk_X3_fillRow : Mk mX3_fillRow 2 := ⟨in_X3, cd_X3_fillRow, by decide, by decide, by decide +kernel⟩
abbrev mX3_walk : MD := (yX3_walk, cX3_walk, 3, none, { frames := 2, cells := 0, slots := 0, locals := 47 })
theorem mk_X3_walk : Mk mX3_walk 0 := ⟨in_X3, cd_X3_walk, by decide, by decide, by decide +kernel⟩
abbrev mX3_firstColour : MD := (yX3_firstColour, cX3_firstColour, 4, (some .int), { frames := 1, cells := 0, slots := 0, locals := 24 })
theorem mk_X3_firstColour : Mk mX3_firstColour 1 := ⟨in_X3, cd_X3_firstColour, by decide, by decide, by decide +kernel⟩
abbrev mX3_paint : MD := (yX3_paint, cX3_paint, 3, none, { frames := 1, cells := 0, slots := 0, locals := 21 })
theorem mk_X3_paint : Mk mX3_paint 1 := ⟨in_X3, cd_X3_paint, by decide, by decide, by decide +kernel⟩
abbrev mX3_look : MD := (yX3_look, cX3_look, 6, none, { frames := 1, cells := 0, slots := 0, locals := 21 })
theorem mk_X3_look : Mk mX3_look 1 := ⟨in_X3, cd_X3_look, by decide, by decide, by decide +kernel⟩
abbrev mX3_strideOf : MD := (yX3_strideOf, cX3_strideOf, 5, (some .int), { frames := 0, cells := 0, slots := 0, locals := 0 })
theorem mk_X3_strideOf : Mk mX3_strideOf 2 := ⟨in_X3, cd_X3_strideOf, by decide, by decide, by decide +kernel⟩
abbrev mX4_init : MD := (yX4_init, cX4_init, 2, none, { frames := 2, cells := 13, slots := 104, locals := 40 })
theorem mk_X4_init : Mk mX4_init 0 := ⟨in_X4, cd_X4_init, by decide, by decide, by decide +kernel⟩
abbrev mX4_takeOut : MD := (yX4_takeOut, cX4_takeOut, 4, none, { frames := 0, cells := 0, slots := 0, locals := 0 })
theorem mk_X4_takeOut : Mk mX4_takeOut 1 := ⟨in_X4, cd_X4_takeOut, by decide, by decide, by decide +kernel⟩
abbrev mX4_copy : MD := (yX4_copy, cX4_copy, 3, none, { frames := 2, cells := 0, slots := 0, locals := 75 })
theorem mk_X4_copy : Mk mX4_copy 1 := ⟨in_X4, cd_X4_copy, by decide, by decide, by decide +kernel⟩
abbrev mX4_coats : MD := (yX4_coats, cX4_coats, 3, (some .int), { frames := 0, cells := 0, slots := 0, locals := 0 })
theorem mk_X4_coats : Mk mX4_coats 0 := ⟨in_X4, cd_X4_coats, by decide, by decide, by decide +kernel⟩
abbrev mX4_inRoom : MD := (yX4_inRoom, cX4_inRoom, 4, (some .int), { frames := 0, cells := 0, slots := 0, locals := 0 })
theorem mk_X4_inRoom : Mk mX4_inRoom 1 := ⟨in_X4, cd_X4_inRoom, by decide, by decide, by decide +kernel⟩
abbrev mX5_init : MD := (yX5_init, cX5_init, 1, none, { frames := 1, cells := 4, slots := 1603, locals := 20 })
theorem mk_X5_init : Mk mX5_init 0 := ⟨in_X5, cd_X5_init, by decide, by decide, by decide +kernel⟩
abbrev mX5_add : MD := (yX5_add, cX5_add, 5, (some .boolean), { frames := 0, cells := 0, slots := 0, locals := 0 })
theorem mk_X5_add : Mk mX5_add 2 := ⟨in_X5, cd_X5_add, by decide, by decide, by decide +kernel⟩
abbrev mX5_split : MD := (yX5_split, cX5_split, 2, none, { frames := 9, cells := 0, slots := 0, locals := 196 })
theorem mk_X5_split : Mk mX5_split 0 := ⟨in_X5, cd_X5_split, by decide, by decide, by decide +kernel⟩
abbrev mX5_isAt : MD := (yX5_isAt, cX5_isAt, 2, (some .boolean), { frames := 0, cells := 0, slots := 0, locals := 0 })
theorem mk_X5_isAt : Mk mX5_isAt 1 := ⟨in_X5, cd_X5_isAt, by decide, by decide, by decide +kernel⟩
abbrev mX5_fault : MD := (yX5_fault, cX5_fault, 1, (some .int), { frames := 0, cells := 0, slots := 0, locals := 0 })
theorem mk_X5_fault : Mk mX5_fault 0 := ⟨in_X5, cd_X5_fault, by decide, by decide, by decide +kernel⟩
abbrev mX5_take : MD := (yX5_take, cX5_take, 2, (some .boolean), { frames := 0, cells := 0, slots := 0, locals := 0 })
theorem mk_X5_take : Mk mX5_take 1 := ⟨in_X5, cd_X5_take, by decide, by decide, by decide +kernel⟩
abbrev mX5_takeNumber : MD := (yX5_takeNumber, cX5_takeNumber, 3, (some .boolean), { frames := 1, cells := 0, slots := 0, locals := 21 })
theorem mk_X5_takeNumber : Mk mX5_takeNumber 2 := ⟨in_X5, cd_X5_takeNumber, by decide, by decide, by decide +kernel⟩
abbrev mX5_takeColourBut : MD := (yX5_takeColourBut, cX5_takeColourBut, 2, (some .boolean), { frames := 1, cells := 0, slots := 0, locals := 21 })
theorem mk_X5_takeColourBut : Mk mX5_takeColourBut 1 := ⟨in_X5, cd_X5_takeColourBut, by decide, by decide, by decide +kernel⟩
abbrev mX5_beginsToken : MD := (yX5_beginsToken, cX5_beginsToken, 4, (some .boolean), { frames := 1, cells := 0, slots := 0, locals := 20 })
theorem mk_X5_beginsToken : Mk mX5_beginsToken 1 := ⟨in_X5, cd_X5_beginsToken, by decide, by decide, by decide +kernel⟩
abbrev mX5_readToken : MD := (yX5_readToken, cX5_readToken, 2, none, { frames := 8, cells := 0, slots := 0, locals := 175 })
theorem mk_X5_readToken : Mk mX5_readToken 1 := ⟨in_X5, cd_X5_readToken, by decide, by decide, by decide +kernel⟩
abbrev mX5_readNumber : MD := (yX5_readNumber, cX5_readNumber, 5, none, { frames := 1, cells := 0, slots := 0, locals := 20 })
theorem mk_X5_readNumber : Mk mX5_readNumber 1 := ⟨in_X5, cd_X5_readNumber, by decide, by decide, by decide +kernel⟩
abbrev mX5_readWord : MD := (yX5_readWord, cX5_readWord, 4, none, { frames := 7, cells := 0, slots := 0, locals := 152 })
theorem mk_X5_readWord : Mk mX5_readWord 1 := ⟨in_X5, cd_X5_readWord, by decide, by decide, by decide +kernel⟩
abbrev mX5_kindOfWord : MD := (yX5_kindOfWord, cX5_kindOfWord, 3, (some .int), { frames := 6, cells := 0, slots := 0, locals := 130 })
theorem mk_X5_kindOfWord : Mk mX5_kindOfWord 2 := ⟨in_X5, cd_X5_kindOfWord, by decide, by decide, by decide +kernel⟩
abbrev mX5_isWord : MD := (yX5_isWord, cX5_isWord, 5, (some .boolean), { frames := 5, cells := 0, slots := 0, locals := 106 })
theorem mk_X5_isWord : Mk mX5_isWord 3 := ⟨in_X5, cd_X5_isWord, by decide, by decide, by decide +kernel⟩
abbrev mX5_isDigit : MD := (yX5_isDigit, cX5_isDigit, 1, (some .boolean), { frames := 0, cells := 0, slots := 0, locals := 0 })
theorem mk_X5_isDigit : Mk mX5_isDigit 1 := ⟨in_X5, cd_X5_isDigit, by decide, by decide, by decide +kernel⟩
abbrev mX5_isLetter : MD := (yX5_isLetter, cX5_isLetter, 1, (some .boolean), { frames := 0, cells := 0, slots := 0, locals := 0 })
theorem mk_X5_isLetter : Mk mX5_isLetter 1 := ⟨in_X5, cd_X5_isLetter, by decide, by decide, by decide +kernel⟩
abbrev mX6_init : MD := (yX6_init, cX6_init, 1, none, { frames := 1, cells := 4, slots := 489, locals := 20 })
theorem mk_X6_init : Mk mX6_init 0 := ⟨in_X6, cd_X6_init, by decide, by decide, by decide +kernel⟩
abbrev mX6_find : MD := (yX6_find, cX6_find, 8, none, { frames := 1, cells := 0, slots := 0, locals := 21 })
theorem mk_X6_find : Mk mX6_find 3 := ⟨in_X6, cd_X6_find, by decide, by decide, by decide +kernel⟩
abbrev mX6_match : MD := (yX6_match, cX6_match, 6, none, { frames := 2, cells := 0, slots := 0, locals := 53 })
theorem mk_X6_match : Mk mX6_match 2 := ⟨in_X6, cd_X6_match, by decide, by decide, by decide +kernel⟩
abbrev mX6_mostFrom : MD := (yX6_mostFrom, cX6_mostFrom, 7, (some .int), { frames := 1, cells := 0, slots := 0, locals := 27 })
theorem mk_X6_mostFrom : Mk mX6_mostFrom 4 := ⟨in_X6, cd_X6_mostFrom, by decide, by decide, by decide +kernel⟩
abbrev mX6_leastBill : MD := (yX6_leastBill, cX6_leastBill, 7, (some .int), { frames := 1, cells := 0, slots := 0, locals := 27 })
theorem mk_X6_leastBill : Mk mX6_leastBill 4 := ⟨in_X6, cd_X6_leastBill, by decide, by decide, by decide +kernel⟩
abbrev mX6_fits : MD := (yX6_fits, cX6_fits, 8, (some .boolean), { frames := 0, cells := 0, slots := 0, locals := 0 })
theorem mk_X6_fits : Mk mX6_fits 5 := ⟨in_X6, cd_X6_fits, by decide, by decide, by decide +kernel⟩
abbrev mX7_init : MD := (yX7_init, cX7_init, 2, none, { frames := 3, cells := 81, slots := 17664, locals := 63 })
theorem mk_X7_init : Mk mX7_init 0 := ⟨in_X7, cd_X7_init, by decide, by decide, by decide +kernel⟩
abbrev mX7_type : MD := (yX7_type, cX7_type, 4, (some .int), { frames := 1, cells := 0, slots := 0, locals := 24 })
theorem mk_X7_type : Mk mX7_type 2 := ⟨in_X7, cd_X7_type, by decide, by decide, by decide +kernel⟩
abbrev mX7_clear : MD := (yX7_clear, cX7_clear, 2, (some .int), { frames := 0, cells := 0, slots := 0, locals := 0 })
theorem mk_X7_clear : Mk mX7_clear 0 := ⟨in_X7, cd_X7_clear, by decide, by decide, by decide +kernel⟩
abbrev mX7_chip : MD := (yX7_chip, cX7_chip, 1, (some .int), { frames := 10, cells := 0, slots := 0, locals := 217 })
theorem mk_X7_chip : Mk mX7_chip 0 := ⟨in_X7, cd_X7_chip, by decide, by decide, by decide +kernel⟩
abbrev mX7_book : MD := (yX7_book, cX7_book, 2, (some .int), { frames := 10, cells := 0, slots := 0, locals := 217 })
theorem mk_X7_book : Mk mX7_book 0 := ⟨in_X7, cd_X7_book, by decide, by decide, by decide +kernel⟩
abbrev mX7_drop : MD := (yX7_drop, cX7_drop, 2, (some .int), { frames := 1, cells := 0, slots := 0, locals := 23 })
theorem mk_X7_drop : Mk mX7_drop 1 := ⟨in_X7, cd_X7_drop, by decide, by decide, by decide +kernel⟩
abbrev mX7_about : MD := (yX7_about, cX7_about, 4, (some .int), { frames := 1, cells := 0, slots := 0, locals := 21 })
theorem mk_X7_about : Mk mX7_about 2 := ⟨in_X7, cd_X7_about, by decide, by decide, by decide +kernel⟩
abbrev mX7_coat : MD := (yX7_coat, cX7_coat, 4, (some .int), { frames := 5, cells := 0, slots := 0, locals := 114 })
theorem mk_X7_coat : Mk mX7_coat 3 := ⟨in_X7, cd_X7_coat, by decide, by decide, by decide +kernel⟩
abbrev mX7_colour : MD := (yX7_colour, cX7_colour, 3, (some .int), { frames := 0, cells := 0, slots := 0, locals := 0 })
theorem mk_X7_colour : Mk mX7_colour 2 := ⟨in_X7, cd_X7_colour, by decide, by decide, by decide +kernel⟩
abbrev mX7_tune : MD := (yX7_tune, cX7_tune, 4, (some .int), { frames := 0, cells := 0, slots := 0, locals := 0 })
theorem mk_X7_tune : Mk mX7_tune 2 := ⟨in_X7, cd_X7_tune, by decide, by decide, by decide +kernel⟩
abbrev mX7_least : MD := (yX7_least, cX7_least, 3, (some .int), { frames := 5, cells := 0, slots := 0, locals := 121 })
theorem mk_X7_least : Mk mX7_least 2 := ⟨in_X7, cd_X7_least, by decide, by decide, by decide +kernel⟩
abbrev mX7_ways : MD := (yX7_ways, cX7_ways, 3, (some .long), { frames := 5, cells := 0, slots := 0, locals := 121 })
theorem mk_X7_ways : Mk mX7_ways 2 := ⟨in_X7, cd_X7_ways, by decide, by decide, by decide +kernel⟩
abbrev mX7_laid : MD := (yX7_laid, cX7_laid, 4, (some .int), { frames := 5, cells := 0, slots := 0, locals := 121 })
theorem mk_X7_laid : Mk mX7_laid 3 := ⟨in_X7, cd_X7_laid, by decide, by decide, by decide +kernel⟩
abbrev mX7_painting : MD := (yX7_painting, cX7_painting, 2, (some .int), { frames := 5, cells := 0, slots := 0, locals := 114 })
theorem mk_X7_painting : Mk mX7_painting 1 := ⟨in_X7, cd_X7_painting, by decide, by decide, by decide +kernel⟩
abbrev mX7_had : MD := (yX7_had, cX7_had, 2, (some .int), { frames := 5, cells := 0, slots := 0, locals := 114 })
theorem mk_X7_had : Mk mX7_had 1 := ⟨in_X7, cd_X7_had, by decide, by decide, by decide +kernel⟩
abbrev mX7_face : MD := (yX7_face, cX7_face, 3, (some .int), { frames := 6, cells := 0, slots := 0, locals := 148 })
theorem mk_X7_face : Mk mX7_face 2 := ⟨in_X7, cd_X7_face, by decide, by decide, by decide +kernel⟩
abbrev mX7_span : MD := (yX7_span, cX7_span, 3, (some .int), { frames := 5, cells := 0, slots := 0, locals := 114 })
theorem mk_X7_span : Mk mX7_span 2 := ⟨in_X7, cd_X7_span, by decide, by decide, by decide +kernel⟩
abbrev mX7_day : MD := (yX7_day, cX7_day, 3, (some .int), { frames := 5, cells := 0, slots := 0, locals := 114 })
theorem mk_X7_day : Mk mX7_day 2 := ⟨in_X7, cd_X7_day, by decide, by decide, by decide +kernel⟩
abbrev mX7_bill : MD := (yX7_bill, cX7_bill, 3, (some .int), { frames := 0, cells := 0, slots := 0, locals := 0 })
theorem mk_X7_bill : Mk mX7_bill 2 := ⟨in_X7, cd_X7_bill, by decide, by decide, by decide +kernel⟩
abbrev mX7_billed : MD := (yX7_billed, cX7_billed, 2, (some .int), { frames := 5, cells := 0, slots := 0, locals := 114 })
theorem mk_X7_billed : Mk mX7_billed 1 := ⟨in_X7, cd_X7_billed, by decide, by decide, by decide +kernel⟩
abbrev mX7_enough : MD := (yX7_enough, cX7_enough, 10, (some .int), { frames := 1, cells := 0, slots := 0, locals := 25 })
theorem mk_X7_enough : Mk mX7_enough 2 := ⟨in_X7, cd_X7_enough, by decide, by decide, by decide +kernel⟩
abbrev mX7_next : MD := (yX7_next, cX7_next, 6, (some .int), { frames := 5, cells := 0, slots := 0, locals := 114 })
theorem mk_X7_next : Mk mX7_next 0 := ⟨in_X7, cd_X7_next, by decide, by decide, by decide +kernel⟩
abbrev mX7_rank : MD := (yX7_rank, cX7_rank, 4, (some .int), { frames := 5, cells := 0, slots := 0, locals := 114 })
theorem mk_X7_rank : Mk mX7_rank 3 := ⟨in_X7, cd_X7_rank, by decide, by decide, by decide +kernel⟩
abbrev mX7_keep : MD := (yX7_keep, cX7_keep, 2, (some .int), { frames := 3, cells := 0, slots := 0, locals := 97 })
theorem mk_X7_keep : Mk mX7_keep 1 := ⟨in_X7, cd_X7_keep, by decide, by decide, by decide +kernel⟩
abbrev mX7_back : MD := (yX7_back, cX7_back, 2, (some .int), { frames := 3, cells := 0, slots := 0, locals := 97 })
theorem mk_X7_back : Mk mX7_back 1 := ⟨in_X7, cd_X7_back, by decide, by decide, by decide +kernel⟩
abbrev mX7_count : MD := (yX7_count, cX7_count, 2, (some .int), { frames := 1, cells := 0, slots := 0, locals := 22 })
theorem mk_X7_count : Mk mX7_count 1 := ⟨in_X7, cd_X7_count, by decide, by decide, by decide +kernel⟩
abbrev mX7_trace : MD := (yX7_trace, cX7_trace, 1, (some .long), { frames := 0, cells := 0, slots := 0, locals := 0 })
theorem mk_X7_trace : Mk mX7_trace 0 := ⟨in_X7, cd_X7_trace, by decide, by decide, by decide +kernel⟩
abbrev mX7_isChip : MD := (yX7_isChip, cX7_isChip, 2, (some .boolean), { frames := 0, cells := 0, slots := 0, locals := 0 })
theorem mk_X7_isChip : Mk mX7_isChip 1 := ⟨in_X7, cd_X7_isChip, by decide, by decide, by decide +kernel⟩
abbrev mX7_isCoat : MD := (yX7_isCoat, cX7_isCoat, 3, (some .boolean), { frames := 1, cells := 0, slots := 0, locals := 21 })
theorem mk_X7_isCoat : Mk mX7_isCoat 2 := ⟨in_X7, cd_X7_isCoat, by decide, by decide, by decide +kernel⟩
abbrev mX7_areTwo : MD := (yX7_areTwo, cX7_areTwo, 3, (some .boolean), { frames := 1, cells := 0, slots := 0, locals := 21 })
theorem mk_X7_areTwo : Mk mX7_areTwo 2 := ⟨in_X7, cd_X7_areTwo, by decide, by decide, by decide +kernel⟩
abbrev mX7_isPainting : MD := (yX7_isPainting, cX7_isPainting, 2, (some .boolean), { frames := 0, cells := 0, slots := 0, locals := 0 })
theorem mk_X7_isPainting : Mk mX7_isPainting 1 := ⟨in_X7, cd_X7_isPainting, by decide, by decide, by decide +kernel⟩
abbrev mX7_findSame : MD := (yX7_findSame, cX7_findSame, 2, none, { frames := 0, cells := 0, slots := 0, locals := 0 })
theorem mk_X7_findSame : Mk mX7_findSame 0 := ⟨in_X7, cd_X7_findSame, by decide, by decide, by decide +kernel⟩
abbrev mX7_lay : MD := (yX7_lay, cX7_lay, 3, none, { frames := 4, cells := 0, slots := 0, locals := 99 })
theorem mk_X7_lay : Mk mX7_lay 2 := ⟨in_X7, cd_X7_lay, by decide, by decide, by decide +kernel⟩
abbrev mX7_settle : MD := (yX7_settle, cX7_settle, 1, none, { frames := 4, cells := 0, slots := 0, locals := 94 })
theorem mk_X7_settle : Mk mX7_settle 0 := ⟨in_X7, cd_X7_settle, by decide, by decide, by decide +kernel⟩
abbrev mX7_paintingOf : MD := (yX7_paintingOf, cX7_paintingOf, 3, (some .int), { frames := 0, cells := 0, slots := 0, locals := 0 })
theorem mk_X7_paintingOf : Mk mX7_paintingOf 2 := ⟨in_X7, cd_X7_paintingOf, by decide, by decide, by decide +kernel⟩
abbrev mX7_missedBy : MD := (yX7_missedBy, cX7_missedBy, 3, (some .int), { frames := 1, cells := 0, slots := 0, locals := 22 })
theorem mk_X7_missedBy : Mk mX7_missedBy 1 := ⟨in_X7, cd_X7_missedBy, by decide, by decide, by decide +kernel⟩
abbrev mX7_ageOf : MD := (yX7_ageOf, cX7_ageOf, 2, (some .int), { frames := 1, cells := 0, slots := 0, locals := 22 })
theorem mk_X7_ageOf : Mk mX7_ageOf 1 := ⟨in_X7, cd_X7_ageOf, by decide, by decide, by decide +kernel⟩
abbrev mX7_movedFrom : MD := (yX7_movedFrom, cX7_movedFrom, 8, (some .int), { frames := 5, cells := 0, slots := 0, locals := 121 })
theorem mk_X7_movedFrom : Mk mX7_movedFrom 1 := ⟨in_X7, cd_X7_movedFrom, by decide, by decide, by decide +kernel⟩
abbrev mX7_lastCoats : MD := (yX7_lastCoats, cX7_lastCoats, 7, (some .int), { frames := 1, cells := 0, slots := 0, locals := 22 })
theorem mk_X7_lastCoats : Mk mX7_lastCoats 2 := ⟨in_X7, cd_X7_lastCoats, by decide, by decide, by decide +kernel⟩
abbrev mX7_oddsOfAll : MD := (yX7_oddsOfAll, cX7_oddsOfAll, 6, (some .long), { frames := 0, cells := 0, slots := 0, locals := 0 })
theorem mk_X7_oddsOfAll : Mk mX7_oddsOfAll 2 := ⟨in_X7, cd_X7_oddsOfAll, by decide, by decide, by decide +kernel⟩
abbrev mX7_asCoat : MD := (yX7_asCoat, cX7_asCoat, 3, (some .int), { frames := 0, cells := 0, slots := 0, locals := 0 })
theorem mk_X7_asCoat : Mk mX7_asCoat 2 := ⟨in_X7, cd_X7_asCoat, by decide, by decide, by decide +kernel⟩
abbrev mX7_asWhole : MD := (yX7_asWhole, cX7_asWhole, 3, (some .int), { frames := 1, cells := 0, slots := 0, locals := 22 })
theorem mk_X7_asWhole : Mk mX7_asWhole 2 := ⟨in_X7, cd_X7_asWhole, by decide, by decide, by decide +kernel⟩
abbrev mX7_asUnder : MD := (yX7_asUnder, cX7_asUnder, 3, (some .int), { frames := 1, cells := 0, slots := 0, locals := 22 })
theorem mk_X7_asUnder : Mk mX7_asUnder 2 := ⟨in_X7, cd_X7_asUnder, by decide, by decide, by decide +kernel⟩
abbrev mX7_asPatch : MD := (yX7_asPatch, cX7_asPatch, 3, (some .int), { frames := 2, cells := 0, slots := 0, locals := 44 })
theorem mk_X7_asPatch : Mk mX7_asPatch 2 := ⟨in_X7, cd_X7_asPatch, by decide, by decide, by decide +kernel⟩
abbrev mX7_asScraped : MD := (yX7_asScraped, cX7_asScraped, 3, (some .int), { frames := 2, cells := 0, slots := 0, locals := 44 })
theorem mk_X7_asScraped : Mk mX7_asScraped 2 := ⟨in_X7, cd_X7_asScraped, by decide, by decide, by decide +kernel⟩
abbrev mX7_asVarnish : MD := (yX7_asVarnish, cX7_asVarnish, 3, (some .int), { frames := 1, cells := 0, slots := 0, locals := 22 })
theorem mk_X7_asVarnish : Mk mX7_asVarnish 2 := ⟨in_X7, cd_X7_asVarnish, by decide, by decide, by decide +kernel⟩
abbrev mX8_init : MD := (yX8_init, cX8_init, 2, none, { frames := 1, cells := 35, slots := 16227, locals := 20 })
theorem mk_X8_init : Mk mX8_init 0 := ⟨in_X8, cd_X8_init, by decide, by decide, by decide +kernel⟩
abbrev mX8_in : MD := (yX8_in, cX8_in, 3, (some .boolean), { frames := 0, cells := 0, slots := 0, locals := 0 })
theorem mk_X8_in : Mk mX8_in 3 := ⟨in_X8, cd_X8_in, by decide, by decide, by decide +kernel⟩
abbrev mX8_type : MD := (yX8_type, cX8_type, 5, (some .int), { frames := 1, cells := 0, slots := 0, locals := 22 })
theorem mk_X8_type : Mk mX8_type 2 := ⟨in_X8, cd_X8_type, by decide, by decide, by decide +kernel⟩
abbrev mX8_clear : MD := (yX8_clear, cX8_clear, 2, (some .int), { frames := 0, cells := 0, slots := 0, locals := 0 })
theorem mk_X8_clear : Mk mX8_clear 0 := ⟨in_X8, cd_X8_clear, by decide, by decide, by decide +kernel⟩
abbrev mX8_isLetter : MD := (yX8_isLetter, cX8_isLetter, 1, (some .boolean), { frames := 1, cells := 0, slots := 0, locals := 22 })
theorem mk_X8_isLetter : Mk mX8_isLetter 1 := ⟨in_X8, cd_X8_isLetter, by decide, by decide, by decide +kernel⟩
abbrev mX8_isDigit : MD := (yX8_isDigit, cX8_isDigit, 1, (some .boolean), { frames := 1, cells := 0, slots := 0, locals := 22 })
theorem mk_X8_isDigit : Mk mX8_isDigit 1 := ⟨in_X8, cd_X8_isDigit, by decide, by decide, by decide +kernel⟩
abbrev mX8_look : MD := (yX8_look, cX8_look, 1, (some .int), { frames := 0, cells := 0, slots := 0, locals := 0 })
theorem mk_X8_look : Mk mX8_look 0 := ⟨in_X8, cd_X8_look, by decide, by decide, by decide +kernel⟩
abbrev mX8_read : MD := (yX8_read, cX8_read, 2, none, { frames := 3, cells := 0, slots := 0, locals := 64 })
theorem mk_X8_read : Mk mX8_read 0 := ⟨in_X8, cd_X8_read, by decide, by decide, by decide +kernel⟩
abbrev mX8_word : MD := (yX8_word, cX8_word, 3, none, { frames := 2, cells := 0, slots := 0, locals := 42 })
theorem mk_X8_word : Mk mX8_word 0 := ⟨in_X8, cd_X8_word, by decide, by decide, by decide +kernel⟩
abbrev mX8_isNumber : MD := (yX8_isNumber, cX8_isNumber, 3, (some .boolean), { frames := 1, cells := 0, slots := 0, locals := 22 })
theorem mk_X8_isNumber : Mk mX8_isNumber 2 := ⟨in_X8, cd_X8_isNumber, by decide, by decide, by decide +kernel⟩
abbrev mX8_isChip : MD := (yX8_isChip, cX8_isChip, 1, (some .boolean), { frames := 4, cells := 0, slots := 0, locals := 85 })
theorem mk_X8_isChip : Mk mX8_isChip 0 := ⟨in_X8, cd_X8_isChip, by decide, by decide, by decide +kernel⟩
abbrev mX8_chip : MD := (yX8_chip, cX8_chip, 2, (some .int), { frames := 5, cells := 0, slots := 0, locals := 105 })
theorem mk_X8_chip : Mk mX8_chip 0 := ⟨in_X8, cd_X8_chip, by decide, by decide, by decide +kernel⟩
abbrev mX8_isStuff : MD := (yX8_isStuff, cX8_isStuff, 4, (some .boolean), { frames := 4, cells := 0, slots := 0, locals := 85 })
theorem mk_X8_isStuff : Mk mX8_isStuff 0 := ⟨in_X8, cd_X8_isStuff, by decide, by decide, by decide +kernel⟩
abbrev mX8_areAlike : MD := (yX8_areAlike, cX8_areAlike, 3, (some .boolean), { frames := 4, cells := 0, slots := 0, locals := 85 })
theorem mk_X8_areAlike : Mk mX8_areAlike 0 := ⟨in_X8, cd_X8_areAlike, by decide, by decide, by decide +kernel⟩
abbrev mX8_isBill : MD := (yX8_isBill, cX8_isBill, 1, (some .boolean), { frames := 4, cells := 0, slots := 0, locals := 85 })
theorem mk_X8_isBill : Mk mX8_isBill 0 := ⟨in_X8, cd_X8_isBill, by decide, by decide, by decide +kernel⟩
abbrev mX8_book : MD := (yX8_book, cX8_book, 3, (some .int), { frames := 5, cells := 0, slots := 0, locals := 108 })
theorem mk_X8_book : Mk mX8_book 0 := ⟨in_X8, cd_X8_book, by decide, by decide, by decide +kernel⟩
abbrev mX8_isChipAt : MD := (yX8_isChipAt, cX8_isChipAt, 2, (some .boolean), { frames := 1, cells := 0, slots := 0, locals := 22 })
theorem mk_X8_isChipAt : Mk mX8_isChipAt 1 := ⟨in_X8, cd_X8_isChipAt, by decide, by decide, by decide +kernel⟩
abbrev mX8_drop : MD := (yX8_drop, cX8_drop, 4, (some .int), { frames := 2, cells := 0, slots := 0, locals := 43 })
theorem mk_X8_drop : Mk mX8_drop 1 := ⟨in_X8, cd_X8_drop, by decide, by decide, by decide +kernel⟩
abbrev mX8_about : MD := (yX8_about, cX8_about, 3, (some .int), { frames := 2, cells := 0, slots := 0, locals := 43 })
theorem mk_X8_about : Mk mX8_about 2 := ⟨in_X8, cd_X8_about, by decide, by decide, by decide +kernel⟩
abbrev mX8_isCoat : MD := (yX8_isCoat, cX8_isCoat, 3, (some .boolean), { frames := 2, cells := 0, slots := 0, locals := 43 })
theorem mk_X8_isCoat : Mk mX8_isCoat 2 := ⟨in_X8, cd_X8_isCoat, by decide, by decide, by decide +kernel⟩
abbrev mX8_coat : MD := (yX8_coat, cX8_coat, 4, (some .int), { frames := 4, cells := 0, slots := 0, locals := 95 })
theorem mk_X8_coat : Mk mX8_coat 3 := ⟨in_X8, cd_X8_coat, by decide, by decide, by decide +kernel⟩
abbrev mX8_colour : MD := (yX8_colour, cX8_colour, 3, (some .int), { frames := 1, cells := 0, slots := 0, locals := 22 })
theorem mk_X8_colour : Mk mX8_colour 2 := ⟨in_X8, cd_X8_colour, by decide, by decide, by decide +kernel⟩
abbrev mX8_tune : MD := (yX8_tune, cX8_tune, 5, (some .int), { frames := 1, cells := 0, slots := 0, locals := 22 })
theorem mk_X8_tune : Mk mX8_tune 2 := ⟨in_X8, cd_X8_tune, by decide, by decide, by decide +kernel⟩
abbrev mX8_isSame : MD := (yX8_isSame, cX8_isSame, 3, (some .boolean), { frames := 0, cells := 0, slots := 0, locals := 0 })
theorem mk_X8_isSame : Mk mX8_isSame 2 := ⟨in_X8, cd_X8_isSame, by decide, by decide, by decide +kernel⟩
abbrev mX8_costOf : MD := (yX8_costOf, cX8_costOf, 7, (some .int), { frames := 0, cells := 0, slots := 0, locals := 0 })
theorem mk_X8_costOf : Mk mX8_costOf 5 := ⟨in_X8, cd_X8_costOf, by decide, by decide, by decide +kernel⟩
abbrev mX8_areSame : MD := (yX8_areSame, cX8_areSame, 5, (some .boolean), { frames := 1, cells := 0, slots := 0, locals := 22 })
theorem mk_X8_areSame : Mk mX8_areSame 4 := ⟨in_X8, cd_X8_areSame, by decide, by decide, by decide +kernel⟩
abbrev mX8_lay : MD := (yX8_lay, cX8_lay, 9, none, { frames := 2, cells := 0, slots := 0, locals := 46 })
theorem mk_X8_lay : Mk mX8_lay 2 := ⟨in_X8, cd_X8_lay, by decide, by decide, by decide +kernel⟩
abbrev mX8_areTwo : MD := (yX8_areTwo, cX8_areTwo, 3, (some .boolean), { frames := 2, cells := 0, slots := 0, locals := 43 })
theorem mk_X8_areTwo : Mk mX8_areTwo 2 := ⟨in_X8, cd_X8_areTwo, by decide, by decide, by decide +kernel⟩
abbrev mX8_least : MD := (yX8_least, cX8_least, 3, (some .int), { frames := 3, cells := 0, slots := 0, locals := 74 })
theorem mk_X8_least : Mk mX8_least 2 := ⟨in_X8, cd_X8_least, by decide, by decide, by decide +kernel⟩
abbrev mX8_ways : MD := (yX8_ways, cX8_ways, 3, (some .long), { frames := 3, cells := 0, slots := 0, locals := 74 })
theorem mk_X8_ways : Mk mX8_ways 2 := ⟨in_X8, cd_X8_ways, by decide, by decide, by decide +kernel⟩
abbrev mX8_laid : MD := (yX8_laid, cX8_laid, 8, (some .int), { frames := 3, cells := 0, slots := 0, locals := 74 })
theorem mk_X8_laid : Mk mX8_laid 3 := ⟨in_X8, cd_X8_laid, by decide, by decide, by decide +kernel⟩
abbrev mX8_behind : MD := (yX8_behind, cX8_behind, 5, (some .int), { frames := 1, cells := 0, slots := 0, locals := 22 })
theorem mk_X8_behind : Mk mX8_behind 1 := ⟨in_X8, cd_X8_behind, by decide, by decide, by decide +kernel⟩
abbrev mX8_make : MD := (yX8_make, cX8_make, 3, none, { frames := 3, cells := 0, slots := 0, locals := 73 })
theorem mk_X8_make : Mk mX8_make 0 := ⟨in_X8, cd_X8_make, by decide, by decide, by decide +kernel⟩
abbrev mX8_weigh : MD := (yX8_weigh, cX8_weigh, 8, none, { frames := 2, cells := 0, slots := 0, locals := 46 })
theorem mk_X8_weigh : Mk mX8_weigh 1 := ⟨in_X8, cd_X8_weigh, by decide, by decide, by decide +kernel⟩
abbrev mX8_goOn : MD := (yX8_goOn, cX8_goOn, 5, (some .int), { frames := 2, cells := 0, slots := 0, locals := 46 })
theorem mk_X8_goOn : Mk mX8_goOn 1 := ⟨in_X8, cd_X8_goOn, by decide, by decide, by decide +kernel⟩
abbrev mX8_hasPainting : MD := (yX8_hasPainting, cX8_hasPainting, 5, (some .boolean), { frames := 0, cells := 0, slots := 0, locals := 0 })
theorem mk_X8_hasPainting : Mk mX8_hasPainting 2 := ⟨in_X8, cd_X8_hasPainting, by decide, by decide, by decide +kernel⟩
abbrev mX8_painting : MD := (yX8_painting, cX8_painting, 2, (some .int), { frames := 4, cells := 0, slots := 0, locals := 95 })
theorem mk_X8_painting : Mk mX8_painting 1 := ⟨in_X8, cd_X8_painting, by decide, by decide, by decide +kernel⟩
abbrev mX8_had : MD := (yX8_had, cX8_had, 4, (some .int), { frames := 4, cells := 0, slots := 0, locals := 95 })
theorem mk_X8_had : Mk mX8_had 1 := ⟨in_X8, cd_X8_had, by decide, by decide, by decide +kernel⟩
abbrev mX8_moved : MD := (yX8_moved, cX8_moved, 6, (some .int), { frames := 4, cells := 0, slots := 0, locals := 96 })
theorem mk_X8_moved : Mk mX8_moved 1 := ⟨in_X8, cd_X8_moved, by decide, by decide, by decide +kernel⟩
abbrev mX8_face : MD := (yX8_face, cX8_face, 5, (some .int), { frames := 5, cells := 0, slots := 0, locals := 121 })
theorem mk_X8_face : Mk mX8_face 2 := ⟨in_X8, cd_X8_face, by decide, by decide, by decide +kernel⟩
abbrev mX8_later : MD := (yX8_later, cX8_later, 5, (some .int), { frames := 0, cells := 0, slots := 0, locals := 0 })
theorem mk_X8_later : Mk mX8_later 1 := ⟨in_X8, cd_X8_later, by decide, by decide, by decide +kernel⟩
abbrev mX8_years : MD := (yX8_years, cX8_years, 3, none, { frames := 1, cells := 0, slots := 0, locals := 24 })
theorem mk_X8_years : Mk mX8_years 0 := ⟨in_X8, cd_X8_years, by decide, by decide, by decide +kernel⟩
abbrev mX8_span : MD := (yX8_span, cX8_span, 3, (some .int), { frames := 4, cells := 0, slots := 0, locals := 95 })
theorem mk_X8_span : Mk mX8_span 2 := ⟨in_X8, cd_X8_span, by decide, by decide, by decide +kernel⟩
abbrev mX8_day : MD := (yX8_day, cX8_day, 6, (some .int), { frames := 4, cells := 0, slots := 0, locals := 95 })
theorem mk_X8_day : Mk mX8_day 2 := ⟨in_X8, cd_X8_day, by decide, by decide, by decide +kernel⟩
abbrev mX8_bill : MD := (yX8_bill, cX8_bill, 3, (some .int), { frames := 1, cells := 0, slots := 0, locals := 22 })
theorem mk_X8_bill : Mk mX8_bill 2 := ⟨in_X8, cd_X8_bill, by decide, by decide, by decide +kernel⟩
abbrev mX8_suits : MD := (yX8_suits, cX8_suits, 4, (some .boolean), { frames := 1, cells := 0, slots := 0, locals := 22 })
theorem mk_X8_suits : Mk mX8_suits 3 := ⟨in_X8, cd_X8_suits, by decide, by decide, by decide +kernel⟩
abbrev mX8_billed : MD := (yX8_billed, cX8_billed, 6, (some .int), { frames := 4, cells := 0, slots := 0, locals := 95 })
theorem mk_X8_billed : Mk mX8_billed 1 := ⟨in_X8, cd_X8_billed, by decide, by decide, by decide +kernel⟩
abbrev mX8_enough : MD := (yX8_enough, cX8_enough, 13, (some .int), { frames := 1, cells := 0, slots := 0, locals := 22 })
theorem mk_X8_enough : Mk mX8_enough 2 := ⟨in_X8, cd_X8_enough, by decide, by decide, by decide +kernel⟩
abbrev mX8_next : MD := (yX8_next, cX8_next, 9, (some .int), { frames := 4, cells := 0, slots := 0, locals := 95 })
theorem mk_X8_next : Mk mX8_next 0 := ⟨in_X8, cd_X8_next, by decide, by decide, by decide +kernel⟩
abbrev mX8_ofCoat : MD := (yX8_ofCoat, cX8_ofCoat, 3, (some .int), { frames := 0, cells := 0, slots := 0, locals := 0 })
theorem mk_X8_ofCoat : Mk mX8_ofCoat 2 := ⟨in_X8, cd_X8_ofCoat, by decide, by decide, by decide +kernel⟩
abbrev mX8_ofWhole : MD := (yX8_ofWhole, cX8_ofWhole, 5, (some .int), { frames := 1, cells := 0, slots := 0, locals := 24 })
theorem mk_X8_ofWhole : Mk mX8_ofWhole 2 := ⟨in_X8, cd_X8_ofWhole, by decide, by decide, by decide +kernel⟩
abbrev mX8_ofUnder : MD := (yX8_ofUnder, cX8_ofUnder, 3, (some .int), { frames := 1, cells := 0, slots := 0, locals := 22 })
theorem mk_X8_ofUnder : Mk mX8_ofUnder 2 := ⟨in_X8, cd_X8_ofUnder, by decide, by decide, by decide +kernel⟩
abbrev mX8_rank : MD := (yX8_rank, cX8_rank, 4, (some .int), { frames := 4, cells := 0, slots := 0, locals := 95 })
theorem mk_X8_rank : Mk mX8_rank 3 := ⟨in_X8, cd_X8_rank, by decide, by decide, by decide +kernel⟩
abbrev mX8_keep : MD := (yX8_keep, cX8_keep, 3, (some .int), { frames := 1, cells := 0, slots := 0, locals := 22 })
theorem mk_X8_keep : Mk mX8_keep 1 := ⟨in_X8, cd_X8_keep, by decide, by decide, by decide +kernel⟩
abbrev mX8_back : MD := (yX8_back, cX8_back, 3, (some .int), { frames := 1, cells := 0, slots := 0, locals := 22 })
theorem mk_X8_back : Mk mX8_back 1 := ⟨in_X8, cd_X8_back, by decide, by decide, by decide +kernel⟩
abbrev mX8_count : MD := (yX8_count, cX8_count, 4, (some .int), { frames := 1, cells := 0, slots := 0, locals := 22 })
theorem mk_X8_count : Mk mX8_count 1 := ⟨in_X8, cd_X8_count, by decide, by decide, by decide +kernel⟩
abbrev mX8_trace : MD := (yX8_trace, cX8_trace, 1, (some .long), { frames := 0, cells := 0, slots := 0, locals := 0 })
theorem mk_X8_trace : Mk mX8_trace 0 := ⟨in_X8, cd_X8_trace, by decide, by decide, by decide +kernel⟩
abbrev mJ6_bitCount_0f7a4 : MD := (yJ6_bitCount_0f7a4, cJ6_bitCount_0f7a4, 1, (some .int), { frames := 0, cells := 0, slots := 0, locals := 0 })
theorem mk_J6_bitCount_0f7a4 : Mk mJ6_bitCount_0f7a4 1 := ⟨in_J6, cd_J6_bitCount_0f7a4, by decide, by decide, by decide +kernel⟩
abbrev mJ9_abs_0f7a4 : MD := (yJ9_abs_0f7a4, cJ9_abs_0f7a4, 1, (some .int), { frames := 0, cells := 0, slots := 0, locals := 0 })
theorem mk_J9_abs_0f7a4 : Mk mJ9_abs_0f7a4 1 := ⟨in_J9, cd_J9_abs_0f7a4, by decide, by decide, by decide +kernel⟩
abbrev mJ9_max_7cf53 : MD := (yJ9_max_7cf53, cJ9_max_7cf53, 2, (some .int), { frames := 0, cells := 0, slots := 0, locals := 0 })
theorem mk_J9_max_7cf53 : Mk mJ9_max_7cf53 2 := ⟨in_J9, cd_J9_max_7cf53, by decide, by decide, by decide +kernel⟩
abbrev mJ9_min_7cf53 : MD := (yJ9_min_7cf53, cJ9_min_7cf53, 2, (some .int), { frames := 0, cells := 0, slots := 0, locals := 0 })
theorem mk_J9_min_7cf53 : Mk mJ9_min_7cf53 2 := ⟨in_J9, cd_J9_min_7cf53, by decide, by decide, by decide +kernel⟩
abbrev mJ0_length_8abf5 : MD := (yJ0_length_8abf5, cJ0_length_8abf5, 1, (some .int), { frames := 1, cells := 0, slots := 0, locals := 20 })
theorem mk_J0_length_8abf5 : Mk mJ0_length_8abf5 0 := ⟨in_J0, cd_J0_length_8abf5, by decide, by decide, by decide +kernel⟩
abbrev mJ0_charAt_5068e : MD := (yJ0_charAt_5068e, cJ0_charAt_5068e, 2, (some .char), { frames := 4, cells := 0, slots := 0, locals := 85 })
theorem mk_J0_charAt_5068e : Mk mJ0_charAt_5068e 1 := ⟨in_J0, cd_J0_charAt_5068e, by decide, by decide, by decide +kernel⟩
abbrev mJ0_coder_7d493 : MD := (yJ0_coder_7d493, cJ0_coder_7d493, 1, (some .byte), { frames := 0, cells := 0, slots := 0, locals := 0 })
theorem mk_J0_coder_7d493 : Mk mJ0_coder_7d493 0 := ⟨in_J0, cd_J0_coder_7d493, by decide, by decide, by decide +kernel⟩
abbrev mJ0_isLatin1_aae02 : MD := (yJ0_isLatin1_aae02, cJ0_isLatin1_aae02, 1, (some .boolean), { frames := 0, cells := 0, slots := 0, locals := 0 })
theorem mk_J0_isLatin1_aae02 : Mk mJ0_isLatin1_aae02 0 := ⟨in_J0, cd_J0_isLatin1_aae02, by decide, by decide, by decide +kernel⟩
abbrev mJ0_checkIndex_df160 : MD := (yJ0_checkIndex_df160, cJ0_checkIndex_df160, 2, none, { frames := 1, cells := 0, slots := 0, locals := 22 })
theorem mk_J0_checkIndex_df160 : Mk mJ0_checkIndex_df160 2 := ⟨in_J0, cd_J0_checkIndex_df160, by decide, by decide, by decide +kernel⟩
abbrev mJ1_charAt_3b067 : MD := (yJ1_charAt_3b067, cJ1_charAt_3b067, 2, (some .char), { frames := 2, cells := 0, slots := 0, locals := 43 })
theorem mk_J1_charAt_3b067 : Mk mJ1_charAt_3b067 2 := ⟨in_J1, cd_J1_charAt_3b067, by decide, by decide, by decide +kernel⟩
abbrev mJ2_getChar_3b067 : MD := (yJ2_getChar_3b067, cJ2_getChar_3b067, 2, (some .char), { frames := 1, cells := 0, slots := 0, locals := 20 })
theorem mk_J2_getChar_3b067 : Mk mJ2_getChar_3b067 2 := ⟨in_J2, cd_J2_getChar_3b067, by decide, by decide, by decide +kernel⟩
abbrev mJ2_length_9d52b : MD := (yJ2_length_9d52b, cJ2_length_9d52b, 1, (some .int), { frames := 0, cells := 0, slots := 0, locals := 0 })
theorem mk_J2_length_9d52b : Mk mJ2_length_9d52b 1 := ⟨in_J2, cd_J2_length_9d52b, by decide, by decide, by decide +kernel⟩
abbrev mJ2_charAt_3b067 : MD := (yJ2_charAt_3b067, cJ2_charAt_3b067, 2, (some .char), { frames := 3, cells := 0, slots := 0, locals := 64 })
theorem mk_J2_charAt_3b067 : Mk mJ2_charAt_3b067 2 := ⟨in_J2, cd_J2_charAt_3b067, by decide, by decide, by decide +kernel⟩
abbrev mJ2_checkIndex_2214a : MD := (yJ2_checkIndex_2214a, cJ2_checkIndex_2214a, 2, none, { frames := 2, cells := 0, slots := 0, locals := 43 })
theorem mk_J2_checkIndex_2214a : Mk mJ2_checkIndex_2214a 2 := ⟨in_J2, cd_J2_checkIndex_2214a, by decide, by decide, by decide +kernel⟩
abbrev mJ7_fill_53178 : MD := (yJ7_fill_53178, cJ7_fill_53178, 4, none, { frames := 0, cells := 0, slots := 0, locals := 0 })
theorem mk_J7_fill_53178 : Mk mJ7_fill_53178 2 := ⟨in_J7, cd_J7_fill_53178, by decide, by decide, by decide +kernel⟩
abbrev mJ3_checkIndex_8e157 : MD := (yJ3_checkIndex_8e157, cJ3_checkIndex_8e157, 3, (some .int), { frames := 0, cells := 0, slots := 0, locals := 0 })
theorem mk_J3_checkIndex_8e157 : Mk mJ3_checkIndex_8e157 3 := ⟨in_J3, cd_J3_checkIndex_8e157, by decide, by decide, by decide +kernel⟩
end
section
/-! behind the constructors: all cells are there, fixed references are fixed -/
abbrev mg : Type := State × (Nat → Nat) × va_G × (Nat → ClassId)
abbrev mG (g : mg) : Gm := (g.1, g.2.1, g.2.2.1, g.2.2.2, SR)
abbrev XT : Type := Program × Env × Room × State × MethodId × Array Value × List Frame × Method × Code × Nat
abbrev FF (g : mg) (l : Launch) (X : XT) : Fr := (mG g, l, X)
abbrev W0 : Nat × Nat × Nat := (118, 0, 0)
def qI (Q : Int32 → AH → Prop) : Option Value → AH → Prop := fun r h => match r with
  | some (.int v) => Q v h
  | _ => False
def qL (Q : Int64 → AH → Prop) : Option Value → AH → Prop := fun r h => match r with
  | some (.long v) => Q v h
  | _ => False
def qV (Q : AH → Prop) : Option Value → AH → Prop := fun r h => match r with
  | none => Q h
  | _ => False
abbrev GI (g : mg) (l : Launch) (X : XT) (Q : Int32 → AH → Prop) (h : AH) (pc : Nat) (lv : List (Nat × Value)) (st : List Value) : Prop := Gd (FF g l X) (MZ (FF g l X) W0 (qI Q)) W0 h pc lv st
abbrev GL (g : mg) (l : Launch) (X : XT) (Q : Int64 → AH → Prop) (h : AH) (pc : Nat) (lv : List (Nat × Value)) (st : List Value) : Prop := Gd (FF g l X) (MZ (FF g l X) W0 (qL Q)) W0 h pc lv st
abbrev GV (g : mg) (l : Launch) (X : XT) (Q : AH → Prop) (h : AH) (pc : Nat) (lv : List (Nat × Value)) (st : List Value) : Prop := Gd (FF g l X) (MZ (FF g l X) W0 (qV Q)) W0 h pc lv st
def SpI (g : mg) (l : Launch) (M : MD) (h : AH) (av : List Value) (Q : Int32 → AH → Prop) : Prop := Spec (mG g) l M W0 h av (qI Q)
def SpL (g : mg) (l : Launch) (M : MD) (h : AH) (av : List Value) (Q : Int64 → AH → Prop) : Prop := Spec (mG g) l M W0 h av (qL Q)
def SpV (g : mg) (l : Launch) (M : MD) (h : AH) (av : List Value) (Q : AH → Prop) : Prop := Spec (mG g) l M W0 h av (qV Q)
theorem qI_k {Q : Int32 → AH → Prop} {P : Option Value → AH → Prop} (k : ∀ v h', Q v h' → P (some (.int v)) h') : ∀ r h', qI Q r h' → P r h' := by
  intro r h' q
  cases r with
  | none => exact q.elim
  | some v => cases v <;> first | exact k _ _ q | exact q.elim
theorem qL_k {Q : Int64 → AH → Prop} {P : Option Value → AH → Prop} (k : ∀ v h', Q v h' → P (some (.long v)) h') : ∀ r h', qL Q r h' → P r h' := by
  intro r h' q
  cases r with
  | none => exact q.elim
  | some v => cases v <;> first | exact k _ _ q | exact q.elim
theorem qV_k {Q : AH → Prop} {P : Option Value → AH → Prop} (k : ∀ h', Q h' → P none h') : ∀ r h', qV Q r h' → P r h' := by
  intro r h' q
  cases r with
  | none => exact k _ q
  | some v => exact q.elim
theorem SpI.mono {g : mg} {l : Launch} {M : MD} {h : AH} {av : List Value} {Q Q2 : Int32 → AH → Prop} (S : SpI g l M h av Q) (k : ∀ v h', Q v h' → Q2 v h') : SpI g l M h av Q2 := Spec.mono S (qI_k k)
theorem SpL.mono {g : mg} {l : Launch} {M : MD} {h : AH} {av : List Value} {Q Q2 : Int64 → AH → Prop} (S : SpL g l M h av Q) (k : ∀ v h', Q v h' → Q2 v h') : SpL g l M h av Q2 := Spec.mono S (qL_k k)
theorem SpV.mono {g : mg} {l : Launch} {M : MD} {h : AH} {av : List Value} {Q Q2 : AH → Prop} (S : SpV g l M h av Q) (k : ∀ h', Q h' → Q2 h') : SpV g l M h av Q2 := Spec.mono S (qV_k k)
theorem spI_of {g : mg} {l : Launch} {M : MD} {h : AH} {av : List Value} {Q : Int32 → AH → Prop} (hy : plainName M.1.cls = true) (hlen : (lg_sl av).length ≤ M.2.2.1) (body : ∀ X, Ok (FF g l X) M.1.cls M.2.1 M.2.2.1 M.2.2.2.2 M.2.2.2.1 → GI g l X Q h 0 (lv_args 0 av) []) : SpI g l M h av Q := spec_of (n := 118) (mc := 0) (ms := 0) hy hlen (fun X O _ => body X O)
theorem spL_of {g : mg} {l : Launch} {M : MD} {h : AH} {av : List Value} {Q : Int64 → AH → Prop} (hy : plainName M.1.cls = true) (hlen : (lg_sl av).length ≤ M.2.2.1) (body : ∀ X, Ok (FF g l X) M.1.cls M.2.1 M.2.2.1 M.2.2.2.2 M.2.2.2.1 → GL g l X Q h 0 (lv_args 0 av) []) : SpL g l M h av Q := spec_of (n := 118) (mc := 0) (ms := 0) hy hlen (fun X O _ => body X O)
theorem spV_of {g : mg} {l : Launch} {M : MD} {h : AH} {av : List Value} {Q : AH → Prop} (hy : plainName M.1.cls = true) (hlen : (lg_sl av).length ≤ M.2.2.1) (body : ∀ X, Ok (FF g l X) M.1.cls M.2.1 M.2.2.1 M.2.2.2.2 M.2.2.2.1 → GV g l X Q h 0 (lv_args 0 av) []) : SpV g l M h av Q := spec_of (n := 118) (mc := 0) (ms := 0) hy hlen (fun X O _ => body X O)
section GM
variable {g : mg} {l : Launch} {X : XT} {Z : State → Prop} {h : AH} {pc : Nat} {lv : List (Nat × Value)} {st st0 : List Value} {own : String} {cc : ByteArray} {nL : Nat} {rm : Room} {rt : Option FieldType} {c i a N n : Nat} {T : u_T} {M : MD}
/-- the callee's room in the caller's -/
def Rm (M : MD) (rm : Room) : Prop := M.2.2.2.2.cells = 0 ∧ M.2.2.2.2.slots = 0 ∧ M.2.2.2.2.frames + 1 ≤ rm.frames ∧ 8 + (M.2.2.1 + 11) + M.2.2.2.2.locals ≤ rm.locals
theorem g_vI (av : List Value) (st : List Value) (O : Ok (FF g l X) own cc nL rm rt) (hM : Mk M n) (hl : Cond.methodLink own i M.1 ∈ Tb) (hi : Cond.instanceMethod M.1 ∈ Tb) (hs : Cond.selects M.1.cls M.1 M.1 ∈ Tb) (hC : Cls c M.1.cls T N) (ha : lay a = (c, N)) (hr : Rm M rm) (hn : av.length = n) (hW : (st.map fun v => v.category).sum ≤ 8) (d : decode cc pc = .ok (.invokevirtual i, 3)) {Q : Int32 → AH → Prop} (S : SpI g l M h (.ref a :: av) Q) (hst : st0 = av.reverse ++ .ref a :: st) (k : ∀ v h', Q v h' → Gd (FF g l X) Z W0 h' (pc + 3) lv (.int v :: st)) : Gd (FF g l X) Z W0 h pc lv st0 :=
  g_callV (w := W0) (h := h) (mc := 0) (ms := 0) O hM hl hi hs hC ha (lay_lt ha (by have := hC.2.2.1; omega)) hr hn hW ⟨Nat.zero_le _, Nat.zero_le _⟩ d (Spec.mono S (qI_k k)) hst
theorem g_vL (av : List Value) (st : List Value) (O : Ok (FF g l X) own cc nL rm rt) (hM : Mk M n) (hl : Cond.methodLink own i M.1 ∈ Tb) (hi : Cond.instanceMethod M.1 ∈ Tb) (hs : Cond.selects M.1.cls M.1 M.1 ∈ Tb) (hC : Cls c M.1.cls T N) (ha : lay a = (c, N)) (hr : Rm M rm) (hn : av.length = n) (hW : (st.map fun v => v.category).sum ≤ 8) (d : decode cc pc = .ok (.invokevirtual i, 3)) {Q : Int64 → AH → Prop} (S : SpL g l M h (.ref a :: av) Q) (hst : st0 = av.reverse ++ .ref a :: st) (k : ∀ v h', Q v h' → Gd (FF g l X) Z W0 h' (pc + 3) lv (.long v :: st)) : Gd (FF g l X) Z W0 h pc lv st0 :=
  g_callV (w := W0) (h := h) (mc := 0) (ms := 0) O hM hl hi hs hC ha (lay_lt ha (by have := hC.2.2.1; omega)) hr hn hW ⟨Nat.zero_le _, Nat.zero_le _⟩ d (Spec.mono S (qL_k k)) hst
theorem g_vV (av : List Value) (st : List Value) (O : Ok (FF g l X) own cc nL rm rt) (hM : Mk M n) (hl : Cond.methodLink own i M.1 ∈ Tb) (hi : Cond.instanceMethod M.1 ∈ Tb) (hs : Cond.selects M.1.cls M.1 M.1 ∈ Tb) (hC : Cls c M.1.cls T N) (ha : lay a = (c, N)) (hr : Rm M rm) (hn : av.length = n) (hW : (st.map fun v => v.category).sum ≤ 8) (d : decode cc pc = .ok (.invokevirtual i, 3)) {Q : AH → Prop} (S : SpV g l M h (.ref a :: av) Q) (hst : st0 = av.reverse ++ .ref a :: st) (k : ∀ h', Q h' → Gd (FF g l X) Z W0 h' (pc + 3) lv st) : Gd (FF g l X) Z W0 h pc lv st0 :=
  g_callV (w := W0) (h := h) (mc := 0) (ms := 0) O hM hl hi hs hC ha (lay_lt ha (by have := hC.2.2.1; omega)) hr hn hW ⟨Nat.zero_le _, Nat.zero_le _⟩ d (Spec.mono S (qV_k k)) hst
theorem g_sI (av : List Value) (st : List Value) (O : Ok (FF g l X) own cc nL rm rt) (hM : Mk M n) (hl : Cond.methodLink own i M.1 ∈ Tb) (hi : Cond.static M.1 ∈ Tb) (hr : Rm M rm) (hn : av.length = n) (hW : (st.map fun v => v.category).sum ≤ 8) (d : decode cc pc = .ok (.invokestatic i, 3)) {Q : Int32 → AH → Prop} (S : SpI g l M h av Q) (hst : st0 = av.reverse ++ st) (k : ∀ v h', Q v h' → Gd (FF g l X) Z W0 h' (pc + 3) lv (.int v :: st)) : Gd (FF g l X) Z W0 h pc lv st0 :=
  g_callS (w := W0) (h := h) (mc := 0) (ms := 0) O hM hl hi hr hn hW ⟨Nat.zero_le _, Nat.zero_le _⟩ d (Spec.mono S (qI_k k)) hst
theorem g_sL (av : List Value) (st : List Value) (O : Ok (FF g l X) own cc nL rm rt) (hM : Mk M n) (hl : Cond.methodLink own i M.1 ∈ Tb) (hi : Cond.static M.1 ∈ Tb) (hr : Rm M rm) (hn : av.length = n) (hW : (st.map fun v => v.category).sum ≤ 8) (d : decode cc pc = .ok (.invokestatic i, 3)) {Q : Int64 → AH → Prop} (S : SpL g l M h av Q) (hst : st0 = av.reverse ++ st) (k : ∀ v h', Q v h' → Gd (FF g l X) Z W0 h' (pc + 3) lv (.long v :: st)) : Gd (FF g l X) Z W0 h pc lv st0 :=
  g_callS (w := W0) (h := h) (mc := 0) (ms := 0) O hM hl hi hr hn hW ⟨Nat.zero_le _, Nat.zero_le _⟩ d (Spec.mono S (qL_k k)) hst
theorem g_sV (av : List Value) (st : List Value) (O : Ok (FF g l X) own cc nL rm rt) (hM : Mk M n) (hl : Cond.methodLink own i M.1 ∈ Tb) (hi : Cond.static M.1 ∈ Tb) (hr : Rm M rm) (hn : av.length = n) (hW : (st.map fun v => v.category).sum ≤ 8) (d : decode cc pc = .ok (.invokestatic i, 3)) {Q : AH → Prop} (S : SpV g l M h av Q) (hst : st0 = av.reverse ++ st) (k : ∀ h', Q h' → Gd (FF g l X) Z W0 h' (pc + 3) lv st) : Gd (FF g l X) Z W0 h pc lv st0 :=
  g_callS (w := W0) (h := h) (mc := 0) (ms := 0) O hM hl hi hr hn hW ⟨Nat.zero_le _, Nat.zero_le _⟩ d (Spec.mono S (qV_k k)) hst
/-! Math -/
theorem g_mmax (O : Ok (FF g l X) own cc nL rm rt) (hl : Cond.methodLink own i yJ9_max_7cf53 ∈ Tb) (hR : 1 ≤ rm.frames ∧ 21 ≤ rm.locals) (hW : (st.map fun v => v.category).sum ≤ 8) {x y : Int32} (d : decode cc pc = .ok (.invokestatic i, 3)) (k : Gd (FF g l X) Z W0 h (pc + 3) lv (.int (if x < y then y else x) :: st)) : Gd (FF g l X) Z W0 h pc lv (.int y :: .int x :: st) :=
  fun H locs ls hw hS hl' => va_mmax O.1 O.2.1 (by rw [hl'.1]; exact O.2.2.1) O.2.2.2.1 (okS O hl) (okS O sm_J9_max_7cf53) (okS O in_J9) (okS O cd_J9_max_7cf53) (by rw [O.2.2.2.2.2.2.2.2.2.2.1]; exact hR.1) (by rw [O.2.2.2.2.2.2.2.2.2.2.1, cat_cv]; omega) (Nat.zero_le _) (Nat.zero_le _) d (k H locs ls hw hS hl')
theorem g_mmin (O : Ok (FF g l X) own cc nL rm rt) (hl : Cond.methodLink own i yJ9_min_7cf53 ∈ Tb) (hR : 1 ≤ rm.frames ∧ 21 ≤ rm.locals) (hW : (st.map fun v => v.category).sum ≤ 8) {x y : Int32} (d : decode cc pc = .ok (.invokestatic i, 3)) (k : Gd (FF g l X) Z W0 h (pc + 3) lv (.int (if y < x then y else x) :: st)) : Gd (FF g l X) Z W0 h pc lv (.int y :: .int x :: st) :=
  fun H locs ls hw hS hl' => va_mmin O.1 O.2.1 (by rw [hl'.1]; exact O.2.2.1) O.2.2.2.1 (okS O hl) (okS O sm_J9_min_7cf53) (okS O in_J9) (okS O cd_J9_min_7cf53) (by rw [O.2.2.2.2.2.2.2.2.2.2.1]; exact hR.1) (by rw [O.2.2.2.2.2.2.2.2.2.2.1, cat_cv]; omega) (Nat.zero_le _) (Nat.zero_le _) d (k H locs ls hw hS hl')
theorem g_mabs (O : Ok (FF g l X) own cc nL rm rt) (hl : Cond.methodLink own i yJ9_abs_0f7a4 ∈ Tb) (hR : 1 ≤ rm.frames ∧ 20 ≤ rm.locals) (hW : (st.map fun v => v.category).sum ≤ 7) {x : Int32} (d : decode cc pc = .ok (.invokestatic i, 3)) (k : Gd (FF g l X) Z W0 h (pc + 3) lv (.int (if 0 ≤ x then x else 0 - x) :: st)) : Gd (FF g l X) Z W0 h pc lv (.int x :: st) :=
  fun H locs ls hw hS hl' => va_mabs O.1 O.2.1 (by rw [hl'.1]; exact O.2.2.1) O.2.2.2.1 (okS O hl) (okS O sm_J9_abs_0f7a4) (okS O in_J9) (okS O cd_J9_abs_0f7a4) (by rw [O.2.2.2.2.2.2.2.2.2.2.1]; exact hR.1) (by rw [O.2.2.2.2.2.2.2.2.2.2.1, cat_cv]; omega) (Nat.zero_le _) (Nat.zero_le _) d (k H locs ls hw hS hl')
end GM
/-! fixed references of objects of which there are several -/
theorem sr_chip0 {x : Nat} (h : lay x = (1, 5)) : SR x 0 = some (x + 1) := by simp [SR, h, srC]
theorem sr_chip1 {x : Nat} (h : lay x = (1, 5)) : SR x 1 = some (x + 2) := by simp [SR, h, srC]
theorem sr_book0 {x : Nat} (h : lay x = (0, 7)) : SR x 0 = some (x + 1) := by simp [SR, h, srC]
theorem sr_book1 {x : Nat} (h : lay x = (0, 7)) : SR x 1 = some (x + 2) := by simp [SR, h, srC]
theorem sr_book2 {x : Nat} (h : lay x = (0, 7)) : SR x 2 = some (x + 3) := by simp [SR, h, srC]
theorem sr_book3 {x : Nat} (h : lay x = (0, 7)) : SR x 3 = some (x + 4) := by simp [SR, h, srC]
theorem sr_book4 {x : Nat} (h : lay x = (0, 7)) : SR x 4 = some (x + 5) := by simp [SR, h, srC]
theorem sr_shelf0 {x : Nat} (h : lay x = (4, 3)) : SR x 0 = some (x + 1) := by simp [SR, h, srC]
def lay_chk (x : Nat) : Bool := ((lay x != (1, 5)) || (lay (x + 1) == (100, 10) && lay (x + 2) == (100, 10))) && ((lay x != (4, 3)) || (lay (x + 1) == (103, 4))) && ((lay x != (0, 7)) || (lay (x + 1) == (100, 12) && lay (x + 2) == (100, 12) && lay (x + 3) == (100, 12) && lay (x + 4) == (100, 8) && lay (x + 5) == (100, 8)))
theorem lay_chk_ok : (List.range 118).all lay_chk = true := by decide +kernel
theorem lay_all : ∀ x, x < 118 → (lay x = (1, 5) → lay (x + 1) = (100, 10) ∧ lay (x + 2) = (100, 10)) ∧ (lay x = (4, 3) → lay (x + 1) = (103, 4)) ∧ (lay x = (0, 7) → lay (x + 1) = (100, 12) ∧ lay (x + 2) = (100, 12) ∧ lay (x + 3) = (100, 12) ∧ lay (x + 4) = (100, 8) ∧ lay (x + 5) = (100, 8)) := by
  intro x hx
  have h := List.all_eq_true.mp lay_chk_ok x (List.mem_range.mpr hx)
  unfold lay_chk at h
  simp only [Bool.and_eq_true, Bool.or_eq_true, bne_iff_ne, beq_iff_eq, ne_eq] at h
  obtain ⟨⟨h1, h2⟩, h3⟩ := h
  refine ⟨fun e => ?_, fun e => ?_, fun e => ?_⟩
  · rcases h1 with h1 | h1
    · exact absurd e h1
    · exact h1
  · rcases h2 with h2 | h2
    · exact absurd e h2
    · exact h2
  · rcases h3 with h3 | h3
    · exact absurd e h3
    · obtain ⟨⟨⟨⟨q1, q2⟩, q3⟩, q4⟩, q5⟩ := h3
      exact ⟨q1, q2, q3, q4, q5⟩
theorem lay_chip0 {x : Nat} (h : lay x = (1, 5)) : lay (x + 1) = (100, 10) := ((lay_all x (lay_lt h (by decide))).1 h).1
theorem lay_chip1 {x : Nat} (h : lay x = (1, 5)) : lay (x + 2) = (100, 10) := ((lay_all x (lay_lt h (by decide))).1 h).2
theorem lay_shelf0 {x : Nat} (h : lay x = (4, 3)) : lay (x + 1) = (103, 4) := (lay_all x (lay_lt h (by decide))).2.1 h
theorem lay_book0 {x : Nat} (h : lay x = (0, 7)) : lay (x + 1) = (100, 12) := ((lay_all x (lay_lt h (by decide))).2.2 h).1
theorem lay_book1 {x : Nat} (h : lay x = (0, 7)) : lay (x + 2) = (100, 12) := ((lay_all x (lay_lt h (by decide))).2.2 h).2.1
theorem lay_book2 {x : Nat} (h : lay x = (0, 7)) : lay (x + 3) = (100, 12) := ((lay_all x (lay_lt h (by decide))).2.2 h).2.2.1
theorem lay_book3 {x : Nat} (h : lay x = (0, 7)) : lay (x + 4) = (100, 8) := ((lay_all x (lay_lt h (by decide))).2.2 h).2.2.2.1
theorem lay_book4 {x : Nat} (h : lay x = (0, 7)) : lay (x + 5) = (100, 8) := ((lay_all x (lay_lt h (by decide))).2.2 h).2.2.2.2
end
section
/-! switches, arraycopy, tables and texts that were there before; making cells -/
section GX
variable {F : Fr} {Z : State → Prop} {w : Nat × Nat × Nat} {h : AH} {pc : Nat} {lv : List (Nat × Value)} {st : List Value} {own : String} {cc : ByteArray} {nL : Nat} {rm : Room} {rt : Option FieldType} {c i k a N n b : Nat} {C : String} {T : u_T}
theorem I_toInt {z : Int} (h1 : -2147483648 ≤ z) (h2 : z < 2147483648) : (I z).toInt = z := by
  unfold I
  exact Int32.toInt_ofInt_of_le (by simpa using h1) (by simpa using h2)
theorem I_of (x : Int32) : x = I x.toInt := by
  unfold I
  exact (Int32.ofInt_toInt x).symm
theorem g_tab (O : Ok F own cc nL rm rt) {dflt hi : Int} {offs : Array Int} {len : Nat} {x : Int32} (d : decode cc pc = .ok (.tableswitch dflt 0 hi offs, len)) (hn : offs.size = n) (hh : hi + 1 = (n : Int)) (hn1 : n ≤ 1000) (kin : ∀ j : Nat, j < n → x = I (j : Int) → ∃ tgt : Nat, (pc : Int) + offs.getD j 0 = (tgt : Int) ∧ Gd F Z w h tgt lv st) (kout : (∀ j : Nat, j < n → ¬ x = I (j : Int)) → ∃ tgt : Nat, (pc : Int) + dflt = (tgt : Int) ∧ Gd F Z w h tgt lv st) : Gd F Z w h pc lv (.int x :: st) := by
  intro H locs ls hw hS hl'
  by_cases hx : 0 ≤ x.toInt ∧ x.toInt < (n : Int)
  · obtain ⟨tgt, e1, e2⟩ := kin x.toInt.toNat (by omega) (by rw [Int.toNat_of_nonneg hx.1]; exact I_of x)
    have hlt : x.toInt.toNat < offs.size := by omega
    refine lv_tableIn (off := offs.getD x.toInt.toNat 0) O.1 O.2.1 d (by omega) (by omega) ?_ e1 (e2 H locs ls hw hS hl')
    rw [Int.sub_zero]
    generalize x.toInt.toNat = q at hlt
    rw [Array.getElem?_eq_getElem hlt, Array.getD_eq_getD_getElem?, Array.getElem?_eq_getElem hlt]
    rfl
  · obtain ⟨tgt, e1, e2⟩ := kout (fun j hj e => hx (by rw [e, I_toInt (by omega) (by omega)]; omega))
    exact lv_tableOut O.1 O.2.1 d (by omega) e1 (e2 H locs ls hw hS hl')
/-- the first n places of one row into another -/
def cpI (h : AH) (a b n : Nat) : AH := (up h.1 b (fun k => if k < n then h.1 a k else h.1 b k), h.2)
theorem ml_copy : Cond.methodLink RX1 49 arraycopyName ∈ Tb := tb_in 831 (by decide +kernel) rfl
theorem na_copy : Cond.native arraycopyName ∈ Tb := tb_in 833 (by decide +kernel) rfl
theorem sm_copy : Cond.static arraycopyName ∈ Tb := tb_in 832 (by decide +kernel) rfl
theorem in_sys : Cond.initialized "java/lang/System" ∈ Tb := tb_in 88 (by decide +kernel) rfl
theorem g_copy (O : Ok F RX1 cc nL rm rt) (d : decode cc pc = .ok (.invokestatic 49, 3)) (ha : lay a = (100, n)) (hb : lay b = (100, n)) (han : a < w.1) (hbn : b < w.1) (hn1 : w.1 ≤ 1000) (hN : n < 2 ^ 31) (hR : 1 ≤ rm.frames ∧ 26 ≤ rm.locals) (hst : (st.map fun v => v.category).sum ≤ 8) {x : Int32} (hx : x = I (n : Int)) (kk : Gd F Z w (cpI h a b n) (pc + 3) lv st) : Gd F Z w h pc lv (.int x :: .int (I 0) :: .ref b :: .int (I 0) :: .ref a :: st) := by
  subst hx
  intro H locs ls hw hS hl'
  have hK := okK O
  have z0 : (I 0).toNatClampNeg = 0 := I_cl (j := 0) (by decide)
  have zn : (I (n : Int)).toNatClampNeg = n := I_cl hN
  have p0 : ¬ I 0 < 0 := by decide
  have pn : ¬ I (n : Int) < 0 := by rw [I_nat]; exact nI_pos hN
  have t0 : (I 0).toInt = 0 := by decide
  have tn : (I (n : Int)).toInt = (n : Int) := by rw [I_nat]; exact nI_toInt hN
  have hc0 : H[fr F a]? = some (vp_cell ((fG F).2.2.2.1 0) (n, .inl (h.1 a))) := hw.1 a _ (wl_i ha han)
  have hc1 : H[fr F b]? = some (vp_cell ((fG F).2.2.2.1 0) (n, .inl (h.1 b))) := hw.1 b _ (wl_i hb hbn)
  intro Ts hT X
  obtain ⟨-, k0, hk0, cm0, hkk0⟩ := (hK.2 0 _ rfl).1 n (fun j => .int (h.1 a j))
  obtain ⟨-, k1, hk1, cm1, hkk1⟩ := (hK.2 0 _ rfl).1 n (fun j => .int (h.1 b j))
  obtain ⟨vm', X', step⟩ := X.arraycopy O.1 O.2.2.2.1 (okS O ml_copy) (okS O na_copy) (okS O sm_copy) (okS O in_sys) (src := fr F a) (dst := fr F b) (cs := vp_cell ((fG F).2.2.2.1 0) (n, .inl (h.1 a))) (cd := vp_cell ((fG F).2.2.2.1 0) (n, .inl (h.1 b))) (srcPos := I 0) (destPos := I 0) (n := I (n : Int)) (by rw [hT]; exact hc0) (by rw [hT]; exact hc1)
    (fun _ h => by cases h) (fun _ h => by cases h) (fun h => by cases h) (fun h => by cases h) hk0 hk1 hkk0 hkk1 (by simp [refKind]) p0 p0 pn
    (by rw [t0, tn]; show ¬ _ > ((arrV _ n (fun j => .int (h.1 a j))).slots.size : Int); rw [arrV_size]; omega)
    (by rw [t0, tn]; show ¬ _ > ((arrV _ n (fun j => .int (h.1 b j))).slots.size : Int); rw [arrV_size]; omega)
    (fun vm₁ _ i hi => by
      rw [zn] at hi
      have e : (vp_cell ((fG F).2.2.2.1 0) (n, .inl (h.1 a))).slots.getD ((I 0).toNatClampNeg + i) .null = .int (h.1 a ((I 0).toNatClampNeg + i)) := by
        show (arrV _ n (fun j => .int (h.1 a j))).slots.getD _ _ = _
        rw [Array.getD_eq_getD_getElem?, arrV_read _ _ (by omega)]
        rfl
      refine ⟨?_, ?_⟩
      · rw [e]
        rfl
      · rw [e]
        exact trivial)
    (g := F0 (fm F) pc ls ((.int (I (n : Int)) :: .int (I 0) :: .ref b :: .int (I 0) :: .ref a :: st).map (cv (fr F)))) rfl (by rw [O.2.2.1]; exact hl'.1) (rest := st.map (cv (fr F))) rfl (by rw [O.2.1]; exact d) (by rw [O.2.2.2.2.2.2.2.2.2.2.1]; exact hR.1) (by show 2 * 0 + _ + (7 + 11) ≤ _; rw [cat_cv, O.2.2.2.2.2.2.2.2.2.2.1]; omega)
  have e1 : copied (vp_cell ((fG F).2.2.2.1 0) (n, .inl (h.1 a))) (vp_cell ((fG F).2.2.2.1 0) (n, .inl (h.1 b))) (I 0) (I 0) (I (n : Int)) = vp_cell ((fG F).2.2.2.1 0) (n, .inl (va_cpy (h.1 a) (h.1 b) (I 0).toNatClampNeg (I 0).toNatClampNeg (I (n : Int)).toNatClampNeg)) := va_copied (fun z => .int z) _ _ (h.1 a) (h.1 b) (by rw [z0, zn]; omega)
  rw [e1, z0, zn] at X' step
  have e2 : va_cpy (h.1 a) (h.1 b) 0 0 n = fun k => if k < n then h.1 a k else h.1 b k := by
    funext q
    simp [va_cpy]
  rw [e2] at X' step
  generalize hH1 : H.setIfInBounds (fr F b) (vp_cell ((fG F).2.2.2.1 0) (n, .inl (fun k => if k < n then h.1 a k else h.1 b k))) = H1
  have hl : fr F b < H.size := (Array.getElem?_eq_some_iff.mp hc1).1
  have hheap : ((Ts.setVm vm').setCell (fr F b) (vp_cell ((fG F).2.2.2.1 0) (n, .inl (fun k => if k < n then h.1 a k else h.1 b k)))).heap = H1 := by rw [← hH1, ← hT]; rfl
  have oq : ∀ q : Nat, q ≠ fr F b → H1[q]? = H[q]? := fun q hq => by rw [← hH1]; simp [Array.getElem?_setIfInBounds, Ne.symm hq]
  have zz : H1.size = H.size := by rw [← hH1]; simp
  have hw1 : wd (fG F) w.1 (cpI h a b n) H1 := by
    refine wd_set (okE O) hn1 hw hbn ?_ zz oq (fun q hq => ce_congr (by show up h.1 b _ q = _; rw [up_n hq]) rfl rfl)
    rw [ce_i hb]
    show H1[fr F b]? = some (vp_cell _ _)
    rw [← hH1]
    have : (cpI h a b n).1 b = fun k => if k < n then h.1 a k else h.1 b k := by show up h.1 b _ b = _; rw [up_s]
    rw [this]
    simp [Array.getElem?_setIfInBounds, hl]
  obtain ⟨t, a1, b1⟩ := kk H1 _ ls hw1 ⟨by rw [zz]; exact hS.1, fun q g1 g2 => by
      rw [oq q (fun e => g2 (by rw [e]; exact aA_at O (by omega)))]
      exact hS.2.1 q g1 g2, fun q hq => by
      rcases List.mem_append.mp hq with h | h
      · exact hS.2.2 q h
      · obtain ⟨z, -, hz⟩ := List.mem_map.mp h
        rw [← hz]
        exact aA_at O (by omega)⟩ hl' _ hheap X'
  exact ⟨t, step t a1, b1⟩
/-! tables and texts -/
theorem okH (O : Ok F own cc nL rm rt) : ∀ q : Nat, q < (fG F).1.heap.size → ¬ aA (fG F) q → (fs F).heap[q]? = (fG F).1.heap[q]? := fun q hq _ => O.2.2.2.2.2.2.2.2.1 q hq
theorem okX (O : Ok F own cc nL rm rt) : Ext (fG F) := (okE O).2.2
theorem ft_144 : Cond.fieldLink RX7 144 RX7 "TUNE_LOW" "[I" ∈ Tb := tb_in 627 (by decide +kernel) rfl
theorem ft_147 : Cond.fieldLink RX7 147 RX7 "TUNE_HIGH" "[I" ∈ Tb := tb_in 629 (by decide +kernel) rfl
theorem fs_9 : Cond.fieldLink "java/lang/String" 9 "java/lang/String" "value" "[B" ∈ Tb := tb_in 1247 (by decide +kernel) rfl
theorem fs_15 : Cond.fieldLink "java/lang/String" 15 "java/lang/String" "coder" "B" ∈ Tb := tb_in 1248 (by decide +kernel) rfl
theorem fs_38 : Cond.fieldLink "java/lang/String" 38 "java/lang/String" "COMPACT_STRINGS" "Z" ∈ Tb := tb_in 448 (by decide +kernel) rfl
theorem fs_1053 : Cond.fieldLink "java/lang/String" 1053 "jdk/internal/util/Preconditions" "SIOOBE_FORMATTER" "Ljava/util/function/BiFunction;" ∈ Tb := tb_in 464 (by decide +kernel) rfl
theorem g_gets1001 (O : Ok F RX7 cc nL rm rt) (d : decode cc pc = .ok (.getstatic 144, 3)) (kk : Gd F Z w h (pc + 3) lv (.ref 1001 :: st)) : Gd F Z w h pc lv st := fun H locs ls hw hS hl' =>
  va_gets O.1 O.2.1 (((okX O).2.2.1.1.moved O.2.2.2.2.2.1.alike).kept (okH O)) hS O.2.2.2.1 (okS O ft_144) (fun _ x => x) d (kk H locs ls hw hS hl')
theorem g_gets1002 (O : Ok F RX7 cc nL rm rt) (d : decode cc pc = .ok (.getstatic 147, 3)) (kk : Gd F Z w h (pc + 3) lv (.ref 1002 :: st)) : Gd F Z w h pc lv st := fun H locs ls hw hS hl' =>
  va_gets O.1 O.2.1 (((okX O).2.2.2.1.1.moved O.2.2.2.2.2.1.alike).kept (okH O)) hS O.2.2.2.1 (okS O ft_147) (fun _ x => x) d (kk H locs ls hw hS hl')
theorem g_tald1001 (O : Ok F own cc nL rm rt) (d : decode cc pc = .ok (.iaload, 1)) {x : Int32} {j : Nat} (e : x = I (j : Int)) (hj : j < 5) (kk : Gd F Z w h (pc + 1) lv (.int (tuLo.getD j 0) :: st)) : Gd F Z w h pc lv (.int x :: .ref 1001 :: st) := by
  subst e
  intro H locs ls hw hS hl'
  refine va_ti O.1 O.2.1 (((okX O).2.2.1.2.moved O.2.2.2.2.2.1.alike).kept (okH O)) hS (I_in hj (by omega)) (v := .int (tuLo.getD j 0)) (by rw [I_cl (by omega)]) d (kk H locs ls hw hS hl')
theorem g_tald1002 (O : Ok F own cc nL rm rt) (d : decode cc pc = .ok (.iaload, 1)) {x : Int32} {j : Nat} (e : x = I (j : Int)) (hj : j < 5) (kk : Gd F Z w h (pc + 1) lv (.int (tuHi.getD j 0) :: st)) : Gd F Z w h pc lv (.int x :: .ref 1002 :: st) := by
  subst e
  intro H locs ls hw hS hl'
  refine va_ti O.1 O.2.1 (((okX O).2.2.2.1.2.moved O.2.2.2.2.2.1.alike).kept (okH O)) hS (I_in hj (by omega)) (v := .int (tuHi.getD j 0)) (by rw [I_cl (by omega)]) d (kk H locs ls hw hS hl')
theorem okV (O : Ok F own cc nL rm rt) : vk_S 5 txL txB (fun i => fr F (1010 + i)) (fun i => fr F (1020 + i)) (aA (fG F)) (fs F) (fs F).heap := ((okX O).1.moved O.2.2.2.2.2.1.alike).kept (okH O)
theorem g_ldcS0 (O : Ok F RX5 cc nL rm rt) (d : decode cc pc = .ok (.ldc 65, 2)) (kk : Gd F Z w h (pc + 2) lv (.ref 1010 :: st)) : Gd F Z w h pc lv st := fun H locs ls hw hS hl' => va_ldcS O.1 O.2.1 O.2.2.2.1 ((okX O).2.1.1.warm O.2.2.2.2.2.1) d (kk H locs ls hw hS hl')
theorem g_ldcS1 (O : Ok F RX5 cc nL rm rt) (d : decode cc pc = .ok (.ldc 71, 2)) (kk : Gd F Z w h (pc + 2) lv (.ref 1011 :: st)) : Gd F Z w h pc lv st := fun H locs ls hw hS hl' => va_ldcS O.1 O.2.1 O.2.2.2.1 ((okX O).2.1.2.1.warm O.2.2.2.2.2.1) d (kk H locs ls hw hS hl')
theorem g_ldcS2 (O : Ok F RX5 cc nL rm rt) (d : decode cc pc = .ok (.ldc 73, 2)) (kk : Gd F Z w h (pc + 2) lv (.ref 1012 :: st)) : Gd F Z w h pc lv st := fun H locs ls hw hS hl' => va_ldcS O.1 O.2.1 O.2.2.2.1 ((okX O).2.1.2.2.1.warm O.2.2.2.2.2.1) d (kk H locs ls hw hS hl')
theorem g_ldcS3 (O : Ok F RX5 cc nL rm rt) (d : decode cc pc = .ok (.ldc 75, 2)) (kk : Gd F Z w h (pc + 2) lv (.ref 1013 :: st)) : Gd F Z w h pc lv st := fun H locs ls hw hS hl' => va_ldcS O.1 O.2.1 O.2.2.2.1 ((okX O).2.1.2.2.2.1.warm O.2.2.2.2.2.1) d (kk H locs ls hw hS hl')
theorem g_ldcS4 (O : Ok F RX5 cc nL rm rt) (d : decode cc pc = .ok (.ldc 77, 2)) (kk : Gd F Z w h (pc + 2) lv (.ref 1014 :: st)) : Gd F Z w h pc lv st := fun H locs ls hw hS hl' => va_ldcS O.1 O.2.1 O.2.2.2.1 ((okX O).2.1.2.2.2.2.warm O.2.2.2.2.2.1) d (kk H locs ls hw hS hl')
theorem g_strC (O : Ok F "java/lang/String" cc nL rm rt) (hi : i < 5) (hl : Cond.fieldLink "java/lang/String" k "java/lang/String" "coder" "B" ∈ Tb) (d : decode cc pc = .ok (.getfield k, 3)) (kk : Gd F Z w h (pc + 3) lv (.int (I 0) :: st)) : Gd F Z w h pc lv (.ref (1010 + i) :: st) := fun H locs ls hw hS hl' =>
  vk_getf O.1 O.2.1 ((okV O).1 i hi).2.1 hS O.2.2.2.1 (okS O hl) (fun _ x => x) d (by rw [show (0 : Int32) = I 0 by decide]; exact kk H locs ls hw hS hl')
theorem g_strV (O : Ok F "java/lang/String" cc nL rm rt) (hi : i < 5) (hl : Cond.fieldLink "java/lang/String" k "java/lang/String" "value" "[B" ∈ Tb) (d : decode cc pc = .ok (.getfield k, 3)) (kk : Gd F Z w h (pc + 3) lv (.ref (1020 + i) :: st)) : Gd F Z w h pc lv (.ref (1010 + i) :: st) := fun H locs ls hw hS hl' =>
  vk_getf O.1 O.2.1 ((okV O).1 i hi).2.2.1 hS O.2.2.2.1 (okS O hl) (fun _ x => x) d (kk H locs ls hw hS hl')
theorem g_strL (O : Ok F own cc nL rm rt) (hi : i < 5) (d : decode cc pc = .ok (.arraylength, 1)) (kk : Gd F Z w h (pc + 1) lv (.int (I (txL.getD i 0 : Nat)) :: st)) : Gd F Z w h pc lv (.ref (1020 + i) :: st) := fun H locs ls hw hS hl' =>
  va_tlen O.1 O.2.1 ((okV O).1 i hi).2.2.2 hS (I_nat _).symm d (kk H locs ls hw hS hl')
theorem tx_len {i : Nat} (hi : i < 5) : txL.getD i 0 ≤ 5 := by
  rcases (show i = 0 ∨ i = 1 ∨ i = 2 ∨ i = 3 ∨ i = 4 by omega) with rfl | rfl | rfl | rfl | rfl <;> decide
theorem g_strA (O : Ok F own cc nL rm rt) (d : decode cc pc = .ok (.baload, 1)) (hi : i < 5) {x : Int32} {j : Nat} (e : x = I (j : Int)) (hj : j < txL.getD i 0) (kk : Gd F Z w h (pc + 1) lv (.int ((txB.getD i []).getD j 0) :: st)) : Gd F Z w h pc lv (.int x :: .ref (1020 + i) :: st) := by
  subst e
  intro H locs ls hw hS hl'
  have := tx_len hi
  refine va_tb O.1 O.2.1 ((okV O).1 i hi).2.2.2 hS (I_in hj (by omega)) (v := .int ((txB.getD i []).getD j 0)) (by rw [I_cl (by omega)]) d (kk H locs ls hw hS hl')
theorem g_getsC (O : Ok F "java/lang/String" cc nL rm rt) (d : decode cc pc = .ok (.getstatic 38, 3)) (kk : Gd F Z w h (pc + 3) lv (.int (I 1) :: st)) : Gd F Z w h pc lv st := fun H locs ls hw hS hl' =>
  va_gets O.1 O.2.1 (((okX O).2.2.2.2.1.moved O.2.2.2.2.2.1.alike).kept (okH O)) hS O.2.2.2.1 (okS O fs_38) (fun _ x => x) d (by rw [show (1 : Int32) = I 1 by decide]; exact kk H locs ls hw hS hl')
theorem g_getsF (O : Ok F "java/lang/String" cc nL rm rt) (d : decode cc pc = .ok (.getstatic 1053, 3)) (k0 : Gd F Z w h (pc + 3) lv (.null :: st)) (k1 : Gd F Z w h (pc + 3) lv (.ref 1030 :: st)) : Gd F Z w h pc lv st := by
  intro H locs ls hw hS hl'
  rcases (okX O).2.2.2.2.2 with q | q
  · exact va_gets O.1 O.2.1 ((q.moved O.2.2.2.2.2.1.alike).kept (okH O)) hS O.2.2.2.1 (okS O fs_1053) (fun _ x => x) d (k0 H locs ls hw hS hl')
  · exact va_gets O.1 O.2.1 ((q.moved O.2.2.2.2.2.1.alike).kept (okH O)) hS O.2.2.2.1 (okS O fs_1053) (fun _ x => x) d (k1 H locs ls hw hS hl')
end GX
end
