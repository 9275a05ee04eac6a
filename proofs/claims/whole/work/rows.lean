section
-- ===== PART A: goes FIRST, ahead of the names: the tables' words, and 'selects' of the private methods out of them =====
/-- a private method of a class that the tables say can be made, by its rows of tables_1 -/
def lw_okq (q : MethodName × Nat) : Prop := (q.1.cls ≠ "java/lang/invoke/MethodHandle" ∧ q.1.cls ≠ "java/lang/invoke/VarHandle") ∧ Cond.instantiable q.1.cls q.2 ∈ tables_1 ∧ Cond.privateMethod q.1 ∈ tables_1 ∧ Cond.instanceMethod q.1 ∈ tables_1
theorem lw_p0 : lw_okq (⟨"PostScripts", "refuse", "(I)I"⟩, 13) := ⟨⟨by decide +kernel, by decide +kernel⟩, List.mem_of_getElem? (i := 25) (by decide +kernel), List.mem_of_getElem? (i := 420) (by decide +kernel), List.mem_of_getElem? (i := 421) (by decide +kernel)⟩
theorem lw_p1 : lw_okq (⟨"PostScripts$Tape", "isSmall", "(I)Z"⟩, 7) := ⟨⟨by decide +kernel, by decide +kernel⟩, List.mem_of_getElem? (i := 39) (by decide +kernel), List.mem_of_getElem? (i := 444) (by decide +kernel), List.mem_of_getElem? (i := 445) (by decide +kernel)⟩
theorem lw_p2 : lw_okq (⟨"PostScripts$Tape", "readWord", "()V"⟩, 7) := ⟨⟨by decide +kernel, by decide +kernel⟩, List.mem_of_getElem? (i := 39) (by decide +kernel), List.mem_of_getElem? (i := 448) (by decide +kernel), List.mem_of_getElem? (i := 449) (by decide +kernel)⟩
theorem lw_p3 : lw_okq (⟨"PostScripts$Tape", "isDigit", "(I)Z"⟩, 7) := ⟨⟨by decide +kernel, by decide +kernel⟩, List.mem_of_getElem? (i := 39) (by decide +kernel), List.mem_of_getElem? (i := 452) (by decide +kernel), List.mem_of_getElem? (i := 453) (by decide +kernel)⟩
theorem lw_p4 : lw_okq (⟨"PostScripts$Tape", "readWhole", "()V"⟩, 7) := ⟨⟨by decide +kernel, by decide +kernel⟩, List.mem_of_getElem? (i := 39) (by decide +kernel), List.mem_of_getElem? (i := 456) (by decide +kernel), List.mem_of_getElem? (i := 457) (by decide +kernel)⟩
theorem lw_p5 : lw_okq (⟨"PostScripts$Reade\x72", "readHead", "()Z"⟩, 5) := ⟨⟨by decide +kernel, by decide +kernel⟩, List.mem_of_getElem? (i := 33) (by decide +kernel), List.mem_of_getElem? (i := 460) (by decide +kernel), List.mem_of_getElem? (i := 461) (by decide +kernel)⟩
theorem lw_p6 : lw_okq (⟨"PostScripts$Reade\x72", "lineWord", "()I"⟩, 5) := ⟨⟨by decide +kernel, by decide +kernel⟩, List.mem_of_getElem? (i := 33) (by decide +kernel), List.mem_of_getElem? (i := 464) (by decide +kernel), List.mem_of_getElem? (i := 465) (by decide +kernel)⟩
theorem lw_p7 : lw_okq (⟨"PostScripts$Reade\x72", "blame", "(I)Z"⟩, 5) := ⟨⟨by decide +kernel, by decide +kernel⟩, List.mem_of_getElem? (i := 33) (by decide +kernel), List.mem_of_getElem? (i := 529) (by decide +kernel), List.mem_of_getElem? (i := 530) (by decide +kernel)⟩
theorem lw_p8 : lw_okq (⟨"PostScripts$Reade\x72", "blameAt", "(II)Z"⟩, 5) := ⟨⟨by decide +kernel, by decide +kernel⟩, List.mem_of_getElem? (i := 33) (by decide +kernel), List.mem_of_getElem? (i := 533) (by decide +kernel), List.mem_of_getElem? (i := 534) (by decide +kernel)⟩
theorem lw_p9 : lw_okq (⟨"PostScripts$Reade\x72", "passWord", "(Ljava/lang/String;)Z"⟩, 5) := ⟨⟨by decide +kernel, by decide +kernel⟩, List.mem_of_getElem? (i := 33) (by decide +kernel), List.mem_of_getElem? (i := 539) (by decide +kernel), List.mem_of_getElem? (i := 540) (by decide +kernel)⟩
theorem lw_p10 : lw_okq (⟨"PostScripts$Reade\x72", "isWhole", "(II)Z"⟩, 5) := ⟨⟨by decide +kernel, by decide +kernel⟩, List.mem_of_getElem? (i := 33) (by decide +kernel), List.mem_of_getElem? (i := 543) (by decide +kernel), List.mem_of_getElem? (i := 544) (by decide +kernel)⟩
theorem lw_p11 : lw_okq (⟨"PostScripts$Reade\x72", "passNumbe\x72", "()I"⟩, 5) := ⟨⟨by decide +kernel, by decide +kernel⟩, List.mem_of_getElem? (i := 33) (by decide +kernel), List.mem_of_getElem? (i := 547) (by decide +kernel), List.mem_of_getElem? (i := 548) (by decide +kernel)⟩
theorem lw_p12 : lw_okq (⟨"PostScripts$Reade\x72", "readLine", "()Z"⟩, 5) := ⟨⟨by decide +kernel, by decide +kernel⟩, List.mem_of_getElem? (i := 33) (by decide +kernel), List.mem_of_getElem? (i := 551) (by decide +kernel), List.mem_of_getElem? (i := 552) (by decide +kernel)⟩
theorem lw_p13 : lw_okq (⟨"PostScripts$Reade\x72", "readPlace", "()Z"⟩, 5) := ⟨⟨by decide +kernel, by decide +kernel⟩, List.mem_of_getElem? (i := 33) (by decide +kernel), List.mem_of_getElem? (i := 555) (by decide +kernel), List.mem_of_getElem? (i := 556) (by decide +kernel)⟩
theorem lw_p14 : lw_okq (⟨"PostScripts$Reade\x72", "passNewName", "(II)Z"⟩, 5) := ⟨⟨by decide +kernel, by decide +kernel⟩, List.mem_of_getElem? (i := 33) (by decide +kernel), List.mem_of_getElem? (i := 559) (by decide +kernel), List.mem_of_getElem? (i := 560) (by decide +kernel)⟩
theorem lw_p15 : lw_okq (⟨"PostScripts$Reade\x72", "readOve\x72", "()Z"⟩, 5) := ⟨⟨by decide +kernel, by decide +kernel⟩, List.mem_of_getElem? (i := 33) (by decide +kernel), List.mem_of_getElem? (i := 581) (by decide +kernel), List.mem_of_getElem? (i := 582) (by decide +kernel)⟩
def lw_privs_1 : List (MethodName × Nat) := [(⟨"PostScripts", "refuse", "(I)I"⟩, 13), (⟨"PostScripts$Tape", "isSmall", "(I)Z"⟩, 7), (⟨"PostScripts$Tape", "readWord", "()V"⟩, 7), (⟨"PostScripts$Tape", "isDigit", "(I)Z"⟩, 7), (⟨"PostScripts$Tape", "readWhole", "()V"⟩, 7), (⟨"PostScripts$Reade\x72", "readHead", "()Z"⟩, 5), (⟨"PostScripts$Reade\x72", "lineWord", "()I"⟩, 5), (⟨"PostScripts$Reade\x72", "blame", "(I)Z"⟩, 5), (⟨"PostScripts$Reade\x72", "blameAt", "(II)Z"⟩, 5), (⟨"PostScripts$Reade\x72", "passWord", "(Ljava/lang/String;)Z"⟩, 5), (⟨"PostScripts$Reade\x72", "isWhole", "(II)Z"⟩, 5), (⟨"PostScripts$Reade\x72", "passNumbe\x72", "()I"⟩, 5), (⟨"PostScripts$Reade\x72", "readLine", "()Z"⟩, 5), (⟨"PostScripts$Reade\x72", "readPlace", "()Z"⟩, 5), (⟨"PostScripts$Reade\x72", "passNewName", "(II)Z"⟩, 5), (⟨"PostScripts$Reade\x72", "readOve\x72", "()Z"⟩, 5)]
theorem lw_r1 : ∀ q ∈ lw_privs_1, lw_okq q := List.forall_mem_cons.mpr ⟨lw_p0, List.forall_mem_cons.mpr ⟨lw_p1, List.forall_mem_cons.mpr ⟨lw_p2, List.forall_mem_cons.mpr ⟨lw_p3, List.forall_mem_cons.mpr ⟨lw_p4, List.forall_mem_cons.mpr ⟨lw_p5, List.forall_mem_cons.mpr ⟨lw_p6, List.forall_mem_cons.mpr ⟨lw_p7, List.forall_mem_cons.mpr ⟨lw_p8, List.forall_mem_cons.mpr ⟨lw_p9, List.forall_mem_cons.mpr ⟨lw_p10, List.forall_mem_cons.mpr ⟨lw_p11, List.forall_mem_cons.mpr ⟨lw_p12, List.forall_mem_cons.mpr ⟨lw_p13, List.forall_mem_cons.mpr ⟨lw_p14, List.forall_mem_cons.mpr ⟨lw_p15, fun _ h => absurd h List.not_mem_nil⟩⟩⟩⟩⟩⟩⟩⟩⟩⟩⟩⟩⟩⟩⟩⟩
theorem lw_p16 : lw_okq (⟨"PostScripts$Reade\x72", "passName", "(I)I"⟩, 5) := ⟨⟨by decide +kernel, by decide +kernel⟩, List.mem_of_getElem? (i := 33) (by decide +kernel), List.mem_of_getElem? (i := 585) (by decide +kernel), List.mem_of_getElem? (i := 586) (by decide +kernel)⟩
theorem lw_p17 : lw_okq (⟨"PostScripts$Reade\x72", "readHand", "()Z"⟩, 5) := ⟨⟨by decide +kernel, by decide +kernel⟩, List.mem_of_getElem? (i := 33) (by decide +kernel), List.mem_of_getElem? (i := 593) (by decide +kernel), List.mem_of_getElem? (i := 594) (by decide +kernel)⟩
theorem lw_p18 : lw_okq (⟨"PostScripts$Reade\x72", "readMatte\x72", "()Z"⟩, 5) := ⟨⟨by decide +kernel, by decide +kernel⟩, List.mem_of_getElem? (i := 33) (by decide +kernel), List.mem_of_getElem? (i := 598) (by decide +kernel), List.mem_of_getElem? (i := 599) (by decide +kernel)⟩
theorem lw_p19 : lw_okq (⟨"PostScripts$Reade\x72", "readWrote", "()Z"⟩, 5) := ⟨⟨by decide +kernel, by decide +kernel⟩, List.mem_of_getElem? (i := 33) (by decide +kernel), List.mem_of_getElem? (i := 602) (by decide +kernel), List.mem_of_getElem? (i := 603) (by decide +kernel)⟩
theorem lw_p20 : lw_okq (⟨"PostScripts$Reade\x72", "sayAtHand", "()I"⟩, 5) := ⟨⟨by decide +kernel, by decide +kernel⟩, List.mem_of_getElem? (i := 33) (by decide +kernel), List.mem_of_getElem? (i := 606) (by decide +kernel), List.mem_of_getElem? (i := 607) (by decide +kernel)⟩
theorem lw_p21 : lw_okq (⟨"PostScripts$Reade\x72", "readHidden", "()Z"⟩, 5) := ⟨⟨by decide +kernel, by decide +kernel⟩, List.mem_of_getElem? (i := 33) (by decide +kernel), List.mem_of_getElem? (i := 621) (by decide +kernel), List.mem_of_getElem? (i := 622) (by decide +kernel)⟩
theorem lw_p22 : lw_okq (⟨"PostScripts$Reade\x72", "readDone", "()Z"⟩, 5) := ⟨⟨by decide +kernel, by decide +kernel⟩, List.mem_of_getElem? (i := 33) (by decide +kernel), List.mem_of_getElem? (i := 625) (by decide +kernel), List.mem_of_getElem? (i := 626) (by decide +kernel)⟩
theorem lw_p23 : lw_okq (⟨"PostScripts$Reade\x72", "readBid", "()Z"⟩, 5) := ⟨⟨by decide +kernel, by decide +kernel⟩, List.mem_of_getElem? (i := 33) (by decide +kernel), List.mem_of_getElem? (i := 630) (by decide +kernel), List.mem_of_getElem? (i := 631) (by decide +kernel)⟩
theorem lw_p24 : lw_okq (⟨"PostScripts", "grant", "(I)I"⟩, 13) := ⟨⟨by decide +kernel, by decide +kernel⟩, List.mem_of_getElem? (i := 25) (by decide +kernel), List.mem_of_getElem? (i := 647) (by decide +kernel), List.mem_of_getElem? (i := 648) (by decide +kernel)⟩
theorem lw_p25 : lw_okq (⟨"PostScripts", "isPlace", "(I)Z"⟩, 13) := ⟨⟨by decide +kernel, by decide +kernel⟩, List.mem_of_getElem? (i := 25) (by decide +kernel), List.mem_of_getElem? (i := 663) (by decide +kernel), List.mem_of_getElem? (i := 664) (by decide +kernel)⟩
theorem lw_p26 : lw_okq (⟨"PostScripts", "roomAt", "(I)I"⟩, 13) := ⟨⟨by decide +kernel, by decide +kernel⟩, List.mem_of_getElem? (i := 25) (by decide +kernel), List.mem_of_getElem? (i := 667) (by decide +kernel), List.mem_of_getElem? (i := 668) (by decide +kernel)⟩
theorem lw_p27 : lw_okq (⟨"PostScripts", "isHand", "(I)Z"⟩, 13) := ⟨⟨by decide +kernel, by decide +kernel⟩, List.mem_of_getElem? (i := 25) (by decide +kernel), List.mem_of_getElem? (i := 680) (by decide +kernel), List.mem_of_getElem? (i := 681) (by decide +kernel)⟩
theorem lw_p28 : lw_okq (⟨"PostScripts", "ruledBy", "(I)I"⟩, 13) := ⟨⟨by decide +kernel, by decide +kernel⟩, List.mem_of_getElem? (i := 25) (by decide +kernel), List.mem_of_getElem? (i := 688) (by decide +kernel), List.mem_of_getElem? (i := 689) (by decide +kernel)⟩
theorem lw_p29 : lw_okq (⟨"PostScripts", "standing", "(II)I"⟩, 13) := ⟨⟨by decide +kernel, by decide +kernel⟩, List.mem_of_getElem? (i := 25) (by decide +kernel), List.mem_of_getElem? (i := 696) (by decide +kernel), List.mem_of_getElem? (i := 697) (by decide +kernel)⟩
theorem lw_p30 : lw_okq (⟨"PostScripts", "isLine", "(I)Z"⟩, 13) := ⟨⟨by decide +kernel, by decide +kernel⟩, List.mem_of_getElem? (i := 25) (by decide +kernel), List.mem_of_getElem? (i := 716) (by decide +kernel), List.mem_of_getElem? (i := 717) (by decide +kernel)⟩
theorem lw_p31 : lw_okq (⟨"PostScripts", "beaters", "(I)I"⟩, 13) := ⟨⟨by decide +kernel, by decide +kernel⟩, List.mem_of_getElem? (i := 25) (by decide +kernel), List.mem_of_getElem? (i := 720) (by decide +kernel), List.mem_of_getElem? (i := 721) (by decide +kernel)⟩
def lw_privs_2 : List (MethodName × Nat) := [(⟨"PostScripts$Reade\x72", "passName", "(I)I"⟩, 5), (⟨"PostScripts$Reade\x72", "readHand", "()Z"⟩, 5), (⟨"PostScripts$Reade\x72", "readMatte\x72", "()Z"⟩, 5), (⟨"PostScripts$Reade\x72", "readWrote", "()Z"⟩, 5), (⟨"PostScripts$Reade\x72", "sayAtHand", "()I"⟩, 5), (⟨"PostScripts$Reade\x72", "readHidden", "()Z"⟩, 5), (⟨"PostScripts$Reade\x72", "readDone", "()Z"⟩, 5), (⟨"PostScripts$Reade\x72", "readBid", "()Z"⟩, 5), (⟨"PostScripts", "grant", "(I)I"⟩, 13), (⟨"PostScripts", "isPlace", "(I)Z"⟩, 13), (⟨"PostScripts", "roomAt", "(I)I"⟩, 13), (⟨"PostScripts", "isHand", "(I)Z"⟩, 13), (⟨"PostScripts", "ruledBy", "(I)I"⟩, 13), (⟨"PostScripts", "standing", "(II)I"⟩, 13), (⟨"PostScripts", "isLine", "(I)Z"⟩, 13), (⟨"PostScripts", "beaters", "(I)I"⟩, 13)]
theorem lw_r2 : ∀ q ∈ lw_privs_2, lw_okq q := List.forall_mem_cons.mpr ⟨lw_p16, List.forall_mem_cons.mpr ⟨lw_p17, List.forall_mem_cons.mpr ⟨lw_p18, List.forall_mem_cons.mpr ⟨lw_p19, List.forall_mem_cons.mpr ⟨lw_p20, List.forall_mem_cons.mpr ⟨lw_p21, List.forall_mem_cons.mpr ⟨lw_p22, List.forall_mem_cons.mpr ⟨lw_p23, List.forall_mem_cons.mpr ⟨lw_p24, List.forall_mem_cons.mpr ⟨lw_p25, List.forall_mem_cons.mpr ⟨lw_p26, List.forall_mem_cons.mpr ⟨lw_p27, List.forall_mem_cons.mpr ⟨lw_p28, List.forall_mem_cons.mpr ⟨lw_p29, List.forall_mem_cons.mpr ⟨lw_p30, List.forall_mem_cons.mpr ⟨lw_p31, fun _ h => absurd h List.not_mem_nil⟩⟩⟩⟩⟩⟩⟩⟩⟩⟩⟩⟩⟩⟩⟩⟩
theorem lw_p32 : lw_okq (⟨"PostScripts", "isMatte\x72", "(I)Z"⟩, 13) := ⟨⟨by decide +kernel, by decide +kernel⟩, List.mem_of_getElem? (i := 25) (by decide +kernel), List.mem_of_getElem? (i := 728) (by decide +kernel), List.mem_of_getElem? (i := 729) (by decide +kernel)⟩
theorem lw_p33 : lw_okq (⟨"PostScripts", "verdict", "(II)I"⟩, 13) := ⟨⟨by decide +kernel, by decide +kernel⟩, List.mem_of_getElem? (i := 25) (by decide +kernel), List.mem_of_getElem? (i := 732) (by decide +kernel), List.mem_of_getElem? (i := 733) (by decide +kernel)⟩
theorem lw_p34 : lw_okq (⟨"PostScripts", "noLette\x72", "()Z"⟩, 13) := ⟨⟨by decide +kernel, by decide +kernel⟩, List.mem_of_getElem? (i := 25) (by decide +kernel), List.mem_of_getElem? (i := 753) (by decide +kernel), List.mem_of_getElem? (i := 754) (by decide +kernel)⟩
theorem lw_p35 : lw_okq (⟨"PostScripts", "turnedWithout", "(I)I"⟩, 13) := ⟨⟨by decide +kernel, by decide +kernel⟩, List.mem_of_getElem? (i := 25) (by decide +kernel), List.mem_of_getElem? (i := 771) (by decide +kernel), List.mem_of_getElem? (i := 772) (by decide +kernel)⟩
theorem lw_p36 : lw_okq (⟨"PostScripts", "verdictOfFirst", "(II)I"⟩, 13) := ⟨⟨by decide +kernel, by decide +kernel⟩, List.mem_of_getElem? (i := 25) (by decide +kernel), List.mem_of_getElem? (i := 779) (by decide +kernel), List.mem_of_getElem? (i := 780) (by decide +kernel)⟩
theorem lw_p37 : lw_okq (⟨"PostScripts", "leastTurn", "(I)I"⟩, 13) := ⟨⟨by decide +kernel, by decide +kernel⟩, List.mem_of_getElem? (i := 25) (by decide +kernel), List.mem_of_getElem? (i := 799) (by decide +kernel), List.mem_of_getElem? (i := 800) (by decide +kernel)⟩
theorem lw_p38 : lw_okq (⟨"PostScripts", "openPlaces", "()I"⟩, 13) := ⟨⟨by decide +kernel, by decide +kernel⟩, List.mem_of_getElem? (i := 25) (by decide +kernel), List.mem_of_getElem? (i := 815) (by decide +kernel), List.mem_of_getElem? (i := 816) (by decide +kernel)⟩
theorem lw_p39 : lw_okq (⟨"PostScripts", "setDuelRooms", "()V"⟩, 13) := ⟨⟨by decide +kernel, by decide +kernel⟩, List.mem_of_getElem? (i := 25) (by decide +kernel), List.mem_of_getElem? (i := 827) (by decide +kernel), List.mem_of_getElem? (i := 828) (by decide +kernel)⟩
theorem lw_p40 : lw_okq (⟨"PostScripts$Duel", "wonByOne", "(LPostScripts$Order;IIIZ)Z"⟩, 1) := ⟨⟨by decide +kernel, by decide +kernel⟩, List.mem_of_getElem? (i := 355) (by decide +kernel), List.mem_of_getElem? (i := 831) (by decide +kernel), List.mem_of_getElem? (i := 832) (by decide +kernel)⟩
theorem lw_p41 : lw_okq (⟨"PostScripts$Duel", "wonBehind", "(LPostScripts$Order;IIIZI)Z"⟩, 1) := ⟨⟨by decide +kernel, by decide +kernel⟩, List.mem_of_getElem? (i := 355) (by decide +kernel), List.mem_of_getElem? (i := 837) (by decide +kernel), List.mem_of_getElem? (i := 838) (by decide +kernel)⟩
theorem lw_p42 : lw_okq (⟨"PostScripts", "bestBids", "(I)I"⟩, 13) := ⟨⟨by decide +kernel, by decide +kernel⟩, List.mem_of_getElem? (i := 25) (by decide +kernel), List.mem_of_getElem? (i := 887) (by decide +kernel), List.mem_of_getElem? (i := 888) (by decide +kernel)⟩
theorem lw_p43 : lw_okq (⟨"PostScripts", "canTake", "(I)Z"⟩, 13) := ⟨⟨by decide +kernel, by decide +kernel⟩, List.mem_of_getElem? (i := 25) (by decide +kernel), List.mem_of_getElem? (i := 895) (by decide +kernel), List.mem_of_getElem? (i := 896) (by decide +kernel)⟩
theorem lw_p44 : lw_okq (⟨"PostScripts$Fillings", "stepOf", "(I)I"⟩, 10) := ⟨⟨by decide +kernel, by decide +kernel⟩, List.mem_of_getElem? (i := 315) (by decide +kernel), List.mem_of_getElem? (i := 929) (by decide +kernel), List.mem_of_getElem? (i := 930) (by decide +kernel)⟩
theorem lw_p45 : lw_okq (⟨"PostScripts$Fillings", "fill", "(LPostScripts$Letter;I)V"⟩, 10) := ⟨⟨by decide +kernel, by decide +kernel⟩, List.mem_of_getElem? (i := 315) (by decide +kernel), List.mem_of_getElem? (i := 933) (by decide +kernel), List.mem_of_getElem? (i := 934) (by decide +kernel)⟩
theorem lw_p46 : lw_okq (⟨"PostScripts$Fillings", "digit", "(II)I"⟩, 10) := ⟨⟨by decide +kernel, by decide +kernel⟩, List.mem_of_getElem? (i := 315) (by decide +kernel), List.mem_of_getElem? (i := 937) (by decide +kernel), List.mem_of_getElem? (i := 938) (by decide +kernel)⟩
theorem lw_p47 : lw_okq (⟨"PostScripts$Fillings", "isAsTold", "(LPostScripts$Letter;LPostScripts$Order;)Z"⟩, 10) := ⟨⟨by decide +kernel, by decide +kernel⟩, List.mem_of_getElem? (i := 315) (by decide +kernel), List.mem_of_getElem? (i := 941) (by decide +kernel), List.mem_of_getElem? (i := 942) (by decide +kernel)⟩
def lw_privs_3 : List (MethodName × Nat) := [(⟨"PostScripts", "isMatte\x72", "(I)Z"⟩, 13), (⟨"PostScripts", "verdict", "(II)I"⟩, 13), (⟨"PostScripts", "noLette\x72", "()Z"⟩, 13), (⟨"PostScripts", "turnedWithout", "(I)I"⟩, 13), (⟨"PostScripts", "verdictOfFirst", "(II)I"⟩, 13), (⟨"PostScripts", "leastTurn", "(I)I"⟩, 13), (⟨"PostScripts", "openPlaces", "()I"⟩, 13), (⟨"PostScripts", "setDuelRooms", "()V"⟩, 13), (⟨"PostScripts$Duel", "wonByOne", "(LPostScripts$Order;IIIZ)Z"⟩, 1), (⟨"PostScripts$Duel", "wonBehind", "(LPostScripts$Order;IIIZI)Z"⟩, 1), (⟨"PostScripts", "bestBids", "(I)I"⟩, 13), (⟨"PostScripts", "canTake", "(I)Z"⟩, 13), (⟨"PostScripts$Fillings", "stepOf", "(I)I"⟩, 10), (⟨"PostScripts$Fillings", "fill", "(LPostScripts$Letter;I)V"⟩, 10), (⟨"PostScripts$Fillings", "digit", "(II)I"⟩, 10), (⟨"PostScripts$Fillings", "isAsTold", "(LPostScripts$Letter;LPostScripts$Order;)Z"⟩, 10)]
theorem lw_r3 : ∀ q ∈ lw_privs_3, lw_okq q := List.forall_mem_cons.mpr ⟨lw_p32, List.forall_mem_cons.mpr ⟨lw_p33, List.forall_mem_cons.mpr ⟨lw_p34, List.forall_mem_cons.mpr ⟨lw_p35, List.forall_mem_cons.mpr ⟨lw_p36, List.forall_mem_cons.mpr ⟨lw_p37, List.forall_mem_cons.mpr ⟨lw_p38, List.forall_mem_cons.mpr ⟨lw_p39, List.forall_mem_cons.mpr ⟨lw_p40, List.forall_mem_cons.mpr ⟨lw_p41, List.forall_mem_cons.mpr ⟨lw_p42, List.forall_mem_cons.mpr ⟨lw_p43, List.forall_mem_cons.mpr ⟨lw_p44, List.forall_mem_cons.mpr ⟨lw_p45, List.forall_mem_cons.mpr ⟨lw_p46, List.forall_mem_cons.mpr ⟨lw_p47, fun _ h => absurd h List.not_mem_nil⟩⟩⟩⟩⟩⟩⟩⟩⟩⟩⟩⟩⟩⟩⟩⟩
theorem lw_p48 : lw_okq (⟨"PostScripts$Fillings", "keep", "(I)V"⟩, 10) := ⟨⟨by decide +kernel, by decide +kernel⟩, List.mem_of_getElem? (i := 315) (by decide +kernel), List.mem_of_getElem? (i := 946) (by decide +kernel), List.mem_of_getElem? (i := 947) (by decide +kernel)⟩
theorem lw_p49 : lw_okq (⟨"PostScripts", "isHidden", "(I)Z"⟩, 13) := ⟨⟨by decide +kernel, by decide +kernel⟩, List.mem_of_getElem? (i := 25) (by decide +kernel), List.mem_of_getElem? (i := 954) (by decide +kernel), List.mem_of_getElem? (i := 955) (by decide +kernel)⟩
theorem lw_p50 : lw_okq (⟨"PostScripts", "chance", "(II)J"⟩, 13) := ⟨⟨by decide +kernel, by decide +kernel⟩, List.mem_of_getElem? (i := 25) (by decide +kernel), List.mem_of_getElem? (i := 1015) (by decide +kernel), List.mem_of_getElem? (i := 1016) (by decide +kernel)⟩
theorem lw_p51 : lw_okq (⟨"PostScripts", "countRead", "(I)I"⟩, 13) := ⟨⟨by decide +kernel, by decide +kernel⟩, List.mem_of_getElem? (i := 25) (by decide +kernel), List.mem_of_getElem? (i := 1023) (by decide +kernel), List.mem_of_getElem? (i := 1024) (by decide +kernel)⟩
theorem lw_p52 : lw_okq (⟨"PostScripts", "smudge", "(II)I"⟩, 13) := ⟨⟨by decide +kernel, by decide +kernel⟩, List.mem_of_getElem? (i := 25) (by decide +kernel), List.mem_of_getElem? (i := 1047) (by decide +kernel), List.mem_of_getElem? (i := 1048) (by decide +kernel)⟩
theorem lw_p53 : lw_okq (⟨"java/lang/Throwable", "fillInStackTrace", "(I)Ljava/lang/Throwable;"⟩, 6) := ⟨⟨by decide +kernel, by decide +kernel⟩, List.mem_of_getElem? (i := 1136) (by decide +kernel), List.mem_of_getElem? (i := 1134) (by decide +kernel), List.mem_of_getElem? (i := 1135) (by decide +kernel)⟩
theorem lw_p54 : lw_okq (⟨"PostScriptsModel", "good", "()V"⟩, 40) := ⟨⟨by decide +kernel, by decide +kernel⟩, List.mem_of_getElem? (i := 1161) (by decide +kernel), List.mem_of_getElem? (i := 1300) (by decide +kernel), List.mem_of_getElem? (i := 1301) (by decide +kernel)⟩
theorem lw_p55 : lw_okq (⟨"PostScriptsModel", "no", "(I)I"⟩, 40) := ⟨⟨by decide +kernel, by decide +kernel⟩, List.mem_of_getElem? (i := 1161) (by decide +kernel), List.mem_of_getElem? (i := 1307) (by decide +kernel), List.mem_of_getElem? (i := 1308) (by decide +kernel)⟩
theorem lw_p56 : lw_okq (⟨"PostScriptsModel", "next", "()V"⟩, 40) := ⟨⟨by decide +kernel, by decide +kernel⟩, List.mem_of_getElem? (i := 1161) (by decide +kernel), List.mem_of_getElem? (i := 1311) (by decide +kernel), List.mem_of_getElem? (i := 1312) (by decide +kernel)⟩
theorem lw_p57 : lw_okq (⟨"PostScriptsModel", "see", "(I)I"⟩, 40) := ⟨⟨by decide +kernel, by decide +kernel⟩, List.mem_of_getElem? (i := 1161) (by decide +kernel), List.mem_of_getElem? (i := 1315) (by decide +kernel), List.mem_of_getElem? (i := 1316) (by decide +kernel)⟩
theorem lw_p58 : lw_okq (⟨"PostScriptsModel", "readLine", "()V"⟩, 40) := ⟨⟨by decide +kernel, by decide +kernel⟩, List.mem_of_getElem? (i := 1161) (by decide +kernel), List.mem_of_getElem? (i := 1325) (by decide +kernel), List.mem_of_getElem? (i := 1326) (by decide +kernel)⟩
theorem lw_p59 : lw_okq (⟨"PostScriptsModel", "isWord", "(Ljava/lang/String;)Z"⟩, 40) := ⟨⟨by decide +kernel, by decide +kernel⟩, List.mem_of_getElem? (i := 1161) (by decide +kernel), List.mem_of_getElem? (i := 1330) (by decide +kernel), List.mem_of_getElem? (i := 1331) (by decide +kernel)⟩
theorem lw_p60 : lw_okq (⟨"PostScriptsModel", "letterLine", "()V"⟩, 40) := ⟨⟨by decide +kernel, by decide +kernel⟩, List.mem_of_getElem? (i := 1161) (by decide +kernel), List.mem_of_getElem? (i := 1336) (by decide +kernel), List.mem_of_getElem? (i := 1337) (by decide +kernel)⟩
theorem lw_p61 : lw_okq (⟨"PostScriptsModel", "wrong", "(II)V"⟩, 40) := ⟨⟨by decide +kernel, by decide +kernel⟩, List.mem_of_getElem? (i := 1161) (by decide +kernel), List.mem_of_getElem? (i := 1340) (by decide +kernel), List.mem_of_getElem? (i := 1341) (by decide +kernel)⟩
theorem lw_p62 : lw_okq (⟨"PostScriptsModel", "afte\x72", "(Ljava/lang/String;II)I"⟩, 40) := ⟨⟨by decide +kernel, by decide +kernel⟩, List.mem_of_getElem? (i := 1161) (by decide +kernel), List.mem_of_getElem? (i := 1345) (by decide +kernel), List.mem_of_getElem? (i := 1346) (by decide +kernel)⟩
theorem lw_p63 : lw_okq (⟨"PostScriptsModel", "must", "(Ljava/lang/String;)V"⟩, 40) := ⟨⟨by decide +kernel, by decide +kernel⟩, List.mem_of_getElem? (i := 1161) (by decide +kernel), List.mem_of_getElem? (i := 1349) (by decide +kernel), List.mem_of_getElem? (i := 1350) (by decide +kernel)⟩
def lw_privs_4 : List (MethodName × Nat) := [(⟨"PostScripts$Fillings", "keep", "(I)V"⟩, 10), (⟨"PostScripts", "isHidden", "(I)Z"⟩, 13), (⟨"PostScripts", "chance", "(II)J"⟩, 13), (⟨"PostScripts", "countRead", "(I)I"⟩, 13), (⟨"PostScripts", "smudge", "(II)I"⟩, 13), (⟨"java/lang/Throwable", "fillInStackTrace", "(I)Ljava/lang/Throwable;"⟩, 6), (⟨"PostScriptsModel", "good", "()V"⟩, 40), (⟨"PostScriptsModel", "no", "(I)I"⟩, 40), (⟨"PostScriptsModel", "next", "()V"⟩, 40), (⟨"PostScriptsModel", "see", "(I)I"⟩, 40), (⟨"PostScriptsModel", "readLine", "()V"⟩, 40), (⟨"PostScriptsModel", "isWord", "(Ljava/lang/String;)Z"⟩, 40), (⟨"PostScriptsModel", "letterLine", "()V"⟩, 40), (⟨"PostScriptsModel", "wrong", "(II)V"⟩, 40), (⟨"PostScriptsModel", "afte\x72", "(Ljava/lang/String;II)I"⟩, 40), (⟨"PostScriptsModel", "must", "(Ljava/lang/String;)V"⟩, 40)]
theorem lw_r4 : ∀ q ∈ lw_privs_4, lw_okq q := List.forall_mem_cons.mpr ⟨lw_p48, List.forall_mem_cons.mpr ⟨lw_p49, List.forall_mem_cons.mpr ⟨lw_p50, List.forall_mem_cons.mpr ⟨lw_p51, List.forall_mem_cons.mpr ⟨lw_p52, List.forall_mem_cons.mpr ⟨lw_p53, List.forall_mem_cons.mpr ⟨lw_p54, List.forall_mem_cons.mpr ⟨lw_p55, List.forall_mem_cons.mpr ⟨lw_p56, List.forall_mem_cons.mpr ⟨lw_p57, List.forall_mem_cons.mpr ⟨lw_p58, List.forall_mem_cons.mpr ⟨lw_p59, List.forall_mem_cons.mpr ⟨lw_p60, List.forall_mem_cons.mpr ⟨lw_p61, List.forall_mem_cons.mpr ⟨lw_p62, List.forall_mem_cons.mpr ⟨lw_p63, fun _ h => absurd h List.not_mem_nil⟩⟩⟩⟩⟩⟩⟩⟩⟩⟩⟩⟩⟩⟩⟩⟩
theorem lw_p64 : lw_okq (⟨"PostScriptsModel", "takesWord", "(Ljava/lang/String;)Z"⟩, 40) := ⟨⟨by decide +kernel, by decide +kernel⟩, List.mem_of_getElem? (i := 1161) (by decide +kernel), List.mem_of_getElem? (i := 1353) (by decide +kernel), List.mem_of_getElem? (i := 1354) (by decide +kernel)⟩
theorem lw_p65 : lw_okq (⟨"PostScriptsModel", "numbe\x72", "(II)I"⟩, 40) := ⟨⟨by decide +kernel, by decide +kernel⟩, List.mem_of_getElem? (i := 1161) (by decide +kernel), List.mem_of_getElem? (i := 1357) (by decide +kernel), List.mem_of_getElem? (i := 1358) (by decide +kernel)⟩
theorem lw_p66 : lw_okq (⟨"PostScriptsModel", "numberHere", "(II)I"⟩, 40) := ⟨⟨by decide +kernel, by decide +kernel⟩, List.mem_of_getElem? (i := 1161) (by decide +kernel), List.mem_of_getElem? (i := 1361) (by decide +kernel), List.mem_of_getElem? (i := 1362) (by decide +kernel)⟩
theorem lw_p67 : lw_okq (⟨"PostScriptsModel", "pass", "()V"⟩, 40) := ⟨⟨by decide +kernel, by decide +kernel⟩, List.mem_of_getElem? (i := 1161) (by decide +kernel), List.mem_of_getElem? (i := 1365) (by decide +kernel), List.mem_of_getElem? (i := 1366) (by decide +kernel)⟩
theorem lw_p68 : lw_okq (⟨"PostScriptsModel", "begins", "(Ljava/lang/String;Z)Z"⟩, 40) := ⟨⟨by decide +kernel, by decide +kernel⟩, List.mem_of_getElem? (i := 1161) (by decide +kernel), List.mem_of_getElem? (i := 1370) (by decide +kernel), List.mem_of_getElem? (i := 1371) (by decide +kernel)⟩
theorem lw_p69 : lw_okq (⟨"PostScriptsModel", "placeLine", "()V"⟩, 40) := ⟨⟨by decide +kernel, by decide +kernel⟩, List.mem_of_getElem? (i := 1161) (by decide +kernel), List.mem_of_getElem? (i := 1374) (by decide +kernel), List.mem_of_getElem? (i := 1375) (by decide +kernel)⟩
theorem lw_p70 : lw_okq (⟨"PostScriptsModel", "newName", "(I)V"⟩, 40) := ⟨⟨by decide +kernel, by decide +kernel⟩, List.mem_of_getElem? (i := 1161) (by decide +kernel), List.mem_of_getElem? (i := 1378) (by decide +kernel), List.mem_of_getElem? (i := 1379) (by decide +kernel)⟩
theorem lw_p71 : lw_okq (⟨"PostScriptsModel", "mustName", "()V"⟩, 40) := ⟨⟨by decide +kernel, by decide +kernel⟩, List.mem_of_getElem? (i := 1161) (by decide +kernel), List.mem_of_getElem? (i := 1382) (by decide +kernel), List.mem_of_getElem? (i := 1383) (by decide +kernel)⟩
theorem lw_p72 : lw_okq (⟨"PostScriptsModel", "find", "()I"⟩, 40) := ⟨⟨by decide +kernel, by decide +kernel⟩, List.mem_of_getElem? (i := 1161) (by decide +kernel), List.mem_of_getElem? (i := 1393) (by decide +kernel), List.mem_of_getElem? (i := 1394) (by decide +kernel)⟩
theorem lw_p73 : lw_okq (⟨"PostScriptsModel", "overLine", "()V"⟩, 40) := ⟨⟨by decide +kernel, by decide +kernel⟩, List.mem_of_getElem? (i := 1161) (by decide +kernel), List.mem_of_getElem? (i := 1399) (by decide +kernel), List.mem_of_getElem? (i := 1400) (by decide +kernel)⟩
theorem lw_p74 : lw_okq (⟨"PostScriptsModel", "placePassed", "()I"⟩, 40) := ⟨⟨by decide +kernel, by decide +kernel⟩, List.mem_of_getElem? (i := 1161) (by decide +kernel), List.mem_of_getElem? (i := 1403) (by decide +kernel), List.mem_of_getElem? (i := 1404) (by decide +kernel)⟩
theorem lw_p75 : lw_okq (⟨"PostScriptsModel", "named", "(II)I"⟩, 40) := ⟨⟨by decide +kernel, by decide +kernel⟩, List.mem_of_getElem? (i := 1161) (by decide +kernel), List.mem_of_getElem? (i := 1407) (by decide +kernel), List.mem_of_getElem? (i := 1408) (by decide +kernel)⟩
theorem lw_p76 : lw_okq (⟨"PostScriptsModel", "handLine", "()V"⟩, 40) := ⟨⟨by decide +kernel, by decide +kernel⟩, List.mem_of_getElem? (i := 1161) (by decide +kernel), List.mem_of_getElem? (i := 1411) (by decide +kernel), List.mem_of_getElem? (i := 1412) (by decide +kernel)⟩
theorem lw_p77 : lw_okq (⟨"PostScriptsModel", "matterLine", "()V"⟩, 40) := ⟨⟨by decide +kernel, by decide +kernel⟩, List.mem_of_getElem? (i := 1161) (by decide +kernel), List.mem_of_getElem? (i := 1416) (by decide +kernel), List.mem_of_getElem? (i := 1417) (by decide +kernel)⟩
theorem lw_p78 : lw_okq (⟨"PostScriptsModel", "wroteLine", "()V"⟩, 40) := ⟨⟨by decide +kernel, by decide +kernel⟩, List.mem_of_getElem? (i := 1161) (by decide +kernel), List.mem_of_getElem? (i := 1420) (by decide +kernel), List.mem_of_getElem? (i := 1421) (by decide +kernel)⟩
theorem lw_p79 : lw_okq (⟨"PostScriptsModel", "handPassed", "()I"⟩, 40) := ⟨⟨by decide +kernel, by decide +kernel⟩, List.mem_of_getElem? (i := 1161) (by decide +kernel), List.mem_of_getElem? (i := 1424) (by decide +kernel), List.mem_of_getElem? (i := 1425) (by decide +kernel)⟩
def lw_privs_5 : List (MethodName × Nat) := [(⟨"PostScriptsModel", "takesWord", "(Ljava/lang/String;)Z"⟩, 40), (⟨"PostScriptsModel", "numbe\x72", "(II)I"⟩, 40), (⟨"PostScriptsModel", "numberHere", "(II)I"⟩, 40), (⟨"PostScriptsModel", "pass", "()V"⟩, 40), (⟨"PostScriptsModel", "begins", "(Ljava/lang/String;Z)Z"⟩, 40), (⟨"PostScriptsModel", "placeLine", "()V"⟩, 40), (⟨"PostScriptsModel", "newName", "(I)V"⟩, 40), (⟨"PostScriptsModel", "mustName", "()V"⟩, 40), (⟨"PostScriptsModel", "find", "()I"⟩, 40), (⟨"PostScriptsModel", "overLine", "()V"⟩, 40), (⟨"PostScriptsModel", "placePassed", "()I"⟩, 40), (⟨"PostScriptsModel", "named", "(II)I"⟩, 40), (⟨"PostScriptsModel", "handLine", "()V"⟩, 40), (⟨"PostScriptsModel", "matterLine", "()V"⟩, 40), (⟨"PostScriptsModel", "wroteLine", "()V"⟩, 40), (⟨"PostScriptsModel", "handPassed", "()I"⟩, 40)]
theorem lw_r5 : ∀ q ∈ lw_privs_5, lw_okq q := List.forall_mem_cons.mpr ⟨lw_p64, List.forall_mem_cons.mpr ⟨lw_p65, List.forall_mem_cons.mpr ⟨lw_p66, List.forall_mem_cons.mpr ⟨lw_p67, List.forall_mem_cons.mpr ⟨lw_p68, List.forall_mem_cons.mpr ⟨lw_p69, List.forall_mem_cons.mpr ⟨lw_p70, List.forall_mem_cons.mpr ⟨lw_p71, List.forall_mem_cons.mpr ⟨lw_p72, List.forall_mem_cons.mpr ⟨lw_p73, List.forall_mem_cons.mpr ⟨lw_p74, List.forall_mem_cons.mpr ⟨lw_p75, List.forall_mem_cons.mpr ⟨lw_p76, List.forall_mem_cons.mpr ⟨lw_p77, List.forall_mem_cons.mpr ⟨lw_p78, List.forall_mem_cons.mpr ⟨lw_p79, fun _ h => absurd h List.not_mem_nil⟩⟩⟩⟩⟩⟩⟩⟩⟩⟩⟩⟩⟩⟩⟩⟩
theorem lw_p80 : lw_okq (⟨"PostScriptsModel", "say", "()I"⟩, 40) := ⟨⟨by decide +kernel, by decide +kernel⟩, List.mem_of_getElem? (i := 1161) (by decide +kernel), List.mem_of_getElem? (i := 1428) (by decide +kernel), List.mem_of_getElem? (i := 1429) (by decide +kernel)⟩
theorem lw_p81 : lw_okq (⟨"PostScriptsModel", "roomOn", "([I[II)I"⟩, 40) := ⟨⟨by decide +kernel, by decide +kernel⟩, List.mem_of_getElem? (i := 1161) (by decide +kernel), List.mem_of_getElem? (i := 1435) (by decide +kernel), List.mem_of_getElem? (i := 1436) (by decide +kernel)⟩
theorem lw_p82 : lw_okq (⟨"PostScriptsModel", "hiddenLine", "()V"⟩, 40) := ⟨⟨by decide +kernel, by decide +kernel⟩, List.mem_of_getElem? (i := 1161) (by decide +kernel), List.mem_of_getElem? (i := 1442) (by decide +kernel), List.mem_of_getElem? (i := 1443) (by decide +kernel)⟩
theorem lw_p83 : lw_okq (⟨"PostScriptsModel", "doneLine", "()V"⟩, 40) := ⟨⟨by decide +kernel, by decide +kernel⟩, List.mem_of_getElem? (i := 1161) (by decide +kernel), List.mem_of_getElem? (i := 1446) (by decide +kernel), List.mem_of_getElem? (i := 1447) (by decide +kernel)⟩
theorem lw_p84 : lw_okq (⟨"PostScriptsModel", "bidLine", "()V"⟩, 40) := ⟨⟨by decide +kernel, by decide +kernel⟩, List.mem_of_getElem? (i := 1161) (by decide +kernel), List.mem_of_getElem? (i := 1451) (by decide +kernel), List.mem_of_getElem? (i := 1452) (by decide +kernel)⟩
theorem lw_p85 : lw_okq (⟨"PostScriptsModel", "isPlace", "(I)Z"⟩, 40) := ⟨⟨by decide +kernel, by decide +kernel⟩, List.mem_of_getElem? (i := 1161) (by decide +kernel), List.mem_of_getElem? (i := 1471) (by decide +kernel), List.mem_of_getElem? (i := 1472) (by decide +kernel)⟩
theorem lw_p86 : lw_okq (⟨"PostScriptsModel", "outrankedBy", "(I)I"⟩, 40) := ⟨⟨by decide +kernel, by decide +kernel⟩, List.mem_of_getElem? (i := 1161) (by decide +kernel), List.mem_of_getElem? (i := 1475) (by decide +kernel), List.mem_of_getElem? (i := 1476) (by decide +kernel)⟩
theorem lw_p87 : lw_okq (⟨"PostScriptsModel", "doesOutrank", "(II)Z"⟩, 40) := ⟨⟨by decide +kernel, by decide +kernel⟩, List.mem_of_getElem? (i := 1161) (by decide +kernel), List.mem_of_getElem? (i := 1479) (by decide +kernel), List.mem_of_getElem? (i := 1480) (by decide +kernel)⟩
theorem lw_p88 : lw_okq (⟨"PostScriptsModel", "linesAt", "(I)I"⟩, 40) := ⟨⟨by decide +kernel, by decide +kernel⟩, List.mem_of_getElem? (i := 1161) (by decide +kernel), List.mem_of_getElem? (i := 1486) (by decide +kernel), List.mem_of_getElem? (i := 1487) (by decide +kernel)⟩
theorem lw_p89 : lw_okq (⟨"PostScriptsModel", "linesOf", "(I)I"⟩, 40) := ⟨⟨by decide +kernel, by decide +kernel⟩, List.mem_of_getElem? (i := 1161) (by decide +kernel), List.mem_of_getElem? (i := 1494) (by decide +kernel), List.mem_of_getElem? (i := 1495) (by decide +kernel)⟩
theorem lw_p90 : lw_okq (⟨"PostScriptsModel", "ruledBy", "(I)I"⟩, 40) := ⟨⟨by decide +kernel, by decide +kernel⟩, List.mem_of_getElem? (i := 1161) (by decide +kernel), List.mem_of_getElem? (i := 1498) (by decide +kernel), List.mem_of_getElem? (i := 1499) (by decide +kernel)⟩
theorem lw_p91 : lw_okq (⟨"PostScriptsModel", "standsOf", "(II)I"⟩, 40) := ⟨⟨by decide +kernel, by decide +kernel⟩, List.mem_of_getElem? (i := 1161) (by decide +kernel), List.mem_of_getElem? (i := 1502) (by decide +kernel), List.mem_of_getElem? (i := 1503) (by decide +kernel)⟩
theorem lw_p92 : lw_okq (⟨"PostScriptsModel", "layList", "([IIII)V"⟩, 40) := ⟨⟨by decide +kernel, by decide +kernel⟩, List.mem_of_getElem? (i := 1161) (by decide +kernel), List.mem_of_getElem? (i := 1506) (by decide +kernel), List.mem_of_getElem? (i := 1507) (by decide +kernel)⟩
theorem lw_p93 : lw_okq (⟨"PostScriptsModel", "add", "(III)V"⟩, 40) := ⟨⟨by decide +kernel, by decide +kernel⟩, List.mem_of_getElem? (i := 1161) (by decide +kernel), List.mem_of_getElem? (i := 1513) (by decide +kernel), List.mem_of_getElem? (i := 1514) (by decide +kernel)⟩
theorem lw_p94 : lw_okq (⟨"PostScriptsModel", "unbeaten", "()I"⟩, 40) := ⟨⟨by decide +kernel, by decide +kernel⟩, List.mem_of_getElem? (i := 1161) (by decide +kernel), List.mem_of_getElem? (i := 1517) (by decide +kernel), List.mem_of_getElem? (i := 1518) (by decide +kernel)⟩
theorem lw_p95 : lw_okq (⟨"PostScriptsModel", "doesBeat", "(II)Z"⟩, 40) := ⟨⟨by decide +kernel, by decide +kernel⟩, List.mem_of_getElem? (i := 1161) (by decide +kernel), List.mem_of_getElem? (i := 1521) (by decide +kernel), List.mem_of_getElem? (i := 1522) (by decide +kernel)⟩
def lw_privs_6 : List (MethodName × Nat) := [(⟨"PostScriptsModel", "say", "()I"⟩, 40), (⟨"PostScriptsModel", "roomOn", "([I[II)I"⟩, 40), (⟨"PostScriptsModel", "hiddenLine", "()V"⟩, 40), (⟨"PostScriptsModel", "doneLine", "()V"⟩, 40), (⟨"PostScriptsModel", "bidLine", "()V"⟩, 40), (⟨"PostScriptsModel", "isPlace", "(I)Z"⟩, 40), (⟨"PostScriptsModel", "outrankedBy", "(I)I"⟩, 40), (⟨"PostScriptsModel", "doesOutrank", "(II)Z"⟩, 40), (⟨"PostScriptsModel", "linesAt", "(I)I"⟩, 40), (⟨"PostScriptsModel", "linesOf", "(I)I"⟩, 40), (⟨"PostScriptsModel", "ruledBy", "(I)I"⟩, 40), (⟨"PostScriptsModel", "standsOf", "(II)I"⟩, 40), (⟨"PostScriptsModel", "layList", "([IIII)V"⟩, 40), (⟨"PostScriptsModel", "add", "(III)V"⟩, 40), (⟨"PostScriptsModel", "unbeaten", "()I"⟩, 40), (⟨"PostScriptsModel", "doesBeat", "(II)Z"⟩, 40)]
theorem lw_r6 : ∀ q ∈ lw_privs_6, lw_okq q := List.forall_mem_cons.mpr ⟨lw_p80, List.forall_mem_cons.mpr ⟨lw_p81, List.forall_mem_cons.mpr ⟨lw_p82, List.forall_mem_cons.mpr ⟨lw_p83, List.forall_mem_cons.mpr ⟨lw_p84, List.forall_mem_cons.mpr ⟨lw_p85, List.forall_mem_cons.mpr ⟨lw_p86, List.forall_mem_cons.mpr ⟨lw_p87, List.forall_mem_cons.mpr ⟨lw_p88, List.forall_mem_cons.mpr ⟨lw_p89, List.forall_mem_cons.mpr ⟨lw_p90, List.forall_mem_cons.mpr ⟨lw_p91, List.forall_mem_cons.mpr ⟨lw_p92, List.forall_mem_cons.mpr ⟨lw_p93, List.forall_mem_cons.mpr ⟨lw_p94, List.forall_mem_cons.mpr ⟨lw_p95, fun _ h => absurd h List.not_mem_nil⟩⟩⟩⟩⟩⟩⟩⟩⟩⟩⟩⟩⟩⟩⟩⟩
theorem lw_p96 : lw_okq (⟨"PostScriptsModel", "isLine", "(I)Z"⟩, 40) := ⟨⟨by decide +kernel, by decide +kernel⟩, List.mem_of_getElem? (i := 1161) (by decide +kernel), List.mem_of_getElem? (i := 1529) (by decide +kernel), List.mem_of_getElem? (i := 1530) (by decide +kernel)⟩
theorem lw_p97 : lw_okq (⟨"PostScriptsModel", "beatersOf", "(I)I"⟩, 40) := ⟨⟨by decide +kernel, by decide +kernel⟩, List.mem_of_getElem? (i := 1161) (by decide +kernel), List.mem_of_getElem? (i := 1533) (by decide +kernel), List.mem_of_getElem? (i := 1534) (by decide +kernel)⟩
theorem lw_p98 : lw_okq (⟨"PostScriptsModel", "isMatte\x72", "(I)Z"⟩, 40) := ⟨⟨by decide +kernel, by decide +kernel⟩, List.mem_of_getElem? (i := 1161) (by decide +kernel), List.mem_of_getElem? (i := 1541) (by decide +kernel), List.mem_of_getElem? (i := 1542) (by decide +kernel)⟩
theorem lw_p99 : lw_okq (⟨"PostScriptsModel", "doneNow", "(I)I"⟩, 40) := ⟨⟨by decide +kernel, by decide +kernel⟩, List.mem_of_getElem? (i := 1161) (by decide +kernel), List.mem_of_getElem? (i := 1545) (by decide +kernel), List.mem_of_getElem? (i := 1546) (by decide +kernel)⟩
theorem lw_p100 : lw_okq (⟨"PostScriptsModel", "doneOf", "([IIII)I"⟩, 40) := ⟨⟨by decide +kernel, by decide +kernel⟩, List.mem_of_getElem? (i := 1161) (by decide +kernel), List.mem_of_getElem? (i := 1549) (by decide +kernel), List.mem_of_getElem? (i := 1550) (by decide +kernel)⟩
theorem lw_p101 : lw_okq (⟨"PostScriptsModel", "listDone", "()I"⟩, 40) := ⟨⟨by decide +kernel, by decide +kernel⟩, List.mem_of_getElem? (i := 1161) (by decide +kernel), List.mem_of_getElem? (i := 1553) (by decide +kernel), List.mem_of_getElem? (i := 1554) (by decide +kernel)⟩
theorem lw_p102 : lw_okq (⟨"PostScriptsModel", "changedWithout", "(I)I"⟩, 40) := ⟨⟨by decide +kernel, by decide +kernel⟩, List.mem_of_getElem? (i := 1161) (by decide +kernel), List.mem_of_getElem? (i := 1576) (by decide +kernel), List.mem_of_getElem? (i := 1577) (by decide +kernel)⟩
theorem lw_p103 : lw_okq (⟨"PostScriptsModel", "why", "(ZZ)I"⟩, 40) := ⟨⟨by decide +kernel, by decide +kernel⟩, List.mem_of_getElem? (i := 1161) (by decide +kernel), List.mem_of_getElem? (i := 1584) (by decide +kernel), List.mem_of_getElem? (i := 1585) (by decide +kernel)⟩
theorem lw_p104 : lw_okq (⟨"PostScriptsModel", "turnOf", "(I)I"⟩, 40) := ⟨⟨by decide +kernel, by decide +kernel⟩, List.mem_of_getElem? (i := 1161) (by decide +kernel), List.mem_of_getElem? (i := 1604) (by decide +kernel), List.mem_of_getElem? (i := 1605) (by decide +kernel)⟩
theorem lw_p105 : lw_okq (⟨"PostScriptsModel", "allRead", "()I"⟩, 40) := ⟨⟨by decide +kernel, by decide +kernel⟩, List.mem_of_getElem? (i := 1161) (by decide +kernel), List.mem_of_getElem? (i := 1608) (by decide +kernel), List.mem_of_getElem? (i := 1609) (by decide +kernel)⟩
theorem lw_p106 : lw_okq (⟨"PostScriptsModel", "doesHold", "(II)Z"⟩, 40) := ⟨⟨by decide +kernel, by decide +kernel⟩, List.mem_of_getElem? (i := 1161) (by decide +kernel), List.mem_of_getElem? (i := 1620) (by decide +kernel), List.mem_of_getElem? (i := 1621) (by decide +kernel)⟩
theorem lw_p107 : lw_okq (⟨"PostScriptsModel", "canWrite", "(I)Z"⟩, 40) := ⟨⟨by decide +kernel, by decide +kernel⟩, List.mem_of_getElem? (i := 1161) (by decide +kernel), List.mem_of_getElem? (i := 1624) (by decide +kernel), List.mem_of_getElem? (i := 1625) (by decide +kernel)⟩
theorem lw_p108 : lw_okq (⟨"PostScriptsModel", "roomNow", "(I)I"⟩, 40) := ⟨⟨by decide +kernel, by decide +kernel⟩, List.mem_of_getElem? (i := 1161) (by decide +kernel), List.mem_of_getElem? (i := 1628) (by decide +kernel), List.mem_of_getElem? (i := 1629) (by decide +kernel)⟩
theorem lw_p109 : lw_okq (⟨"PostScriptsModel", "more", "(II)V"⟩, 40) := ⟨⟨by decide +kernel, by decide +kernel⟩, List.mem_of_getElem? (i := 1161) (by decide +kernel), List.mem_of_getElem? (i := 1632) (by decide +kernel), List.mem_of_getElem? (i := 1633) (by decide +kernel)⟩
theorem lw_p110 : lw_okq (⟨"PostScriptsModel", "layMore", "(I)V"⟩, 40) := ⟨⟨by decide +kernel, by decide +kernel⟩, List.mem_of_getElem? (i := 1161) (by decide +kernel), List.mem_of_getElem? (i := 1636) (by decide +kernel), List.mem_of_getElem? (i := 1637) (by decide +kernel)⟩
theorem lw_p111 : lw_okq (⟨"PostScriptsModel", "playOf", "(II)Z"⟩, 40) := ⟨⟨by decide +kernel, by decide +kernel⟩, List.mem_of_getElem? (i := 1161) (by decide +kernel), List.mem_of_getElem? (i := 1648) (by decide +kernel), List.mem_of_getElem? (i := 1649) (by decide +kernel)⟩
def lw_privs_7 : List (MethodName × Nat) := [(⟨"PostScriptsModel", "isLine", "(I)Z"⟩, 40), (⟨"PostScriptsModel", "beatersOf", "(I)I"⟩, 40), (⟨"PostScriptsModel", "isMatte\x72", "(I)Z"⟩, 40), (⟨"PostScriptsModel", "doneNow", "(I)I"⟩, 40), (⟨"PostScriptsModel", "doneOf", "([IIII)I"⟩, 40), (⟨"PostScriptsModel", "listDone", "()I"⟩, 40), (⟨"PostScriptsModel", "changedWithout", "(I)I"⟩, 40), (⟨"PostScriptsModel", "why", "(ZZ)I"⟩, 40), (⟨"PostScriptsModel", "turnOf", "(I)I"⟩, 40), (⟨"PostScriptsModel", "allRead", "()I"⟩, 40), (⟨"PostScriptsModel", "doesHold", "(II)Z"⟩, 40), (⟨"PostScriptsModel", "canWrite", "(I)Z"⟩, 40), (⟨"PostScriptsModel", "roomNow", "(I)I"⟩, 40), (⟨"PostScriptsModel", "more", "(II)V"⟩, 40), (⟨"PostScriptsModel", "layMore", "(I)V"⟩, 40), (⟨"PostScriptsModel", "playOf", "(II)Z"⟩, 40)]
theorem lw_r7 : ∀ q ∈ lw_privs_7, lw_okq q := List.forall_mem_cons.mpr ⟨lw_p96, List.forall_mem_cons.mpr ⟨lw_p97, List.forall_mem_cons.mpr ⟨lw_p98, List.forall_mem_cons.mpr ⟨lw_p99, List.forall_mem_cons.mpr ⟨lw_p100, List.forall_mem_cons.mpr ⟨lw_p101, List.forall_mem_cons.mpr ⟨lw_p102, List.forall_mem_cons.mpr ⟨lw_p103, List.forall_mem_cons.mpr ⟨lw_p104, List.forall_mem_cons.mpr ⟨lw_p105, List.forall_mem_cons.mpr ⟨lw_p106, List.forall_mem_cons.mpr ⟨lw_p107, List.forall_mem_cons.mpr ⟨lw_p108, List.forall_mem_cons.mpr ⟨lw_p109, List.forall_mem_cons.mpr ⟨lw_p110, List.forall_mem_cons.mpr ⟨lw_p111, fun _ h => absurd h List.not_mem_nil⟩⟩⟩⟩⟩⟩⟩⟩⟩⟩⟩⟩⟩⟩⟩⟩
theorem lw_p112 : lw_okq (⟨"PostScriptsModel", "doesWin", "(III)Z"⟩, 40) := ⟨⟨by decide +kernel, by decide +kernel⟩, List.mem_of_getElem? (i := 1161) (by decide +kernel), List.mem_of_getElem? (i := 1652) (by decide +kernel), List.mem_of_getElem? (i := 1653) (by decide +kernel)⟩
theorem lw_p113 : lw_okq (⟨"PostScriptsModel", "seekRing", "(I)Z"⟩, 40) := ⟨⟨by decide +kernel, by decide +kernel⟩, List.mem_of_getElem? (i := 1161) (by decide +kernel), List.mem_of_getElem? (i := 1668) (by decide +kernel), List.mem_of_getElem? (i := 1669) (by decide +kernel)⟩
theorem lw_p114 : lw_okq (⟨"PostScriptsModel", "tryRing", "(II)V"⟩, 40) := ⟨⟨by decide +kernel, by decide +kernel⟩, List.mem_of_getElem? (i := 1161) (by decide +kernel), List.mem_of_getElem? (i := 1673) (by decide +kernel), List.mem_of_getElem? (i := 1674) (by decide +kernel)⟩
theorem lw_p115 : lw_okq (⟨"PostScriptsModel", "hasRing", "()Z"⟩, 40) := ⟨⟨by decide +kernel, by decide +kernel⟩, List.mem_of_getElem? (i := 1161) (by decide +kernel), List.mem_of_getElem? (i := 1685) (by decide +kernel), List.mem_of_getElem? (i := 1686) (by decide +kernel)⟩
theorem lw_p116 : lw_okq (⟨"PostScriptsModel", "takenOf", "(I)I"⟩, 40) := ⟨⟨by decide +kernel, by decide +kernel⟩, List.mem_of_getElem? (i := 1161) (by decide +kernel), List.mem_of_getElem? (i := 1697) (by decide +kernel), List.mem_of_getElem? (i := 1698) (by decide +kernel)⟩
theorem lw_p117 : lw_okq (⟨"PostScriptsModel", "paysOf", "(I)I"⟩, 40) := ⟨⟨by decide +kernel, by decide +kernel⟩, List.mem_of_getElem? (i := 1161) (by decide +kernel), List.mem_of_getElem? (i := 1701) (by decide +kernel), List.mem_of_getElem? (i := 1702) (by decide +kernel)⟩
theorem lw_p118 : lw_okq (⟨"PostScriptsModel", "canTake", "(I)Z"⟩, 40) := ⟨⟨by decide +kernel, by decide +kernel⟩, List.mem_of_getElem? (i := 1161) (by decide +kernel), List.mem_of_getElem? (i := 1705) (by decide +kernel), List.mem_of_getElem? (i := 1706) (by decide +kernel)⟩
theorem lw_p119 : lw_okq (⟨"PostScriptsModel", "seekFits", "(I)I"⟩, 40) := ⟨⟨by decide +kernel, by decide +kernel⟩, List.mem_of_getElem? (i := 1161) (by decide +kernel), List.mem_of_getElem? (i := 1721) (by decide +kernel), List.mem_of_getElem? (i := 1722) (by decide +kernel)⟩
theorem lw_p120 : lw_okq (⟨"PostScriptsModel", "fillings", "()I"⟩, 40) := ⟨⟨by decide +kernel, by decide +kernel⟩, List.mem_of_getElem? (i := 1161) (by decide +kernel), List.mem_of_getElem? (i := 1725) (by decide +kernel), List.mem_of_getElem? (i := 1726) (by decide +kernel)⟩
theorem lw_p121 : lw_okq (⟨"PostScriptsModel", "choicesOf", "()I"⟩, 40) := ⟨⟨by decide +kernel, by decide +kernel⟩, List.mem_of_getElem? (i := 1161) (by decide +kernel), List.mem_of_getElem? (i := 1729) (by decide +kernel), List.mem_of_getElem? (i := 1730) (by decide +kernel)⟩
theorem lw_p122 : lw_okq (⟨"PostScriptsModel", "wrongBy", "(I)I"⟩, 40) := ⟨⟨by decide +kernel, by decide +kernel⟩, List.mem_of_getElem? (i := 1161) (by decide +kernel), List.mem_of_getElem? (i := 1733) (by decide +kernel), List.mem_of_getElem? (i := 1734) (by decide +kernel)⟩
theorem lw_p123 : lw_okq (⟨"PostScriptsModel", "doneFilled", "(II)I"⟩, 40) := ⟨⟨by decide +kernel, by decide +kernel⟩, List.mem_of_getElem? (i := 1161) (by decide +kernel), List.mem_of_getElem? (i := 1737) (by decide +kernel), List.mem_of_getElem? (i := 1738) (by decide +kernel)⟩
theorem lw_p124 : lw_okq (⟨"PostScriptsModel", "choiceOf", "(II)I"⟩, 40) := ⟨⟨by decide +kernel, by decide +kernel⟩, List.mem_of_getElem? (i := 1161) (by decide +kernel), List.mem_of_getElem? (i := 1741) (by decide +kernel), List.mem_of_getElem? (i := 1742) (by decide +kernel)⟩
theorem lw_p125 : lw_okq (⟨"PostScriptsModel", "isHidden", "(I)Z"⟩, 40) := ⟨⟨by decide +kernel, by decide +kernel⟩, List.mem_of_getElem? (i := 1161) (by decide +kernel), List.mem_of_getElem? (i := 1749) (by decide +kernel), List.mem_of_getElem? (i := 1750) (by decide +kernel)⟩
theorem lw_p126 : lw_okq (⟨"PostScriptsModel", "askOf", "()I"⟩, 40) := ⟨⟨by decide +kernel, by decide +kernel⟩, List.mem_of_getElem? (i := 1161) (by decide +kernel), List.mem_of_getElem? (i := 1761) (by decide +kernel), List.mem_of_getElem? (i := 1762) (by decide +kernel)⟩
theorem lw_p127 : lw_okq (⟨"PostScriptsModel", "leavesOf", "(I)I"⟩, 40) := ⟨⟨by decide +kernel, by decide +kernel⟩, List.mem_of_getElem? (i := 1161) (by decide +kernel), List.mem_of_getElem? (i := 1765) (by decide +kernel), List.mem_of_getElem? (i := 1766) (by decide +kernel)⟩
def lw_privs_8 : List (MethodName × Nat) := [(⟨"PostScriptsModel", "doesWin", "(III)Z"⟩, 40), (⟨"PostScriptsModel", "seekRing", "(I)Z"⟩, 40), (⟨"PostScriptsModel", "tryRing", "(II)V"⟩, 40), (⟨"PostScriptsModel", "hasRing", "()Z"⟩, 40), (⟨"PostScriptsModel", "takenOf", "(I)I"⟩, 40), (⟨"PostScriptsModel", "paysOf", "(I)I"⟩, 40), (⟨"PostScriptsModel", "canTake", "(I)Z"⟩, 40), (⟨"PostScriptsModel", "seekFits", "(I)I"⟩, 40), (⟨"PostScriptsModel", "fillings", "()I"⟩, 40), (⟨"PostScriptsModel", "choicesOf", "()I"⟩, 40), (⟨"PostScriptsModel", "wrongBy", "(I)I"⟩, 40), (⟨"PostScriptsModel", "doneFilled", "(II)I"⟩, 40), (⟨"PostScriptsModel", "choiceOf", "(II)I"⟩, 40), (⟨"PostScriptsModel", "isHidden", "(I)Z"⟩, 40), (⟨"PostScriptsModel", "askOf", "()I"⟩, 40), (⟨"PostScriptsModel", "leavesOf", "(I)I"⟩, 40)]
theorem lw_r8 : ∀ q ∈ lw_privs_8, lw_okq q := List.forall_mem_cons.mpr ⟨lw_p112, List.forall_mem_cons.mpr ⟨lw_p113, List.forall_mem_cons.mpr ⟨lw_p114, List.forall_mem_cons.mpr ⟨lw_p115, List.forall_mem_cons.mpr ⟨lw_p116, List.forall_mem_cons.mpr ⟨lw_p117, List.forall_mem_cons.mpr ⟨lw_p118, List.forall_mem_cons.mpr ⟨lw_p119, List.forall_mem_cons.mpr ⟨lw_p120, List.forall_mem_cons.mpr ⟨lw_p121, List.forall_mem_cons.mpr ⟨lw_p122, List.forall_mem_cons.mpr ⟨lw_p123, List.forall_mem_cons.mpr ⟨lw_p124, List.forall_mem_cons.mpr ⟨lw_p125, List.forall_mem_cons.mpr ⟨lw_p126, List.forall_mem_cons.mpr ⟨lw_p127, fun _ h => absurd h List.not_mem_nil⟩⟩⟩⟩⟩⟩⟩⟩⟩⟩⟩⟩⟩⟩⟩⟩
theorem lw_p128 : lw_okq (⟨"PostScriptsModel", "seekRests", "(I)I"⟩, 40) := ⟨⟨by decide +kernel, by decide +kernel⟩, List.mem_of_getElem? (i := 1161) (by decide +kernel), List.mem_of_getElem? (i := 1788) (by decide +kernel), List.mem_of_getElem? (i := 1789) (by decide +kernel)⟩
theorem lw_p129 : lw_okq (⟨"PostScriptsModel", "doneWeight", "(I)J"⟩, 40) := ⟨⟨by decide +kernel, by decide +kernel⟩, List.mem_of_getElem? (i := 1161) (by decide +kernel), List.mem_of_getElem? (i := 1800) (by decide +kernel), List.mem_of_getElem? (i := 1801) (by decide +kernel)⟩
theorem lw_p130 : lw_okq (⟨"PostScriptsModel", "weightOf", "(I)J"⟩, 40) := ⟨⟨by decide +kernel, by decide +kernel⟩, List.mem_of_getElem? (i := 1161) (by decide +kernel), List.mem_of_getElem? (i := 1804) (by decide +kernel), List.mem_of_getElem? (i := 1805) (by decide +kernel)⟩
theorem lw_p131 : lw_okq (⟨"PostScriptsModel", "allWeight", "()J"⟩, 40) := ⟨⟨by decide +kernel, by decide +kernel⟩, List.mem_of_getElem? (i := 1161) (by decide +kernel), List.mem_of_getElem? (i := 1808) (by decide +kernel), List.mem_of_getElem? (i := 1809) (by decide +kernel)⟩
theorem lw_p132 : lw_okq (⟨"PostScriptsModel", "thumbWhy", "(ZII)I"⟩, 40) := ⟨⟨by decide +kernel, by decide +kernel⟩, List.mem_of_getElem? (i := 1161) (by decide +kernel), List.mem_of_getElem? (i := 1828) (by decide +kernel), List.mem_of_getElem? (i := 1829) (by decide +kernel)⟩
theorem lw_p133 : lw_okq (⟨"PostScriptsModel", "note", "()V"⟩, 40) := ⟨⟨by decide +kernel, by decide +kernel⟩, List.mem_of_getElem? (i := 1161) (by decide +kernel), List.mem_of_getElem? (i := 1842) (by decide +kernel), List.mem_of_getElem? (i := 1843) (by decide +kernel)⟩
theorem lw_p134 : lw_okq (⟨"PostScriptsModel", "isNot", "(I)Z"⟩, 40) := ⟨⟨by decide +kernel, by decide +kernel⟩, List.mem_of_getElem? (i := 1161) (by decide +kernel), List.mem_of_getElem? (i := 1850) (by decide +kernel), List.mem_of_getElem? (i := 1851) (by decide +kernel)⟩
def lw_privs_9 : List (MethodName × Nat) := [(⟨"PostScriptsModel", "seekRests", "(I)I"⟩, 40), (⟨"PostScriptsModel", "doneWeight", "(I)J"⟩, 40), (⟨"PostScriptsModel", "weightOf", "(I)J"⟩, 40), (⟨"PostScriptsModel", "allWeight", "()J"⟩, 40), (⟨"PostScriptsModel", "thumbWhy", "(ZII)I"⟩, 40), (⟨"PostScriptsModel", "note", "()V"⟩, 40), (⟨"PostScriptsModel", "isNot", "(I)Z"⟩, 40)]
theorem lw_r9 : ∀ q ∈ lw_privs_9, lw_okq q := List.forall_mem_cons.mpr ⟨lw_p128, List.forall_mem_cons.mpr ⟨lw_p129, List.forall_mem_cons.mpr ⟨lw_p130, List.forall_mem_cons.mpr ⟨lw_p131, List.forall_mem_cons.mpr ⟨lw_p132, List.forall_mem_cons.mpr ⟨lw_p133, List.forall_mem_cons.mpr ⟨lw_p134, fun _ h => absurd h List.not_mem_nil⟩⟩⟩⟩⟩⟩⟩
def lw_privs : List (MethodName × Nat) := lw_privs_1 ++ (lw_privs_2 ++ (lw_privs_3 ++ (lw_privs_4 ++ (lw_privs_5 ++ (lw_privs_6 ++ (lw_privs_7 ++ (lw_privs_8 ++ (lw_privs_9))))))))
def lw_tbl : List Cond := k2_sels lw_privs ++ tables_1
theorem lw_privs_ok : ∀ q ∈ lw_privs, lw_okq q := by
  show ∀ q ∈ lw_privs_1 ++ (lw_privs_2 ++ (lw_privs_3 ++ (lw_privs_4 ++ (lw_privs_5 ++ (lw_privs_6 ++ (lw_privs_7 ++ (lw_privs_8 ++ (lw_privs_9)))))))), lw_okq q
  exact List.forall_mem_append.mpr ⟨lw_r1, List.forall_mem_append.mpr ⟨lw_r2, List.forall_mem_append.mpr ⟨lw_r3, List.forall_mem_append.mpr ⟨lw_r4, List.forall_mem_append.mpr ⟨lw_r5, List.forall_mem_append.mpr ⟨lw_r6, List.forall_mem_append.mpr ⟨lw_r7, List.forall_mem_append.mpr ⟨lw_r8, lw_r9⟩⟩⟩⟩⟩⟩⟩⟩
end
section
def RX0 : String := "PostScripts$Bids"
def TX0 : u_T := fun k => match k with
  | 0 => ("PostScripts$Bids", "hand", "[I", true)
  | 1 => ("PostScripts$Bids", "place", "[I", true)
  | 2 => ("PostScripts$Bids", "inches", "[I", true)
  | 3 => ("PostScripts$Bids", "pays", "[I", true)
  | _ => ("PostScripts$Bids", "count", "I", false)
def tyX0 : Nat → FieldType := fun k => match k with
  | 0 => .array .int
  | 1 => .array .int
  | 2 => .array .int
  | 3 => .array .int
  | _ => .int
abbrev wsX00 : List Cond := u_ws RX0 TX0 5
theorem nmX0 : ∀ a, a < 5 → ∀ b, b < 5 → a ≠ b → (TX0 a).2.1 ≠ (TX0 b).2.1 := by decide +kernel
theorem tyX0_ok : ∀ k, k < 5 → parseFieldDescriptor (TX0 k).2.2.1 = some (tyX0 k) := by decide +kernel
def RX1 : String := "PostScripts$Duel"
def TX1 : u_T := fun k => match k with
  | _ => ("PostScripts$Duel", "room", "[I", true)
def tyX1 : Nat → FieldType := fun k => match k with
  | _ => .array .int
abbrev wsX10 : List Cond := u_ws RX1 TX1 1
theorem nmX1 : ∀ a, a < 1 → ∀ b, b < 1 → a ≠ b → (TX1 a).2.1 ≠ (TX1 b).2.1 := by decide +kernel
theorem tyX1_ok : ∀ k, k < 1 → parseFieldDescriptor (TX1 k).2.2.1 = some (tyX1 k) := by decide +kernel
def RX2 : String := "PostScripts$Fillings"
def TX2 : u_T := fun k => match k with
  | 0 => ("PostScripts$Fillings", "fit", "[I", true)
  | 1 => ("PostScripts$Fillings", "often", "[I", true)
  | 2 => ("PostScripts$Fillings", "toldPlaces", "[I", true)
  | 3 => ("PostScripts$Fillings", "toldDos", "[I", true)
  | 4 => ("PostScripts$Fillings", "places", "[I", true)
  | 5 => ("PostScripts$Fillings", "dos", "[I", true)
  | 6 => ("PostScripts$Fillings", "known", "Z", false)
  | 7 => ("PostScripts$Fillings", "count", "I", false)
  | 8 => ("PostScripts$Fillings", "lines", "I", false)
  | _ => ("PostScripts$Fillings", "sayings", "I", false)
def tyX2 : Nat → FieldType := fun k => match k with
  | 0 => .array .int
  | 1 => .array .int
  | 2 => .array .int
  | 3 => .array .int
  | 4 => .array .int
  | 5 => .array .int
  | 6 => .boolean
  | 7 => .int
  | 8 => .int
  | _ => .int
abbrev wsX20 : List Cond := u_ws RX2 TX2 10
theorem nmX2 : ∀ a, a < 10 → ∀ b, b < 10 → a ≠ b → (TX2 a).2.1 ≠ (TX2 b).2.1 := by decide +kernel
theorem tyX2_ok : ∀ k, k < 10 → parseFieldDescriptor (TX2 k).2.2.1 = some (tyX2 k) := by decide +kernel
def RX3 : String := "PostScripts$Lette\x72"
def TX3 : u_T := fun k => match k with
  | 0 => ("PostScripts$Lette\x72", "rank", "[I", true)
  | 1 => ("PostScripts$Lette\x72", "inches", "[I", true)
  | 2 => ("PostScripts$Lette\x72", "uppe\x72", "[I", true)
  | 3 => ("PostScripts$Lette\x72", "lowe\x72", "[I", true)
  | 4 => ("PostScripts$Lette\x72", "purse", "[I", true)
  | 5 => ("PostScripts$Lette\x72", "told", "[I", true)
  | 6 => ("PostScripts$Lette\x72", "hiddenAt", "[I", true)
  | 7 => ("PostScripts$Lette\x72", "page", "LPostScripts$Page;", true)
  | 8 => ("PostScripts$Lette\x72", "bids", "LPostScripts$Bids;", true)
  | 9 => ("PostScripts$Lette\x72", "wet", "I", false)
  | 10 => ("PostScripts$Lette\x72", "places", "I", false)
  | 11 => ("PostScripts$Lette\x72", "overs", "I", false)
  | 12 => ("PostScripts$Lette\x72", "hands", "I", false)
  | 13 => ("PostScripts$Lette\x72", "matters", "I", false)
  | 14 => ("PostScripts$Lette\x72", "hidden", "I", false)
  | _ => ("PostScripts$Lette\x72", "dones", "I", false)
def tyX3 : Nat → FieldType := fun k => match k with
  | 0 => .array .int
  | 1 => .array .int
  | 2 => .array .int
  | 3 => .array .int
  | 4 => .array .int
  | 5 => .array .int
  | 6 => .array .int
  | 7 => .object "PostScripts$Page"
  | 8 => .object "PostScripts$Bids"
  | 9 => .int
  | 10 => .int
  | 11 => .int
  | 12 => .int
  | 13 => .int
  | 14 => .int
  | _ => .int
abbrev wsX30 : List Cond := u_ws RX3 TX3 16
theorem nmX3 : ∀ a, a < 16 → ∀ b, b < 16 → a ≠ b → (TX3 a).2.1 ≠ (TX3 b).2.1 := by decide +kernel
theorem tyX3_ok : ∀ k, k < 16 → parseFieldDescriptor (TX3 k).2.2.1 = some (tyX3 k) := by decide +kernel
def RX4 : String := "PostScripts$Names"
def TX4 : u_T := fun k => match k with
  | 0 => ("PostScripts$Names", "from", "[I", true)
  | 1 => ("PostScripts$Names", "length", "[I", true)
  | 2 => ("PostScripts$Names", "sort", "[I", true)
  | 3 => ("PostScripts$Names", "numbe\x72", "[I", true)
  | _ => ("PostScripts$Names", "count", "I", false)
def tyX4 : Nat → FieldType := fun k => match k with
  | 0 => .array .int
  | 1 => .array .int
  | 2 => .array .int
  | 3 => .array .int
  | _ => .int
abbrev wsX40 : List Cond := u_ws RX4 TX4 5
theorem nmX4 : ∀ a, a < 5 → ∀ b, b < 5 → a ≠ b → (TX4 a).2.1 ≠ (TX4 b).2.1 := by decide +kernel
theorem tyX4_ok : ∀ k, k < 5 → parseFieldDescriptor (TX4 k).2.2.1 = some (tyX4 k) := by decide +kernel
def RX5 : String := "PostScripts$Orde\x72"
def TX5 : u_T := fun k => match k with
  | 0 => ("PostScripts$Orde\x72", "below", "[I", true)
  | _ => ("PostScripts$Orde\x72", "count", "I", false)
def tyX5 : Nat → FieldType := fun k => match k with
  | 0 => .array .int
  | _ => .int
abbrev wsX50 : List Cond := u_ws RX5 TX5 2
theorem nmX5 : ∀ a, a < 2 → ∀ b, b < 2 → a ≠ b → (TX5 a).2.1 ≠ (TX5 b).2.1 := by decide +kernel
theorem tyX5_ok : ∀ k, k < 2 → parseFieldDescriptor (TX5 k).2.2.1 = some (tyX5 k) := by decide +kernel
def RX6 : String := "PostScripts$Page"
def TX6 : u_T := fun k => match k with
  | 0 => ("PostScripts$Page", "hand", "[I", true)
  | 1 => ("PostScripts$Page", "place", "[I", true)
  | 2 => ("PostScripts$Page", "matte\x72", "[I", true)
  | 3 => ("PostScripts$Page", "say", "[I", true)
  | 4 => ("PostScripts$Page", "inches", "[I", true)
  | 5 => ("PostScripts$Page", "count", "I", false)
  | 6 => ("PostScripts$Page", "struck", "I", false)
  | _ => ("PostScripts$Page", "folded", "I", false)
def tyX6 : Nat → FieldType := fun k => match k with
  | 0 => .array .int
  | 1 => .array .int
  | 2 => .array .int
  | 3 => .array .int
  | 4 => .array .int
  | 5 => .int
  | 6 => .int
  | _ => .int
abbrev wsX60 : List Cond := u_ws RX6 TX6 8
theorem nmX6 : ∀ a, a < 8 → ∀ b, b < 8 → a ≠ b → (TX6 a).2.1 ≠ (TX6 b).2.1 := by decide +kernel
theorem tyX6_ok : ∀ k, k < 8 → parseFieldDescriptor (TX6 k).2.2.1 = some (tyX6 k) := by decide +kernel
def RX7 : String := "PostScripts$Past"
def TX7 : u_T := fun k => match k with
  | 0 => ("PostScripts$Past", "kind", "[I", true)
  | 1 => ("PostScripts$Past", "of", "[I", true)
  | _ => ("PostScripts$Past", "count", "I", false)
def tyX7 : Nat → FieldType := fun k => match k with
  | 0 => .array .int
  | 1 => .array .int
  | _ => .int
abbrev wsX70 : List Cond := u_ws RX7 TX7 3
theorem nmX7 : ∀ a, a < 3 → ∀ b, b < 3 → a ≠ b → (TX7 a).2.1 ≠ (TX7 b).2.1 := by decide +kernel
theorem tyX7_ok : ∀ k, k < 3 → parseFieldDescriptor (TX7 k).2.2.1 = some (tyX7 k) := by decide +kernel
def RX8 : String := "PostScripts$Reade\x72"
def TX8 : u_T := fun k => match k with
  | 0 => ("PostScripts$Reade\x72", "tape", "LPostScripts$Tape;", true)
  | 1 => ("PostScripts$Reade\x72", "names", "LPostScripts$Names;", true)
  | 2 => ("PostScripts$Reade\x72", "draft", "LPostScripts$Letter;", false)
  | 3 => ("PostScripts$Reade\x72", "fault", "I", false)
  | _ => ("PostScripts$Reade\x72", "faultAt", "I", false)
def tyX8 : Nat → FieldType := fun k => match k with
  | 0 => .object "PostScripts$Tape"
  | 1 => .object "PostScripts$Names"
  | 2 => .object "PostScripts$Lette\x72"
  | 3 => .int
  | _ => .int
abbrev wsX80 : List Cond := u_ws RX8 TX8 5
theorem nmX8 : ∀ a, a < 5 → ∀ b, b < 5 → a ≠ b → (TX8 a).2.1 ≠ (TX8 b).2.1 := by decide +kernel
theorem tyX8_ok : ∀ k, k < 5 → parseFieldDescriptor (TX8 k).2.2.1 = some (tyX8 k) := by decide +kernel
def RX9 : String := "PostScripts$Tape"
def TX9 : u_T := fun k => match k with
  | 0 => ("PostScripts$Tape", "bytes", "[B", true)
  | 1 => ("PostScripts$Tape", "size", "I", false)
  | 2 => ("PostScripts$Tape", "end", "I", false)
  | 3 => ("PostScripts$Tape", "from", "I", false)
  | 4 => ("PostScripts$Tape", "to", "I", false)
  | 5 => ("PostScripts$Tape", "kind", "I", false)
  | _ => ("PostScripts$Tape", "numbe\x72", "I", false)
def tyX9 : Nat → FieldType := fun k => match k with
  | 0 => .array .byte
  | 1 => .int
  | 2 => .int
  | 3 => .int
  | 4 => .int
  | 5 => .int
  | _ => .int
abbrev wsX90 : List Cond := u_ws RX9 TX9 7
theorem nmX9 : ∀ a, a < 7 → ∀ b, b < 7 → a ≠ b → (TX9 a).2.1 ≠ (TX9 b).2.1 := by decide +kernel
theorem tyX9_ok : ∀ k, k < 7 → parseFieldDescriptor (TX9 k).2.2.1 = some (tyX9 k) := by decide +kernel
def RX10 : String := "PostScripts"
def TX10 : u_T := fun k => match k with
  | 0 => ("PostScripts", "reade\x72", "LPostScripts$Reader;", true)
  | 1 => ("PostScripts", "orde\x72", "LPostScripts$Order;", true)
  | 2 => ("PostScripts", "trial", "LPostScripts$Order;", true)
  | 3 => ("PostScripts", "now", "LPostScripts$Page;", true)
  | 4 => ("PostScripts", "images", "[LPostScripts$Page;", true)
  | 5 => ("PostScripts", "past", "LPostScripts$Past;", true)
  | 6 => ("PostScripts", "fillings", "LPostScripts$Fillings;", true)
  | 7 => ("PostScripts", "duel", "LPostScripts$Duel;", true)
  | 8 => ("PostScripts", "current", "LPostScripts$Letter;", false)
  | 9 => ("PostScripts", "imageCount", "I", false)
  | 10 => ("PostScripts", "trouble", "I", false)
  | 11 => ("PostScripts", "fault", "I", false)
  | _ => ("PostScripts", "faultAt", "I", false)
def tyX10 : Nat → FieldType := fun k => match k with
  | 0 => .object "PostScripts$Reade\x72"
  | 1 => .object "PostScripts$Orde\x72"
  | 2 => .object "PostScripts$Orde\x72"
  | 3 => .object "PostScripts$Page"
  | 4 => .array (.object "PostScripts$Page")
  | 5 => .object "PostScripts$Past"
  | 6 => .object "PostScripts$Fillings"
  | 7 => .object "PostScripts$Duel"
  | 8 => .object "PostScripts$Lette\x72"
  | 9 => .int
  | 10 => .int
  | 11 => .int
  | _ => .int
abbrev wsX100 : List Cond := u_ws RX10 TX10 13
theorem nmX10 : ∀ a, a < 13 → ∀ b, b < 13 → a ≠ b → (TX10 a).2.1 ≠ (TX10 b).2.1 := by decide +kernel
theorem tyX10_ok : ∀ k, k < 13 → parseFieldDescriptor (TX10 k).2.2.1 = some (tyX10 k) := by decide +kernel
def RX11 : String := "PostScriptsModel"
def TX11 : u_T := fun k => match k with
  | 0 => ("PostScriptsModel", "thrown", "I", false)
  | 1 => ("PostScriptsModel", "tape", "[I", true)
  | 2 => ("PostScriptsModel", "taped", "I", false)
  | 3 => ("PostScriptsModel", "size", "I", false)
  | 4 => ("PostScriptsModel", "at", "I", false)
  | 5 => ("PostScriptsModel", "end", "I", false)
  | 6 => ("PostScriptsModel", "token", "I", false)
  | 7 => ("PostScriptsModel", "whole", "I", false)
  | 8 => ("PostScriptsModel", "nameSize", "I", false)
  | 9 => ("PostScriptsModel", "fault", "I", false)
  | 10 => ("PostScriptsModel", "place", "I", false)
  | 11 => ("PostScriptsModel", "trouble", "I", false)
  | 12 => ("PostScriptsModel", "letters", "[I", true)
  | 13 => ("PostScriptsModel", "failed", "Z", false)
  | 14 => ("PostScriptsModel", "hasLette\x72", "Z", false)
  | 15 => ("PostScriptsModel", "\x72", "[I", true)
  | 16 => ("PostScriptsModel", "fresh", "[I", true)
  | 17 => ("PostScriptsModel", "told", "[I", true)
  | 18 => ("PostScriptsModel", "read", "[I", true)
  | 19 => ("PostScriptsModel", "st", "[I", true)
  | 20 => ("PostScriptsModel", "undone", "[I", true)
  | 21 => ("PostScriptsModel", "kept", "[I", true)
  | 22 => ("PostScriptsModel", "undos", "I", false)
  | 23 => ("PostScriptsModel", "images", "I", false)
  | 24 => ("PostScriptsModel", "dropped", "I", false)
  | 25 => ("PostScriptsModel", "listAt", "[I", true)
  | 26 => ("PostScriptsModel", "listSays", "[I", true)
  | 27 => ("PostScriptsModel", "listLine", "[I", true)
  | 28 => ("PostScriptsModel", "listMany", "I", false)
  | 29 => ("PostScriptsModel", "moreAt", "[I", true)
  | 30 => ("PostScriptsModel", "moreSays", "[I", true)
  | 31 => ("PostScriptsModel", "moreMany", "I", false)
  | 32 => ("PostScriptsModel", "winsFirst", "I", false)
  | 33 => ("PostScriptsModel", "way", "[I", true)
  | 34 => ("PostScriptsModel", "ring", "[I", true)
  | 35 => ("PostScriptsModel", "ringMany", "I", false)
  | 36 => ("PostScriptsModel", "often", "[I", true)
  | 37 => ("PostScriptsModel", "fitMany", "I", false)
  | 38 => ("PostScriptsModel", "firstRest", "I", false)
  | _ => ("PostScriptsModel", "smudges", "I", false)
def tyX11 : Nat → FieldType := fun k => match k with
  | 0 => .int
  | 1 => .array .int
  | 2 => .int
  | 3 => .int
  | 4 => .int
  | 5 => .int
  | 6 => .int
  | 7 => .int
  | 8 => .int
  | 9 => .int
  | 10 => .int
  | 11 => .int
  | 12 => .array .int
  | 13 => .boolean
  | 14 => .boolean
  | 15 => .array .int
  | 16 => .array .int
  | 17 => .array .int
  | 18 => .array .int
  | 19 => .array .int
  | 20 => .array .int
  | 21 => .array .int
  | 22 => .int
  | 23 => .int
  | 24 => .int
  | 25 => .array .int
  | 26 => .array .int
  | 27 => .array .int
  | 28 => .int
  | 29 => .array .int
  | 30 => .array .int
  | 31 => .int
  | 32 => .int
  | 33 => .array .int
  | 34 => .array .int
  | 35 => .int
  | 36 => .array .int
  | 37 => .int
  | 38 => .int
  | _ => .int
abbrev wsX110 : List Cond := u_ws RX11 TX11 40
theorem nmX11 : ∀ a, a < 40 → ∀ b, b < 40 → a ≠ b → (TX11 a).2.1 ≠ (TX11 b).2.1 := by decide +kernel
theorem tyX11_ok : ∀ k, k < 40 → parseFieldDescriptor (TX11 k).2.2.1 = some (tyX11 k) := by decide +kernel
abbrev vwCl : List vw_C := [(RX0, TX0, 5), (RX1, TX1, 1), (RX2, TX2, 10), (RX3, TX3, 16), (RX4, TX4, 5), (RX5, TX5, 2), (RX6, TX6, 8), (RX7, TX7, 3), (RX8, TX8, 5), (RX9, TX9, 7), (RX10, TX10, 13), (RX11, TX11, 40)]

/-- of each class, in the order of its slots: is the field a reference -/
def zf : Nat → List Bool := fun c => match c with
  | 0 => [true, true, true, true, false]
  | 1 => [true]
  | 2 => [true, true, true, true, true, true, false, false, false, false]
  | 3 => [true, true, true, true, true, true, true, true, true, false, false, false, false, false, false, false]
  | 4 => [true, true, true, true, false]
  | 5 => [true, false]
  | 6 => [true, true, true, true, true, false, false, false]
  | 7 => [true, true, false]
  | 8 => [true, true, true, false, false]
  | 9 => [true, false, false, false, false, false, false]
  | 10 => [true, true, true, true, true, true, true, true, true, false, false, false, false]
  | 11 => [false, true, false, false, false, false, false, false, false, false, false, false, true, false, false, true, true, true, true, true, true, true, false, false, false, true, true, true, false, true, true, false, false, true, true, false, true, false, false, false]
  | _ => []
end
section
/-! A SIMPLE MACHINE over the kit's rows: the world of one object and all that it holds as two functions
(ints and references by cell and place), one judgement zK a method's instruction, whose last argument is a pure
Lean term that says what comes out. The rows here are proved once; each method is walked by them. -/
def zTT : List Cond := lw_tbl.filter goodWord
theorem zTT_in {i : Nat} {w : Cond} (h : lw_tbl[i]? = some w) (hg : goodWord w = true) : w ∈ zTT := List.mem_filter.mpr ⟨List.mem_of_getElem? h, hg⟩
theorem zTT_good {w : Cond} (h : w ∈ zTT) : (w.onTables && w.keeps) = true ∨ ∃ ty, w = .arrayClass ty := good_of_word (List.mem_filter.mp h).2
theorem zGood {w : Cond} (h : w ∈ zTT) : GoodIn zTT (w :: zTT) := fun v hv => by
  rcases List.mem_cons.mp hv with rfl | hv
  · exact ⟨h, zTT_good h⟩
  · exact ⟨hv, zTT_good hv⟩
/-- ints and references: by cell, by place -/
abbrev zS : Type := (Nat → Nat → Int32) × (Nat → Nat → Nat)
/-- a method: its name, its bytes, its locals, what it returns, its instructions -/
abbrev zM : Type := MethodName × ByteArray × Nat × Option FieldType × List (Nat × Instr × Nat)
/-- launch; classes; addresses of the cells; array classes; String constants and their bytes -/
abbrev zX : Type := Launch × va_G × (Nat → Nat) × (Nat → ClassId) × (Nat → Nat) × (Nat → Nat)
/-- how many cells; of each its kind: (class, 0), or (100 ints, 101 bytes, 103 pages; length) -/
abbrev zW : Type := Nat × (Nat → Nat × Nat)
def za (X : zX) (k : Nat) : Nat := if k < 1000 then X.2.2.1 k else X.2.2.2.2.1 (k - 1000)
def zv (X : zX) : Value → Value
  | .ref k => .ref (za X k)
  | v => v
theorem zv_cat (X : zX) (v : Value) : (zv X v).category = v.category := by cases v <;> rfl
def zfs (X : zX) (σ : zS) (a ci : Nat) : List Value := (zf ci).mapIdx (fun k b => if b = true then Value.ref (za X (σ.2 a k)) else .int (σ.1 a k))
def zE (X : zX) (σ : zS) (a : Nat) (g : Nat × Nat) : va_E :=
  if g.1 < 100 then .inr (g.1, zfs X σ a g.1)
  else if g.1 = 103 then .inl (X.2.2.2.1 3, g.2, .inr (.inr (.inr (.inr (fun j => some (za X (σ.2 a j)))))))
  else .inl (X.2.2.2.1 (g.1 - 100), g.2, .inl (fun j => σ.1 a j))
def zw (X : zX) (w : zW) (σ : zS) : va_W := (List.range w.1).map (fun a => (za X a, zE X σ a (w.2 a)))
def zt (X : zX) : List (ClassId × FieldType) := [(X.2.2.2.1 0, .int), (X.2.2.2.1 1, .byte), (X.2.2.2.1 3, .object "PostScripts$Page")]
def zA (X : zX) (w : zW) : Nat → Prop := fun q => ∃ a, a < w.1 ∧ q = za X a
def zOK (X : zX) (w : zW) : Prop := (∀ a b, a < w.1 → b < w.1 → za X a = za X b → a = b) ∧ (∀ a, w.1 ≤ a → w.2 a = (999, 0)) ∧ w.1 ≤ 1000
/-- an int, a reference put -/
def zpi (σ : zS) (a k : Nat) (v : Int32) : zS := (fun b j => if b = a ∧ j = k then v else σ.1 b j, σ.2)
def zpr (σ : zS) (a k : Nat) (v : Nat) : zS := (σ.1, fun b j => if b = a ∧ j = k then v else σ.2 b j)
theorem zw_get {X : zX} {w : zW} {σ : zS} {a : Nat} (h : a < w.1) : (zw X w σ)[a]? = some (za X a, zE X σ a (w.2 a)) := by
  simp [zw, h]
theorem zOK.lt {X : zX} {w : zW} (h : zOK X w) {a c n : Nat} (hg : w.2 a = (c, n)) (hc : c ≠ 999) : a < w.1 := by
  rcases Nat.lt_or_ge a w.1 with q | q
  · exact q
  · rw [h.2.1 a q] at hg
    cases hg
    exact absurd rfl hc
theorem zw_D {X : zX} {w : zW} {σ : zS} (h : zOK X w) : va_D (zA X w) (zw X w σ) := by
  have key : ∀ (i : Nat) (p : Nat × va_E), (zw X w σ)[i]? = some p → i < w.1 ∧ p.1 = za X i := by
    intro i p hp
    have hi : i < w.1 := by
      have := (List.getElem?_eq_some_iff.mp hp).1
      simpa [zw] using this
    rw [zw_get hi] at hp
    cases hp
    exact ⟨hi, rfl⟩
  refine ⟨fun i j p q hp hq e => ?_, fun k q hq => ?_⟩
  · obtain ⟨h1, h2⟩ := key i p hp
    obtain ⟨h3, h4⟩ := key j q hq
    exact h.1 i j h1 h3 (by rw [← h2, ← h4, e])
  · obtain ⟨h1, h2⟩ := key k q hq
    exact ⟨k, h1, h2⟩
theorem zE_ne {X : zX} {σ τ : zS} {b : Nat} {g : Nat × Nat} (h1 : ∀ j, σ.1 b j = τ.1 b j) (h2 : ∀ j, σ.2 b j = τ.2 b j) : zE X σ b g = zE X τ b g := by
  simp only [zE, zfs, h1, h2]
theorem zw_set {X : zX} {w : zW} {σ τ : zS} {a : Nat} {e : va_E} (ha : a < w.1) (he : e = zE X τ a (w.2 a)) (h1 : ∀ b, b ≠ a → ∀ j, τ.1 b j = σ.1 b j) (h2 : ∀ b, b ≠ a → ∀ j, τ.2 b j = σ.2 b j) : (zw X w σ).set a (za X a, e) = zw X w τ := by
  apply List.ext_getElem?
  intro i
  rw [List.getElem?_set]
  by_cases hi : a = i
  · subst hi
    have : a < (zw X w σ).length := by simpa [zw] using ha
    rw [if_pos rfl, if_pos this, zw_get ha, he]
  · rw [if_neg hi]
    by_cases hl : i < w.1
    · rw [zw_get hl, zw_get hl, zE_ne (fun j => h1 i (fun e => hi e.symm) j) (fun j => h2 i (fun e => hi e.symm) j)]
    · have e1 : ∀ τ' : zS, (zw X w τ')[i]? = none := fun τ' => by simp [zw]; omega
      rw [e1, e1]
theorem zfs_get {X : zX} {σ : zS} {a ci k : Nat} {b : Bool} (h : (zf ci)[k]? = some b) : (zfs X σ a ci)[k]? = some (if b = true then Value.ref (za X (σ.2 a k)) else .int (σ.1 a k)) := by
  simp [zfs, h]
theorem zfs_setI {X : zX} {σ : zS} {a ci k : Nat} {v : Int32} (h : (zf ci)[k]? = some false) : (zfs X σ a ci).set k (.int v) = zfs X (zpi σ a k v) a ci := by
  apply List.ext_getElem?
  intro i
  rw [List.getElem?_set]
  have hk : k < (zf ci).length := (List.getElem?_eq_some_iff.mp h).1
  by_cases hi : k = i
  · subst hi
    have : k < (zfs X σ a ci).length := by simpa [zfs] using hk
    rw [if_pos rfl, if_pos this, zfs_get h]
    simp [zpi]
  · rw [if_neg hi]
    simp only [zfs, List.getElem?_mapIdx, zpi]
    congr 1
    funext b
    have : ¬ (i = k) := fun e => hi e.symm
    simp [this]
theorem zfs_setR {X : zX} {σ : zS} {a ci k : Nat} {v : Nat} (h : (zf ci)[k]? = some true) : (zfs X σ a ci).set k (.ref (za X v)) = zfs X (zpr σ a k v) a ci := by
  apply List.ext_getElem?
  intro i
  rw [List.getElem?_set]
  have hk : k < (zf ci).length := (List.getElem?_eq_some_iff.mp h).1
  by_cases hi : k = i
  · subst hi
    have : k < (zfs X σ a ci).length := by simpa [zfs] using hk
    rw [if_pos rfl, if_pos this, zfs_get h]
    simp [zpr]
  · rw [if_neg hi]
    simp only [zfs, List.getElem?_mapIdx, zpr]
    congr 1
    funext b
    have : ¬ (i = k) := fun e => hi e.symm
    simp [this]
end
section
/-- the String constants: how long, their bytes; and where each class has them -/
def zlen : List Nat := [6, 5, 4, 4, 6, 5, 6, 4, 3, 3, 4, 4, 5, 2, 3, 6, 5, 4]
def zbyt : List (List Int32) := [[108, 101, 116, 116, 101, 114], [112, 108, 97, 99, 101], [111, 118, 101, 114], [104, 97, 110, 100], [109, 97, 116, 116, 101, 114], [119, 114, 111, 116, 101], [104, 105, 100, 100, 101, 110], [100, 111, 110, 101], [98, 105, 100], [119, 101, 116], [114, 97, 110, 107], [114, 111, 111, 109], [112, 117, 114, 115, 101], [100, 111], [110, 111, 116], [105, 110, 99, 104, 101, 115], [100, 111, 117, 98, 116], [112, 97, 121, 115]]
def zstr : List (String × Nat × String × Nat) := [("PostScripts$Reade\x72", 76, "lette\x72", 0), ("PostScripts$Reade\x72", 82, "place", 1), ("PostScripts$Reade\x72", 84, "ove\x72", 2), ("PostScripts$Reade\x72", 86, "hand", 3), ("PostScripts$Reade\x72", 88, "matte\x72", 4), ("PostScripts$Reade\x72", 90, "wrote", 5), ("PostScripts$Reade\x72", 92, "hidden", 6), ("PostScripts$Reade\x72", 94, "done", 7), ("PostScripts$Reade\x72", 96, "bid", 8), ("PostScripts$Reade\x72", 102, "wet", 9), ("PostScripts$Reade\x72", 142, "rank", 10), ("PostScripts$Reade\x72", 153, "room", 11), ("PostScripts$Reade\x72", 177, "purse", 12), ("PostScripts$Reade\x72", 227, "do", 13), ("PostScripts$Reade\x72", 229, "not", 14), ("PostScripts$Reade\x72", 197, "inches", 15), ("PostScripts$Reade\x72", 210, "doubt", 16), ("PostScripts$Reade\x72", 222, "pays", 17), ("PostScriptsModel", 134, "lette\x72", 0), ("PostScriptsModel", 231, "wet", 9), ("PostScriptsModel", 136, "place", 1), ("PostScriptsModel", 137, "ove\x72", 2), ("PostScriptsModel", 139, "hand", 3), ("PostScriptsModel", 141, "matte\x72", 4), ("PostScriptsModel", 143, "wrote", 5), ("PostScriptsModel", 145, "hidden", 6), ("PostScriptsModel", 147, "done", 7), ("PostScriptsModel", 149, "bid", 8), ("PostScriptsModel", 241, "rank", 10), ("PostScriptsModel", 243, "room", 11), ("PostScriptsModel", 248, "purse", 12), ("PostScriptsModel", 250, "do", 13), ("PostScriptsModel", 252, "not", 14), ("PostScriptsModel", 260, "inches", 15), ("PostScriptsModel", 270, "doubt", 16), ("PostScriptsModel", 272, "pays", 17)]
def znest : Cond := .methodLinkNest "PostScripts" 241 ⟨"PostScripts$Duel", "wonByOne", "(LPostScripts$Order;IIIZ)Z"⟩ "PostScripts"

/-- what else holds around every call: String constants, two statics of the JDK, the one nest mate's link -/
def zV (X : zX) (A : Nat → Prop) (U : State) (H : Heap) : Prop :=
  vk_S 18 zlen zbyt X.2.2.2.2.1 X.2.2.2.2.2 A U H ∧ (∀ q ∈ zstr, vk_R q.1 q.2.1 q.2.2.1 (X.2.2.2.2.1 q.2.2.2) U) ∧
  va_Z "java/lang/String" "COMPACT_STRINGS" "Z" (.int 1) A U H ∧ va_Zq "jdk/internal/util/Preconditions" "SIOOBE_FORMATTER" "Ljava/util/function/BiFunction;" A U H ∧ va_Nw znest U
theorem zV.warm {X : zX} {A : Nat → Prop} {s U : State} {H : Heap} (hW : s.WarmedH U.vm) (h : zV X A s H) : zV X A U H :=
  ⟨h.1.moved hW.alike, fun q hq => (h.2.1 q hq).warm hW, h.2.2.1.moved hW.alike, h.2.2.2.1.moved hW.alike, va_Nw.warmM hW h.2.2.2.2⟩
theorem zV.kept {X : zX} {A : Nat → Prop} {U : State} {H H1 : Heap} (h : zV X A U H) (hq : ∀ a : Nat, a < H.size → ¬ A a → H1[a]? = H[a]?) : zV X A U H1 :=
  ⟨h.1.kept hq, h.2.1, h.2.2.1.kept hq, h.2.2.2.1.kept hq, h.2.2.2.2⟩
/-- the world before and behind a call -/
def zB (X : zX) (w : zW) (σ : zS) (U : State) : Prop := va_P X.2.1 vwCl (zw X w σ) U.heap ∧ va_K X.2.1 vwCl (zt X) U ∧ zOK X w ∧ zV X (zA X w) U U.heap
def zQc (X : zX) (w : zW) (o : Option Value × zS) : Array Value → State → Outcome → State → Prop := fun _ st oc t => (oc = .returned (o.1.map (zv X)) ∧ zB X w o.2 t) ∧ va_F (zA X w) st t
def zrm (d : Nat) : Room := { frames := d, cells := 0, slots := 0, locals := 40 * d }
/-- a method's contract: called with vs in the world σ it comes back with o -/
def zCN (X : zX) (w : zW) (d : Nat) (M : zM) (vs : List Value) (σ : zS) (o : Option Value × zS) : Prop :=
  Met X.1 M.1 (Cond.code M.1 M.2.1 M.2.2.1 M.2.2.2.1 :: zTT) (zrm d) (va_Pc (vs.map (zv X)) (zB X w σ)) (zQc X w o) 0 0 (zA X w)
def zT (M : zM) : Prop := ∀ (i : Nat) (q : Nat × Instr × Nat), M.2.2.2.2[i]? = some q → decode M.2.1 q.1 = .ok q.2
def zC (X : zX) (w : zW) (M : zM) (p : Program) (s : State) (m : MethodId) (args : Array Value) (meth : Method) (c : Code) : Prop :=
  p.tables.exec = Jvm.exec ∧ c.code = M.2.1 ∧ c.maxLocals = M.2.2.1 ∧ meth.sig.returnType = M.2.2.2.1 ∧ meth.locks = false ∧ s.vm.findClass M.1.cls = some m.cls ∧
  (∀ w ∈ zTT, w.before args s = true) ∧ va_K X.2.1 vwCl (zt X) s ∧ zOK X w ∧ zV X (zA X w) s s.heap ∧ zT M
theorem zC.hx {X : zX} {w : zW} {M : zM} {p : Program} {s : State} {m : MethodId} {args : Array Value} {meth : Method} {c : Code} (C : zC X w M p s m args meth c) : p.tables.exec = Jvm.exec := C.1
theorem zC.hb {X : zX} {w : zW} {M : zM} {p : Program} {s : State} {m : MethodId} {args : Array Value} {meth : Method} {c : Code} (C : zC X w M p s m args meth c) : c.code = M.2.1 := C.2.1
theorem zC.hml {X : zX} {w : zW} {M : zM} {p : Program} {s : State} {m : MethodId} {args : Array Value} {meth : Method} {c : Code} (C : zC X w M p s m args meth c) : c.maxLocals = M.2.2.1 := C.2.2.1
theorem zC.hr {X : zX} {w : zW} {M : zM} {p : Program} {s : State} {m : MethodId} {args : Array Value} {meth : Method} {c : Code} (C : zC X w M p s m args meth c) : meth.sig.returnType = M.2.2.2.1 := C.2.2.2.1
theorem zC.hlk {X : zX} {w : zW} {M : zM} {p : Program} {s : State} {m : MethodId} {args : Array Value} {meth : Method} {c : Code} (C : zC X w M p s m args meth c) : meth.locks = false := C.2.2.2.2.1
theorem zC.hown {X : zX} {w : zW} {M : zM} {p : Program} {s : State} {m : MethodId} {args : Array Value} {meth : Method} {c : Code} (C : zC X w M p s m args meth c) : s.vm.findClass M.1.cls = some m.cls := C.2.2.2.2.2.1
theorem zC.hts {X : zX} {w : zW} {M : zM} {p : Program} {s : State} {m : MethodId} {args : Array Value} {meth : Method} {c : Code} (C : zC X w M p s m args meth c) : ∀ w ∈ zTT, w.before args s = true := C.2.2.2.2.2.2.1
theorem zC.hK {X : zX} {w : zW} {M : zM} {p : Program} {s : State} {m : MethodId} {args : Array Value} {meth : Method} {c : Code} (C : zC X w M p s m args meth c) : va_K X.2.1 vwCl (zt X) s := C.2.2.2.2.2.2.2.1
theorem zC.ok {X : zX} {w : zW} {M : zM} {p : Program} {s : State} {m : MethodId} {args : Array Value} {meth : Method} {c : Code} (C : zC X w M p s m args meth c) : zOK X w := C.2.2.2.2.2.2.2.2.1
theorem zC.hV {X : zX} {w : zW} {M : zM} {p : Program} {s : State} {m : MethodId} {args : Array Value} {meth : Method} {c : Code} (C : zC X w M p s m args meth c) : zV X (zA X w) s s.heap := C.2.2.2.2.2.2.2.2.2.1
theorem zC.dec {X : zX} {w : zW} {M : zM} {p : Program} {s : State} {m : MethodId} {args : Array Value} {meth : Method} {c : Code} (C : zC X w M p s m args meth c) {i pc n : Nat} {g : Instr} (h : M.2.2.2.2[i]? = some (pc, g, n)) : decode M.2.1 pc = .ok (g, n) := C.2.2.2.2.2.2.2.2.2.2 i (pc, g, n) h
/-- the locals -/
def zl (ls : Array Slot) (L : List (Option Value)) : Prop := ls.size = L.length ∧ lv_wf ls ∧ ∀ (i : Nat) (v : Value), L[i]? = some (some v) → ls[i]? = some (.val v)
abbrev zZt : Type := List Frame → Array Value → State → State → Prop
/-- the machine stands at pc, with these locals and this stack, in the world σ: it comes to Z -/
def zG (X : zX) (w : zW) (R : Room) (M : zM) (Z : zZt) (pc : Nat) (L : List (Option Value)) (st : List Value) (σ : zS) : Prop :=
  ∀ (p : Program) (e : Env) (s : State) (m : MethodId) (args : Array Value) (below : List Frame) (meth : Method) (c : Code), zC X w M p s m args meth c →
  ∀ (H : Heap) (locs : List Loc) (ls : Array Slot), va_P X.2.1 vwCl (zw X w σ) H → va_S (zA X w) s.heap H locs → zl ls (L.map (Option.map (zv X))) →
  W p X.1 e R s m args below meth c H locs 0 0 (Z below args s) (F0 m pc ls (st.map (zv X)))
/-- .. if k comes to something, then to that -/
def zK {ρ : Type} (X : zX) (w : zW) (R : Room) (M : zM) (Z : ρ → zS → zZt) (pc : Nat) (L : List (Option Value)) (st : List Value) (σ : zS) (k : Option (ρ × zS)) : Prop :=
  ∀ (r : ρ) (σ' : zS), k = some (r, σ') → zG X w R M (Z r σ') pc L st σ
/-- the pieces of the pure terms -/
def zck {α : Type} (c : Prop) [Decidable c] (k : Option α) : Option α := if c then k else none
def zbr {α : Type} (c : Prop) [Decidable c] (k1 k2 : Option α) : Option α := if c then k1 else k2
def zlt {α β : Type} (v : β) (k : β → Option α) : Option α := k v
def zbd {α β : Type} (f : Option (β × zS)) (k : β → zS → Option α) : Option α := match f with
  | none => none
  | some q => k q.1 q.2
abbrev zb (v : Int32) : Prop := v = 0 ∨ v = 1
/-- the place is in the row, and the row is of that sort -/
abbrev zok (s : Nat) (g : Nat × Nat) (i : Int32) : Prop := g.1 = s ∧ 0 ≤ i.toInt ∧ i.toInt < g.2
def zZ {ρ : Type} (X : zX) (w : zW) (em : ρ → Option Value) : ρ → zS → zZt := fun r σ' below args s => MQ below (zQc X w (em r, σ')) args s 0 0 (zA X w)
def zeI (r : Int32) : Option Value := some (.int r)
def zeL (r : Int64) : Option Value := some (.long r)
def zeV (_ : Unit) : Option Value := none
end
section
section ZR
variable {X : zX} {w : zW} {R : Room} {M : zM} {ρ : Type} {Z : ρ → zS → zZt} {pc : Nat} {L : List (Option Value)} {st : List Value} {σ : zS} {k : Option (ρ × zS)}
theorem z_ck {c : Prop} [Decidable c] (h : c → zK X w R M Z pc L st σ k) : zK X w R M Z pc L st σ (zck c k) := by
  intro r σ' hk
  unfold zck at hk
  by_cases hc : c
  · rw [if_pos hc] at hk
    exact h hc r σ' hk
  · rw [if_neg hc] at hk
    cases hk
theorem z_br {c : Prop} [Decidable c] {k1 k2 : Option (ρ × zS)} (h1 : c → zK X w R M Z pc L st σ k1) (h2 : ¬ c → zK X w R M Z pc L st σ k2) : zK X w R M Z pc L st σ (zbr c k1 k2) := by
  intro r σ' hk
  unfold zbr at hk
  by_cases hc : c
  · rw [if_pos hc] at hk
    exact h1 hc r σ' hk
  · rw [if_neg hc] at hk
    exact h2 hc r σ' hk
theorem z_none : zK X w R M Z pc L st σ none := fun r σ' hk => by cases hk
/-- fewer locals -/
def zle (L' L : List (Option Value)) : Prop := L'.length = L.length ∧ ∀ (i : Nat) (v : Value), L'[i]? = some (some v) → L[i]? = some (some v)
theorem zle_0 : zle [] [] := ⟨rfl, fun i v h => by simp at h⟩
theorem zle_n {l : Option Value} {L' L : List (Option Value)} (h : zle L' L) : zle (none :: L') (l :: L) := ⟨by simp [h.1], fun i v hi => by
  cases i with
  | zero => simp at hi
  | succ i => exact h.2 i v (by simpa using hi)⟩
theorem zle_e {l : Option Value} {L' L : List (Option Value)} (h : zle L' L) : zle (l :: L') (l :: L) := ⟨by simp [h.1], fun i v hi => by
  cases i with
  | zero => simpa using hi
  | succ i => exact h.2 i v (by simpa using hi)⟩
theorem zl_map {L : List (Option Value)} {i : Nat} {v : Value} (h : (L.map (Option.map (zv X)))[i]? = some (some v)) : ∃ u, L[i]? = some (some u) ∧ v = zv X u := by
  rw [List.getElem?_map] at h
  cases hL : L[i]? with
  | none => rw [hL] at h; cases h
  | some l =>
    cases l with
    | none => rw [hL] at h; cases h
    | some u => rw [hL] at h; cases h; exact ⟨u, rfl, rfl⟩
theorem zl_map' {L : List (Option Value)} {i : Nat} {u : Value} (h : L[i]? = some (some u)) : (L.map (Option.map (zv X)))[i]? = some (some (zv X u)) := by
  rw [List.getElem?_map, h]; rfl
theorem z_wk {L' : List (Option Value)} (hL : zle L' L) (h : zK X w R M Z pc L' st σ k) : zK X w R M Z pc L st σ k := by
  intro r σ' hk p e s m args below meth c C H locs ls hP hS hl
  refine h r σ' hk p e s m args below meth c C H locs ls hP hS ⟨by rw [hl.1]; simp [hL.1], hl.2.1, fun i v hi => ?_⟩
  obtain ⟨u, h1, rfl⟩ := zl_map hi
  exact hl.2.2 i _ (zl_map' (hL.2 i u h1))
theorem zl_at {ls : Array Slot} (hl : zl ls (L.map (Option.map (zv X)))) {i : Nat} {v : Value} (h : L[i]? = some (some v)) : ls[i]? = some (.val (zv X v)) := hl.2.2 i _ (zl_map' h)
def zprs (L : List (Option Value)) : List (Nat × Value) := (List.range L.length).filterMap (fun i => match L[i]? with | some (some v) => some (i, v) | _ => none)
theorem zprs_mem {L : List (Option Value)} {i : Nat} {v : Value} : (i, v) ∈ zprs L ↔ L[i]? = some (some v) := by
  unfold zprs
  rw [List.mem_filterMap]
  constructor
  · rintro ⟨j, hj, h⟩
    split at h
    · next u hu => cases h; exact hu
    · cases h
  · intro h
    refine ⟨i, List.mem_range.mpr (List.getElem?_eq_some_iff.mp h).1, ?_⟩
    rw [h]
theorem zl_has {ls : Array Slot} {L : List (Option Value)} (h : zl ls L) : lv_has ls L.length (zprs L) := ⟨h.1, h.2.1, fun q hq => h.2.2 q.1 q.2 (zprs_mem.mp hq)⟩
theorem zl_of {ls : Array Slot} {L : List (Option Value)} {n : Nat} {l : List (Nat × Value)} (h : lv_has ls n l) (hn : n = L.length) (hm : ∀ i v, L[i]? = some (some v) → (i, v) ∈ l) : zl ls L := ⟨by rw [← hn]; exact h.1, h.2.1, fun i v hi => h.2.2 (i, v) (hm i v hi)⟩
/-- not a long -/
def zn : Option Value → Bool
  | some (.long _) => false
  | some (.double _) => false
  | _ => true
theorem zn_cat {v : Value} (h : zn (some v) = true) : (v.category == 2) = false := by cases v <;> first | rfl | (cases h)
def zn1 (L : List (Option Value)) (j : Nat) : Bool := match j with
  | 0 => true
  | i + 1 => zn (L.getD i none)
theorem zset1 {ls : Array Slot} {j : Nat} {v : Value} (hp : zn1 L j = true) (h : lv_has ls (L.map (Option.map (zv X))).length ((j, zv X v) :: (zprs (L.map (Option.map (zv X)))).filter (fun q => !(q.1 == j) && !(q.1 + 1 == j && q.2.category == 2)))) : zl ls ((L.set j (some v)).map (Option.map (zv X))) := by
  refine zl_of h (by simp) (fun i u hi => ?_)
  obtain ⟨u, h1, rfl⟩ := zl_map hi
  rw [List.getElem?_set] at h1
  by_cases hj : j = i
  · subst hj
    rw [if_pos rfl] at h1
    split at h1
    · cases h1; exact List.mem_cons_self
    · cases h1
  · rw [if_neg hj] at h1
    refine List.mem_cons_of_mem _ (List.mem_filter.mpr ⟨zprs_mem.mpr (zl_map' h1), ?_⟩)
    have e1 : (i == j) = false := by simpa using fun e => hj e.symm
    by_cases hi2 : i + 1 = j
    · subst hi2
      have : zn (some u) = true := by
        have h2 : zn1 L (i + 1) = zn (L.getD i none) := rfl
        rw [h2] at hp
        rw [List.getD_eq_getElem?_getD, h1] at hp
        exact hp
      simp only [zv_cat, zn_cat this]
      simp [e1]
    · have e2 : (i + 1 == j) = false := by simpa using hi2
      simp [e1, e2]
theorem zset2 {ls : Array Slot} {j : Nat} {v : Value} (hp : zn1 L j = true) (h : lv_has ls (L.map (Option.map (zv X))).length ((j, zv X v) :: (zprs (L.map (Option.map (zv X)))).filter (fun q => !(q.1 == j) && (!(q.1 == j + 1) && !(q.1 + 1 == j && q.2.category == 2))))) : zl ls (((L.set j (some v)).set (j + 1) none).map (Option.map (zv X))) := by
  refine zl_of h (by simp) (fun i u hi => ?_)
  obtain ⟨u, h1, rfl⟩ := zl_map hi
  rw [List.getElem?_set] at h1
  by_cases hj1 : j + 1 = i
  · rw [if_pos hj1] at h1
    split at h1 <;> cases h1
  · rw [if_neg hj1, List.getElem?_set] at h1
    by_cases hj : j = i
    · subst hj
      rw [if_pos rfl] at h1
      split at h1
      · cases h1; exact List.mem_cons_self
      · cases h1
    · rw [if_neg hj] at h1
      refine List.mem_cons_of_mem _ (List.mem_filter.mpr ⟨zprs_mem.mpr (zl_map' h1), ?_⟩)
      have e1 : (i == j) = false := by simpa using fun e => hj e.symm
      have e3 : (i == j + 1) = false := by simpa using fun e => hj1 e.symm
      by_cases hi2 : i + 1 = j
      · subst hi2
        have : zn (some u) = true := by
          have h2 : zn1 L (i + 1) = zn (L.getD i none) := rfl
          rw [h2] at hp
          rw [List.getD_eq_getElem?_getD, h1] at hp
          exact hp
        simp only [zv_cat, zn_cat this]
        simp [e1]
        first | done | omega
      · have e2 : (i + 1 == j) = false := by simpa using hi2
        simp [e1, e2, e3]

theorem z_iconst (i n : Nat) {a : Int} {v : Int32} (hd : M.2.2.2.2[i]? = some (pc, .iconst a, 1)) (hn : pc + 1 = n) (hv : Int32.ofInt a = v) (h : zK X w R M Z n L (.int v :: st) σ k) : zK X w R M Z pc L st σ k := by
  subst hn
  intro r σ' hk p e s m args below meth c C H locs ls hP hS hl
  exact lv_iconst C.hx C.hb (C.dec hd) hv (h r σ' hk p e s m args below meth c C H locs ls hP hS hl)
theorem z_bipush (i n : Nat) {a : Int} {v : Int32} (hd : M.2.2.2.2[i]? = some (pc, .bipush a, 2)) (hn : pc + 2 = n) (hv : (Int8.ofInt a).toInt32 = v) (h : zK X w R M Z n L (.int v :: st) σ k) : zK X w R M Z pc L st σ k := by
  subst hn
  intro r σ' hk p e s m args below meth c C H locs ls hP hS hl
  exact lv_bipush C.hx C.hb (C.dec hd) hv (h r σ' hk p e s m args below meth c C H locs ls hP hS hl)
theorem z_sipush (i n : Nat) {a : Int} {v : Int32} (hd : M.2.2.2.2[i]? = some (pc, .sipush a, 3)) (hn : pc + 3 = n) (hv : (Int16.ofInt a).toInt32 = v) (h : zK X w R M Z n L (.int v :: st) σ k) : zK X w R M Z pc L st σ k := by
  subst hn
  intro r σ' hk p e s m args below meth c C H locs ls hP hS hl
  exact lv_sipush C.hx C.hb (C.dec hd) hv (h r σ' hk p e s m args below meth c C H locs ls hP hS hl)
theorem z_lconst (i n : Nat) {a : Fin 2} {v : Int64} (hd : M.2.2.2.2[i]? = some (pc, .lconst a, 1)) (hn : pc + 1 = n) (hv : Int64.ofNat (a : Nat) = v) (h : zK X w R M Z n L (.long v :: st) σ k) : zK X w R M Z pc L st σ k := by
  subst hn
  intro r σ' hk p e s m args below meth c C H locs ls hP hS hl
  exact lv_lconst C.hx C.hb (C.dec hd) hv (h r σ' hk p e s m args below meth c C H locs ls hP hS hl)
theorem z_ldcI (i n : Nat) {a : Nat} {v : Int32} (hd : M.2.2.2.2[i]? = some (pc, .ldc a, 2)) (hn : pc + 2 = n) (hv : Cond.constant M.1.cls a v ∈ zTT) (h : zK X w R M Z n L (.int v :: st) σ k) : zK X w R M Z pc L st σ k := by
  subst hn
  intro r σ' hk p e s m args below meth c C H locs ls hP hS hl
  exact lv_ldc C.hx C.hb C.hown (C.hts _ hv) (C.dec hd) (h r σ' hk p e s m args below meth c C H locs ls hP hS hl)
theorem z_ldcwI (i n : Nat) {a : Nat} {v : Int32} (hd : M.2.2.2.2[i]? = some (pc, .ldc_w a, 3)) (hn : pc + 3 = n) (hv : Cond.constant M.1.cls a v ∈ zTT) (h : zK X w R M Z n L (.int v :: st) σ k) : zK X w R M Z pc L st σ k := by
  subst hn
  intro r σ' hk p e s m args below meth c C H locs ls hP hS hl
  exact lv_ldcw C.hx C.hb C.hown (C.hts _ hv) (C.dec hd) (h r σ' hk p e s m args below meth c C H locs ls hP hS hl)
theorem z_ldc2 (i n : Nat) {a : Nat} {v : Int64} (hd : M.2.2.2.2[i]? = some (pc, .ldc2_w a, 3)) (hn : pc + 3 = n) (hv : Cond.constantLong M.1.cls a v ∈ zTT) (h : zK X w R M Z n L (.long v :: st) σ k) : zK X w R M Z pc L st σ k := by
  subst hn
  intro r σ' hk p e s m args below meth c C H locs ls hP hS hl
  exact lv_ldc2 C.hx C.hb C.hown (C.hts _ hv) (C.dec hd) (h r σ' hk p e s m args below meth c C H locs ls hP hS hl)
theorem z_ldcS (i n j : Nat) {a : Nat} {tx : String} (hd : M.2.2.2.2[i]? = some (pc, .ldc a, 2)) (hn : pc + 2 = n) (hv : (M.1.cls, a, tx, j) ∈ zstr) (h : zK X w R M Z n L (.ref (1000 + j) :: st) σ k) : zK X w R M Z pc L st σ k := by
  subst hn
  intro r σ' hk p e s m args below meth c C H locs ls hP hS hl
  have e1 : zv X (.ref (1000 + j)) = .ref (X.2.2.2.2.1 j) := by
    show Value.ref (za X (1000 + j)) = _
    unfold za
    rw [if_neg (by omega), Nat.add_sub_cancel_left]
  have h1 := h r σ' hk p e s m args below meth c C H locs ls hP hS hl
  rw [List.map_cons, e1] at h1
  exact va_ldcS C.hx C.hb C.hown (C.hV.2.1 _ hv) (C.dec hd) h1
theorem z_iadd (i n : Nat) {x y : Int32} (hd : M.2.2.2.2[i]? = some (pc, .iadd, 1)) (hn : pc + 1 = n) (h : zK X w R M Z n L (.int (x + y) :: st) σ k) : zK X w R M Z pc L (.int y :: .int x :: st) σ k := by
  subst hn
  intro r σ' hk p e s m args below meth c C H locs ls hP hS hl
  exact lv_iadd C.hx C.hb (C.dec hd) (h r σ' hk p e s m args below meth c C H locs ls hP hS hl)
theorem z_isub (i n : Nat) {x y : Int32} (hd : M.2.2.2.2[i]? = some (pc, .isub, 1)) (hn : pc + 1 = n) (h : zK X w R M Z n L (.int (x - y) :: st) σ k) : zK X w R M Z pc L (.int y :: .int x :: st) σ k := by
  subst hn
  intro r σ' hk p e s m args below meth c C H locs ls hP hS hl
  exact lv_isub C.hx C.hb (C.dec hd) (h r σ' hk p e s m args below meth c C H locs ls hP hS hl)
theorem z_imul (i n : Nat) {x y : Int32} (hd : M.2.2.2.2[i]? = some (pc, .imul, 1)) (hn : pc + 1 = n) (h : zK X w R M Z n L (.int (x * y) :: st) σ k) : zK X w R M Z pc L (.int y :: .int x :: st) σ k := by
  subst hn
  intro r σ' hk p e s m args below meth c C H locs ls hP hS hl
  exact lv_imul C.hx C.hb (C.dec hd) (h r σ' hk p e s m args below meth c C H locs ls hP hS hl)
theorem z_iand (i n : Nat) {x y : Int32} (hd : M.2.2.2.2[i]? = some (pc, .iand, 1)) (hn : pc + 1 = n) (h : zK X w R M Z n L (.int (x &&& y) :: st) σ k) : zK X w R M Z pc L (.int y :: .int x :: st) σ k := by
  subst hn
  intro r σ' hk p e s m args below meth c C H locs ls hP hS hl
  exact lv_iand C.hx C.hb (C.dec hd) (h r σ' hk p e s m args below meth c C H locs ls hP hS hl)
theorem z_ior (i n : Nat) {x y : Int32} (hd : M.2.2.2.2[i]? = some (pc, .ior, 1)) (hn : pc + 1 = n) (h : zK X w R M Z n L (.int (x ||| y) :: st) σ k) : zK X w R M Z pc L (.int y :: .int x :: st) σ k := by
  subst hn
  intro r σ' hk p e s m args below meth c C H locs ls hP hS hl
  exact lv_ior C.hx C.hb (C.dec hd) (h r σ' hk p e s m args below meth c C H locs ls hP hS hl)
theorem z_ixor (i n : Nat) {x y : Int32} (hd : M.2.2.2.2[i]? = some (pc, .ixor, 1)) (hn : pc + 1 = n) (h : zK X w R M Z n L (.int (x ^^^ y) :: st) σ k) : zK X w R M Z pc L (.int y :: .int x :: st) σ k := by
  subst hn
  intro r σ' hk p e s m args below meth c C H locs ls hP hS hl
  exact lv_ixor C.hx C.hb (C.dec hd) (h r σ' hk p e s m args below meth c C H locs ls hP hS hl)
theorem z_ishl (i n : Nat) {x y : Int32} (hd : M.2.2.2.2[i]? = some (pc, .ishl, 1)) (hn : pc + 1 = n) (h : zK X w R M Z n L (.int (x <<< (y &&& 31)) :: st) σ k) : zK X w R M Z pc L (.int y :: .int x :: st) σ k := by
  subst hn
  intro r σ' hk p e s m args below meth c C H locs ls hP hS hl
  exact lv_ishl C.hx C.hb (C.dec hd) (h r σ' hk p e s m args below meth c C H locs ls hP hS hl)
theorem z_ishr (i n : Nat) {x y : Int32} (hd : M.2.2.2.2[i]? = some (pc, .ishr, 1)) (hn : pc + 1 = n) (h : zK X w R M Z n L (.int (x >>> (y &&& 31)) :: st) σ k) : zK X w R M Z pc L (.int y :: .int x :: st) σ k := by
  subst hn
  intro r σ' hk p e s m args below meth c C H locs ls hP hS hl
  exact lv_ishr C.hx C.hb (C.dec hd) (h r σ' hk p e s m args below meth c C H locs ls hP hS hl)
theorem z_iushr (i n : Nat) {x y : Int32} (hd : M.2.2.2.2[i]? = some (pc, .iushr, 1)) (hn : pc + 1 = n) (h : zK X w R M Z n L (.int ((x.toUInt32 >>> (y.toUInt32 &&& Int32.toUInt32 31)).toInt32) :: st) σ k) : zK X w R M Z pc L (.int y :: .int x :: st) σ k := by
  subst hn
  intro r σ' hk p e s m args below meth c C H locs ls hP hS hl
  exact lv_iushr C.hx C.hb (C.dec hd) rfl (h r σ' hk p e s m args below meth c C H locs ls hP hS hl)
theorem z_idiv (i n : Nat) {x y : Int32} (hd : M.2.2.2.2[i]? = some (pc, .idiv, 1)) (hn : pc + 1 = n) (h0 : ¬ y = 0) (h : zK X w R M Z n L (.int (x / y) :: st) σ k) : zK X w R M Z pc L (.int y :: .int x :: st) σ k := by
  subst hn
  intro r σ' hk p e s m args below meth c C H locs ls hP hS hl
  exact lv_idiv C.hx C.hb (C.dec hd) h0 (h r σ' hk p e s m args below meth c C H locs ls hP hS hl)
theorem z_irem (i n : Nat) {x y : Int32} (hd : M.2.2.2.2[i]? = some (pc, .irem, 1)) (hn : pc + 1 = n) (h0 : ¬ y = 0) (h : zK X w R M Z n L (.int (x - x / y * y) :: st) σ k) : zK X w R M Z pc L (.int y :: .int x :: st) σ k := by
  subst hn
  intro r σ' hk p e s m args below meth c C H locs ls hP hS hl
  exact lv_irem C.hx C.hb (C.dec hd) h0 (h r σ' hk p e s m args below meth c C H locs ls hP hS hl)
theorem z_ladd (i n : Nat) {x y : Int64} (hd : M.2.2.2.2[i]? = some (pc, .ladd, 1)) (hn : pc + 1 = n) (h : zK X w R M Z n L (.long (x + y) :: st) σ k) : zK X w R M Z pc L (.long y :: .long x :: st) σ k := by
  subst hn
  intro r σ' hk p e s m args below meth c C H locs ls hP hS hl
  exact lv_ladd C.hx C.hb (C.dec hd) (h r σ' hk p e s m args below meth c C H locs ls hP hS hl)
theorem z_lmul (i n : Nat) {x y : Int64} (hd : M.2.2.2.2[i]? = some (pc, .lmul, 1)) (hn : pc + 1 = n) (h : zK X w R M Z n L (.long (x * y) :: st) σ k) : zK X w R M Z pc L (.long y :: .long x :: st) σ k := by
  subst hn
  intro r σ' hk p e s m args below meth c C H locs ls hP hS hl
  exact lv_lmul C.hx C.hb (C.dec hd) (h r σ' hk p e s m args below meth c C H locs ls hP hS hl)
theorem z_ldiv (i n : Nat) {x y : Int64} (hd : M.2.2.2.2[i]? = some (pc, .ldiv, 1)) (hn : pc + 1 = n) (h0 : ¬ y = 0) (h : zK X w R M Z n L (.long (x / y) :: st) σ k) : zK X w R M Z pc L (.long y :: .long x :: st) σ k := by
  subst hn
  intro r σ' hk p e s m args below meth c C H locs ls hP hS hl
  exact lv_ldiv C.hx C.hb (C.dec hd) h0 (h r σ' hk p e s m args below meth c C H locs ls hP hS hl)
theorem z_lrem (i n : Nat) {x y : Int64} (hd : M.2.2.2.2[i]? = some (pc, .lrem, 1)) (hn : pc + 1 = n) (h0 : ¬ y = 0) (h : zK X w R M Z n L (.long (x - x / y * y) :: st) σ k) : zK X w R M Z pc L (.long y :: .long x :: st) σ k := by
  subst hn
  intro r σ' hk p e s m args below meth c C H locs ls hP hS hl
  exact lv_lrem C.hx C.hb (C.dec hd) h0 (h r σ' hk p e s m args below meth c C H locs ls hP hS hl)
theorem z_lcmp (i n : Nat) {x y : Int64} (hd : M.2.2.2.2[i]? = some (pc, .lcmp, 1)) (hn : pc + 1 = n) (h : zK X w R M Z n L (.int (lg_cmp x y) :: st) σ k) : zK X w R M Z pc L (.long y :: .long x :: st) σ k := by
  subst hn
  intro r σ' hk p e s m args below meth c C H locs ls hP hS hl
  exact W.lcmp C.hx C.hb (C.dec hd) (h r σ' hk p e s m args below meth c C H locs ls hP hS hl)
theorem z_i2l (i n : Nat) {x : Int32} (hd : M.2.2.2.2[i]? = some (pc, .i2l, 1)) (hn : pc + 1 = n) (h : zK X w R M Z n L (.long x.toInt64 :: st) σ k) : zK X w R M Z pc L (.int x :: st) σ k := by
  subst hn
  intro r σ' hk p e s m args below meth c C H locs ls hP hS hl
  exact lv_i2l C.hx C.hb (C.dec hd) rfl (h r σ' hk p e s m args below meth c C H locs ls hP hS hl)
theorem z_i2b (i n : Nat) {x : Int32} (hd : M.2.2.2.2[i]? = some (pc, .i2b, 1)) (hn : pc + 1 = n) (h : zK X w R M Z n L (.int x.toInt8.toInt32 :: st) σ k) : zK X w R M Z pc L (.int x :: st) σ k := by
  subst hn
  intro r σ' hk p e s m args below meth c C H locs ls hP hS hl
  exact lv_i2b C.hx C.hb (C.dec hd) rfl (h r σ' hk p e s m args below meth c C H locs ls hP hS hl)
theorem z_dup (i n : Nat) {v : Value} (hd : M.2.2.2.2[i]? = some (pc, .dup, 1)) (hn : pc + 1 = n) (hv : v.category = 1) (h : zK X w R M Z n L (v :: v :: st) σ k) : zK X w R M Z pc L (v :: st) σ k := by
  subst hn
  intro r σ' hk p e s m args below meth c C H locs ls hP hS hl
  exact lv_dup C.hx C.hb (C.dec hd) ((zv_cat X v).trans hv) (h r σ' hk p e s m args below meth c C H locs ls hP hS hl)
theorem z_pop (i n : Nat) {v : Value} (hd : M.2.2.2.2[i]? = some (pc, .pop, 1)) (hn : pc + 1 = n) (hv : v.category = 1) (h : zK X w R M Z n L st σ k) : zK X w R M Z pc L (v :: st) σ k := by
  subst hn
  intro r σ' hk p e s m args below meth c C H locs ls hP hS hl
  exact lv_pop C.hx C.hb (C.dec hd) ((zv_cat X v).trans hv) (h r σ' hk p e s m args below meth c C H locs ls hP hS hl)
theorem z_dup2 (i n : Nat) {v u : Value} (hd : M.2.2.2.2[i]? = some (pc, .dup2, 1)) (hn : pc + 1 = n) (hv : v.category = 1) (hu : u.category = 1) (h : zK X w R M Z n L (v :: u :: v :: u :: st) σ k) : zK X w R M Z pc L (v :: u :: st) σ k := by
  subst hn
  intro r σ' hk p e s m args below meth c C H locs ls hP hS hl
  exact lv_dup2_11 C.hx C.hb (C.dec hd) ((zv_cat X v).trans hv) ((zv_cat X u).trans hu) (h r σ' hk p e s m args below meth c C H locs ls hP hS hl)
theorem z_goto (i n : Nat) {a : Int} (hd : M.2.2.2.2[i]? = some (pc, .goto a, 3)) (hn : (pc : Int) + a = (n : Int)) (h : zK X w R M Z n L st σ k) : zK X w R M Z pc L st σ k := by
  intro r σ' hk p e s m args below meth c C H locs ls hP hS hl
  exact lv_goto C.hx C.hb (C.dec hd) hn (h r σ' hk p e s m args below meth c C H locs ls hP hS hl)
theorem z_if_eq (i n t : Nat) {x : Int32} {a : Int} {k1 k2 : Option (ρ × zS)} (hd : M.2.2.2.2[i]? = some (pc, .ifCond .eq a, 3)) (hn : pc + 3 = n) (ht : (pc : Int) + a = (t : Int)) (h1 : zK X w R M Z t L st σ k1) (h2 : zK X w R M Z n L st σ k2) : zK X w R M Z pc L (.int x :: st) σ (zbr (x = 0) k1 k2) := by
  subst hn
  intro r σ' hk p e s m args below meth c C H locs ls hP hS hl
  unfold zbr at hk
  refine lv_if_eq C.hx C.hb (C.dec hd) ht (fun hc => ?_) (fun hc => ?_)
  · rw [if_pos hc] at hk
    exact h1 r σ' hk p e s m args below meth c C H locs ls hP hS hl
  · rw [if_neg hc] at hk
    exact h2 r σ' hk p e s m args below meth c C H locs ls hP hS hl
theorem z_if_ne (i n t : Nat) {x : Int32} {a : Int} {k1 k2 : Option (ρ × zS)} (hd : M.2.2.2.2[i]? = some (pc, .ifCond .ne a, 3)) (hn : pc + 3 = n) (ht : (pc : Int) + a = (t : Int)) (h1 : zK X w R M Z n L st σ k1) (h2 : zK X w R M Z t L st σ k2) : zK X w R M Z pc L (.int x :: st) σ (zbr (x = 0) k1 k2) := by
  subst hn
  intro r σ' hk p e s m args below meth c C H locs ls hP hS hl
  unfold zbr at hk
  refine lv_if_ne C.hx C.hb (C.dec hd) ht (fun hc => ?_) (fun hc => ?_)
  · rw [if_neg hc] at hk
    exact h2 r σ' hk p e s m args below meth c C H locs ls hP hS hl
  · rw [if_pos hc] at hk
    exact h1 r σ' hk p e s m args below meth c C H locs ls hP hS hl
theorem z_if_lt (i n t : Nat) {x : Int32} {a : Int} {k1 k2 : Option (ρ × zS)} (hd : M.2.2.2.2[i]? = some (pc, .ifCond .lt a, 3)) (hn : pc + 3 = n) (ht : (pc : Int) + a = (t : Int)) (h1 : zK X w R M Z t L st σ k1) (h2 : zK X w R M Z n L st σ k2) : zK X w R M Z pc L (.int x :: st) σ (zbr (x < 0) k1 k2) := by
  subst hn
  intro r σ' hk p e s m args below meth c C H locs ls hP hS hl
  unfold zbr at hk
  refine lv_if_lt C.hx C.hb (C.dec hd) ht (fun hc => ?_) (fun hc => ?_)
  · rw [if_pos hc] at hk
    exact h1 r σ' hk p e s m args below meth c C H locs ls hP hS hl
  · rw [if_neg hc] at hk
    exact h2 r σ' hk p e s m args below meth c C H locs ls hP hS hl
theorem z_if_ge (i n t : Nat) {x : Int32} {a : Int} {k1 k2 : Option (ρ × zS)} (hd : M.2.2.2.2[i]? = some (pc, .ifCond .ge a, 3)) (hn : pc + 3 = n) (ht : (pc : Int) + a = (t : Int)) (h1 : zK X w R M Z t L st σ k1) (h2 : zK X w R M Z n L st σ k2) : zK X w R M Z pc L (.int x :: st) σ (zbr (0 ≤ x) k1 k2) := by
  subst hn
  intro r σ' hk p e s m args below meth c C H locs ls hP hS hl
  unfold zbr at hk
  refine lv_if_ge C.hx C.hb (C.dec hd) ht (fun hc => ?_) (fun hc => ?_)
  · rw [if_pos hc] at hk
    exact h1 r σ' hk p e s m args below meth c C H locs ls hP hS hl
  · rw [if_neg hc] at hk
    exact h2 r σ' hk p e s m args below meth c C H locs ls hP hS hl
theorem z_if_gt (i n t : Nat) {x : Int32} {a : Int} {k1 k2 : Option (ρ × zS)} (hd : M.2.2.2.2[i]? = some (pc, .ifCond .gt a, 3)) (hn : pc + 3 = n) (ht : (pc : Int) + a = (t : Int)) (h1 : zK X w R M Z t L st σ k1) (h2 : zK X w R M Z n L st σ k2) : zK X w R M Z pc L (.int x :: st) σ (zbr (0 < x) k1 k2) := by
  subst hn
  intro r σ' hk p e s m args below meth c C H locs ls hP hS hl
  unfold zbr at hk
  refine lv_if_gt C.hx C.hb (C.dec hd) ht (fun hc => ?_) (fun hc => ?_)
  · rw [if_pos hc] at hk
    exact h1 r σ' hk p e s m args below meth c C H locs ls hP hS hl
  · rw [if_neg hc] at hk
    exact h2 r σ' hk p e s m args below meth c C H locs ls hP hS hl
theorem z_if_le (i n t : Nat) {x : Int32} {a : Int} {k1 k2 : Option (ρ × zS)} (hd : M.2.2.2.2[i]? = some (pc, .ifCond .le a, 3)) (hn : pc + 3 = n) (ht : (pc : Int) + a = (t : Int)) (h1 : zK X w R M Z t L st σ k1) (h2 : zK X w R M Z n L st σ k2) : zK X w R M Z pc L (.int x :: st) σ (zbr (x ≤ 0) k1 k2) := by
  subst hn
  intro r σ' hk p e s m args below meth c C H locs ls hP hS hl
  unfold zbr at hk
  refine lv_if_le C.hx C.hb (C.dec hd) ht (fun hc => ?_) (fun hc => ?_)
  · rw [if_pos hc] at hk
    exact h1 r σ' hk p e s m args below meth c C H locs ls hP hS hl
  · rw [if_neg hc] at hk
    exact h2 r σ' hk p e s m args below meth c C H locs ls hP hS hl
theorem z_icmp_eq (i n t : Nat) {x y : Int32} {a : Int} {k1 k2 : Option (ρ × zS)} (hd : M.2.2.2.2[i]? = some (pc, .if_icmp .eq a, 3)) (hn : pc + 3 = n) (ht : (pc : Int) + a = (t : Int)) (h1 : zK X w R M Z t L st σ k1) (h2 : zK X w R M Z n L st σ k2) : zK X w R M Z pc L (.int y :: .int x :: st) σ (zbr (x = y) k1 k2) := by
  subst hn
  intro r σ' hk p e s m args below meth c C H locs ls hP hS hl
  unfold zbr at hk
  refine lv_icmp_eq C.hx C.hb (C.dec hd) ht (fun hc => ?_) (fun hc => ?_)
  · rw [if_pos hc] at hk
    exact h1 r σ' hk p e s m args below meth c C H locs ls hP hS hl
  · rw [if_neg hc] at hk
    exact h2 r σ' hk p e s m args below meth c C H locs ls hP hS hl
theorem z_icmp_ne (i n t : Nat) {x y : Int32} {a : Int} {k1 k2 : Option (ρ × zS)} (hd : M.2.2.2.2[i]? = some (pc, .if_icmp .ne a, 3)) (hn : pc + 3 = n) (ht : (pc : Int) + a = (t : Int)) (h1 : zK X w R M Z n L st σ k1) (h2 : zK X w R M Z t L st σ k2) : zK X w R M Z pc L (.int y :: .int x :: st) σ (zbr (x = y) k1 k2) := by
  subst hn
  intro r σ' hk p e s m args below meth c C H locs ls hP hS hl
  unfold zbr at hk
  refine lv_icmp_ne C.hx C.hb (C.dec hd) ht (fun hc => ?_) (fun hc => ?_)
  · rw [if_neg hc] at hk
    exact h2 r σ' hk p e s m args below meth c C H locs ls hP hS hl
  · rw [if_pos hc] at hk
    exact h1 r σ' hk p e s m args below meth c C H locs ls hP hS hl
theorem z_icmp_lt (i n t : Nat) {x y : Int32} {a : Int} {k1 k2 : Option (ρ × zS)} (hd : M.2.2.2.2[i]? = some (pc, .if_icmp .lt a, 3)) (hn : pc + 3 = n) (ht : (pc : Int) + a = (t : Int)) (h1 : zK X w R M Z t L st σ k1) (h2 : zK X w R M Z n L st σ k2) : zK X w R M Z pc L (.int y :: .int x :: st) σ (zbr (x < y) k1 k2) := by
  subst hn
  intro r σ' hk p e s m args below meth c C H locs ls hP hS hl
  unfold zbr at hk
  refine lv_icmp_lt C.hx C.hb (C.dec hd) ht (fun hc => ?_) (fun hc => ?_)
  · rw [if_pos hc] at hk
    exact h1 r σ' hk p e s m args below meth c C H locs ls hP hS hl
  · rw [if_neg hc] at hk
    exact h2 r σ' hk p e s m args below meth c C H locs ls hP hS hl
theorem z_icmp_ge (i n t : Nat) {x y : Int32} {a : Int} {k1 k2 : Option (ρ × zS)} (hd : M.2.2.2.2[i]? = some (pc, .if_icmp .ge a, 3)) (hn : pc + 3 = n) (ht : (pc : Int) + a = (t : Int)) (h1 : zK X w R M Z t L st σ k1) (h2 : zK X w R M Z n L st σ k2) : zK X w R M Z pc L (.int y :: .int x :: st) σ (zbr (y ≤ x) k1 k2) := by
  subst hn
  intro r σ' hk p e s m args below meth c C H locs ls hP hS hl
  unfold zbr at hk
  refine lv_icmp_ge C.hx C.hb (C.dec hd) ht (fun hc => ?_) (fun hc => ?_)
  · rw [if_pos hc] at hk
    exact h1 r σ' hk p e s m args below meth c C H locs ls hP hS hl
  · rw [if_neg hc] at hk
    exact h2 r σ' hk p e s m args below meth c C H locs ls hP hS hl
theorem z_icmp_gt (i n t : Nat) {x y : Int32} {a : Int} {k1 k2 : Option (ρ × zS)} (hd : M.2.2.2.2[i]? = some (pc, .if_icmp .gt a, 3)) (hn : pc + 3 = n) (ht : (pc : Int) + a = (t : Int)) (h1 : zK X w R M Z t L st σ k1) (h2 : zK X w R M Z n L st σ k2) : zK X w R M Z pc L (.int y :: .int x :: st) σ (zbr (y < x) k1 k2) := by
  subst hn
  intro r σ' hk p e s m args below meth c C H locs ls hP hS hl
  unfold zbr at hk
  refine lv_icmp_gt C.hx C.hb (C.dec hd) ht (fun hc => ?_) (fun hc => ?_)
  · rw [if_pos hc] at hk
    exact h1 r σ' hk p e s m args below meth c C H locs ls hP hS hl
  · rw [if_neg hc] at hk
    exact h2 r σ' hk p e s m args below meth c C H locs ls hP hS hl
theorem z_icmp_le (i n t : Nat) {x y : Int32} {a : Int} {k1 k2 : Option (ρ × zS)} (hd : M.2.2.2.2[i]? = some (pc, .if_icmp .le a, 3)) (hn : pc + 3 = n) (ht : (pc : Int) + a = (t : Int)) (h1 : zK X w R M Z t L st σ k1) (h2 : zK X w R M Z n L st σ k2) : zK X w R M Z pc L (.int y :: .int x :: st) σ (zbr (x ≤ y) k1 k2) := by
  subst hn
  intro r σ' hk p e s m args below meth c C H locs ls hP hS hl
  unfold zbr at hk
  refine lv_icmp_le C.hx C.hb (C.dec hd) ht (fun hc => ?_) (fun hc => ?_)
  · rw [if_pos hc] at hk
    exact h1 r σ' hk p e s m args below meth c C H locs ls hP hS hl
  · rw [if_neg hc] at hk
    exact h2 r σ' hk p e s m args below meth c C H locs ls hP hS hl
theorem z_tabIn (i t : Nat) {x : Int32} {a lo hi : Int} {offs : Array Int} {ln : Nat} {off : Int} (hd : M.2.2.2.2[i]? = some (pc, .tableswitch a lo hi offs, ln)) {v : Int32} (hx : x = v) {z : Int} (hv : v.toInt = z) (h1 : ¬ z < lo) (h2 : ¬ hi < z) (ho : offs[(z - lo).toNat]? = some off) (ht : (pc : Int) + off = (t : Int)) (h : zK X w R M Z t L st σ k) : zK X w R M Z pc L (.int x :: st) σ k := by
  subst hx; subst hv
  intro r σ' hk p e s m args below meth c C H locs ls hP hS hl
  exact lv_tableIn C.hx C.hb (C.dec hd) h1 h2 ho ht (h r σ' hk p e s m args below meth c C H locs ls hP hS hl)
theorem z_tabOut (i t : Nat) {x : Int32} {a lo hi : Int} {offs : Array Int} {ln : Nat} (hd : M.2.2.2.2[i]? = some (pc, .tableswitch a lo hi offs, ln)) (hx : x.toInt < lo ∨ hi < x.toInt) (ht : (pc : Int) + a = (t : Int)) (h : zK X w R M Z t L st σ k) : zK X w R M Z pc L (.int x :: st) σ k := by
  intro r σ' hk p e s m args below meth c C H locs ls hP hS hl
  exact lv_tableOut C.hx C.hb (C.dec hd) hx ht (h r σ' hk p e s m args below meth c C H locs ls hP hS hl)
/-- an int that is none of 0 .. n-1 is outside -/
theorem z_out {x : Int32} (n : Nat) (h : ∀ j, j < n → ¬ x = nI j) (hn : n < 2 ^ 31) (hi : Int) (hh : hi = (n : Int) - 1) : x.toInt < 0 ∨ hi < x.toInt := by
  subst hh
  rcases Int.lt_or_le x.toInt 0 with q | q
  · exact Or.inl q
  · refine Or.inr ?_
    rcases Int.lt_or_le ((n : Int) - 1) x.toInt with z | z
    · exact z
    · exfalso
      refine h x.toInt.toNat (by omega) (Int32.toInt_inj.mp ?_)
      rw [nI_toInt (by omega)]
      omega
theorem z_iload0 (i n : Nat) {x : Int32} {Lr : List (Option Value)} (hd : M.2.2.2.2[i]? = some (pc, .iload_n 0, 1)) (hn : pc + 1 = n) (h : zK X w R M Z n (some (.int x) :: Lr) (.int x :: st) σ k) : zK X w R M Z pc (some (.int x) :: Lr) st σ k := by
  subst hn
  intro r σ' hk p e s m args below meth c C H locs ls hP hS hl
  exact lv_iload_n C.hx C.hb (C.dec hd) rfl (zl_at hl (i := 0) rfl) (h r σ' hk p e s m args below meth c C H locs ls hP hS hl)
theorem z_aload0 (i n : Nat) {x : Nat} {Lr : List (Option Value)} (hd : M.2.2.2.2[i]? = some (pc, .aload_n 0, 1)) (hn : pc + 1 = n) (h : zK X w R M Z n (some (.ref x) :: Lr) (.ref x :: st) σ k) : zK X w R M Z pc (some (.ref x) :: Lr) st σ k := by
  subst hn
  intro r σ' hk p e s m args below meth c C H locs ls hP hS hl
  exact lv_aload_n C.hx C.hb (C.dec hd) rfl (zl_at hl (i := 0) rfl) (h r σ' hk p e s m args below meth c C H locs ls hP hS hl)
theorem z_lload0 (i n : Nat) {x : Int64} {Lr : List (Option Value)} (hd : M.2.2.2.2[i]? = some (pc, .lload_n 0, 1)) (hn : pc + 1 = n) (h : zK X w R M Z n (some (.long x) :: Lr) (.long x :: st) σ k) : zK X w R M Z pc (some (.long x) :: Lr) st σ k := by
  subst hn
  intro r σ' hk p e s m args below meth c C H locs ls hP hS hl
  exact lv_lload_n C.hx C.hb (C.dec hd) rfl (zl_at hl (i := 0) rfl) (h r σ' hk p e s m args below meth c C H locs ls hP hS hl)
theorem z_istore0 (i n : Nat) {v : Int32} {kf : Int32 → Option (ρ × zS)} {l0 : Option Value} {Lr : List (Option Value)} (hd : M.2.2.2.2[i]? = some (pc, .istore_n 0, 1)) (hn : pc + 1 = n) (h : ∀ x, zK X w R M Z n (some (.int x) :: Lr) st σ (kf x)) : zK X w R M Z pc (l0 :: Lr) (.int v :: st) σ (zlt v kf) := by
  subst hn
  intro r σ' hk p e s m args below meth c C H locs ls hP hS hl
  exact lv_istore_n (i := 0) C.hx C.hb (C.dec hd) rfl (zl_has hl) (by simp only [List.map_cons, List.length_cons]; omega) rfl (fun ls' hl' => h v r σ' hk p e s m args below meth c C H locs ls' hP hS (zset1 (L := l0 :: Lr) (j := 0) (v := .int v) rfl hl'))
theorem z_astore0 (i n : Nat) {v : Nat} {kf : Nat → Option (ρ × zS)} {l0 : Option Value} {Lr : List (Option Value)} (hd : M.2.2.2.2[i]? = some (pc, .astore_n 0, 1)) (hn : pc + 1 = n) (h : ∀ x, zK X w R M Z n (some (.ref x) :: Lr) st σ (kf x)) : zK X w R M Z pc (l0 :: Lr) (.ref v :: st) σ (zlt v kf) := by
  subst hn
  intro r σ' hk p e s m args below meth c C H locs ls hP hS hl
  exact lv_astore_n (i := 0) C.hx C.hb (C.dec hd) rfl (zl_has hl) (by simp only [List.map_cons, List.length_cons]; omega) rfl (fun ls' hl' => h v r σ' hk p e s m args below meth c C H locs ls' hP hS (zset1 (L := l0 :: Lr) (j := 0) (v := .ref v) rfl hl'))
theorem z_lstore0 (i n : Nat) {v : Int64} {kf : Int64 → Option (ρ × zS)} {l0 l1 : Option Value} {Lr : List (Option Value)} (hd : M.2.2.2.2[i]? = some (pc, .lstore_n 0, 1)) (hn : pc + 1 = n) (h : ∀ x, zK X w R M Z n (some (.long x) :: none :: Lr) st σ (kf x)) : zK X w R M Z pc (l0 :: l1 :: Lr) (.long v :: st) σ (zlt v kf) := by
  subst hn
  intro r σ' hk p e s m args below meth c C H locs ls hP hS hl
  exact lv_lstore_n (i := 0) C.hx C.hb (C.dec hd) rfl (zl_has hl) (by simp only [List.map_cons, List.length_cons]; omega) rfl (fun ls' hl' => h v r σ' hk p e s m args below meth c C H locs ls' hP hS (zset2 (L := l0 :: l1 :: Lr) (j := 0) (v := .long v) rfl hl'))
theorem z_iinc0 (i n : Nat) {x v : Int32} {a : Int} {kf : Int32 → Option (ρ × zS)} {Lr : List (Option Value)} (hd : M.2.2.2.2[i]? = some (pc, .iinc 0 a, 3)) (hn : pc + 3 = n) (ha : Int32.ofInt a = v) (h : ∀ y, zK X w R M Z n (some (.int y) :: Lr) st σ (kf y)) : zK X w R M Z pc (some (.int x) :: Lr) st σ (zlt (x + v) kf) := by
  subst hn; subst ha
  intro r σ' hk p e s m args below meth c C H locs ls hP hS hl
  obtain ⟨q, hq⟩ := List.getElem?_of_mem (zprs_mem.mpr (zl_map' (X := X) (L := some (.int x) :: Lr) (i := 0) (u := .int x) rfl))
  exact lv_iinc C.hx C.hb (C.dec hd) (zl_has hl) hq rfl (by simp only [List.map_cons, List.length_cons]; omega) rfl (fun ls' hl' => h (x + Int32.ofInt a) r σ' hk p e s m args below meth c C H locs ls' hP hS (zset1 (L := some (.int x) :: Lr) (j := 0) (v := .int (x + Int32.ofInt a)) rfl hl'))
theorem z_iload1 (i n : Nat) {x : Int32} {l0 : Option Value} {Lr : List (Option Value)} (hd : M.2.2.2.2[i]? = some (pc, .iload_n 1, 1)) (hn : pc + 1 = n) (h : zK X w R M Z n (l0 :: some (.int x) :: Lr) (.int x :: st) σ k) : zK X w R M Z pc (l0 :: some (.int x) :: Lr) st σ k := by
  subst hn
  intro r σ' hk p e s m args below meth c C H locs ls hP hS hl
  exact lv_iload_n C.hx C.hb (C.dec hd) rfl (zl_at hl (i := 1) rfl) (h r σ' hk p e s m args below meth c C H locs ls hP hS hl)
theorem z_aload1 (i n : Nat) {x : Nat} {l0 : Option Value} {Lr : List (Option Value)} (hd : M.2.2.2.2[i]? = some (pc, .aload_n 1, 1)) (hn : pc + 1 = n) (h : zK X w R M Z n (l0 :: some (.ref x) :: Lr) (.ref x :: st) σ k) : zK X w R M Z pc (l0 :: some (.ref x) :: Lr) st σ k := by
  subst hn
  intro r σ' hk p e s m args below meth c C H locs ls hP hS hl
  exact lv_aload_n C.hx C.hb (C.dec hd) rfl (zl_at hl (i := 1) rfl) (h r σ' hk p e s m args below meth c C H locs ls hP hS hl)
theorem z_lload1 (i n : Nat) {x : Int64} {l0 : Option Value} {Lr : List (Option Value)} (hd : M.2.2.2.2[i]? = some (pc, .lload_n 1, 1)) (hn : pc + 1 = n) (h : zK X w R M Z n (l0 :: some (.long x) :: Lr) (.long x :: st) σ k) : zK X w R M Z pc (l0 :: some (.long x) :: Lr) st σ k := by
  subst hn
  intro r σ' hk p e s m args below meth c C H locs ls hP hS hl
  exact lv_lload_n C.hx C.hb (C.dec hd) rfl (zl_at hl (i := 1) rfl) (h r σ' hk p e s m args below meth c C H locs ls hP hS hl)
theorem z_istore1 (i n : Nat) {v : Int32} {kf : Int32 → Option (ρ × zS)} {l0 l1 : Option Value} {Lr : List (Option Value)} (hd : M.2.2.2.2[i]? = some (pc, .istore_n 1, 1)) (hn : pc + 1 = n) (hp : zn l0 = true) (h : ∀ x, zK X w R M Z n (l0 :: some (.int x) :: Lr) st σ (kf x)) : zK X w R M Z pc (l0 :: l1 :: Lr) (.int v :: st) σ (zlt v kf) := by
  subst hn
  intro r σ' hk p e s m args below meth c C H locs ls hP hS hl
  exact lv_istore_n (i := 1) C.hx C.hb (C.dec hd) rfl (zl_has hl) (by simp only [List.map_cons, List.length_cons]; omega) rfl (fun ls' hl' => h v r σ' hk p e s m args below meth c C H locs ls' hP hS (zset1 (L := l0 :: l1 :: Lr) (j := 1) (v := .int v) hp hl'))
theorem z_astore1 (i n : Nat) {v : Nat} {kf : Nat → Option (ρ × zS)} {l0 l1 : Option Value} {Lr : List (Option Value)} (hd : M.2.2.2.2[i]? = some (pc, .astore_n 1, 1)) (hn : pc + 1 = n) (hp : zn l0 = true) (h : ∀ x, zK X w R M Z n (l0 :: some (.ref x) :: Lr) st σ (kf x)) : zK X w R M Z pc (l0 :: l1 :: Lr) (.ref v :: st) σ (zlt v kf) := by
  subst hn
  intro r σ' hk p e s m args below meth c C H locs ls hP hS hl
  exact lv_astore_n (i := 1) C.hx C.hb (C.dec hd) rfl (zl_has hl) (by simp only [List.map_cons, List.length_cons]; omega) rfl (fun ls' hl' => h v r σ' hk p e s m args below meth c C H locs ls' hP hS (zset1 (L := l0 :: l1 :: Lr) (j := 1) (v := .ref v) hp hl'))
theorem z_lstore1 (i n : Nat) {v : Int64} {kf : Int64 → Option (ρ × zS)} {l0 l1 l2 : Option Value} {Lr : List (Option Value)} (hd : M.2.2.2.2[i]? = some (pc, .lstore_n 1, 1)) (hn : pc + 1 = n) (hp : zn l0 = true) (h : ∀ x, zK X w R M Z n (l0 :: some (.long x) :: none :: Lr) st σ (kf x)) : zK X w R M Z pc (l0 :: l1 :: l2 :: Lr) (.long v :: st) σ (zlt v kf) := by
  subst hn
  intro r σ' hk p e s m args below meth c C H locs ls hP hS hl
  exact lv_lstore_n (i := 1) C.hx C.hb (C.dec hd) rfl (zl_has hl) (by simp only [List.map_cons, List.length_cons]; omega) rfl (fun ls' hl' => h v r σ' hk p e s m args below meth c C H locs ls' hP hS (zset2 (L := l0 :: l1 :: l2 :: Lr) (j := 1) (v := .long v) hp hl'))
theorem z_iinc1 (i n : Nat) {x v : Int32} {a : Int} {kf : Int32 → Option (ρ × zS)} {l0 : Option Value} {Lr : List (Option Value)} (hd : M.2.2.2.2[i]? = some (pc, .iinc 1 a, 3)) (hn : pc + 3 = n) (ha : Int32.ofInt a = v) (hp : zn l0 = true) (h : ∀ y, zK X w R M Z n (l0 :: some (.int y) :: Lr) st σ (kf y)) : zK X w R M Z pc (l0 :: some (.int x) :: Lr) st σ (zlt (x + v) kf) := by
  subst hn; subst ha
  intro r σ' hk p e s m args below meth c C H locs ls hP hS hl
  obtain ⟨q, hq⟩ := List.getElem?_of_mem (zprs_mem.mpr (zl_map' (X := X) (L := l0 :: some (.int x) :: Lr) (i := 1) (u := .int x) rfl))
  exact lv_iinc C.hx C.hb (C.dec hd) (zl_has hl) hq rfl (by simp only [List.map_cons, List.length_cons]; omega) rfl (fun ls' hl' => h (x + Int32.ofInt a) r σ' hk p e s m args below meth c C H locs ls' hP hS (zset1 (L := l0 :: some (.int x) :: Lr) (j := 1) (v := .int (x + Int32.ofInt a)) hp hl'))
theorem z_iload2 (i n : Nat) {x : Int32} {l0 l1 : Option Value} {Lr : List (Option Value)} (hd : M.2.2.2.2[i]? = some (pc, .iload_n 2, 1)) (hn : pc + 1 = n) (h : zK X w R M Z n (l0 :: l1 :: some (.int x) :: Lr) (.int x :: st) σ k) : zK X w R M Z pc (l0 :: l1 :: some (.int x) :: Lr) st σ k := by
  subst hn
  intro r σ' hk p e s m args below meth c C H locs ls hP hS hl
  exact lv_iload_n C.hx C.hb (C.dec hd) rfl (zl_at hl (i := 2) rfl) (h r σ' hk p e s m args below meth c C H locs ls hP hS hl)
theorem z_aload2 (i n : Nat) {x : Nat} {l0 l1 : Option Value} {Lr : List (Option Value)} (hd : M.2.2.2.2[i]? = some (pc, .aload_n 2, 1)) (hn : pc + 1 = n) (h : zK X w R M Z n (l0 :: l1 :: some (.ref x) :: Lr) (.ref x :: st) σ k) : zK X w R M Z pc (l0 :: l1 :: some (.ref x) :: Lr) st σ k := by
  subst hn
  intro r σ' hk p e s m args below meth c C H locs ls hP hS hl
  exact lv_aload_n C.hx C.hb (C.dec hd) rfl (zl_at hl (i := 2) rfl) (h r σ' hk p e s m args below meth c C H locs ls hP hS hl)
theorem z_lload2 (i n : Nat) {x : Int64} {l0 l1 : Option Value} {Lr : List (Option Value)} (hd : M.2.2.2.2[i]? = some (pc, .lload_n 2, 1)) (hn : pc + 1 = n) (h : zK X w R M Z n (l0 :: l1 :: some (.long x) :: Lr) (.long x :: st) σ k) : zK X w R M Z pc (l0 :: l1 :: some (.long x) :: Lr) st σ k := by
  subst hn
  intro r σ' hk p e s m args below meth c C H locs ls hP hS hl
  exact lv_lload_n C.hx C.hb (C.dec hd) rfl (zl_at hl (i := 2) rfl) (h r σ' hk p e s m args below meth c C H locs ls hP hS hl)
theorem z_istore2 (i n : Nat) {v : Int32} {kf : Int32 → Option (ρ × zS)} {l0 l1 l2 : Option Value} {Lr : List (Option Value)} (hd : M.2.2.2.2[i]? = some (pc, .istore_n 2, 1)) (hn : pc + 1 = n) (hp : zn l1 = true) (h : ∀ x, zK X w R M Z n (l0 :: l1 :: some (.int x) :: Lr) st σ (kf x)) : zK X w R M Z pc (l0 :: l1 :: l2 :: Lr) (.int v :: st) σ (zlt v kf) := by
  subst hn
  intro r σ' hk p e s m args below meth c C H locs ls hP hS hl
  exact lv_istore_n (i := 2) C.hx C.hb (C.dec hd) rfl (zl_has hl) (by simp only [List.map_cons, List.length_cons]; omega) rfl (fun ls' hl' => h v r σ' hk p e s m args below meth c C H locs ls' hP hS (zset1 (L := l0 :: l1 :: l2 :: Lr) (j := 2) (v := .int v) hp hl'))
theorem z_astore2 (i n : Nat) {v : Nat} {kf : Nat → Option (ρ × zS)} {l0 l1 l2 : Option Value} {Lr : List (Option Value)} (hd : M.2.2.2.2[i]? = some (pc, .astore_n 2, 1)) (hn : pc + 1 = n) (hp : zn l1 = true) (h : ∀ x, zK X w R M Z n (l0 :: l1 :: some (.ref x) :: Lr) st σ (kf x)) : zK X w R M Z pc (l0 :: l1 :: l2 :: Lr) (.ref v :: st) σ (zlt v kf) := by
  subst hn
  intro r σ' hk p e s m args below meth c C H locs ls hP hS hl
  exact lv_astore_n (i := 2) C.hx C.hb (C.dec hd) rfl (zl_has hl) (by simp only [List.map_cons, List.length_cons]; omega) rfl (fun ls' hl' => h v r σ' hk p e s m args below meth c C H locs ls' hP hS (zset1 (L := l0 :: l1 :: l2 :: Lr) (j := 2) (v := .ref v) hp hl'))
theorem z_lstore2 (i n : Nat) {v : Int64} {kf : Int64 → Option (ρ × zS)} {l0 l1 l2 l3 : Option Value} {Lr : List (Option Value)} (hd : M.2.2.2.2[i]? = some (pc, .lstore_n 2, 1)) (hn : pc + 1 = n) (hp : zn l1 = true) (h : ∀ x, zK X w R M Z n (l0 :: l1 :: some (.long x) :: none :: Lr) st σ (kf x)) : zK X w R M Z pc (l0 :: l1 :: l2 :: l3 :: Lr) (.long v :: st) σ (zlt v kf) := by
  subst hn
  intro r σ' hk p e s m args below meth c C H locs ls hP hS hl
  exact lv_lstore_n (i := 2) C.hx C.hb (C.dec hd) rfl (zl_has hl) (by simp only [List.map_cons, List.length_cons]; omega) rfl (fun ls' hl' => h v r σ' hk p e s m args below meth c C H locs ls' hP hS (zset2 (L := l0 :: l1 :: l2 :: l3 :: Lr) (j := 2) (v := .long v) hp hl'))
theorem z_iinc2 (i n : Nat) {x v : Int32} {a : Int} {kf : Int32 → Option (ρ × zS)} {l0 l1 : Option Value} {Lr : List (Option Value)} (hd : M.2.2.2.2[i]? = some (pc, .iinc 2 a, 3)) (hn : pc + 3 = n) (ha : Int32.ofInt a = v) (hp : zn l1 = true) (h : ∀ y, zK X w R M Z n (l0 :: l1 :: some (.int y) :: Lr) st σ (kf y)) : zK X w R M Z pc (l0 :: l1 :: some (.int x) :: Lr) st σ (zlt (x + v) kf) := by
  subst hn; subst ha
  intro r σ' hk p e s m args below meth c C H locs ls hP hS hl
  obtain ⟨q, hq⟩ := List.getElem?_of_mem (zprs_mem.mpr (zl_map' (X := X) (L := l0 :: l1 :: some (.int x) :: Lr) (i := 2) (u := .int x) rfl))
  exact lv_iinc C.hx C.hb (C.dec hd) (zl_has hl) hq rfl (by simp only [List.map_cons, List.length_cons]; omega) rfl (fun ls' hl' => h (x + Int32.ofInt a) r σ' hk p e s m args below meth c C H locs ls' hP hS (zset1 (L := l0 :: l1 :: some (.int x) :: Lr) (j := 2) (v := .int (x + Int32.ofInt a)) hp hl'))
theorem z_iload3 (i n : Nat) {x : Int32} {l0 l1 l2 : Option Value} {Lr : List (Option Value)} (hd : M.2.2.2.2[i]? = some (pc, .iload_n 3, 1)) (hn : pc + 1 = n) (h : zK X w R M Z n (l0 :: l1 :: l2 :: some (.int x) :: Lr) (.int x :: st) σ k) : zK X w R M Z pc (l0 :: l1 :: l2 :: some (.int x) :: Lr) st σ k := by
  subst hn
  intro r σ' hk p e s m args below meth c C H locs ls hP hS hl
  exact lv_iload_n C.hx C.hb (C.dec hd) rfl (zl_at hl (i := 3) rfl) (h r σ' hk p e s m args below meth c C H locs ls hP hS hl)
theorem z_aload3 (i n : Nat) {x : Nat} {l0 l1 l2 : Option Value} {Lr : List (Option Value)} (hd : M.2.2.2.2[i]? = some (pc, .aload_n 3, 1)) (hn : pc + 1 = n) (h : zK X w R M Z n (l0 :: l1 :: l2 :: some (.ref x) :: Lr) (.ref x :: st) σ k) : zK X w R M Z pc (l0 :: l1 :: l2 :: some (.ref x) :: Lr) st σ k := by
  subst hn
  intro r σ' hk p e s m args below meth c C H locs ls hP hS hl
  exact lv_aload_n C.hx C.hb (C.dec hd) rfl (zl_at hl (i := 3) rfl) (h r σ' hk p e s m args below meth c C H locs ls hP hS hl)
theorem z_lload3 (i n : Nat) {x : Int64} {l0 l1 l2 : Option Value} {Lr : List (Option Value)} (hd : M.2.2.2.2[i]? = some (pc, .lload_n 3, 1)) (hn : pc + 1 = n) (h : zK X w R M Z n (l0 :: l1 :: l2 :: some (.long x) :: Lr) (.long x :: st) σ k) : zK X w R M Z pc (l0 :: l1 :: l2 :: some (.long x) :: Lr) st σ k := by
  subst hn
  intro r σ' hk p e s m args below meth c C H locs ls hP hS hl
  exact lv_lload_n C.hx C.hb (C.dec hd) rfl (zl_at hl (i := 3) rfl) (h r σ' hk p e s m args below meth c C H locs ls hP hS hl)
theorem z_istore3 (i n : Nat) {v : Int32} {kf : Int32 → Option (ρ × zS)} {l0 l1 l2 l3 : Option Value} {Lr : List (Option Value)} (hd : M.2.2.2.2[i]? = some (pc, .istore_n 3, 1)) (hn : pc + 1 = n) (hp : zn l2 = true) (h : ∀ x, zK X w R M Z n (l0 :: l1 :: l2 :: some (.int x) :: Lr) st σ (kf x)) : zK X w R M Z pc (l0 :: l1 :: l2 :: l3 :: Lr) (.int v :: st) σ (zlt v kf) := by
  subst hn
  intro r σ' hk p e s m args below meth c C H locs ls hP hS hl
  exact lv_istore_n (i := 3) C.hx C.hb (C.dec hd) rfl (zl_has hl) (by simp only [List.map_cons, List.length_cons]; omega) rfl (fun ls' hl' => h v r σ' hk p e s m args below meth c C H locs ls' hP hS (zset1 (L := l0 :: l1 :: l2 :: l3 :: Lr) (j := 3) (v := .int v) hp hl'))
theorem z_astore3 (i n : Nat) {v : Nat} {kf : Nat → Option (ρ × zS)} {l0 l1 l2 l3 : Option Value} {Lr : List (Option Value)} (hd : M.2.2.2.2[i]? = some (pc, .astore_n 3, 1)) (hn : pc + 1 = n) (hp : zn l2 = true) (h : ∀ x, zK X w R M Z n (l0 :: l1 :: l2 :: some (.ref x) :: Lr) st σ (kf x)) : zK X w R M Z pc (l0 :: l1 :: l2 :: l3 :: Lr) (.ref v :: st) σ (zlt v kf) := by
  subst hn
  intro r σ' hk p e s m args below meth c C H locs ls hP hS hl
  exact lv_astore_n (i := 3) C.hx C.hb (C.dec hd) rfl (zl_has hl) (by simp only [List.map_cons, List.length_cons]; omega) rfl (fun ls' hl' => h v r σ' hk p e s m args below meth c C H locs ls' hP hS (zset1 (L := l0 :: l1 :: l2 :: l3 :: Lr) (j := 3) (v := .ref v) hp hl'))
theorem z_lstore3 (i n : Nat) {v : Int64} {kf : Int64 → Option (ρ × zS)} {l0 l1 l2 l3 l4 : Option Value} {Lr : List (Option Value)} (hd : M.2.2.2.2[i]? = some (pc, .lstore_n 3, 1)) (hn : pc + 1 = n) (hp : zn l2 = true) (h : ∀ x, zK X w R M Z n (l0 :: l1 :: l2 :: some (.long x) :: none :: Lr) st σ (kf x)) : zK X w R M Z pc (l0 :: l1 :: l2 :: l3 :: l4 :: Lr) (.long v :: st) σ (zlt v kf) := by
  subst hn
  intro r σ' hk p e s m args below meth c C H locs ls hP hS hl
  exact lv_lstore_n (i := 3) C.hx C.hb (C.dec hd) rfl (zl_has hl) (by simp only [List.map_cons, List.length_cons]; omega) rfl (fun ls' hl' => h v r σ' hk p e s m args below meth c C H locs ls' hP hS (zset2 (L := l0 :: l1 :: l2 :: l3 :: l4 :: Lr) (j := 3) (v := .long v) hp hl'))
theorem z_iinc3 (i n : Nat) {x v : Int32} {a : Int} {kf : Int32 → Option (ρ × zS)} {l0 l1 l2 : Option Value} {Lr : List (Option Value)} (hd : M.2.2.2.2[i]? = some (pc, .iinc 3 a, 3)) (hn : pc + 3 = n) (ha : Int32.ofInt a = v) (hp : zn l2 = true) (h : ∀ y, zK X w R M Z n (l0 :: l1 :: l2 :: some (.int y) :: Lr) st σ (kf y)) : zK X w R M Z pc (l0 :: l1 :: l2 :: some (.int x) :: Lr) st σ (zlt (x + v) kf) := by
  subst hn; subst ha
  intro r σ' hk p e s m args below meth c C H locs ls hP hS hl
  obtain ⟨q, hq⟩ := List.getElem?_of_mem (zprs_mem.mpr (zl_map' (X := X) (L := l0 :: l1 :: l2 :: some (.int x) :: Lr) (i := 3) (u := .int x) rfl))
  exact lv_iinc C.hx C.hb (C.dec hd) (zl_has hl) hq rfl (by simp only [List.map_cons, List.length_cons]; omega) rfl (fun ls' hl' => h (x + Int32.ofInt a) r σ' hk p e s m args below meth c C H locs ls' hP hS (zset1 (L := l0 :: l1 :: l2 :: some (.int x) :: Lr) (j := 3) (v := .int (x + Int32.ofInt a)) hp hl'))
theorem z_iload4 (i n : Nat) {x : Int32} {l0 l1 l2 l3 : Option Value} {Lr : List (Option Value)} (hd : M.2.2.2.2[i]? = some (pc, .iload 4, 2)) (hn : pc + 2 = n) (h : zK X w R M Z n (l0 :: l1 :: l2 :: l3 :: some (.int x) :: Lr) (.int x :: st) σ k) : zK X w R M Z pc (l0 :: l1 :: l2 :: l3 :: some (.int x) :: Lr) st σ k := by
  subst hn
  intro r σ' hk p e s m args below meth c C H locs ls hP hS hl
  exact lv_iload C.hx C.hb (C.dec hd) (zl_at hl (i := 4) rfl) (h r σ' hk p e s m args below meth c C H locs ls hP hS hl)
theorem z_aload4 (i n : Nat) {x : Nat} {l0 l1 l2 l3 : Option Value} {Lr : List (Option Value)} (hd : M.2.2.2.2[i]? = some (pc, .aload 4, 2)) (hn : pc + 2 = n) (h : zK X w R M Z n (l0 :: l1 :: l2 :: l3 :: some (.ref x) :: Lr) (.ref x :: st) σ k) : zK X w R M Z pc (l0 :: l1 :: l2 :: l3 :: some (.ref x) :: Lr) st σ k := by
  subst hn
  intro r σ' hk p e s m args below meth c C H locs ls hP hS hl
  exact lv_aload C.hx C.hb (C.dec hd) (zl_at hl (i := 4) rfl) (h r σ' hk p e s m args below meth c C H locs ls hP hS hl)
theorem z_lload4 (i n : Nat) {x : Int64} {l0 l1 l2 l3 : Option Value} {Lr : List (Option Value)} (hd : M.2.2.2.2[i]? = some (pc, .lload 4, 2)) (hn : pc + 2 = n) (h : zK X w R M Z n (l0 :: l1 :: l2 :: l3 :: some (.long x) :: Lr) (.long x :: st) σ k) : zK X w R M Z pc (l0 :: l1 :: l2 :: l3 :: some (.long x) :: Lr) st σ k := by
  subst hn
  intro r σ' hk p e s m args below meth c C H locs ls hP hS hl
  exact lv_lload C.hx C.hb (C.dec hd) (zl_at hl (i := 4) rfl) (h r σ' hk p e s m args below meth c C H locs ls hP hS hl)
theorem z_istore4 (i n : Nat) {v : Int32} {kf : Int32 → Option (ρ × zS)} {l0 l1 l2 l3 l4 : Option Value} {Lr : List (Option Value)} (hd : M.2.2.2.2[i]? = some (pc, .istore 4, 2)) (hn : pc + 2 = n) (hp : zn l3 = true) (h : ∀ x, zK X w R M Z n (l0 :: l1 :: l2 :: l3 :: some (.int x) :: Lr) st σ (kf x)) : zK X w R M Z pc (l0 :: l1 :: l2 :: l3 :: l4 :: Lr) (.int v :: st) σ (zlt v kf) := by
  subst hn
  intro r σ' hk p e s m args below meth c C H locs ls hP hS hl
  exact lv_istore (i := 4) C.hx C.hb (C.dec hd) (zl_has hl) (by simp only [List.map_cons, List.length_cons]; omega) rfl (fun ls' hl' => h v r σ' hk p e s m args below meth c C H locs ls' hP hS (zset1 (L := l0 :: l1 :: l2 :: l3 :: l4 :: Lr) (j := 4) (v := .int v) hp hl'))
theorem z_astore4 (i n : Nat) {v : Nat} {kf : Nat → Option (ρ × zS)} {l0 l1 l2 l3 l4 : Option Value} {Lr : List (Option Value)} (hd : M.2.2.2.2[i]? = some (pc, .astore 4, 2)) (hn : pc + 2 = n) (hp : zn l3 = true) (h : ∀ x, zK X w R M Z n (l0 :: l1 :: l2 :: l3 :: some (.ref x) :: Lr) st σ (kf x)) : zK X w R M Z pc (l0 :: l1 :: l2 :: l3 :: l4 :: Lr) (.ref v :: st) σ (zlt v kf) := by
  subst hn
  intro r σ' hk p e s m args below meth c C H locs ls hP hS hl
  exact lv_astore (i := 4) C.hx C.hb (C.dec hd) (zl_has hl) (by simp only [List.map_cons, List.length_cons]; omega) rfl (fun ls' hl' => h v r σ' hk p e s m args below meth c C H locs ls' hP hS (zset1 (L := l0 :: l1 :: l2 :: l3 :: l4 :: Lr) (j := 4) (v := .ref v) hp hl'))
theorem z_lstore4 (i n : Nat) {v : Int64} {kf : Int64 → Option (ρ × zS)} {l0 l1 l2 l3 l4 l5 : Option Value} {Lr : List (Option Value)} (hd : M.2.2.2.2[i]? = some (pc, .lstore 4, 2)) (hn : pc + 2 = n) (hp : zn l3 = true) (h : ∀ x, zK X w R M Z n (l0 :: l1 :: l2 :: l3 :: some (.long x) :: none :: Lr) st σ (kf x)) : zK X w R M Z pc (l0 :: l1 :: l2 :: l3 :: l4 :: l5 :: Lr) (.long v :: st) σ (zlt v kf) := by
  subst hn
  intro r σ' hk p e s m args below meth c C H locs ls hP hS hl
  exact lv_lstore (i := 4) C.hx C.hb (C.dec hd) (zl_has hl) (by simp only [List.map_cons, List.length_cons]; omega) rfl (fun ls' hl' => h v r σ' hk p e s m args below meth c C H locs ls' hP hS (zset2 (L := l0 :: l1 :: l2 :: l3 :: l4 :: l5 :: Lr) (j := 4) (v := .long v) hp hl'))
theorem z_iinc4 (i n : Nat) {x v : Int32} {a : Int} {kf : Int32 → Option (ρ × zS)} {l0 l1 l2 l3 : Option Value} {Lr : List (Option Value)} (hd : M.2.2.2.2[i]? = some (pc, .iinc 4 a, 3)) (hn : pc + 3 = n) (ha : Int32.ofInt a = v) (hp : zn l3 = true) (h : ∀ y, zK X w R M Z n (l0 :: l1 :: l2 :: l3 :: some (.int y) :: Lr) st σ (kf y)) : zK X w R M Z pc (l0 :: l1 :: l2 :: l3 :: some (.int x) :: Lr) st σ (zlt (x + v) kf) := by
  subst hn; subst ha
  intro r σ' hk p e s m args below meth c C H locs ls hP hS hl
  obtain ⟨q, hq⟩ := List.getElem?_of_mem (zprs_mem.mpr (zl_map' (X := X) (L := l0 :: l1 :: l2 :: l3 :: some (.int x) :: Lr) (i := 4) (u := .int x) rfl))
  exact lv_iinc C.hx C.hb (C.dec hd) (zl_has hl) hq rfl (by simp only [List.map_cons, List.length_cons]; omega) rfl (fun ls' hl' => h (x + Int32.ofInt a) r σ' hk p e s m args below meth c C H locs ls' hP hS (zset1 (L := l0 :: l1 :: l2 :: l3 :: some (.int x) :: Lr) (j := 4) (v := .int (x + Int32.ofInt a)) hp hl'))
theorem z_iload5 (i n : Nat) {x : Int32} {l0 l1 l2 l3 l4 : Option Value} {Lr : List (Option Value)} (hd : M.2.2.2.2[i]? = some (pc, .iload 5, 2)) (hn : pc + 2 = n) (h : zK X w R M Z n (l0 :: l1 :: l2 :: l3 :: l4 :: some (.int x) :: Lr) (.int x :: st) σ k) : zK X w R M Z pc (l0 :: l1 :: l2 :: l3 :: l4 :: some (.int x) :: Lr) st σ k := by
  subst hn
  intro r σ' hk p e s m args below meth c C H locs ls hP hS hl
  exact lv_iload C.hx C.hb (C.dec hd) (zl_at hl (i := 5) rfl) (h r σ' hk p e s m args below meth c C H locs ls hP hS hl)
theorem z_aload5 (i n : Nat) {x : Nat} {l0 l1 l2 l3 l4 : Option Value} {Lr : List (Option Value)} (hd : M.2.2.2.2[i]? = some (pc, .aload 5, 2)) (hn : pc + 2 = n) (h : zK X w R M Z n (l0 :: l1 :: l2 :: l3 :: l4 :: some (.ref x) :: Lr) (.ref x :: st) σ k) : zK X w R M Z pc (l0 :: l1 :: l2 :: l3 :: l4 :: some (.ref x) :: Lr) st σ k := by
  subst hn
  intro r σ' hk p e s m args below meth c C H locs ls hP hS hl
  exact lv_aload C.hx C.hb (C.dec hd) (zl_at hl (i := 5) rfl) (h r σ' hk p e s m args below meth c C H locs ls hP hS hl)
theorem z_lload5 (i n : Nat) {x : Int64} {l0 l1 l2 l3 l4 : Option Value} {Lr : List (Option Value)} (hd : M.2.2.2.2[i]? = some (pc, .lload 5, 2)) (hn : pc + 2 = n) (h : zK X w R M Z n (l0 :: l1 :: l2 :: l3 :: l4 :: some (.long x) :: Lr) (.long x :: st) σ k) : zK X w R M Z pc (l0 :: l1 :: l2 :: l3 :: l4 :: some (.long x) :: Lr) st σ k := by
  subst hn
  intro r σ' hk p e s m args below meth c C H locs ls hP hS hl
  exact lv_lload C.hx C.hb (C.dec hd) (zl_at hl (i := 5) rfl) (h r σ' hk p e s m args below meth c C H locs ls hP hS hl)
theorem z_istore5 (i n : Nat) {v : Int32} {kf : Int32 → Option (ρ × zS)} {l0 l1 l2 l3 l4 l5 : Option Value} {Lr : List (Option Value)} (hd : M.2.2.2.2[i]? = some (pc, .istore 5, 2)) (hn : pc + 2 = n) (hp : zn l4 = true) (h : ∀ x, zK X w R M Z n (l0 :: l1 :: l2 :: l3 :: l4 :: some (.int x) :: Lr) st σ (kf x)) : zK X w R M Z pc (l0 :: l1 :: l2 :: l3 :: l4 :: l5 :: Lr) (.int v :: st) σ (zlt v kf) := by
  subst hn
  intro r σ' hk p e s m args below meth c C H locs ls hP hS hl
  exact lv_istore (i := 5) C.hx C.hb (C.dec hd) (zl_has hl) (by simp only [List.map_cons, List.length_cons]; omega) rfl (fun ls' hl' => h v r σ' hk p e s m args below meth c C H locs ls' hP hS (zset1 (L := l0 :: l1 :: l2 :: l3 :: l4 :: l5 :: Lr) (j := 5) (v := .int v) hp hl'))
theorem z_astore5 (i n : Nat) {v : Nat} {kf : Nat → Option (ρ × zS)} {l0 l1 l2 l3 l4 l5 : Option Value} {Lr : List (Option Value)} (hd : M.2.2.2.2[i]? = some (pc, .astore 5, 2)) (hn : pc + 2 = n) (hp : zn l4 = true) (h : ∀ x, zK X w R M Z n (l0 :: l1 :: l2 :: l3 :: l4 :: some (.ref x) :: Lr) st σ (kf x)) : zK X w R M Z pc (l0 :: l1 :: l2 :: l3 :: l4 :: l5 :: Lr) (.ref v :: st) σ (zlt v kf) := by
  subst hn
  intro r σ' hk p e s m args below meth c C H locs ls hP hS hl
  exact lv_astore (i := 5) C.hx C.hb (C.dec hd) (zl_has hl) (by simp only [List.map_cons, List.length_cons]; omega) rfl (fun ls' hl' => h v r σ' hk p e s m args below meth c C H locs ls' hP hS (zset1 (L := l0 :: l1 :: l2 :: l3 :: l4 :: l5 :: Lr) (j := 5) (v := .ref v) hp hl'))
theorem z_lstore5 (i n : Nat) {v : Int64} {kf : Int64 → Option (ρ × zS)} {l0 l1 l2 l3 l4 l5 l6 : Option Value} {Lr : List (Option Value)} (hd : M.2.2.2.2[i]? = some (pc, .lstore 5, 2)) (hn : pc + 2 = n) (hp : zn l4 = true) (h : ∀ x, zK X w R M Z n (l0 :: l1 :: l2 :: l3 :: l4 :: some (.long x) :: none :: Lr) st σ (kf x)) : zK X w R M Z pc (l0 :: l1 :: l2 :: l3 :: l4 :: l5 :: l6 :: Lr) (.long v :: st) σ (zlt v kf) := by
  subst hn
  intro r σ' hk p e s m args below meth c C H locs ls hP hS hl
  exact lv_lstore (i := 5) C.hx C.hb (C.dec hd) (zl_has hl) (by simp only [List.map_cons, List.length_cons]; omega) rfl (fun ls' hl' => h v r σ' hk p e s m args below meth c C H locs ls' hP hS (zset2 (L := l0 :: l1 :: l2 :: l3 :: l4 :: l5 :: l6 :: Lr) (j := 5) (v := .long v) hp hl'))
theorem z_iinc5 (i n : Nat) {x v : Int32} {a : Int} {kf : Int32 → Option (ρ × zS)} {l0 l1 l2 l3 l4 : Option Value} {Lr : List (Option Value)} (hd : M.2.2.2.2[i]? = some (pc, .iinc 5 a, 3)) (hn : pc + 3 = n) (ha : Int32.ofInt a = v) (hp : zn l4 = true) (h : ∀ y, zK X w R M Z n (l0 :: l1 :: l2 :: l3 :: l4 :: some (.int y) :: Lr) st σ (kf y)) : zK X w R M Z pc (l0 :: l1 :: l2 :: l3 :: l4 :: some (.int x) :: Lr) st σ (zlt (x + v) kf) := by
  subst hn; subst ha
  intro r σ' hk p e s m args below meth c C H locs ls hP hS hl
  obtain ⟨q, hq⟩ := List.getElem?_of_mem (zprs_mem.mpr (zl_map' (X := X) (L := l0 :: l1 :: l2 :: l3 :: l4 :: some (.int x) :: Lr) (i := 5) (u := .int x) rfl))
  exact lv_iinc C.hx C.hb (C.dec hd) (zl_has hl) hq rfl (by simp only [List.map_cons, List.length_cons]; omega) rfl (fun ls' hl' => h (x + Int32.ofInt a) r σ' hk p e s m args below meth c C H locs ls' hP hS (zset1 (L := l0 :: l1 :: l2 :: l3 :: l4 :: some (.int x) :: Lr) (j := 5) (v := .int (x + Int32.ofInt a)) hp hl'))
theorem z_iload6 (i n : Nat) {x : Int32} {l0 l1 l2 l3 l4 l5 : Option Value} {Lr : List (Option Value)} (hd : M.2.2.2.2[i]? = some (pc, .iload 6, 2)) (hn : pc + 2 = n) (h : zK X w R M Z n (l0 :: l1 :: l2 :: l3 :: l4 :: l5 :: some (.int x) :: Lr) (.int x :: st) σ k) : zK X w R M Z pc (l0 :: l1 :: l2 :: l3 :: l4 :: l5 :: some (.int x) :: Lr) st σ k := by
  subst hn
  intro r σ' hk p e s m args below meth c C H locs ls hP hS hl
  exact lv_iload C.hx C.hb (C.dec hd) (zl_at hl (i := 6) rfl) (h r σ' hk p e s m args below meth c C H locs ls hP hS hl)
theorem z_aload6 (i n : Nat) {x : Nat} {l0 l1 l2 l3 l4 l5 : Option Value} {Lr : List (Option Value)} (hd : M.2.2.2.2[i]? = some (pc, .aload 6, 2)) (hn : pc + 2 = n) (h : zK X w R M Z n (l0 :: l1 :: l2 :: l3 :: l4 :: l5 :: some (.ref x) :: Lr) (.ref x :: st) σ k) : zK X w R M Z pc (l0 :: l1 :: l2 :: l3 :: l4 :: l5 :: some (.ref x) :: Lr) st σ k := by
  subst hn
  intro r σ' hk p e s m args below meth c C H locs ls hP hS hl
  exact lv_aload C.hx C.hb (C.dec hd) (zl_at hl (i := 6) rfl) (h r σ' hk p e s m args below meth c C H locs ls hP hS hl)
theorem z_lload6 (i n : Nat) {x : Int64} {l0 l1 l2 l3 l4 l5 : Option Value} {Lr : List (Option Value)} (hd : M.2.2.2.2[i]? = some (pc, .lload 6, 2)) (hn : pc + 2 = n) (h : zK X w R M Z n (l0 :: l1 :: l2 :: l3 :: l4 :: l5 :: some (.long x) :: Lr) (.long x :: st) σ k) : zK X w R M Z pc (l0 :: l1 :: l2 :: l3 :: l4 :: l5 :: some (.long x) :: Lr) st σ k := by
  subst hn
  intro r σ' hk p e s m args below meth c C H locs ls hP hS hl
  exact lv_lload C.hx C.hb (C.dec hd) (zl_at hl (i := 6) rfl) (h r σ' hk p e s m args below meth c C H locs ls hP hS hl)
theorem z_istore6 (i n : Nat) {v : Int32} {kf : Int32 → Option (ρ × zS)} {l0 l1 l2 l3 l4 l5 l6 : Option Value} {Lr : List (Option Value)} (hd : M.2.2.2.2[i]? = some (pc, .istore 6, 2)) (hn : pc + 2 = n) (hp : zn l5 = true) (h : ∀ x, zK X w R M Z n (l0 :: l1 :: l2 :: l3 :: l4 :: l5 :: some (.int x) :: Lr) st σ (kf x)) : zK X w R M Z pc (l0 :: l1 :: l2 :: l3 :: l4 :: l5 :: l6 :: Lr) (.int v :: st) σ (zlt v kf) := by
  subst hn
  intro r σ' hk p e s m args below meth c C H locs ls hP hS hl
  exact lv_istore (i := 6) C.hx C.hb (C.dec hd) (zl_has hl) (by simp only [List.map_cons, List.length_cons]; omega) rfl (fun ls' hl' => h v r σ' hk p e s m args below meth c C H locs ls' hP hS (zset1 (L := l0 :: l1 :: l2 :: l3 :: l4 :: l5 :: l6 :: Lr) (j := 6) (v := .int v) hp hl'))
theorem z_astore6 (i n : Nat) {v : Nat} {kf : Nat → Option (ρ × zS)} {l0 l1 l2 l3 l4 l5 l6 : Option Value} {Lr : List (Option Value)} (hd : M.2.2.2.2[i]? = some (pc, .astore 6, 2)) (hn : pc + 2 = n) (hp : zn l5 = true) (h : ∀ x, zK X w R M Z n (l0 :: l1 :: l2 :: l3 :: l4 :: l5 :: some (.ref x) :: Lr) st σ (kf x)) : zK X w R M Z pc (l0 :: l1 :: l2 :: l3 :: l4 :: l5 :: l6 :: Lr) (.ref v :: st) σ (zlt v kf) := by
  subst hn
  intro r σ' hk p e s m args below meth c C H locs ls hP hS hl
  exact lv_astore (i := 6) C.hx C.hb (C.dec hd) (zl_has hl) (by simp only [List.map_cons, List.length_cons]; omega) rfl (fun ls' hl' => h v r σ' hk p e s m args below meth c C H locs ls' hP hS (zset1 (L := l0 :: l1 :: l2 :: l3 :: l4 :: l5 :: l6 :: Lr) (j := 6) (v := .ref v) hp hl'))
theorem z_lstore6 (i n : Nat) {v : Int64} {kf : Int64 → Option (ρ × zS)} {l0 l1 l2 l3 l4 l5 l6 l7 : Option Value} {Lr : List (Option Value)} (hd : M.2.2.2.2[i]? = some (pc, .lstore 6, 2)) (hn : pc + 2 = n) (hp : zn l5 = true) (h : ∀ x, zK X w R M Z n (l0 :: l1 :: l2 :: l3 :: l4 :: l5 :: some (.long x) :: none :: Lr) st σ (kf x)) : zK X w R M Z pc (l0 :: l1 :: l2 :: l3 :: l4 :: l5 :: l6 :: l7 :: Lr) (.long v :: st) σ (zlt v kf) := by
  subst hn
  intro r σ' hk p e s m args below meth c C H locs ls hP hS hl
  exact lv_lstore (i := 6) C.hx C.hb (C.dec hd) (zl_has hl) (by simp only [List.map_cons, List.length_cons]; omega) rfl (fun ls' hl' => h v r σ' hk p e s m args below meth c C H locs ls' hP hS (zset2 (L := l0 :: l1 :: l2 :: l3 :: l4 :: l5 :: l6 :: l7 :: Lr) (j := 6) (v := .long v) hp hl'))
theorem z_iinc6 (i n : Nat) {x v : Int32} {a : Int} {kf : Int32 → Option (ρ × zS)} {l0 l1 l2 l3 l4 l5 : Option Value} {Lr : List (Option Value)} (hd : M.2.2.2.2[i]? = some (pc, .iinc 6 a, 3)) (hn : pc + 3 = n) (ha : Int32.ofInt a = v) (hp : zn l5 = true) (h : ∀ y, zK X w R M Z n (l0 :: l1 :: l2 :: l3 :: l4 :: l5 :: some (.int y) :: Lr) st σ (kf y)) : zK X w R M Z pc (l0 :: l1 :: l2 :: l3 :: l4 :: l5 :: some (.int x) :: Lr) st σ (zlt (x + v) kf) := by
  subst hn; subst ha
  intro r σ' hk p e s m args below meth c C H locs ls hP hS hl
  obtain ⟨q, hq⟩ := List.getElem?_of_mem (zprs_mem.mpr (zl_map' (X := X) (L := l0 :: l1 :: l2 :: l3 :: l4 :: l5 :: some (.int x) :: Lr) (i := 6) (u := .int x) rfl))
  exact lv_iinc C.hx C.hb (C.dec hd) (zl_has hl) hq rfl (by simp only [List.map_cons, List.length_cons]; omega) rfl (fun ls' hl' => h (x + Int32.ofInt a) r σ' hk p e s m args below meth c C H locs ls' hP hS (zset1 (L := l0 :: l1 :: l2 :: l3 :: l4 :: l5 :: some (.int x) :: Lr) (j := 6) (v := .int (x + Int32.ofInt a)) hp hl'))
theorem z_iload7 (i n : Nat) {x : Int32} {l0 l1 l2 l3 l4 l5 l6 : Option Value} {Lr : List (Option Value)} (hd : M.2.2.2.2[i]? = some (pc, .iload 7, 2)) (hn : pc + 2 = n) (h : zK X w R M Z n (l0 :: l1 :: l2 :: l3 :: l4 :: l5 :: l6 :: some (.int x) :: Lr) (.int x :: st) σ k) : zK X w R M Z pc (l0 :: l1 :: l2 :: l3 :: l4 :: l5 :: l6 :: some (.int x) :: Lr) st σ k := by
  subst hn
  intro r σ' hk p e s m args below meth c C H locs ls hP hS hl
  exact lv_iload C.hx C.hb (C.dec hd) (zl_at hl (i := 7) rfl) (h r σ' hk p e s m args below meth c C H locs ls hP hS hl)
theorem z_aload7 (i n : Nat) {x : Nat} {l0 l1 l2 l3 l4 l5 l6 : Option Value} {Lr : List (Option Value)} (hd : M.2.2.2.2[i]? = some (pc, .aload 7, 2)) (hn : pc + 2 = n) (h : zK X w R M Z n (l0 :: l1 :: l2 :: l3 :: l4 :: l5 :: l6 :: some (.ref x) :: Lr) (.ref x :: st) σ k) : zK X w R M Z pc (l0 :: l1 :: l2 :: l3 :: l4 :: l5 :: l6 :: some (.ref x) :: Lr) st σ k := by
  subst hn
  intro r σ' hk p e s m args below meth c C H locs ls hP hS hl
  exact lv_aload C.hx C.hb (C.dec hd) (zl_at hl (i := 7) rfl) (h r σ' hk p e s m args below meth c C H locs ls hP hS hl)
theorem z_lload7 (i n : Nat) {x : Int64} {l0 l1 l2 l3 l4 l5 l6 : Option Value} {Lr : List (Option Value)} (hd : M.2.2.2.2[i]? = some (pc, .lload 7, 2)) (hn : pc + 2 = n) (h : zK X w R M Z n (l0 :: l1 :: l2 :: l3 :: l4 :: l5 :: l6 :: some (.long x) :: Lr) (.long x :: st) σ k) : zK X w R M Z pc (l0 :: l1 :: l2 :: l3 :: l4 :: l5 :: l6 :: some (.long x) :: Lr) st σ k := by
  subst hn
  intro r σ' hk p e s m args below meth c C H locs ls hP hS hl
  exact lv_lload C.hx C.hb (C.dec hd) (zl_at hl (i := 7) rfl) (h r σ' hk p e s m args below meth c C H locs ls hP hS hl)
theorem z_istore7 (i n : Nat) {v : Int32} {kf : Int32 → Option (ρ × zS)} {l0 l1 l2 l3 l4 l5 l6 l7 : Option Value} {Lr : List (Option Value)} (hd : M.2.2.2.2[i]? = some (pc, .istore 7, 2)) (hn : pc + 2 = n) (hp : zn l6 = true) (h : ∀ x, zK X w R M Z n (l0 :: l1 :: l2 :: l3 :: l4 :: l5 :: l6 :: some (.int x) :: Lr) st σ (kf x)) : zK X w R M Z pc (l0 :: l1 :: l2 :: l3 :: l4 :: l5 :: l6 :: l7 :: Lr) (.int v :: st) σ (zlt v kf) := by
  subst hn
  intro r σ' hk p e s m args below meth c C H locs ls hP hS hl
  exact lv_istore (i := 7) C.hx C.hb (C.dec hd) (zl_has hl) (by simp only [List.map_cons, List.length_cons]; omega) rfl (fun ls' hl' => h v r σ' hk p e s m args below meth c C H locs ls' hP hS (zset1 (L := l0 :: l1 :: l2 :: l3 :: l4 :: l5 :: l6 :: l7 :: Lr) (j := 7) (v := .int v) hp hl'))
theorem z_astore7 (i n : Nat) {v : Nat} {kf : Nat → Option (ρ × zS)} {l0 l1 l2 l3 l4 l5 l6 l7 : Option Value} {Lr : List (Option Value)} (hd : M.2.2.2.2[i]? = some (pc, .astore 7, 2)) (hn : pc + 2 = n) (hp : zn l6 = true) (h : ∀ x, zK X w R M Z n (l0 :: l1 :: l2 :: l3 :: l4 :: l5 :: l6 :: some (.ref x) :: Lr) st σ (kf x)) : zK X w R M Z pc (l0 :: l1 :: l2 :: l3 :: l4 :: l5 :: l6 :: l7 :: Lr) (.ref v :: st) σ (zlt v kf) := by
  subst hn
  intro r σ' hk p e s m args below meth c C H locs ls hP hS hl
  exact lv_astore (i := 7) C.hx C.hb (C.dec hd) (zl_has hl) (by simp only [List.map_cons, List.length_cons]; omega) rfl (fun ls' hl' => h v r σ' hk p e s m args below meth c C H locs ls' hP hS (zset1 (L := l0 :: l1 :: l2 :: l3 :: l4 :: l5 :: l6 :: l7 :: Lr) (j := 7) (v := .ref v) hp hl'))
theorem z_lstore7 (i n : Nat) {v : Int64} {kf : Int64 → Option (ρ × zS)} {l0 l1 l2 l3 l4 l5 l6 l7 l8 : Option Value} {Lr : List (Option Value)} (hd : M.2.2.2.2[i]? = some (pc, .lstore 7, 2)) (hn : pc + 2 = n) (hp : zn l6 = true) (h : ∀ x, zK X w R M Z n (l0 :: l1 :: l2 :: l3 :: l4 :: l5 :: l6 :: some (.long x) :: none :: Lr) st σ (kf x)) : zK X w R M Z pc (l0 :: l1 :: l2 :: l3 :: l4 :: l5 :: l6 :: l7 :: l8 :: Lr) (.long v :: st) σ (zlt v kf) := by
  subst hn
  intro r σ' hk p e s m args below meth c C H locs ls hP hS hl
  exact lv_lstore (i := 7) C.hx C.hb (C.dec hd) (zl_has hl) (by simp only [List.map_cons, List.length_cons]; omega) rfl (fun ls' hl' => h v r σ' hk p e s m args below meth c C H locs ls' hP hS (zset2 (L := l0 :: l1 :: l2 :: l3 :: l4 :: l5 :: l6 :: l7 :: l8 :: Lr) (j := 7) (v := .long v) hp hl'))
theorem z_iinc7 (i n : Nat) {x v : Int32} {a : Int} {kf : Int32 → Option (ρ × zS)} {l0 l1 l2 l3 l4 l5 l6 : Option Value} {Lr : List (Option Value)} (hd : M.2.2.2.2[i]? = some (pc, .iinc 7 a, 3)) (hn : pc + 3 = n) (ha : Int32.ofInt a = v) (hp : zn l6 = true) (h : ∀ y, zK X w R M Z n (l0 :: l1 :: l2 :: l3 :: l4 :: l5 :: l6 :: some (.int y) :: Lr) st σ (kf y)) : zK X w R M Z pc (l0 :: l1 :: l2 :: l3 :: l4 :: l5 :: l6 :: some (.int x) :: Lr) st σ (zlt (x + v) kf) := by
  subst hn; subst ha
  intro r σ' hk p e s m args below meth c C H locs ls hP hS hl
  obtain ⟨q, hq⟩ := List.getElem?_of_mem (zprs_mem.mpr (zl_map' (X := X) (L := l0 :: l1 :: l2 :: l3 :: l4 :: l5 :: l6 :: some (.int x) :: Lr) (i := 7) (u := .int x) rfl))
  exact lv_iinc C.hx C.hb (C.dec hd) (zl_has hl) hq rfl (by simp only [List.map_cons, List.length_cons]; omega) rfl (fun ls' hl' => h (x + Int32.ofInt a) r σ' hk p e s m args below meth c C H locs ls' hP hS (zset1 (L := l0 :: l1 :: l2 :: l3 :: l4 :: l5 :: l6 :: some (.int x) :: Lr) (j := 7) (v := .int (x + Int32.ofInt a)) hp hl'))
theorem z_iload8 (i n : Nat) {x : Int32} {l0 l1 l2 l3 l4 l5 l6 l7 : Option Value} {Lr : List (Option Value)} (hd : M.2.2.2.2[i]? = some (pc, .iload 8, 2)) (hn : pc + 2 = n) (h : zK X w R M Z n (l0 :: l1 :: l2 :: l3 :: l4 :: l5 :: l6 :: l7 :: some (.int x) :: Lr) (.int x :: st) σ k) : zK X w R M Z pc (l0 :: l1 :: l2 :: l3 :: l4 :: l5 :: l6 :: l7 :: some (.int x) :: Lr) st σ k := by
  subst hn
  intro r σ' hk p e s m args below meth c C H locs ls hP hS hl
  exact lv_iload C.hx C.hb (C.dec hd) (zl_at hl (i := 8) rfl) (h r σ' hk p e s m args below meth c C H locs ls hP hS hl)
theorem z_aload8 (i n : Nat) {x : Nat} {l0 l1 l2 l3 l4 l5 l6 l7 : Option Value} {Lr : List (Option Value)} (hd : M.2.2.2.2[i]? = some (pc, .aload 8, 2)) (hn : pc + 2 = n) (h : zK X w R M Z n (l0 :: l1 :: l2 :: l3 :: l4 :: l5 :: l6 :: l7 :: some (.ref x) :: Lr) (.ref x :: st) σ k) : zK X w R M Z pc (l0 :: l1 :: l2 :: l3 :: l4 :: l5 :: l6 :: l7 :: some (.ref x) :: Lr) st σ k := by
  subst hn
  intro r σ' hk p e s m args below meth c C H locs ls hP hS hl
  exact lv_aload C.hx C.hb (C.dec hd) (zl_at hl (i := 8) rfl) (h r σ' hk p e s m args below meth c C H locs ls hP hS hl)
theorem z_lload8 (i n : Nat) {x : Int64} {l0 l1 l2 l3 l4 l5 l6 l7 : Option Value} {Lr : List (Option Value)} (hd : M.2.2.2.2[i]? = some (pc, .lload 8, 2)) (hn : pc + 2 = n) (h : zK X w R M Z n (l0 :: l1 :: l2 :: l3 :: l4 :: l5 :: l6 :: l7 :: some (.long x) :: Lr) (.long x :: st) σ k) : zK X w R M Z pc (l0 :: l1 :: l2 :: l3 :: l4 :: l5 :: l6 :: l7 :: some (.long x) :: Lr) st σ k := by
  subst hn
  intro r σ' hk p e s m args below meth c C H locs ls hP hS hl
  exact lv_lload C.hx C.hb (C.dec hd) (zl_at hl (i := 8) rfl) (h r σ' hk p e s m args below meth c C H locs ls hP hS hl)
theorem z_istore8 (i n : Nat) {v : Int32} {kf : Int32 → Option (ρ × zS)} {l0 l1 l2 l3 l4 l5 l6 l7 l8 : Option Value} {Lr : List (Option Value)} (hd : M.2.2.2.2[i]? = some (pc, .istore 8, 2)) (hn : pc + 2 = n) (hp : zn l7 = true) (h : ∀ x, zK X w R M Z n (l0 :: l1 :: l2 :: l3 :: l4 :: l5 :: l6 :: l7 :: some (.int x) :: Lr) st σ (kf x)) : zK X w R M Z pc (l0 :: l1 :: l2 :: l3 :: l4 :: l5 :: l6 :: l7 :: l8 :: Lr) (.int v :: st) σ (zlt v kf) := by
  subst hn
  intro r σ' hk p e s m args below meth c C H locs ls hP hS hl
  exact lv_istore (i := 8) C.hx C.hb (C.dec hd) (zl_has hl) (by simp only [List.map_cons, List.length_cons]; omega) rfl (fun ls' hl' => h v r σ' hk p e s m args below meth c C H locs ls' hP hS (zset1 (L := l0 :: l1 :: l2 :: l3 :: l4 :: l5 :: l6 :: l7 :: l8 :: Lr) (j := 8) (v := .int v) hp hl'))
theorem z_astore8 (i n : Nat) {v : Nat} {kf : Nat → Option (ρ × zS)} {l0 l1 l2 l3 l4 l5 l6 l7 l8 : Option Value} {Lr : List (Option Value)} (hd : M.2.2.2.2[i]? = some (pc, .astore 8, 2)) (hn : pc + 2 = n) (hp : zn l7 = true) (h : ∀ x, zK X w R M Z n (l0 :: l1 :: l2 :: l3 :: l4 :: l5 :: l6 :: l7 :: some (.ref x) :: Lr) st σ (kf x)) : zK X w R M Z pc (l0 :: l1 :: l2 :: l3 :: l4 :: l5 :: l6 :: l7 :: l8 :: Lr) (.ref v :: st) σ (zlt v kf) := by
  subst hn
  intro r σ' hk p e s m args below meth c C H locs ls hP hS hl
  exact lv_astore (i := 8) C.hx C.hb (C.dec hd) (zl_has hl) (by simp only [List.map_cons, List.length_cons]; omega) rfl (fun ls' hl' => h v r σ' hk p e s m args below meth c C H locs ls' hP hS (zset1 (L := l0 :: l1 :: l2 :: l3 :: l4 :: l5 :: l6 :: l7 :: l8 :: Lr) (j := 8) (v := .ref v) hp hl'))
theorem z_lstore8 (i n : Nat) {v : Int64} {kf : Int64 → Option (ρ × zS)} {l0 l1 l2 l3 l4 l5 l6 l7 l8 l9 : Option Value} {Lr : List (Option Value)} (hd : M.2.2.2.2[i]? = some (pc, .lstore 8, 2)) (hn : pc + 2 = n) (hp : zn l7 = true) (h : ∀ x, zK X w R M Z n (l0 :: l1 :: l2 :: l3 :: l4 :: l5 :: l6 :: l7 :: some (.long x) :: none :: Lr) st σ (kf x)) : zK X w R M Z pc (l0 :: l1 :: l2 :: l3 :: l4 :: l5 :: l6 :: l7 :: l8 :: l9 :: Lr) (.long v :: st) σ (zlt v kf) := by
  subst hn
  intro r σ' hk p e s m args below meth c C H locs ls hP hS hl
  exact lv_lstore (i := 8) C.hx C.hb (C.dec hd) (zl_has hl) (by simp only [List.map_cons, List.length_cons]; omega) rfl (fun ls' hl' => h v r σ' hk p e s m args below meth c C H locs ls' hP hS (zset2 (L := l0 :: l1 :: l2 :: l3 :: l4 :: l5 :: l6 :: l7 :: l8 :: l9 :: Lr) (j := 8) (v := .long v) hp hl'))
theorem z_iinc8 (i n : Nat) {x v : Int32} {a : Int} {kf : Int32 → Option (ρ × zS)} {l0 l1 l2 l3 l4 l5 l6 l7 : Option Value} {Lr : List (Option Value)} (hd : M.2.2.2.2[i]? = some (pc, .iinc 8 a, 3)) (hn : pc + 3 = n) (ha : Int32.ofInt a = v) (hp : zn l7 = true) (h : ∀ y, zK X w R M Z n (l0 :: l1 :: l2 :: l3 :: l4 :: l5 :: l6 :: l7 :: some (.int y) :: Lr) st σ (kf y)) : zK X w R M Z pc (l0 :: l1 :: l2 :: l3 :: l4 :: l5 :: l6 :: l7 :: some (.int x) :: Lr) st σ (zlt (x + v) kf) := by
  subst hn; subst ha
  intro r σ' hk p e s m args below meth c C H locs ls hP hS hl
  obtain ⟨q, hq⟩ := List.getElem?_of_mem (zprs_mem.mpr (zl_map' (X := X) (L := l0 :: l1 :: l2 :: l3 :: l4 :: l5 :: l6 :: l7 :: some (.int x) :: Lr) (i := 8) (u := .int x) rfl))
  exact lv_iinc C.hx C.hb (C.dec hd) (zl_has hl) hq rfl (by simp only [List.map_cons, List.length_cons]; omega) rfl (fun ls' hl' => h (x + Int32.ofInt a) r σ' hk p e s m args below meth c C H locs ls' hP hS (zset1 (L := l0 :: l1 :: l2 :: l3 :: l4 :: l5 :: l6 :: l7 :: some (.int x) :: Lr) (j := 8) (v := .int (x + Int32.ofInt a)) hp hl'))
theorem z_iload9 (i n : Nat) {x : Int32} {l0 l1 l2 l3 l4 l5 l6 l7 l8 : Option Value} {Lr : List (Option Value)} (hd : M.2.2.2.2[i]? = some (pc, .iload 9, 2)) (hn : pc + 2 = n) (h : zK X w R M Z n (l0 :: l1 :: l2 :: l3 :: l4 :: l5 :: l6 :: l7 :: l8 :: some (.int x) :: Lr) (.int x :: st) σ k) : zK X w R M Z pc (l0 :: l1 :: l2 :: l3 :: l4 :: l5 :: l6 :: l7 :: l8 :: some (.int x) :: Lr) st σ k := by
  subst hn
  intro r σ' hk p e s m args below meth c C H locs ls hP hS hl
  exact lv_iload C.hx C.hb (C.dec hd) (zl_at hl (i := 9) rfl) (h r σ' hk p e s m args below meth c C H locs ls hP hS hl)
theorem z_aload9 (i n : Nat) {x : Nat} {l0 l1 l2 l3 l4 l5 l6 l7 l8 : Option Value} {Lr : List (Option Value)} (hd : M.2.2.2.2[i]? = some (pc, .aload 9, 2)) (hn : pc + 2 = n) (h : zK X w R M Z n (l0 :: l1 :: l2 :: l3 :: l4 :: l5 :: l6 :: l7 :: l8 :: some (.ref x) :: Lr) (.ref x :: st) σ k) : zK X w R M Z pc (l0 :: l1 :: l2 :: l3 :: l4 :: l5 :: l6 :: l7 :: l8 :: some (.ref x) :: Lr) st σ k := by
  subst hn
  intro r σ' hk p e s m args below meth c C H locs ls hP hS hl
  exact lv_aload C.hx C.hb (C.dec hd) (zl_at hl (i := 9) rfl) (h r σ' hk p e s m args below meth c C H locs ls hP hS hl)
theorem z_lload9 (i n : Nat) {x : Int64} {l0 l1 l2 l3 l4 l5 l6 l7 l8 : Option Value} {Lr : List (Option Value)} (hd : M.2.2.2.2[i]? = some (pc, .lload 9, 2)) (hn : pc + 2 = n) (h : zK X w R M Z n (l0 :: l1 :: l2 :: l3 :: l4 :: l5 :: l6 :: l7 :: l8 :: some (.long x) :: Lr) (.long x :: st) σ k) : zK X w R M Z pc (l0 :: l1 :: l2 :: l3 :: l4 :: l5 :: l6 :: l7 :: l8 :: some (.long x) :: Lr) st σ k := by
  subst hn
  intro r σ' hk p e s m args below meth c C H locs ls hP hS hl
  exact lv_lload C.hx C.hb (C.dec hd) (zl_at hl (i := 9) rfl) (h r σ' hk p e s m args below meth c C H locs ls hP hS hl)
theorem z_istore9 (i n : Nat) {v : Int32} {kf : Int32 → Option (ρ × zS)} {l0 l1 l2 l3 l4 l5 l6 l7 l8 l9 : Option Value} {Lr : List (Option Value)} (hd : M.2.2.2.2[i]? = some (pc, .istore 9, 2)) (hn : pc + 2 = n) (hp : zn l8 = true) (h : ∀ x, zK X w R M Z n (l0 :: l1 :: l2 :: l3 :: l4 :: l5 :: l6 :: l7 :: l8 :: some (.int x) :: Lr) st σ (kf x)) : zK X w R M Z pc (l0 :: l1 :: l2 :: l3 :: l4 :: l5 :: l6 :: l7 :: l8 :: l9 :: Lr) (.int v :: st) σ (zlt v kf) := by
  subst hn
  intro r σ' hk p e s m args below meth c C H locs ls hP hS hl
  exact lv_istore (i := 9) C.hx C.hb (C.dec hd) (zl_has hl) (by simp only [List.map_cons, List.length_cons]; omega) rfl (fun ls' hl' => h v r σ' hk p e s m args below meth c C H locs ls' hP hS (zset1 (L := l0 :: l1 :: l2 :: l3 :: l4 :: l5 :: l6 :: l7 :: l8 :: l9 :: Lr) (j := 9) (v := .int v) hp hl'))
theorem z_astore9 (i n : Nat) {v : Nat} {kf : Nat → Option (ρ × zS)} {l0 l1 l2 l3 l4 l5 l6 l7 l8 l9 : Option Value} {Lr : List (Option Value)} (hd : M.2.2.2.2[i]? = some (pc, .astore 9, 2)) (hn : pc + 2 = n) (hp : zn l8 = true) (h : ∀ x, zK X w R M Z n (l0 :: l1 :: l2 :: l3 :: l4 :: l5 :: l6 :: l7 :: l8 :: some (.ref x) :: Lr) st σ (kf x)) : zK X w R M Z pc (l0 :: l1 :: l2 :: l3 :: l4 :: l5 :: l6 :: l7 :: l8 :: l9 :: Lr) (.ref v :: st) σ (zlt v kf) := by
  subst hn
  intro r σ' hk p e s m args below meth c C H locs ls hP hS hl
  exact lv_astore (i := 9) C.hx C.hb (C.dec hd) (zl_has hl) (by simp only [List.map_cons, List.length_cons]; omega) rfl (fun ls' hl' => h v r σ' hk p e s m args below meth c C H locs ls' hP hS (zset1 (L := l0 :: l1 :: l2 :: l3 :: l4 :: l5 :: l6 :: l7 :: l8 :: l9 :: Lr) (j := 9) (v := .ref v) hp hl'))
theorem z_lstore9 (i n : Nat) {v : Int64} {kf : Int64 → Option (ρ × zS)} {l0 l1 l2 l3 l4 l5 l6 l7 l8 l9 l10 : Option Value} {Lr : List (Option Value)} (hd : M.2.2.2.2[i]? = some (pc, .lstore 9, 2)) (hn : pc + 2 = n) (hp : zn l8 = true) (h : ∀ x, zK X w R M Z n (l0 :: l1 :: l2 :: l3 :: l4 :: l5 :: l6 :: l7 :: l8 :: some (.long x) :: none :: Lr) st σ (kf x)) : zK X w R M Z pc (l0 :: l1 :: l2 :: l3 :: l4 :: l5 :: l6 :: l7 :: l8 :: l9 :: l10 :: Lr) (.long v :: st) σ (zlt v kf) := by
  subst hn
  intro r σ' hk p e s m args below meth c C H locs ls hP hS hl
  exact lv_lstore (i := 9) C.hx C.hb (C.dec hd) (zl_has hl) (by simp only [List.map_cons, List.length_cons]; omega) rfl (fun ls' hl' => h v r σ' hk p e s m args below meth c C H locs ls' hP hS (zset2 (L := l0 :: l1 :: l2 :: l3 :: l4 :: l5 :: l6 :: l7 :: l8 :: l9 :: l10 :: Lr) (j := 9) (v := .long v) hp hl'))
theorem z_iinc9 (i n : Nat) {x v : Int32} {a : Int} {kf : Int32 → Option (ρ × zS)} {l0 l1 l2 l3 l4 l5 l6 l7 l8 : Option Value} {Lr : List (Option Value)} (hd : M.2.2.2.2[i]? = some (pc, .iinc 9 a, 3)) (hn : pc + 3 = n) (ha : Int32.ofInt a = v) (hp : zn l8 = true) (h : ∀ y, zK X w R M Z n (l0 :: l1 :: l2 :: l3 :: l4 :: l5 :: l6 :: l7 :: l8 :: some (.int y) :: Lr) st σ (kf y)) : zK X w R M Z pc (l0 :: l1 :: l2 :: l3 :: l4 :: l5 :: l6 :: l7 :: l8 :: some (.int x) :: Lr) st σ (zlt (x + v) kf) := by
  subst hn; subst ha
  intro r σ' hk p e s m args below meth c C H locs ls hP hS hl
  obtain ⟨q, hq⟩ := List.getElem?_of_mem (zprs_mem.mpr (zl_map' (X := X) (L := l0 :: l1 :: l2 :: l3 :: l4 :: l5 :: l6 :: l7 :: l8 :: some (.int x) :: Lr) (i := 9) (u := .int x) rfl))
  exact lv_iinc C.hx C.hb (C.dec hd) (zl_has hl) hq rfl (by simp only [List.map_cons, List.length_cons]; omega) rfl (fun ls' hl' => h (x + Int32.ofInt a) r σ' hk p e s m args below meth c C H locs ls' hP hS (zset1 (L := l0 :: l1 :: l2 :: l3 :: l4 :: l5 :: l6 :: l7 :: l8 :: some (.int x) :: Lr) (j := 9) (v := .int (x + Int32.ofInt a)) hp hl'))
theorem z_iload10 (i n : Nat) {x : Int32} {l0 l1 l2 l3 l4 l5 l6 l7 l8 l9 : Option Value} {Lr : List (Option Value)} (hd : M.2.2.2.2[i]? = some (pc, .iload 10, 2)) (hn : pc + 2 = n) (h : zK X w R M Z n (l0 :: l1 :: l2 :: l3 :: l4 :: l5 :: l6 :: l7 :: l8 :: l9 :: some (.int x) :: Lr) (.int x :: st) σ k) : zK X w R M Z pc (l0 :: l1 :: l2 :: l3 :: l4 :: l5 :: l6 :: l7 :: l8 :: l9 :: some (.int x) :: Lr) st σ k := by
  subst hn
  intro r σ' hk p e s m args below meth c C H locs ls hP hS hl
  exact lv_iload C.hx C.hb (C.dec hd) (zl_at hl (i := 10) rfl) (h r σ' hk p e s m args below meth c C H locs ls hP hS hl)
theorem z_aload10 (i n : Nat) {x : Nat} {l0 l1 l2 l3 l4 l5 l6 l7 l8 l9 : Option Value} {Lr : List (Option Value)} (hd : M.2.2.2.2[i]? = some (pc, .aload 10, 2)) (hn : pc + 2 = n) (h : zK X w R M Z n (l0 :: l1 :: l2 :: l3 :: l4 :: l5 :: l6 :: l7 :: l8 :: l9 :: some (.ref x) :: Lr) (.ref x :: st) σ k) : zK X w R M Z pc (l0 :: l1 :: l2 :: l3 :: l4 :: l5 :: l6 :: l7 :: l8 :: l9 :: some (.ref x) :: Lr) st σ k := by
  subst hn
  intro r σ' hk p e s m args below meth c C H locs ls hP hS hl
  exact lv_aload C.hx C.hb (C.dec hd) (zl_at hl (i := 10) rfl) (h r σ' hk p e s m args below meth c C H locs ls hP hS hl)
theorem z_lload10 (i n : Nat) {x : Int64} {l0 l1 l2 l3 l4 l5 l6 l7 l8 l9 : Option Value} {Lr : List (Option Value)} (hd : M.2.2.2.2[i]? = some (pc, .lload 10, 2)) (hn : pc + 2 = n) (h : zK X w R M Z n (l0 :: l1 :: l2 :: l3 :: l4 :: l5 :: l6 :: l7 :: l8 :: l9 :: some (.long x) :: Lr) (.long x :: st) σ k) : zK X w R M Z pc (l0 :: l1 :: l2 :: l3 :: l4 :: l5 :: l6 :: l7 :: l8 :: l9 :: some (.long x) :: Lr) st σ k := by
  subst hn
  intro r σ' hk p e s m args below meth c C H locs ls hP hS hl
  exact lv_lload C.hx C.hb (C.dec hd) (zl_at hl (i := 10) rfl) (h r σ' hk p e s m args below meth c C H locs ls hP hS hl)
theorem z_istore10 (i n : Nat) {v : Int32} {kf : Int32 → Option (ρ × zS)} {l0 l1 l2 l3 l4 l5 l6 l7 l8 l9 l10 : Option Value} {Lr : List (Option Value)} (hd : M.2.2.2.2[i]? = some (pc, .istore 10, 2)) (hn : pc + 2 = n) (hp : zn l9 = true) (h : ∀ x, zK X w R M Z n (l0 :: l1 :: l2 :: l3 :: l4 :: l5 :: l6 :: l7 :: l8 :: l9 :: some (.int x) :: Lr) st σ (kf x)) : zK X w R M Z pc (l0 :: l1 :: l2 :: l3 :: l4 :: l5 :: l6 :: l7 :: l8 :: l9 :: l10 :: Lr) (.int v :: st) σ (zlt v kf) := by
  subst hn
  intro r σ' hk p e s m args below meth c C H locs ls hP hS hl
  exact lv_istore (i := 10) C.hx C.hb (C.dec hd) (zl_has hl) (by simp only [List.map_cons, List.length_cons]; omega) rfl (fun ls' hl' => h v r σ' hk p e s m args below meth c C H locs ls' hP hS (zset1 (L := l0 :: l1 :: l2 :: l3 :: l4 :: l5 :: l6 :: l7 :: l8 :: l9 :: l10 :: Lr) (j := 10) (v := .int v) hp hl'))
theorem z_astore10 (i n : Nat) {v : Nat} {kf : Nat → Option (ρ × zS)} {l0 l1 l2 l3 l4 l5 l6 l7 l8 l9 l10 : Option Value} {Lr : List (Option Value)} (hd : M.2.2.2.2[i]? = some (pc, .astore 10, 2)) (hn : pc + 2 = n) (hp : zn l9 = true) (h : ∀ x, zK X w R M Z n (l0 :: l1 :: l2 :: l3 :: l4 :: l5 :: l6 :: l7 :: l8 :: l9 :: some (.ref x) :: Lr) st σ (kf x)) : zK X w R M Z pc (l0 :: l1 :: l2 :: l3 :: l4 :: l5 :: l6 :: l7 :: l8 :: l9 :: l10 :: Lr) (.ref v :: st) σ (zlt v kf) := by
  subst hn
  intro r σ' hk p e s m args below meth c C H locs ls hP hS hl
  exact lv_astore (i := 10) C.hx C.hb (C.dec hd) (zl_has hl) (by simp only [List.map_cons, List.length_cons]; omega) rfl (fun ls' hl' => h v r σ' hk p e s m args below meth c C H locs ls' hP hS (zset1 (L := l0 :: l1 :: l2 :: l3 :: l4 :: l5 :: l6 :: l7 :: l8 :: l9 :: l10 :: Lr) (j := 10) (v := .ref v) hp hl'))
theorem z_lstore10 (i n : Nat) {v : Int64} {kf : Int64 → Option (ρ × zS)} {l0 l1 l2 l3 l4 l5 l6 l7 l8 l9 l10 l11 : Option Value} {Lr : List (Option Value)} (hd : M.2.2.2.2[i]? = some (pc, .lstore 10, 2)) (hn : pc + 2 = n) (hp : zn l9 = true) (h : ∀ x, zK X w R M Z n (l0 :: l1 :: l2 :: l3 :: l4 :: l5 :: l6 :: l7 :: l8 :: l9 :: some (.long x) :: none :: Lr) st σ (kf x)) : zK X w R M Z pc (l0 :: l1 :: l2 :: l3 :: l4 :: l5 :: l6 :: l7 :: l8 :: l9 :: l10 :: l11 :: Lr) (.long v :: st) σ (zlt v kf) := by
  subst hn
  intro r σ' hk p e s m args below meth c C H locs ls hP hS hl
  exact lv_lstore (i := 10) C.hx C.hb (C.dec hd) (zl_has hl) (by simp only [List.map_cons, List.length_cons]; omega) rfl (fun ls' hl' => h v r σ' hk p e s m args below meth c C H locs ls' hP hS (zset2 (L := l0 :: l1 :: l2 :: l3 :: l4 :: l5 :: l6 :: l7 :: l8 :: l9 :: l10 :: l11 :: Lr) (j := 10) (v := .long v) hp hl'))
theorem z_iinc10 (i n : Nat) {x v : Int32} {a : Int} {kf : Int32 → Option (ρ × zS)} {l0 l1 l2 l3 l4 l5 l6 l7 l8 l9 : Option Value} {Lr : List (Option Value)} (hd : M.2.2.2.2[i]? = some (pc, .iinc 10 a, 3)) (hn : pc + 3 = n) (ha : Int32.ofInt a = v) (hp : zn l9 = true) (h : ∀ y, zK X w R M Z n (l0 :: l1 :: l2 :: l3 :: l4 :: l5 :: l6 :: l7 :: l8 :: l9 :: some (.int y) :: Lr) st σ (kf y)) : zK X w R M Z pc (l0 :: l1 :: l2 :: l3 :: l4 :: l5 :: l6 :: l7 :: l8 :: l9 :: some (.int x) :: Lr) st σ (zlt (x + v) kf) := by
  subst hn; subst ha
  intro r σ' hk p e s m args below meth c C H locs ls hP hS hl
  obtain ⟨q, hq⟩ := List.getElem?_of_mem (zprs_mem.mpr (zl_map' (X := X) (L := l0 :: l1 :: l2 :: l3 :: l4 :: l5 :: l6 :: l7 :: l8 :: l9 :: some (.int x) :: Lr) (i := 10) (u := .int x) rfl))
  exact lv_iinc C.hx C.hb (C.dec hd) (zl_has hl) hq rfl (by simp only [List.map_cons, List.length_cons]; omega) rfl (fun ls' hl' => h (x + Int32.ofInt a) r σ' hk p e s m args below meth c C H locs ls' hP hS (zset1 (L := l0 :: l1 :: l2 :: l3 :: l4 :: l5 :: l6 :: l7 :: l8 :: l9 :: some (.int x) :: Lr) (j := 10) (v := .int (x + Int32.ofInt a)) hp hl'))
theorem z_iload11 (i n : Nat) {x : Int32} {l0 l1 l2 l3 l4 l5 l6 l7 l8 l9 l10 : Option Value} {Lr : List (Option Value)} (hd : M.2.2.2.2[i]? = some (pc, .iload 11, 2)) (hn : pc + 2 = n) (h : zK X w R M Z n (l0 :: l1 :: l2 :: l3 :: l4 :: l5 :: l6 :: l7 :: l8 :: l9 :: l10 :: some (.int x) :: Lr) (.int x :: st) σ k) : zK X w R M Z pc (l0 :: l1 :: l2 :: l3 :: l4 :: l5 :: l6 :: l7 :: l8 :: l9 :: l10 :: some (.int x) :: Lr) st σ k := by
  subst hn
  intro r σ' hk p e s m args below meth c C H locs ls hP hS hl
  exact lv_iload C.hx C.hb (C.dec hd) (zl_at hl (i := 11) rfl) (h r σ' hk p e s m args below meth c C H locs ls hP hS hl)
theorem z_aload11 (i n : Nat) {x : Nat} {l0 l1 l2 l3 l4 l5 l6 l7 l8 l9 l10 : Option Value} {Lr : List (Option Value)} (hd : M.2.2.2.2[i]? = some (pc, .aload 11, 2)) (hn : pc + 2 = n) (h : zK X w R M Z n (l0 :: l1 :: l2 :: l3 :: l4 :: l5 :: l6 :: l7 :: l8 :: l9 :: l10 :: some (.ref x) :: Lr) (.ref x :: st) σ k) : zK X w R M Z pc (l0 :: l1 :: l2 :: l3 :: l4 :: l5 :: l6 :: l7 :: l8 :: l9 :: l10 :: some (.ref x) :: Lr) st σ k := by
  subst hn
  intro r σ' hk p e s m args below meth c C H locs ls hP hS hl
  exact lv_aload C.hx C.hb (C.dec hd) (zl_at hl (i := 11) rfl) (h r σ' hk p e s m args below meth c C H locs ls hP hS hl)
theorem z_lload11 (i n : Nat) {x : Int64} {l0 l1 l2 l3 l4 l5 l6 l7 l8 l9 l10 : Option Value} {Lr : List (Option Value)} (hd : M.2.2.2.2[i]? = some (pc, .lload 11, 2)) (hn : pc + 2 = n) (h : zK X w R M Z n (l0 :: l1 :: l2 :: l3 :: l4 :: l5 :: l6 :: l7 :: l8 :: l9 :: l10 :: some (.long x) :: Lr) (.long x :: st) σ k) : zK X w R M Z pc (l0 :: l1 :: l2 :: l3 :: l4 :: l5 :: l6 :: l7 :: l8 :: l9 :: l10 :: some (.long x) :: Lr) st σ k := by
  subst hn
  intro r σ' hk p e s m args below meth c C H locs ls hP hS hl
  exact lv_lload C.hx C.hb (C.dec hd) (zl_at hl (i := 11) rfl) (h r σ' hk p e s m args below meth c C H locs ls hP hS hl)
theorem z_istore11 (i n : Nat) {v : Int32} {kf : Int32 → Option (ρ × zS)} {l0 l1 l2 l3 l4 l5 l6 l7 l8 l9 l10 l11 : Option Value} {Lr : List (Option Value)} (hd : M.2.2.2.2[i]? = some (pc, .istore 11, 2)) (hn : pc + 2 = n) (hp : zn l10 = true) (h : ∀ x, zK X w R M Z n (l0 :: l1 :: l2 :: l3 :: l4 :: l5 :: l6 :: l7 :: l8 :: l9 :: l10 :: some (.int x) :: Lr) st σ (kf x)) : zK X w R M Z pc (l0 :: l1 :: l2 :: l3 :: l4 :: l5 :: l6 :: l7 :: l8 :: l9 :: l10 :: l11 :: Lr) (.int v :: st) σ (zlt v kf) := by
  subst hn
  intro r σ' hk p e s m args below meth c C H locs ls hP hS hl
  exact lv_istore (i := 11) C.hx C.hb (C.dec hd) (zl_has hl) (by simp only [List.map_cons, List.length_cons]; omega) rfl (fun ls' hl' => h v r σ' hk p e s m args below meth c C H locs ls' hP hS (zset1 (L := l0 :: l1 :: l2 :: l3 :: l4 :: l5 :: l6 :: l7 :: l8 :: l9 :: l10 :: l11 :: Lr) (j := 11) (v := .int v) hp hl'))
theorem z_astore11 (i n : Nat) {v : Nat} {kf : Nat → Option (ρ × zS)} {l0 l1 l2 l3 l4 l5 l6 l7 l8 l9 l10 l11 : Option Value} {Lr : List (Option Value)} (hd : M.2.2.2.2[i]? = some (pc, .astore 11, 2)) (hn : pc + 2 = n) (hp : zn l10 = true) (h : ∀ x, zK X w R M Z n (l0 :: l1 :: l2 :: l3 :: l4 :: l5 :: l6 :: l7 :: l8 :: l9 :: l10 :: some (.ref x) :: Lr) st σ (kf x)) : zK X w R M Z pc (l0 :: l1 :: l2 :: l3 :: l4 :: l5 :: l6 :: l7 :: l8 :: l9 :: l10 :: l11 :: Lr) (.ref v :: st) σ (zlt v kf) := by
  subst hn
  intro r σ' hk p e s m args below meth c C H locs ls hP hS hl
  exact lv_astore (i := 11) C.hx C.hb (C.dec hd) (zl_has hl) (by simp only [List.map_cons, List.length_cons]; omega) rfl (fun ls' hl' => h v r σ' hk p e s m args below meth c C H locs ls' hP hS (zset1 (L := l0 :: l1 :: l2 :: l3 :: l4 :: l5 :: l6 :: l7 :: l8 :: l9 :: l10 :: l11 :: Lr) (j := 11) (v := .ref v) hp hl'))
theorem z_lstore11 (i n : Nat) {v : Int64} {kf : Int64 → Option (ρ × zS)} {l0 l1 l2 l3 l4 l5 l6 l7 l8 l9 l10 l11 l12 : Option Value} {Lr : List (Option Value)} (hd : M.2.2.2.2[i]? = some (pc, .lstore 11, 2)) (hn : pc + 2 = n) (hp : zn l10 = true) (h : ∀ x, zK X w R M Z n (l0 :: l1 :: l2 :: l3 :: l4 :: l5 :: l6 :: l7 :: l8 :: l9 :: l10 :: some (.long x) :: none :: Lr) st σ (kf x)) : zK X w R M Z pc (l0 :: l1 :: l2 :: l3 :: l4 :: l5 :: l6 :: l7 :: l8 :: l9 :: l10 :: l11 :: l12 :: Lr) (.long v :: st) σ (zlt v kf) := by
  subst hn
  intro r σ' hk p e s m args below meth c C H locs ls hP hS hl
  exact lv_lstore (i := 11) C.hx C.hb (C.dec hd) (zl_has hl) (by simp only [List.map_cons, List.length_cons]; omega) rfl (fun ls' hl' => h v r σ' hk p e s m args below meth c C H locs ls' hP hS (zset2 (L := l0 :: l1 :: l2 :: l3 :: l4 :: l5 :: l6 :: l7 :: l8 :: l9 :: l10 :: l11 :: l12 :: Lr) (j := 11) (v := .long v) hp hl'))
theorem z_iinc11 (i n : Nat) {x v : Int32} {a : Int} {kf : Int32 → Option (ρ × zS)} {l0 l1 l2 l3 l4 l5 l6 l7 l8 l9 l10 : Option Value} {Lr : List (Option Value)} (hd : M.2.2.2.2[i]? = some (pc, .iinc 11 a, 3)) (hn : pc + 3 = n) (ha : Int32.ofInt a = v) (hp : zn l10 = true) (h : ∀ y, zK X w R M Z n (l0 :: l1 :: l2 :: l3 :: l4 :: l5 :: l6 :: l7 :: l8 :: l9 :: l10 :: some (.int y) :: Lr) st σ (kf y)) : zK X w R M Z pc (l0 :: l1 :: l2 :: l3 :: l4 :: l5 :: l6 :: l7 :: l8 :: l9 :: l10 :: some (.int x) :: Lr) st σ (zlt (x + v) kf) := by
  subst hn; subst ha
  intro r σ' hk p e s m args below meth c C H locs ls hP hS hl
  obtain ⟨q, hq⟩ := List.getElem?_of_mem (zprs_mem.mpr (zl_map' (X := X) (L := l0 :: l1 :: l2 :: l3 :: l4 :: l5 :: l6 :: l7 :: l8 :: l9 :: l10 :: some (.int x) :: Lr) (i := 11) (u := .int x) rfl))
  exact lv_iinc C.hx C.hb (C.dec hd) (zl_has hl) hq rfl (by simp only [List.map_cons, List.length_cons]; omega) rfl (fun ls' hl' => h (x + Int32.ofInt a) r σ' hk p e s m args below meth c C H locs ls' hP hS (zset1 (L := l0 :: l1 :: l2 :: l3 :: l4 :: l5 :: l6 :: l7 :: l8 :: l9 :: l10 :: some (.int x) :: Lr) (j := 11) (v := .int (x + Int32.ofInt a)) hp hl'))
theorem z_iload12 (i n : Nat) {x : Int32} {l0 l1 l2 l3 l4 l5 l6 l7 l8 l9 l10 l11 : Option Value} {Lr : List (Option Value)} (hd : M.2.2.2.2[i]? = some (pc, .iload 12, 2)) (hn : pc + 2 = n) (h : zK X w R M Z n (l0 :: l1 :: l2 :: l3 :: l4 :: l5 :: l6 :: l7 :: l8 :: l9 :: l10 :: l11 :: some (.int x) :: Lr) (.int x :: st) σ k) : zK X w R M Z pc (l0 :: l1 :: l2 :: l3 :: l4 :: l5 :: l6 :: l7 :: l8 :: l9 :: l10 :: l11 :: some (.int x) :: Lr) st σ k := by
  subst hn
  intro r σ' hk p e s m args below meth c C H locs ls hP hS hl
  exact lv_iload C.hx C.hb (C.dec hd) (zl_at hl (i := 12) rfl) (h r σ' hk p e s m args below meth c C H locs ls hP hS hl)
theorem z_aload12 (i n : Nat) {x : Nat} {l0 l1 l2 l3 l4 l5 l6 l7 l8 l9 l10 l11 : Option Value} {Lr : List (Option Value)} (hd : M.2.2.2.2[i]? = some (pc, .aload 12, 2)) (hn : pc + 2 = n) (h : zK X w R M Z n (l0 :: l1 :: l2 :: l3 :: l4 :: l5 :: l6 :: l7 :: l8 :: l9 :: l10 :: l11 :: some (.ref x) :: Lr) (.ref x :: st) σ k) : zK X w R M Z pc (l0 :: l1 :: l2 :: l3 :: l4 :: l5 :: l6 :: l7 :: l8 :: l9 :: l10 :: l11 :: some (.ref x) :: Lr) st σ k := by
  subst hn
  intro r σ' hk p e s m args below meth c C H locs ls hP hS hl
  exact lv_aload C.hx C.hb (C.dec hd) (zl_at hl (i := 12) rfl) (h r σ' hk p e s m args below meth c C H locs ls hP hS hl)
theorem z_lload12 (i n : Nat) {x : Int64} {l0 l1 l2 l3 l4 l5 l6 l7 l8 l9 l10 l11 : Option Value} {Lr : List (Option Value)} (hd : M.2.2.2.2[i]? = some (pc, .lload 12, 2)) (hn : pc + 2 = n) (h : zK X w R M Z n (l0 :: l1 :: l2 :: l3 :: l4 :: l5 :: l6 :: l7 :: l8 :: l9 :: l10 :: l11 :: some (.long x) :: Lr) (.long x :: st) σ k) : zK X w R M Z pc (l0 :: l1 :: l2 :: l3 :: l4 :: l5 :: l6 :: l7 :: l8 :: l9 :: l10 :: l11 :: some (.long x) :: Lr) st σ k := by
  subst hn
  intro r σ' hk p e s m args below meth c C H locs ls hP hS hl
  exact lv_lload C.hx C.hb (C.dec hd) (zl_at hl (i := 12) rfl) (h r σ' hk p e s m args below meth c C H locs ls hP hS hl)
theorem z_istore12 (i n : Nat) {v : Int32} {kf : Int32 → Option (ρ × zS)} {l0 l1 l2 l3 l4 l5 l6 l7 l8 l9 l10 l11 l12 : Option Value} {Lr : List (Option Value)} (hd : M.2.2.2.2[i]? = some (pc, .istore 12, 2)) (hn : pc + 2 = n) (hp : zn l11 = true) (h : ∀ x, zK X w R M Z n (l0 :: l1 :: l2 :: l3 :: l4 :: l5 :: l6 :: l7 :: l8 :: l9 :: l10 :: l11 :: some (.int x) :: Lr) st σ (kf x)) : zK X w R M Z pc (l0 :: l1 :: l2 :: l3 :: l4 :: l5 :: l6 :: l7 :: l8 :: l9 :: l10 :: l11 :: l12 :: Lr) (.int v :: st) σ (zlt v kf) := by
  subst hn
  intro r σ' hk p e s m args below meth c C H locs ls hP hS hl
  exact lv_istore (i := 12) C.hx C.hb (C.dec hd) (zl_has hl) (by simp only [List.map_cons, List.length_cons]; omega) rfl (fun ls' hl' => h v r σ' hk p e s m args below meth c C H locs ls' hP hS (zset1 (L := l0 :: l1 :: l2 :: l3 :: l4 :: l5 :: l6 :: l7 :: l8 :: l9 :: l10 :: l11 :: l12 :: Lr) (j := 12) (v := .int v) hp hl'))
theorem z_astore12 (i n : Nat) {v : Nat} {kf : Nat → Option (ρ × zS)} {l0 l1 l2 l3 l4 l5 l6 l7 l8 l9 l10 l11 l12 : Option Value} {Lr : List (Option Value)} (hd : M.2.2.2.2[i]? = some (pc, .astore 12, 2)) (hn : pc + 2 = n) (hp : zn l11 = true) (h : ∀ x, zK X w R M Z n (l0 :: l1 :: l2 :: l3 :: l4 :: l5 :: l6 :: l7 :: l8 :: l9 :: l10 :: l11 :: some (.ref x) :: Lr) st σ (kf x)) : zK X w R M Z pc (l0 :: l1 :: l2 :: l3 :: l4 :: l5 :: l6 :: l7 :: l8 :: l9 :: l10 :: l11 :: l12 :: Lr) (.ref v :: st) σ (zlt v kf) := by
  subst hn
  intro r σ' hk p e s m args below meth c C H locs ls hP hS hl
  exact lv_astore (i := 12) C.hx C.hb (C.dec hd) (zl_has hl) (by simp only [List.map_cons, List.length_cons]; omega) rfl (fun ls' hl' => h v r σ' hk p e s m args below meth c C H locs ls' hP hS (zset1 (L := l0 :: l1 :: l2 :: l3 :: l4 :: l5 :: l6 :: l7 :: l8 :: l9 :: l10 :: l11 :: l12 :: Lr) (j := 12) (v := .ref v) hp hl'))
theorem z_lstore12 (i n : Nat) {v : Int64} {kf : Int64 → Option (ρ × zS)} {l0 l1 l2 l3 l4 l5 l6 l7 l8 l9 l10 l11 l12 l13 : Option Value} {Lr : List (Option Value)} (hd : M.2.2.2.2[i]? = some (pc, .lstore 12, 2)) (hn : pc + 2 = n) (hp : zn l11 = true) (h : ∀ x, zK X w R M Z n (l0 :: l1 :: l2 :: l3 :: l4 :: l5 :: l6 :: l7 :: l8 :: l9 :: l10 :: l11 :: some (.long x) :: none :: Lr) st σ (kf x)) : zK X w R M Z pc (l0 :: l1 :: l2 :: l3 :: l4 :: l5 :: l6 :: l7 :: l8 :: l9 :: l10 :: l11 :: l12 :: l13 :: Lr) (.long v :: st) σ (zlt v kf) := by
  subst hn
  intro r σ' hk p e s m args below meth c C H locs ls hP hS hl
  exact lv_lstore (i := 12) C.hx C.hb (C.dec hd) (zl_has hl) (by simp only [List.map_cons, List.length_cons]; omega) rfl (fun ls' hl' => h v r σ' hk p e s m args below meth c C H locs ls' hP hS (zset2 (L := l0 :: l1 :: l2 :: l3 :: l4 :: l5 :: l6 :: l7 :: l8 :: l9 :: l10 :: l11 :: l12 :: l13 :: Lr) (j := 12) (v := .long v) hp hl'))
theorem z_iinc12 (i n : Nat) {x v : Int32} {a : Int} {kf : Int32 → Option (ρ × zS)} {l0 l1 l2 l3 l4 l5 l6 l7 l8 l9 l10 l11 : Option Value} {Lr : List (Option Value)} (hd : M.2.2.2.2[i]? = some (pc, .iinc 12 a, 3)) (hn : pc + 3 = n) (ha : Int32.ofInt a = v) (hp : zn l11 = true) (h : ∀ y, zK X w R M Z n (l0 :: l1 :: l2 :: l3 :: l4 :: l5 :: l6 :: l7 :: l8 :: l9 :: l10 :: l11 :: some (.int y) :: Lr) st σ (kf y)) : zK X w R M Z pc (l0 :: l1 :: l2 :: l3 :: l4 :: l5 :: l6 :: l7 :: l8 :: l9 :: l10 :: l11 :: some (.int x) :: Lr) st σ (zlt (x + v) kf) := by
  subst hn; subst ha
  intro r σ' hk p e s m args below meth c C H locs ls hP hS hl
  obtain ⟨q, hq⟩ := List.getElem?_of_mem (zprs_mem.mpr (zl_map' (X := X) (L := l0 :: l1 :: l2 :: l3 :: l4 :: l5 :: l6 :: l7 :: l8 :: l9 :: l10 :: l11 :: some (.int x) :: Lr) (i := 12) (u := .int x) rfl))
  exact lv_iinc C.hx C.hb (C.dec hd) (zl_has hl) hq rfl (by simp only [List.map_cons, List.length_cons]; omega) rfl (fun ls' hl' => h (x + Int32.ofInt a) r σ' hk p e s m args below meth c C H locs ls' hP hS (zset1 (L := l0 :: l1 :: l2 :: l3 :: l4 :: l5 :: l6 :: l7 :: l8 :: l9 :: l10 :: l11 :: some (.int x) :: Lr) (j := 12) (v := .int (x + Int32.ofInt a)) hp hl'))
end ZR
end
section
/-! fields, arrays, returns, entry, calls -/
def zcl (ci : Nat) (q : vw_C) (ty : Nat → FieldType) : Prop := ci < 100 ∧ vwCl[ci]? = some q ∧ (∀ k, k < q.2.2 → parseFieldDescriptor (q.2.1 k).2.2.1 = some (ty k)) ∧ (∀ a, a < q.2.2 → ∀ b, b < q.2.2 → a ≠ b → (q.2.1 a).2.1 ≠ (q.2.1 b).2.1) ∧ (∀ w ∈ u_ws q.1 q.2.1 q.2.2, w ∈ zTT) ∧ (zf ci).length = q.2.2
def zF (own : String) (ix ci fk : Nat) (q : vw_C) (ty : Nat → FieldType) : Prop := zcl ci q ty ∧ fk < q.2.2 ∧ Cond.fieldLink own ix (q.2.1 fk).1 (q.2.1 fk).2.1 (q.2.1 fk).2.2.1 ∈ zTT
theorem zE_obj {X : zX} {σ : zS} {a ci : Nat} (h : ci < 100) : zE X σ a (ci, 0) = .inr (ci, zfs X σ a ci) := by simp [zE, h]
theorem zE_int {X : zX} {σ : zS} {a n : Nat} : zE X σ a (100, n) = .inl (X.2.2.2.1 0, n, .inl (fun j => σ.1 a j)) := by simp [zE]
theorem zE_byte {X : zX} {σ : zS} {a n : Nat} : zE X σ a (101, n) = .inl (X.2.2.2.1 1, n, .inl (fun j => σ.1 a j)) := by simp [zE]
theorem zE_page {X : zX} {σ : zS} {a n : Nat} : zE X σ a (103, n) = .inl (X.2.2.2.1 3, n, .inr (.inr (.inr (.inr (fun j => some (za X (σ.2 a j))))))) := by simp [zE]
theorem zok_in {s : Nat} {g : Nat × Nat} {i : Int32} (h : zok s g i) : g = (s, g.2) ∧ vp_in i g.2 := ⟨by rw [← h.1], vp_in_iff.mpr h.2⟩
section ZH
variable {X : zX} {w : zW} {R : Room} {M : zM} {ρ : Type} {Z : ρ → zS → zZt} {pc : Nat} {L : List (Option Value)} {st : List Value} {σ : zS} {k : Option (ρ × zS)}
theorem z_getI (i n fk : Nat) {a ci ix : Nat} {q : vw_C} {ty : Nat → FieldType} (hd : M.2.2.2.2[i]? = some (pc, .getfield ix, 3)) (hn : pc + 3 = n) (hf : zF M.1.cls ix ci fk q ty) (hb : (zf ci)[fk]? = some false) (hg : w.2 a = (ci, 0)) (h : zK X w R M Z n L (.int (σ.1 a fk) :: st) σ k) : zK X w R M Z pc L (.ref a :: st) σ k := by
  subst hn
  obtain ⟨⟨h5, h1, h6, h7, h4, h8⟩, h2, h3⟩ := hf
  intro r σ' hk p e s m args below meth c C H locs ls hP hS hl
  have ha := C.ok.lt hg (by omega)
  exact va_get (D := X.2.1) (v := .int (σ.1 a fk)) (fs := zfs X σ a ci) (ci := ci) (C := q.1) (T := q.2.1) (N := q.2.2) C.hx C.hb C.hts h4 C.hown C.hK hP a (by rw [zw_get ha, hg, zE_obj h5]) h1 fk h2 (C.hts _ h3) (fun _ h => h) (by rw [zfs_get hb]; rfl) (C.dec hd) (h r σ' hk p e s m args below meth c C H locs ls hP hS hl)
theorem z_getR (i n fk : Nat) {a ci ix : Nat} {q : vw_C} {ty : Nat → FieldType} (hd : M.2.2.2.2[i]? = some (pc, .getfield ix, 3)) (hn : pc + 3 = n) (hf : zF M.1.cls ix ci fk q ty) (hb : (zf ci)[fk]? = some true) (hg : w.2 a = (ci, 0)) (h : zK X w R M Z n L (.ref (σ.2 a fk) :: st) σ k) : zK X w R M Z pc L (.ref a :: st) σ k := by
  subst hn
  obtain ⟨⟨h5, h1, h6, h7, h4, h8⟩, h2, h3⟩ := hf
  intro r σ' hk p e s m args below meth c C H locs ls hP hS hl
  have ha := C.ok.lt hg (by omega)
  exact va_get (D := X.2.1) (v := .ref (za X (σ.2 a fk))) (fs := zfs X σ a ci) (ci := ci) (C := q.1) (T := q.2.1) (N := q.2.2) C.hx C.hb C.hts h4 C.hown C.hK hP a (by rw [zw_get ha, hg, zE_obj h5]) h1 fk h2 (C.hts _ h3) (fun _ h => h) (by rw [zfs_get hb]; rfl) (C.dec hd) (h r σ' hk p e s m args below meth c C H locs ls hP hS hl)
theorem zpi_o {σ : zS} {a k : Nat} {v : Int32} : ∀ b, b ≠ a → ∀ j, (zpi σ a k v).1 b j = σ.1 b j := fun b hb j => by simp [zpi, hb]
theorem zpr_o {σ : zS} {a k v : Nat} : ∀ b, b ≠ a → ∀ j, (zpr σ a k v).2 b j = σ.2 b j := fun b hb j => by simp [zpr, hb]
theorem z_putX (i n fk : Nat) {a ci ix : Nat} {v : Int32} {q : vw_C} {ty : Nat → FieldType} {t : FieldType} {kf : zS → Option (ρ × zS)} (hd : M.2.2.2.2[i]? = some (pc, .putfield ix, 3)) (hn : pc + 3 = n) (hf : zF M.1.cls ix ci fk q ty) (hb : (zf ci)[fk]? = some false) (hfin : (q.2.1 fk).2.2.2 = false) (ht : ty fk = t) (hnar : narrow t (.int v) = .int v) (hfit : fits t (.int v) = true) (hg : w.2 a = (ci, 0)) (h : ∀ σ2, zK X w R M Z n L st σ2 (kf σ2)) : zK X w R M Z pc L (.int v :: .ref a :: st) σ (zlt (zpi σ a fk v) kf) := by
  subst hn; subst ht
  obtain ⟨⟨h5, h1, h6, h7, h4, h8⟩, h2, h3⟩ := hf
  intro r σ' hk p e s m args below meth c C H locs ls hP hS hl
  have ha := C.ok.lt hg (by omega)
  refine va_put (D := X.2.1) (v := .int v) (ty := ty fk) (fs := zfs X σ a ci) (ci := ci) (C := q.1) (T := q.2.1) (N := q.2.2) C.hx C.hb C.hts h4 ty h6 h7 C.hown C.hK hP (zw_D C.ok) hS a (by rw [zw_get ha, hg, zE_obj h5]) h1 fk h2 (C.hts _ h3) (fun _ h => h) hfin (h6 fk h2) hnar hfit (by simp [zfs, h8, h2]) (C.dec hd) (fun H1 locs1 hP1 hD1 hS1 => ?_)
  refine h (zpi σ a fk v) r σ' hk p e s m args below meth c C H1 locs1 ls ?_ hS1 hl
  rw [zw_set (τ := zpi σ a fk v) ha (by rw [hg, zE_obj h5, zfs_setI hb]) zpi_o (fun b _ j => rfl)] at hP1
  exact hP1
theorem z_putI (i n fk : Nat) {a ci ix : Nat} {v : Int32} {q : vw_C} {ty : Nat → FieldType} {kf : zS → Option (ρ × zS)} (hd : M.2.2.2.2[i]? = some (pc, .putfield ix, 3)) (hn : pc + 3 = n) (hf : zF M.1.cls ix ci fk q ty) (hb : (zf ci)[fk]? = some false) (hfin : (q.2.1 fk).2.2.2 = false) (ht : ty fk = .int) (hg : w.2 a = (ci, 0)) (h : ∀ σ2, zK X w R M Z n L st σ2 (kf σ2)) : zK X w R M Z pc L (.int v :: .ref a :: st) σ (zlt (zpi σ a fk v) kf) :=
  z_putX i n fk hd hn hf hb hfin ht rfl rfl hg h
theorem zb_nar {v : Int32} (h : zb v) : narrow .boolean (.int v) = .int v := by
  rcases h with rfl | rfl <;> rfl
theorem zb_fit {v : Int32} (h : zb v) : fits .boolean (.int v) = true := by
  rcases h with rfl | rfl <;> rfl
theorem z_putZ (i n fk : Nat) {a ci ix : Nat} {v : Int32} {q : vw_C} {ty : Nat → FieldType} {kf : zS → Option (ρ × zS)} (hd : M.2.2.2.2[i]? = some (pc, .putfield ix, 3)) (hn : pc + 3 = n) (hf : zF M.1.cls ix ci fk q ty) (hb : (zf ci)[fk]? = some false) (hfin : (q.2.1 fk).2.2.2 = false) (ht : ty fk = .boolean) (hg : w.2 a = (ci, 0)) (h : ∀ σ2, zK X w R M Z n L st σ2 (kf σ2)) : zK X w R M Z pc L (.int v :: .ref a :: st) σ (zck (zb v) (zlt (zpi σ a fk v) kf)) :=
  z_ck (fun hv => z_putX i n fk hd hn hf hb hfin ht (zb_nar hv) (zb_fit hv) hg h)
theorem z_putR (i n fk : Nat) {a ci ix v : Nat} {q : vw_C} {ty : Nat → FieldType} {t : FieldType} {kf : zS → Option (ρ × zS)} (hd : M.2.2.2.2[i]? = some (pc, .putfield ix, 3)) (hn : pc + 3 = n) (hf : zF M.1.cls ix ci fk q ty) (hb : (zf ci)[fk]? = some true) (hfin : (q.2.1 fk).2.2.2 = false) {cn : String} (ht : ty fk = .object cn) (hg : w.2 a = (ci, 0)) (h : ∀ σ2, zK X w R M Z n L st σ2 (kf σ2)) : zK X w R M Z pc L (.ref v :: .ref a :: st) σ (zlt (zpr σ a fk v) kf) := by
  subst hn
  obtain ⟨⟨h5, h1, h6, h7, h4, h8⟩, h2, h3⟩ := hf
  intro r σ' hk p e s m args below meth c C H locs ls hP hS hl
  have ha := C.ok.lt hg (by omega)
  refine va_put (D := X.2.1) (v := .ref (za X v)) (ty := .object cn) (fs := zfs X σ a ci) (ci := ci) (C := q.1) (T := q.2.1) (N := q.2.2) C.hx C.hb C.hts h4 ty h6 h7 C.hown C.hK hP (zw_D C.ok) hS a (by rw [zw_get ha, hg, zE_obj h5]) h1 fk h2 (C.hts _ h3) (fun _ h => h) hfin (by rw [← ht]; exact h6 fk h2) rfl rfl (by simp [zfs, h8, h2]) (C.dec hd) (fun H1 locs1 hP1 hD1 hS1 => ?_)
  refine h (zpr σ a fk v) r σ' hk p e s m args below meth c C H1 locs1 ls ?_ hS1 hl
  rw [zw_set (X := X) (σ := σ) (τ := zpr σ a fk v) ha (by rw [hg, zE_obj h5, zfs_setR hb]) (fun b _ j => rfl) zpr_o] at hP1
  exact hP1
theorem z_iald (i n : Nat) {a : Nat} {x : Int32} (hd : M.2.2.2.2[i]? = some (pc, .iaload, 1)) (hn : pc + 1 = n) (h : zK X w R M Z n L (.int (σ.1 a x.toNatClampNeg) :: st) σ k) : zK X w R M Z pc L (.int x :: .ref a :: st) σ (zck (zok 100 (w.2 a) x) k) := by
  subst hn
  refine z_ck (fun hc => ?_)
  obtain ⟨hg, hi⟩ := zok_in hc
  intro r σ' hk p e s m args below meth c C H locs ls hP hS hl
  have ha := C.ok.lt hg (by omega)
  exact va_iald (D := X.2.1) C.hx C.hb C.hK hP a 0 (f := fun j => σ.1 a j) (by rw [zw_get ha]; rw [hg, zE_int]) rfl hi (C.dec hd) (h r σ' hk p e s m args below meth c C H locs ls hP hS hl)
theorem z_bald (i n : Nat) {a : Nat} {x : Int32} (hd : M.2.2.2.2[i]? = some (pc, .baload, 1)) (hn : pc + 1 = n) (h : zK X w R M Z n L (.int (σ.1 a x.toNatClampNeg) :: st) σ k) : zK X w R M Z pc L (.int x :: .ref a :: st) σ (zck (zok 101 (w.2 a) x) k) := by
  subst hn
  refine z_ck (fun hc => ?_)
  obtain ⟨hg, hi⟩ := zok_in hc
  intro r σ' hk p e s m args below meth c C H locs ls hP hS hl
  have ha := C.ok.lt hg (by omega)
  exact va_bald (D := X.2.1) C.hx C.hb C.hK hP a 1 (f := fun j => σ.1 a j) (by rw [zw_get ha]; rw [hg, zE_byte]) rfl hi (C.dec hd) (h r σ' hk p e s m args below meth c C H locs ls hP hS hl)
theorem z_aald (i n : Nat) {a : Nat} {x : Int32} (hd : M.2.2.2.2[i]? = some (pc, .aaload, 1)) (hn : pc + 1 = n) (h : zK X w R M Z n L (.ref (σ.2 a x.toNatClampNeg) :: st) σ k) : zK X w R M Z pc L (.int x :: .ref a :: st) σ (zck (zok 103 (w.2 a) x) k) := by
  subst hn
  refine z_ck (fun hc => ?_)
  obtain ⟨hg, hi⟩ := zok_in hc
  intro r σ' hk p e s m args below meth c C H locs ls hP hS hl
  have ha := C.ok.lt hg (by omega)
  exact va_aldq (D := X.2.1) (C := "PostScripts$Page") C.hx C.hb C.hK hP a 2 (f := fun j => some (za X (σ.2 a j))) (by rw [zw_get ha]; rw [hg, zE_page]) rfl hi (C.dec hd) (h r σ' hk p e s m args below meth c C H locs ls hP hS hl)
theorem z_alen (i n : Nat) {a : Nat} (hd : M.2.2.2.2[i]? = some (pc, .arraylength, 1)) (hn : pc + 1 = n) (hg : (w.2 a).1 = 100) (h : zK X w R M Z n L (.int (Int32.ofNat (w.2 a).2) :: st) σ k) : zK X w R M Z pc L (.ref a :: st) σ k := by
  subst hn
  have hg' : w.2 a = (100, (w.2 a).2) := by rw [← hg]
  intro r σ' hk p e s m args below meth c C H locs ls hP hS hl
  have ha := C.ok.lt hg' (by omega)
  exact va_alen (D := X.2.1) C.hx C.hb C.hK hP a 0 (x := ((w.2 a).2, .inl (fun j => σ.1 a j))) (by rw [zw_get ha]; rw [hg', zE_int]) rfl rfl (C.dec hd) (h r σ' hk p e s m args below meth c C H locs ls hP hS hl)
theorem z_iast (i n : Nat) {a : Nat} {x v : Int32} {kf : zS → Option (ρ × zS)} (hd : M.2.2.2.2[i]? = some (pc, .iastore, 1)) (hn : pc + 1 = n) (h : ∀ σ2, zK X w R M Z n L st σ2 (kf σ2)) : zK X w R M Z pc L (.int v :: .int x :: .ref a :: st) σ (zck (zok 100 (w.2 a) x) (zlt (zpi σ a x.toNatClampNeg v) kf)) := by
  subst hn
  refine z_ck (fun hc => ?_)
  obtain ⟨hg, hi⟩ := zok_in hc
  intro r σ' hk p e s m args below meth c C H locs ls hP hS hl
  have ha := C.ok.lt hg (by omega)
  refine va_iast (D := X.2.1) C.hx C.hb C.hK hP (zw_D C.ok) hS a 0 (f := fun j => σ.1 a j) (by rw [zw_get ha]; rw [hg, zE_int]) rfl hi (C.dec hd) (fun H1 locs1 hP1 hD1 hS1 => ?_)
  refine h _ r σ' hk p e s m args below meth c C H1 locs1 ls ?_ hS1 hl
  rw [zw_set (τ := zpi σ a x.toNatClampNeg v) ha (by rw [hg, zE_int]; exact congrArg (fun f => Sum.inl (X.2.2.2.1 0, (w.2 a).2, Sum.inl f)) (funext fun j => by simp [upd, zpi])) zpi_o (fun b _ j => rfl)] at hP1
  exact hP1
theorem z_bast (i n : Nat) {a : Nat} {x v : Int32} {kf : zS → Option (ρ × zS)} (hd : M.2.2.2.2[i]? = some (pc, .bastore, 1)) (hn : pc + 1 = n) (h : ∀ σ2, zK X w R M Z n L st σ2 (kf σ2)) : zK X w R M Z pc L (.int v :: .int x :: .ref a :: st) σ (zck (zok 101 (w.2 a) x) (zlt (zpi σ a x.toNatClampNeg (vp_nar .byte v)) kf)) := by
  subst hn
  refine z_ck (fun hc => ?_)
  obtain ⟨hg, hi⟩ := zok_in hc
  intro r σ' hk p e s m args below meth c C H locs ls hP hS hl
  have ha := C.ok.lt hg (by omega)
  refine va_bast (D := X.2.1) C.hx C.hb C.hK hP (zw_D C.ok) hS a 1 (f := fun j => σ.1 a j) (by rw [zw_get ha]; rw [hg, zE_byte]) rfl hi (C.dec hd) (fun H1 locs1 hP1 hD1 hS1 => ?_)
  refine h _ r σ' hk p e s m args below meth c C H1 locs1 ls ?_ hS1 hl
  rw [zw_set (τ := zpi σ a x.toNatClampNeg (vp_nar .byte v)) ha (by rw [hg, zE_byte]; exact congrArg (fun f => Sum.inl (X.2.2.2.1 1, (w.2 a).2, Sum.inl f)) (funext fun j => by simp [upd, zpi])) zpi_o (fun b _ j => rfl)] at hP1
  exact hP1
/-- a method's end -/
theorem zB_end {p : Program} {s : State} {m : MethodId} {args : Array Value} {meth : Method} {c : Code} (C : zC X w M p s m args meth c) {H : Heap} {locs : List Loc} (hP : va_P X.2.1 vwCl (zw X w σ) H) (hS : va_S (zA X w) s.heap H locs) (t : State) (ht : t.heap = H) (hW : s.WarmedH t.vm) : zB X w σ t :=
  ⟨by rw [ht]; exact hP, va_K.moved hW.alike C.hK, C.ok, by rw [ht]; exact (C.hV.kept hS.2.1).warm hW⟩
theorem z_iret (i : Nat) {v : Int32} (hd : M.2.2.2.2[i]? = some (pc, .ireturn, 1)) (hr : M.2.2.2.1 = some .int) : zK X w R M (zZ X w zeI) pc L [.int v] σ (some (v, σ)) := by
  intro r σ' hk p e s m args below meth c C H locs ls hP hS hl
  cases hk
  exact W.iret (v := v) C.hx C.hb (C.hr.trans hr) (fun t ht hW => ⟨⟨rfl, zB_end C hP hS t ht hW⟩, hS.F ht⟩) hS.2.2 (C.dec hd) C.hlk
theorem z_zret (i : Nat) {v : Int32} (hd : M.2.2.2.2[i]? = some (pc, .ireturn, 1)) (hr : M.2.2.2.1 = some .boolean) : zK X w R M (zZ X w zeI) pc L [.int v] σ (zck (zb v) (some (v, σ))) := by
  refine z_ck (fun hv => ?_)
  intro r σ' hk p e s m args below meth c C H locs ls hP hS hl
  cases hk
  exact W.zret (v := v) C.hx C.hb (C.hr.trans hr) (zb_nar hv) (fun t ht hW => ⟨⟨rfl, zB_end C hP hS t ht hW⟩, hS.F ht⟩) hS.2.2 (C.dec hd) C.hlk
theorem z_lret (i : Nat) {v : Int64} (hd : M.2.2.2.2[i]? = some (pc, .lreturn, 1)) (hr : M.2.2.2.1 = some .long) : zK X w R M (zZ X w zeL) pc L [.long v] σ (some (v, σ)) := by
  intro r σ' hk p e s m args below meth c C H locs ls hP hS hl
  cases hk
  exact W.lret (v := v) C.hx C.hb (C.hr.trans hr) (fun t ht hW => ⟨⟨rfl, zB_end C hP hS t ht hW⟩, hS.F ht⟩) hS.2.2 (C.dec hd) C.hlk
theorem z_vret (i : Nat) (hd : M.2.2.2.2[i]? = some (pc, .return_, 1)) (hr : M.2.2.2.1 = none) : zK X w R M (zZ X w zeV) pc L [] σ (some ((), σ)) := by
  intro r σ' hk p e s m args below meth c C H locs ls hP hS hl
  cases hk
  exact W.vret C.hx C.hb (C.hr.trans hr) (fun t ht hW => ⟨⟨rfl, zB_end C hP hS t ht hW⟩, hS.F ht⟩) hS.2.2 (C.dec hd) C.hlk
end ZH
/-- a method's entry -/
def zsl (vs : List Value) : List (Option Value) := vs.flatMap (fun v => if v.category = 2 then [some v, none] else [some v])
def zL0 (n : Nat) (vs : List Value) : List (Option Value) := zsl vs ++ List.replicate (n - (zsl vs).length) none
theorem zsl_rel (X : zX) (vs : List Value) : (zsl vs).length = (lg_sl (vs.map (zv X))).length ∧ ∀ (i : Nat) (v : Value), ((zsl vs).map (Option.map (zv X)))[i]? = some (some v) → (lg_sl (vs.map (zv X)))[i]? = some (.val v) := by
  induction vs with
  | nil => exact ⟨rfl, fun i v h => by simp [zsl] at h⟩
  | cons u vs ih =>
    have e1 : zsl (u :: vs) = (if u.category = 2 then [some u, none] else [some u]) ++ zsl vs := by simp [zsl]
    have e2 : lg_sl ((u :: vs).map (zv X)) = (if u.category = 2 then [.val (zv X u), .second] else [.val (zv X u)]) ++ lg_sl (vs.map (zv X)) := by simp [lg_sl, zv_cat]
    rw [e1, e2]
    by_cases h2 : u.category = 2
    · simp only [if_pos h2]
      refine ⟨by simp [ih.1], fun i v h => ?_⟩
      match i, h with
      | 0, h => simpa using h
      | 1, h => simp at h
      | i + 2, h => exact ih.2 i v (by simpa using h)
    · simp only [if_neg h2]
      refine ⟨by simp [ih.1], fun i v h => ?_⟩
      match i, h with
      | 0, h => simpa using h
      | i + 1, h => exact ih.2 i v (by simpa using h)
theorem zl_entry (X : zX) (vs : List Value) {n : Nat} (hn : (zsl vs).length ≤ n) : zl ((lg_sl (vs.map (zv X)) ++ List.replicate (n - (lg_sl (vs.map (zv X))).length) Slot.unset).toArray) ((zL0 n vs).map (Option.map (zv X))) := by
  obtain ⟨e1, e2⟩ := zsl_rel X vs
  have h0 := lv_entry (vs.map (zv X)) (n := n) (by rw [← e1]; exact hn)
  refine ⟨by rw [h0.1]; simp [zL0]; omega, h0.2.1, fun i v hi => ?_⟩
  by_cases hl : i < (zsl vs).length
  · have : ((zsl vs).map (Option.map (zv X)))[i]? = some (some v) := by
      rw [zL0, List.map_append, List.getElem?_append_left (by simpa using hl)] at hi
      exact hi
    have h1 := e2 i v this
    rw [List.getElem?_toArray, List.getElem?_append_left (by rw [← e1]; exact hl)]
    exact h1
  · rw [zL0, List.map_append, List.getElem?_append_right (by simpa using hl)] at hi
    simp only [List.map_replicate, List.getElem?_replicate] at hi
    split at hi <;> cases hi
theorem z_entry {X : zX} {w : zW} {d : Nat} {M : zM} {ρ : Type} {em : ρ → Option Value} {σ : zS} {f : Option (ρ × zS)} (vs : List Value) (hy : plainName M.1.cls = true) (hT : zT M) (hn : (zsl vs).length ≤ M.2.2.1) (h : zK X w (zrm d) M (zZ X w em) 0 (zL0 M.2.2.1 vs) [] σ f) (r : ρ) (σ' : zS) (hf : f = some (r, σ')) : zCN X w d M vs σ (em r, σ') := by
  refine Met.ofW (cc := M.2.1) (maxL := M.2.2.1) (ret := M.2.2.2.1) hy rfl ?_
  intro p e s m args below meth c s₁ B hml hv
  obtain ⟨rfl, hP, hK, hok, hV⟩ := hv
  have hts := atoms_spec (ws := Cond.code M.1 M.2.1 M.2.2.1 M.2.2.2.1 :: zTT) B.pre
  have C : zC X w M p s m (vs.map (zv X)).toArray meth c := ⟨B.exec, B.bytes, hml, B.returns, B.notSynchronized, findClass_of_methodNamed B.named, fun w hw => hts w (List.mem_cons_of_mem _ hw), hK, hok, hV, hT⟩
  have h1 := h r σ' hf p e s m (vs.map (zv X)).toArray below meth c C s.heap [] _ hP va_S.rf (zl_entry X vs hn)
  rw [lg_entry_eq]
  exact h1
end
section
/-! calls -/
def zR (R : Room) (d : Nat) : Prop := d + 1 ≤ R.frames ∧ 40 * (d + 1) ≤ R.locals
theorem zR_rm {d e : Nat} (h : d + 1 ≤ e) : zR (zrm e) d := ⟨h, Nat.mul_le_mul_left 40 h⟩
def zMd (M : zM) (n : Nat) : Prop := Cond.code M.1 M.2.1 M.2.2.1 M.2.2.2.1 ∈ zTT ∧ Cond.initialized M.1.cls ∈ zTT ∧ (M.1.cls ≠ "java/lang/invoke/MethodHandle" ∧ M.1.cls ≠ "java/lang/invoke/VarHandle" ∧ (parseMethodDescriptor M.1.desc).map (fun d => d.parameters.length) = some n) ∧ M.2.2.1 ≤ 21
def zMV (M : zM) (n : Nat) : Prop := zMd M n ∧ Cond.instanceMethod M.1 ∈ zTT ∧ Cond.selects M.1.cls M.1 M.1 ∈ zTT
def zMS (M : zM) (n : Nat) : Prop := zMd M n ∧ Cond.static M.1 ∈ zTT
theorem zB_blind {X : zX} {w : zW} {σ : zS} (av : List Value) : FrameBlind (va_Pc av (zB X w σ)) := fun a U g mk q =>
  ⟨q.1, q.2.1, va_K.moved (u := U) (U := U.calling g mk a) (Vm.Alike.refl U.vm) q.2.2.1, q.2.2.2.1, zV.warm (s := U) (U := U.calling g mk a) (State.WarmedH.refl U) q.2.2.2.2⟩
theorem z_run {X : zX} {w : zW} {p : Program} {e : Env} {R : Room} {s : State} {m : MethodId} {args : Array Value} {below : List Frame} {meth : Method} {c : Code} {H : Heap} {locs : List Loc} {Q : State → Prop} {pc : Nat} {ls : Array Slot} {st0 rest : List Value} {o : Option Value × zS} {a : Array Value}
    (hr : va_Run p X.1 e R s m args below meth c H locs 0 0 0 0 (F0 m pc ls st0) rest (zQc X w o a) (zA X w)) (hS : va_S (zA X w) s.heap H locs)
    (kk : ∀ (H1 : Heap) (locs1 : List Loc), va_P X.2.1 vwCl (zw X w o.2) H1 → va_S (zA X w) s.heap H1 locs1 → W p X.1 e R s m args below meth c H1 locs1 0 0 Q (F0 m (pc + 3) ls ((o.1.map (zv X)).toList ++ rest))) : W p X.1 e R s m args below meth c H locs 0 0 Q (F0 m pc ls st0) := by
  intro T hT Xs
  obtain ⟨v, st₀, t, T', L, h0, X', hL, e1, e2, ⟨⟨hv, hB⟩, hz, hk⟩, stp⟩ := hr T hT Xs
  cases hv
  rw [h0] at hz hk
  obtain ⟨t2, a1, b1⟩ := kk T'.heap (locs ++ L) (by rw [e1]; exact hB.1) ⟨Nat.le_trans hS.1 (by rw [e1]; exact hz), fun q h1 h2 => by rw [e1, hk q (Nat.lt_of_lt_of_le h1 hS.1) h2]; exact hS.2.1 q h1 h2, fun q hq => by
      rcases List.mem_append.mp hq with h | h
      · exact hS.2.2 q h
      · exact hL q h⟩ T' rfl X'
  exact ⟨t2, stp t2 a1, b1⟩
theorem zcat_map (X : zX) (st : List Value) : ((st.map (zv X)).map fun v => v.category) = st.map fun v => v.category := by
  rw [List.map_map]
  exact List.map_congr_left fun v _ => zv_cat X v
section ZC
variable {X : zX} {w : zW} {R : Room} {M : zM} {ρ ρ' : Type} {Z : ρ → zS → zZt} {pc : Nat} {L : List (Option Value)} {st : List Value} {σ : zS}
theorem z_callV (i n : Nat) {M' : zM} {ix a ci na d : Nat} {q : vw_C} {As : List Value} {em : ρ' → Option Value} {f : Option (ρ' × zS)} {kf : ρ' → zS → Option (ρ × zS)} (hd : M.2.2.2.2[i]? = some (pc, .invokevirtual ix, 3)) (hn : pc + 3 = n) (hlk : Cond.methodLink M.1.cls ix M'.1 ∈ zTT) (hm : zMV M' na) (hR : zR R d)
    (hC : ∀ r σ', f = some (r, σ') → zCN X w d M' (.ref a :: As) σ (em r, σ')) (hc : ci < 100 ∧ vwCl[ci]? = some q ∧ q.1 = M'.1.cls) (hg : w.2 a = (ci, 0)) (hlen : As.length = na) (hLn : L.length = M.2.2.1) (hst : (st.map fun v => v.category).sum ≤ 8)
    (h : ∀ r σ2, zK X w R M Z n L ((em r).toList ++ st) σ2 (kf r σ2)) : zK X w R M Z pc L (As.reverse ++ .ref a :: st) σ (zbd f kf) := by
  subst hn
  intro r σ' hk p e s m args below meth c C H locs ls hP hS hl
  unfold zbd at hk
  cases hf : f with
  | none => rw [hf] at hk; cases hk
  | some q0 =>
    obtain ⟨r1, σ1⟩ := q0
    rw [hf] at hk
    have ha := C.ok.lt hg (by omega)
    obtain ⟨⟨m1, m2, m3, m4⟩, m5, m6⟩ := hm
    have hG : GoodIn zTT (wsV M.1.cls ix M'.1.cls M'.1 (Cond.code M'.1 M'.2.1 M'.2.2.1 M'.2.2.2.1 :: zTT)) := by
      intro v hv
      unfold wsV at hv
      rcases List.mem_append.mp hv with hv | hv
      · have : v ∈ zTT := by
          simp only [List.mem_cons, List.not_mem_nil, or_false] at hv
          rcases hv with rfl | rfl | rfl | rfl
          · exact hlk
          · exact m5
          · exact m6
          · exact m2
        exact ⟨this, zTT_good this⟩
      · exact zGood m1 v hv
    have hR2 : (zrm d).frames + 1 ≤ R.frames ∧ 8 + (M'.2.2.1 + 11) + (zrm d).locals ≤ R.locals := ⟨hR.1, by have := hR.2; show 8 + (M'.2.2.1 + 11) + 40 * d ≤ R.locals; omega⟩
    have hrun := va_runV (p := p) (e := e) (below := below) (meth := meth) (H := H) (locs := locs) (cells := 0) (slots := 0) (As := As.map (zv X)) (rest := st.map (zv X)) (b := za X a) (g := F0 m pc ls ((As.reverse ++ .ref a :: st).map (zv X))) ⟨C.hx, C.hb, C.hml, C.hown, C.hts⟩ (hC r1 σ1 hf) (cwV na C.hts hG rfl rfl rfl ⟨rfl, m3⟩ hR2)
      ⟨zB_blind _, va_recv C.hK hP (ci := ci) (q0 := a) (q := q) (fs := zfs X σ a ci) hc.2.1 (by rw [zw_get ha, hg, zE_obj hc.1]) |>.imp (fun cell hcell => by rw [← hc.2.2]; exact hcell), fun U hU hW => ⟨by simp [zv], zB_end C hP hS U hU hW⟩⟩ rfl (by simpa using hlen) (by show ls.size = _; rw [hl.1]; simpa using hLn) (by simp [zv, List.map_reverse]) (by show 2 * 0 + _ ≤ 8; rw [zcat_map]; omega) (C.dec hd) ⟨Nat.zero_le _, Nat.zero_le _⟩
    refine z_run hrun hS (fun H1 locs1 hP1 hS1 => ?_)
    have h1 := h r1 σ1 r σ' hk p e s m args below meth c C H1 locs1 ls hP1 hS1 hl
    rw [List.map_append] at h1
    have e2 : ((em r1).toList).map (zv X) = ((em r1).map (zv X)).toList := by cases em r1 <;> rfl
    rw [e2] at h1
    exact h1
theorem z_callVN (i n : Nat) {M' : zM} {ix a ci na d : Nat} {q : vw_C} {As : List Value} {em : ρ' → Option Value} {f : Option (ρ' × zS)} {kf : ρ' → zS → Option (ρ × zS)} (hd : M.2.2.2.2[i]? = some (pc, .invokevirtual ix, 3)) (hn : pc + 3 = n) {host : String} (hlk : znest = Cond.methodLinkNest M.1.cls ix M'.1 host) (hm : zMV M' na) (hR : zR R d)
    (hC : ∀ r σ', f = some (r, σ') → zCN X w d M' (.ref a :: As) σ (em r, σ')) (hc : ci < 100 ∧ vwCl[ci]? = some q ∧ q.1 = M'.1.cls) (hg : w.2 a = (ci, 0)) (hlen : As.length = na) (hLn : L.length = M.2.2.1) (hst : (st.map fun v => v.category).sum ≤ 8)
    (h : ∀ r σ2, zK X w R M Z n L ((em r).toList ++ st) σ2 (kf r σ2)) : zK X w R M Z pc L (As.reverse ++ .ref a :: st) σ (zbd f kf) := by
  subst hn
  intro r σ' hk p e s m args below meth c C H locs ls hP hS hl
  unfold zbd at hk
  cases hf : f with
  | none => rw [hf] at hk; cases hk
  | some q0 =>
    obtain ⟨r1, σ1⟩ := q0
    rw [hf] at hk
    have ha := C.ok.lt hg (by omega)
    obtain ⟨⟨m1, m2, m3, m4⟩, m5, m6⟩ := hm
    have hR2 : (zrm d).frames + 1 ≤ R.frames ∧ 8 + (M'.2.2.1 + 11) + (zrm d).locals ≤ R.locals := ⟨hR.1, by have := hR.2; show 8 + (M'.2.2.1 + 11) + 40 * d ≤ R.locals; omega⟩
    have hnw : va_Nw (.methodLinkNest M.1.cls ix M'.1 host) s := by rw [← hlk]; exact C.hV.2.2.2.2
    have hrun := va_runVN (p := p) (e := e) (below := below) (meth := meth) (H := H) (locs := locs) (cells := 0) (slots := 0) (As := As.map (zv X)) (rest := st.map (zv X)) (b := za X a) (C := M'.1.cls) (g := F0 m pc ls ((As.reverse ++ .ref a :: st).map (zv X))) ⟨C.hx, C.hb, C.hml, C.hown, C.hts⟩ (hC r1 σ1 hf) ⟨va_cnB na C.hts (zGood m1) rfl rfl rfl hnw (C.hts _ m2) m3 hR2, C.hts _ m5, C.hts _ m6⟩
      ⟨zB_blind _, va_recv C.hK hP (ci := ci) (q0 := a) (q := q) (fs := zfs X σ a ci) hc.2.1 (by rw [zw_get ha, hg, zE_obj hc.1]) |>.imp (fun cell hcell => by rw [← hc.2.2]; exact hcell), fun U hU hW => ⟨by simp [zv], zB_end C hP hS U hU hW⟩⟩ rfl (by simpa using hlen) (by show ls.size = _; rw [hl.1]; simpa using hLn) (by simp [zv, List.map_reverse]) (by show 2 * 0 + _ ≤ 8; rw [zcat_map]; omega) (C.dec hd) ⟨Nat.zero_le _, Nat.zero_le _⟩
    refine z_run hrun hS (fun H1 locs1 hP1 hS1 => ?_)
    have h1 := h r1 σ1 r σ' hk p e s m args below meth c C H1 locs1 ls hP1 hS1 hl
    rw [List.map_append] at h1
    have e2 : ((em r1).toList).map (zv X) = ((em r1).map (zv X)).toList := by cases em r1 <;> rfl
    rw [e2] at h1
    exact h1
theorem z_callS (i n : Nat) {M' : zM} {ix na d : Nat} {As : List Value} {em : ρ' → Option Value} {f : Option (ρ' × zS)} {kf : ρ' → zS → Option (ρ × zS)} (hd : M.2.2.2.2[i]? = some (pc, .invokestatic ix, 3)) (hn : pc + 3 = n) (hlk : Cond.methodLink M.1.cls ix M'.1 ∈ zTT) (hm : zMS M' na) (hR : zR R d)
    (hC : ∀ r σ', f = some (r, σ') → zCN X w d M' As σ (em r, σ')) (hlen : As.length = na) (hLn : L.length = M.2.2.1) (hst : (st.map fun v => v.category).sum ≤ 8)
    (h : ∀ r σ2, zK X w R M Z n L ((em r).toList ++ st) σ2 (kf r σ2)) : zK X w R M Z pc L (As.reverse ++ st) σ (zbd f kf) := by
  subst hn
  intro r σ' hk p e s m args below meth c C H locs ls hP hS hl
  unfold zbd at hk
  cases hf : f with
  | none => rw [hf] at hk; cases hk
  | some q0 =>
    obtain ⟨r1, σ1⟩ := q0
    rw [hf] at hk
    obtain ⟨⟨m1, m2, m3, m4⟩, m5⟩ := hm
    have hG : GoodIn zTT (va_wsS M.1.cls ix M'.1 (Cond.code M'.1 M'.2.1 M'.2.2.1 M'.2.2.2.1 :: zTT)) := by
      intro v hv
      unfold va_wsS at hv
      rcases List.mem_append.mp hv with hv | hv
      · have : v ∈ zTT := by
          simp only [List.mem_cons, List.not_mem_nil, or_false] at hv
          rcases hv with rfl | rfl | rfl
          · exact hlk
          · exact m5
          · exact m2
        exact ⟨this, zTT_good this⟩
      · exact zGood m1 v hv
    have hR2 : (zrm d).frames + 1 ≤ R.frames ∧ 8 + (M'.2.2.1 + 11) + (zrm d).locals ≤ R.locals := ⟨hR.1, by have := hR.2; show 8 + (M'.2.2.1 + 11) + 40 * d ≤ R.locals; omega⟩
    have hrun := va_runS (p := p) (e := e) (below := below) (meth := meth) (H := H) (locs := locs) (cells := 0) (slots := 0) (As := As.map (zv X)) (rest := st.map (zv X)) (g := F0 m pc ls ((As.reverse ++ st).map (zv X))) ⟨C.hx, C.hb, C.hml, C.hown, C.hts⟩ (hC r1 σ1 hf) (va_cwS na C.hts hG rfl rfl rfl m3 hR2)
      ⟨zB_blind _, fun U hU hW => ⟨rfl, zB_end C hP hS U hU hW⟩⟩ rfl (by simpa using hlen) (by show ls.size = _; rw [hl.1]; simpa using hLn) (by simp [List.map_reverse]) (by show 2 * 0 + _ ≤ 8; rw [zcat_map]; omega) (C.dec hd) ⟨Nat.zero_le _, Nat.zero_le _⟩
    refine z_run hrun hS (fun H1 locs1 hP1 hS1 => ?_)
    have h1 := h r1 σ1 r σ' hk p e s m args below meth c C H1 locs1 ls hP1 hS1 hl
    rw [List.map_append] at h1
    have e2 : ((em r1).toList).map (zv X) = ((em r1).map (zv X)).toList := by cases em r1 <;> rfl
    rw [e2] at h1
    exact h1
end ZC
end
section
section ZCN
variable {X : zX} {w : zW} {R : Room} {M : zM} {ρ : Type} {Z : ρ → zS → zZt} {pc : Nat} {L : List (Option Value)} {st : List Value} {σ : zS}
theorem z_cV0I (i n : Nat) {M' : zM} {ix a ci d : Nat} {q : vw_C} {f : Option (Int32 × zS)} {kf : Int32 → zS → Option (ρ × zS)} (hd : M.2.2.2.2[i]? = some (pc, .invokevirtual ix, 3)) (hn : pc + 3 = n) (hlk : Cond.methodLink M.1.cls ix M'.1 ∈ zTT) (hm : zMV M' 0) (hR : zR R d) (hC : ∀ r σ', f = some (r, σ') → zCN X w d M' (.ref a :: []) σ (zeI r, σ')) (hc : ci < 100 ∧ vwCl[ci]? = some q ∧ q.1 = M'.1.cls) (hg : w.2 a = (ci, 0)) (hLn : L.length = M.2.2.1) (hst : (st.map fun v => v.category).sum ≤ 8) (h : ∀ r σ2, zK X w R M Z n L (.int r :: st) σ2 (kf r σ2)) : zK X w R M Z pc L (.ref a :: st) σ (zbd f kf) := z_callV (As := []) (em := zeI) i n hd hn hlk hm hR hC hc hg rfl hLn hst h
theorem z_cS0I (i n : Nat) {M' : zM} {ix d : Nat} {f : Option (Int32 × zS)} {kf : Int32 → zS → Option (ρ × zS)} (hd : M.2.2.2.2[i]? = some (pc, .invokestatic ix, 3)) (hn : pc + 3 = n) (hlk : Cond.methodLink M.1.cls ix M'.1 ∈ zTT) (hm : zMS M' 0) (hR : zR R d) (hC : ∀ r σ', f = some (r, σ') → zCN X w d M' [] σ (zeI r, σ')) (hLn : L.length = M.2.2.1) (hst : (st.map fun v => v.category).sum ≤ 8) (h : ∀ r σ2, zK X w R M Z n L (.int r :: st) σ2 (kf r σ2)) : zK X w R M Z pc L (st) σ (zbd f kf) := z_callS (As := []) (em := zeI) i n hd hn hlk hm hR hC rfl hLn hst h
theorem z_cV0L (i n : Nat) {M' : zM} {ix a ci d : Nat} {q : vw_C} {f : Option (Int64 × zS)} {kf : Int64 → zS → Option (ρ × zS)} (hd : M.2.2.2.2[i]? = some (pc, .invokevirtual ix, 3)) (hn : pc + 3 = n) (hlk : Cond.methodLink M.1.cls ix M'.1 ∈ zTT) (hm : zMV M' 0) (hR : zR R d) (hC : ∀ r σ', f = some (r, σ') → zCN X w d M' (.ref a :: []) σ (zeL r, σ')) (hc : ci < 100 ∧ vwCl[ci]? = some q ∧ q.1 = M'.1.cls) (hg : w.2 a = (ci, 0)) (hLn : L.length = M.2.2.1) (hst : (st.map fun v => v.category).sum ≤ 8) (h : ∀ r σ2, zK X w R M Z n L (.long r :: st) σ2 (kf r σ2)) : zK X w R M Z pc L (.ref a :: st) σ (zbd f kf) := z_callV (As := []) (em := zeL) i n hd hn hlk hm hR hC hc hg rfl hLn hst h
theorem z_cS0L (i n : Nat) {M' : zM} {ix d : Nat} {f : Option (Int64 × zS)} {kf : Int64 → zS → Option (ρ × zS)} (hd : M.2.2.2.2[i]? = some (pc, .invokestatic ix, 3)) (hn : pc + 3 = n) (hlk : Cond.methodLink M.1.cls ix M'.1 ∈ zTT) (hm : zMS M' 0) (hR : zR R d) (hC : ∀ r σ', f = some (r, σ') → zCN X w d M' [] σ (zeL r, σ')) (hLn : L.length = M.2.2.1) (hst : (st.map fun v => v.category).sum ≤ 8) (h : ∀ r σ2, zK X w R M Z n L (.long r :: st) σ2 (kf r σ2)) : zK X w R M Z pc L (st) σ (zbd f kf) := z_callS (As := []) (em := zeL) i n hd hn hlk hm hR hC rfl hLn hst h
theorem z_cV0V (i n : Nat) {M' : zM} {ix a ci d : Nat} {q : vw_C} {f : Option (Unit × zS)} {kf : Unit → zS → Option (ρ × zS)} (hd : M.2.2.2.2[i]? = some (pc, .invokevirtual ix, 3)) (hn : pc + 3 = n) (hlk : Cond.methodLink M.1.cls ix M'.1 ∈ zTT) (hm : zMV M' 0) (hR : zR R d) (hC : ∀ r σ', f = some (r, σ') → zCN X w d M' (.ref a :: []) σ (zeV r, σ')) (hc : ci < 100 ∧ vwCl[ci]? = some q ∧ q.1 = M'.1.cls) (hg : w.2 a = (ci, 0)) (hLn : L.length = M.2.2.1) (hst : (st.map fun v => v.category).sum ≤ 8) (h : ∀ r σ2, zK X w R M Z n L (st) σ2 (kf r σ2)) : zK X w R M Z pc L (.ref a :: st) σ (zbd f kf) := z_callV (As := []) (em := zeV) i n hd hn hlk hm hR hC hc hg rfl hLn hst h
theorem z_cS0V (i n : Nat) {M' : zM} {ix d : Nat} {f : Option (Unit × zS)} {kf : Unit → zS → Option (ρ × zS)} (hd : M.2.2.2.2[i]? = some (pc, .invokestatic ix, 3)) (hn : pc + 3 = n) (hlk : Cond.methodLink M.1.cls ix M'.1 ∈ zTT) (hm : zMS M' 0) (hR : zR R d) (hC : ∀ r σ', f = some (r, σ') → zCN X w d M' [] σ (zeV r, σ')) (hLn : L.length = M.2.2.1) (hst : (st.map fun v => v.category).sum ≤ 8) (h : ∀ r σ2, zK X w R M Z n L (st) σ2 (kf r σ2)) : zK X w R M Z pc L (st) σ (zbd f kf) := z_callS (As := []) (em := zeV) i n hd hn hlk hm hR hC rfl hLn hst h
theorem z_cV1I (i n : Nat) {M' : zM} {ix a ci d : Nat} {q : vw_C} {v1 : Value} {f : Option (Int32 × zS)} {kf : Int32 → zS → Option (ρ × zS)} (hd : M.2.2.2.2[i]? = some (pc, .invokevirtual ix, 3)) (hn : pc + 3 = n) (hlk : Cond.methodLink M.1.cls ix M'.1 ∈ zTT) (hm : zMV M' 1) (hR : zR R d) (hC : ∀ r σ', f = some (r, σ') → zCN X w d M' (.ref a :: [v1]) σ (zeI r, σ')) (hc : ci < 100 ∧ vwCl[ci]? = some q ∧ q.1 = M'.1.cls) (hg : w.2 a = (ci, 0)) (hLn : L.length = M.2.2.1) (hst : (st.map fun v => v.category).sum ≤ 8) (h : ∀ r σ2, zK X w R M Z n L (.int r :: st) σ2 (kf r σ2)) : zK X w R M Z pc L (v1 :: .ref a :: st) σ (zbd f kf) := z_callV (As := [v1]) (em := zeI) i n hd hn hlk hm hR hC hc hg rfl hLn hst h
theorem z_cS1I (i n : Nat) {M' : zM} {ix d : Nat} {v1 : Value} {f : Option (Int32 × zS)} {kf : Int32 → zS → Option (ρ × zS)} (hd : M.2.2.2.2[i]? = some (pc, .invokestatic ix, 3)) (hn : pc + 3 = n) (hlk : Cond.methodLink M.1.cls ix M'.1 ∈ zTT) (hm : zMS M' 1) (hR : zR R d) (hC : ∀ r σ', f = some (r, σ') → zCN X w d M' [v1] σ (zeI r, σ')) (hLn : L.length = M.2.2.1) (hst : (st.map fun v => v.category).sum ≤ 8) (h : ∀ r σ2, zK X w R M Z n L (.int r :: st) σ2 (kf r σ2)) : zK X w R M Z pc L (v1 :: st) σ (zbd f kf) := z_callS (As := [v1]) (em := zeI) i n hd hn hlk hm hR hC rfl hLn hst h
theorem z_cV1L (i n : Nat) {M' : zM} {ix a ci d : Nat} {q : vw_C} {v1 : Value} {f : Option (Int64 × zS)} {kf : Int64 → zS → Option (ρ × zS)} (hd : M.2.2.2.2[i]? = some (pc, .invokevirtual ix, 3)) (hn : pc + 3 = n) (hlk : Cond.methodLink M.1.cls ix M'.1 ∈ zTT) (hm : zMV M' 1) (hR : zR R d) (hC : ∀ r σ', f = some (r, σ') → zCN X w d M' (.ref a :: [v1]) σ (zeL r, σ')) (hc : ci < 100 ∧ vwCl[ci]? = some q ∧ q.1 = M'.1.cls) (hg : w.2 a = (ci, 0)) (hLn : L.length = M.2.2.1) (hst : (st.map fun v => v.category).sum ≤ 8) (h : ∀ r σ2, zK X w R M Z n L (.long r :: st) σ2 (kf r σ2)) : zK X w R M Z pc L (v1 :: .ref a :: st) σ (zbd f kf) := z_callV (As := [v1]) (em := zeL) i n hd hn hlk hm hR hC hc hg rfl hLn hst h
theorem z_cS1L (i n : Nat) {M' : zM} {ix d : Nat} {v1 : Value} {f : Option (Int64 × zS)} {kf : Int64 → zS → Option (ρ × zS)} (hd : M.2.2.2.2[i]? = some (pc, .invokestatic ix, 3)) (hn : pc + 3 = n) (hlk : Cond.methodLink M.1.cls ix M'.1 ∈ zTT) (hm : zMS M' 1) (hR : zR R d) (hC : ∀ r σ', f = some (r, σ') → zCN X w d M' [v1] σ (zeL r, σ')) (hLn : L.length = M.2.2.1) (hst : (st.map fun v => v.category).sum ≤ 8) (h : ∀ r σ2, zK X w R M Z n L (.long r :: st) σ2 (kf r σ2)) : zK X w R M Z pc L (v1 :: st) σ (zbd f kf) := z_callS (As := [v1]) (em := zeL) i n hd hn hlk hm hR hC rfl hLn hst h
theorem z_cV1V (i n : Nat) {M' : zM} {ix a ci d : Nat} {q : vw_C} {v1 : Value} {f : Option (Unit × zS)} {kf : Unit → zS → Option (ρ × zS)} (hd : M.2.2.2.2[i]? = some (pc, .invokevirtual ix, 3)) (hn : pc + 3 = n) (hlk : Cond.methodLink M.1.cls ix M'.1 ∈ zTT) (hm : zMV M' 1) (hR : zR R d) (hC : ∀ r σ', f = some (r, σ') → zCN X w d M' (.ref a :: [v1]) σ (zeV r, σ')) (hc : ci < 100 ∧ vwCl[ci]? = some q ∧ q.1 = M'.1.cls) (hg : w.2 a = (ci, 0)) (hLn : L.length = M.2.2.1) (hst : (st.map fun v => v.category).sum ≤ 8) (h : ∀ r σ2, zK X w R M Z n L (st) σ2 (kf r σ2)) : zK X w R M Z pc L (v1 :: .ref a :: st) σ (zbd f kf) := z_callV (As := [v1]) (em := zeV) i n hd hn hlk hm hR hC hc hg rfl hLn hst h
theorem z_cS1V (i n : Nat) {M' : zM} {ix d : Nat} {v1 : Value} {f : Option (Unit × zS)} {kf : Unit → zS → Option (ρ × zS)} (hd : M.2.2.2.2[i]? = some (pc, .invokestatic ix, 3)) (hn : pc + 3 = n) (hlk : Cond.methodLink M.1.cls ix M'.1 ∈ zTT) (hm : zMS M' 1) (hR : zR R d) (hC : ∀ r σ', f = some (r, σ') → zCN X w d M' [v1] σ (zeV r, σ')) (hLn : L.length = M.2.2.1) (hst : (st.map fun v => v.category).sum ≤ 8) (h : ∀ r σ2, zK X w R M Z n L (st) σ2 (kf r σ2)) : zK X w R M Z pc L (v1 :: st) σ (zbd f kf) := z_callS (As := [v1]) (em := zeV) i n hd hn hlk hm hR hC rfl hLn hst h
theorem z_cV2I (i n : Nat) {M' : zM} {ix a ci d : Nat} {q : vw_C} {v1 v2 : Value} {f : Option (Int32 × zS)} {kf : Int32 → zS → Option (ρ × zS)} (hd : M.2.2.2.2[i]? = some (pc, .invokevirtual ix, 3)) (hn : pc + 3 = n) (hlk : Cond.methodLink M.1.cls ix M'.1 ∈ zTT) (hm : zMV M' 2) (hR : zR R d) (hC : ∀ r σ', f = some (r, σ') → zCN X w d M' (.ref a :: [v1, v2]) σ (zeI r, σ')) (hc : ci < 100 ∧ vwCl[ci]? = some q ∧ q.1 = M'.1.cls) (hg : w.2 a = (ci, 0)) (hLn : L.length = M.2.2.1) (hst : (st.map fun v => v.category).sum ≤ 8) (h : ∀ r σ2, zK X w R M Z n L (.int r :: st) σ2 (kf r σ2)) : zK X w R M Z pc L (v2 :: v1 :: .ref a :: st) σ (zbd f kf) := z_callV (As := [v1, v2]) (em := zeI) i n hd hn hlk hm hR hC hc hg rfl hLn hst h
theorem z_cS2I (i n : Nat) {M' : zM} {ix d : Nat} {v1 v2 : Value} {f : Option (Int32 × zS)} {kf : Int32 → zS → Option (ρ × zS)} (hd : M.2.2.2.2[i]? = some (pc, .invokestatic ix, 3)) (hn : pc + 3 = n) (hlk : Cond.methodLink M.1.cls ix M'.1 ∈ zTT) (hm : zMS M' 2) (hR : zR R d) (hC : ∀ r σ', f = some (r, σ') → zCN X w d M' [v1, v2] σ (zeI r, σ')) (hLn : L.length = M.2.2.1) (hst : (st.map fun v => v.category).sum ≤ 8) (h : ∀ r σ2, zK X w R M Z n L (.int r :: st) σ2 (kf r σ2)) : zK X w R M Z pc L (v2 :: v1 :: st) σ (zbd f kf) := z_callS (As := [v1, v2]) (em := zeI) i n hd hn hlk hm hR hC rfl hLn hst h
theorem z_cV2L (i n : Nat) {M' : zM} {ix a ci d : Nat} {q : vw_C} {v1 v2 : Value} {f : Option (Int64 × zS)} {kf : Int64 → zS → Option (ρ × zS)} (hd : M.2.2.2.2[i]? = some (pc, .invokevirtual ix, 3)) (hn : pc + 3 = n) (hlk : Cond.methodLink M.1.cls ix M'.1 ∈ zTT) (hm : zMV M' 2) (hR : zR R d) (hC : ∀ r σ', f = some (r, σ') → zCN X w d M' (.ref a :: [v1, v2]) σ (zeL r, σ')) (hc : ci < 100 ∧ vwCl[ci]? = some q ∧ q.1 = M'.1.cls) (hg : w.2 a = (ci, 0)) (hLn : L.length = M.2.2.1) (hst : (st.map fun v => v.category).sum ≤ 8) (h : ∀ r σ2, zK X w R M Z n L (.long r :: st) σ2 (kf r σ2)) : zK X w R M Z pc L (v2 :: v1 :: .ref a :: st) σ (zbd f kf) := z_callV (As := [v1, v2]) (em := zeL) i n hd hn hlk hm hR hC hc hg rfl hLn hst h
theorem z_cS2L (i n : Nat) {M' : zM} {ix d : Nat} {v1 v2 : Value} {f : Option (Int64 × zS)} {kf : Int64 → zS → Option (ρ × zS)} (hd : M.2.2.2.2[i]? = some (pc, .invokestatic ix, 3)) (hn : pc + 3 = n) (hlk : Cond.methodLink M.1.cls ix M'.1 ∈ zTT) (hm : zMS M' 2) (hR : zR R d) (hC : ∀ r σ', f = some (r, σ') → zCN X w d M' [v1, v2] σ (zeL r, σ')) (hLn : L.length = M.2.2.1) (hst : (st.map fun v => v.category).sum ≤ 8) (h : ∀ r σ2, zK X w R M Z n L (.long r :: st) σ2 (kf r σ2)) : zK X w R M Z pc L (v2 :: v1 :: st) σ (zbd f kf) := z_callS (As := [v1, v2]) (em := zeL) i n hd hn hlk hm hR hC rfl hLn hst h
theorem z_cV2V (i n : Nat) {M' : zM} {ix a ci d : Nat} {q : vw_C} {v1 v2 : Value} {f : Option (Unit × zS)} {kf : Unit → zS → Option (ρ × zS)} (hd : M.2.2.2.2[i]? = some (pc, .invokevirtual ix, 3)) (hn : pc + 3 = n) (hlk : Cond.methodLink M.1.cls ix M'.1 ∈ zTT) (hm : zMV M' 2) (hR : zR R d) (hC : ∀ r σ', f = some (r, σ') → zCN X w d M' (.ref a :: [v1, v2]) σ (zeV r, σ')) (hc : ci < 100 ∧ vwCl[ci]? = some q ∧ q.1 = M'.1.cls) (hg : w.2 a = (ci, 0)) (hLn : L.length = M.2.2.1) (hst : (st.map fun v => v.category).sum ≤ 8) (h : ∀ r σ2, zK X w R M Z n L (st) σ2 (kf r σ2)) : zK X w R M Z pc L (v2 :: v1 :: .ref a :: st) σ (zbd f kf) := z_callV (As := [v1, v2]) (em := zeV) i n hd hn hlk hm hR hC hc hg rfl hLn hst h
theorem z_cS2V (i n : Nat) {M' : zM} {ix d : Nat} {v1 v2 : Value} {f : Option (Unit × zS)} {kf : Unit → zS → Option (ρ × zS)} (hd : M.2.2.2.2[i]? = some (pc, .invokestatic ix, 3)) (hn : pc + 3 = n) (hlk : Cond.methodLink M.1.cls ix M'.1 ∈ zTT) (hm : zMS M' 2) (hR : zR R d) (hC : ∀ r σ', f = some (r, σ') → zCN X w d M' [v1, v2] σ (zeV r, σ')) (hLn : L.length = M.2.2.1) (hst : (st.map fun v => v.category).sum ≤ 8) (h : ∀ r σ2, zK X w R M Z n L (st) σ2 (kf r σ2)) : zK X w R M Z pc L (v2 :: v1 :: st) σ (zbd f kf) := z_callS (As := [v1, v2]) (em := zeV) i n hd hn hlk hm hR hC rfl hLn hst h
theorem z_cV3I (i n : Nat) {M' : zM} {ix a ci d : Nat} {q : vw_C} {v1 v2 v3 : Value} {f : Option (Int32 × zS)} {kf : Int32 → zS → Option (ρ × zS)} (hd : M.2.2.2.2[i]? = some (pc, .invokevirtual ix, 3)) (hn : pc + 3 = n) (hlk : Cond.methodLink M.1.cls ix M'.1 ∈ zTT) (hm : zMV M' 3) (hR : zR R d) (hC : ∀ r σ', f = some (r, σ') → zCN X w d M' (.ref a :: [v1, v2, v3]) σ (zeI r, σ')) (hc : ci < 100 ∧ vwCl[ci]? = some q ∧ q.1 = M'.1.cls) (hg : w.2 a = (ci, 0)) (hLn : L.length = M.2.2.1) (hst : (st.map fun v => v.category).sum ≤ 8) (h : ∀ r σ2, zK X w R M Z n L (.int r :: st) σ2 (kf r σ2)) : zK X w R M Z pc L (v3 :: v2 :: v1 :: .ref a :: st) σ (zbd f kf) := z_callV (As := [v1, v2, v3]) (em := zeI) i n hd hn hlk hm hR hC hc hg rfl hLn hst h
theorem z_cS3I (i n : Nat) {M' : zM} {ix d : Nat} {v1 v2 v3 : Value} {f : Option (Int32 × zS)} {kf : Int32 → zS → Option (ρ × zS)} (hd : M.2.2.2.2[i]? = some (pc, .invokestatic ix, 3)) (hn : pc + 3 = n) (hlk : Cond.methodLink M.1.cls ix M'.1 ∈ zTT) (hm : zMS M' 3) (hR : zR R d) (hC : ∀ r σ', f = some (r, σ') → zCN X w d M' [v1, v2, v3] σ (zeI r, σ')) (hLn : L.length = M.2.2.1) (hst : (st.map fun v => v.category).sum ≤ 8) (h : ∀ r σ2, zK X w R M Z n L (.int r :: st) σ2 (kf r σ2)) : zK X w R M Z pc L (v3 :: v2 :: v1 :: st) σ (zbd f kf) := z_callS (As := [v1, v2, v3]) (em := zeI) i n hd hn hlk hm hR hC rfl hLn hst h
theorem z_cV3L (i n : Nat) {M' : zM} {ix a ci d : Nat} {q : vw_C} {v1 v2 v3 : Value} {f : Option (Int64 × zS)} {kf : Int64 → zS → Option (ρ × zS)} (hd : M.2.2.2.2[i]? = some (pc, .invokevirtual ix, 3)) (hn : pc + 3 = n) (hlk : Cond.methodLink M.1.cls ix M'.1 ∈ zTT) (hm : zMV M' 3) (hR : zR R d) (hC : ∀ r σ', f = some (r, σ') → zCN X w d M' (.ref a :: [v1, v2, v3]) σ (zeL r, σ')) (hc : ci < 100 ∧ vwCl[ci]? = some q ∧ q.1 = M'.1.cls) (hg : w.2 a = (ci, 0)) (hLn : L.length = M.2.2.1) (hst : (st.map fun v => v.category).sum ≤ 8) (h : ∀ r σ2, zK X w R M Z n L (.long r :: st) σ2 (kf r σ2)) : zK X w R M Z pc L (v3 :: v2 :: v1 :: .ref a :: st) σ (zbd f kf) := z_callV (As := [v1, v2, v3]) (em := zeL) i n hd hn hlk hm hR hC hc hg rfl hLn hst h
theorem z_cS3L (i n : Nat) {M' : zM} {ix d : Nat} {v1 v2 v3 : Value} {f : Option (Int64 × zS)} {kf : Int64 → zS → Option (ρ × zS)} (hd : M.2.2.2.2[i]? = some (pc, .invokestatic ix, 3)) (hn : pc + 3 = n) (hlk : Cond.methodLink M.1.cls ix M'.1 ∈ zTT) (hm : zMS M' 3) (hR : zR R d) (hC : ∀ r σ', f = some (r, σ') → zCN X w d M' [v1, v2, v3] σ (zeL r, σ')) (hLn : L.length = M.2.2.1) (hst : (st.map fun v => v.category).sum ≤ 8) (h : ∀ r σ2, zK X w R M Z n L (.long r :: st) σ2 (kf r σ2)) : zK X w R M Z pc L (v3 :: v2 :: v1 :: st) σ (zbd f kf) := z_callS (As := [v1, v2, v3]) (em := zeL) i n hd hn hlk hm hR hC rfl hLn hst h
theorem z_cV3V (i n : Nat) {M' : zM} {ix a ci d : Nat} {q : vw_C} {v1 v2 v3 : Value} {f : Option (Unit × zS)} {kf : Unit → zS → Option (ρ × zS)} (hd : M.2.2.2.2[i]? = some (pc, .invokevirtual ix, 3)) (hn : pc + 3 = n) (hlk : Cond.methodLink M.1.cls ix M'.1 ∈ zTT) (hm : zMV M' 3) (hR : zR R d) (hC : ∀ r σ', f = some (r, σ') → zCN X w d M' (.ref a :: [v1, v2, v3]) σ (zeV r, σ')) (hc : ci < 100 ∧ vwCl[ci]? = some q ∧ q.1 = M'.1.cls) (hg : w.2 a = (ci, 0)) (hLn : L.length = M.2.2.1) (hst : (st.map fun v => v.category).sum ≤ 8) (h : ∀ r σ2, zK X w R M Z n L (st) σ2 (kf r σ2)) : zK X w R M Z pc L (v3 :: v2 :: v1 :: .ref a :: st) σ (zbd f kf) := z_callV (As := [v1, v2, v3]) (em := zeV) i n hd hn hlk hm hR hC hc hg rfl hLn hst h
theorem z_cS3V (i n : Nat) {M' : zM} {ix d : Nat} {v1 v2 v3 : Value} {f : Option (Unit × zS)} {kf : Unit → zS → Option (ρ × zS)} (hd : M.2.2.2.2[i]? = some (pc, .invokestatic ix, 3)) (hn : pc + 3 = n) (hlk : Cond.methodLink M.1.cls ix M'.1 ∈ zTT) (hm : zMS M' 3) (hR : zR R d) (hC : ∀ r σ', f = some (r, σ') → zCN X w d M' [v1, v2, v3] σ (zeV r, σ')) (hLn : L.length = M.2.2.1) (hst : (st.map fun v => v.category).sum ≤ 8) (h : ∀ r σ2, zK X w R M Z n L (st) σ2 (kf r σ2)) : zK X w R M Z pc L (v3 :: v2 :: v1 :: st) σ (zbd f kf) := z_callS (As := [v1, v2, v3]) (em := zeV) i n hd hn hlk hm hR hC rfl hLn hst h
theorem z_cV4I (i n : Nat) {M' : zM} {ix a ci d : Nat} {q : vw_C} {v1 v2 v3 v4 : Value} {f : Option (Int32 × zS)} {kf : Int32 → zS → Option (ρ × zS)} (hd : M.2.2.2.2[i]? = some (pc, .invokevirtual ix, 3)) (hn : pc + 3 = n) (hlk : Cond.methodLink M.1.cls ix M'.1 ∈ zTT) (hm : zMV M' 4) (hR : zR R d) (hC : ∀ r σ', f = some (r, σ') → zCN X w d M' (.ref a :: [v1, v2, v3, v4]) σ (zeI r, σ')) (hc : ci < 100 ∧ vwCl[ci]? = some q ∧ q.1 = M'.1.cls) (hg : w.2 a = (ci, 0)) (hLn : L.length = M.2.2.1) (hst : (st.map fun v => v.category).sum ≤ 8) (h : ∀ r σ2, zK X w R M Z n L (.int r :: st) σ2 (kf r σ2)) : zK X w R M Z pc L (v4 :: v3 :: v2 :: v1 :: .ref a :: st) σ (zbd f kf) := z_callV (As := [v1, v2, v3, v4]) (em := zeI) i n hd hn hlk hm hR hC hc hg rfl hLn hst h
theorem z_cS4I (i n : Nat) {M' : zM} {ix d : Nat} {v1 v2 v3 v4 : Value} {f : Option (Int32 × zS)} {kf : Int32 → zS → Option (ρ × zS)} (hd : M.2.2.2.2[i]? = some (pc, .invokestatic ix, 3)) (hn : pc + 3 = n) (hlk : Cond.methodLink M.1.cls ix M'.1 ∈ zTT) (hm : zMS M' 4) (hR : zR R d) (hC : ∀ r σ', f = some (r, σ') → zCN X w d M' [v1, v2, v3, v4] σ (zeI r, σ')) (hLn : L.length = M.2.2.1) (hst : (st.map fun v => v.category).sum ≤ 8) (h : ∀ r σ2, zK X w R M Z n L (.int r :: st) σ2 (kf r σ2)) : zK X w R M Z pc L (v4 :: v3 :: v2 :: v1 :: st) σ (zbd f kf) := z_callS (As := [v1, v2, v3, v4]) (em := zeI) i n hd hn hlk hm hR hC rfl hLn hst h
theorem z_cV4L (i n : Nat) {M' : zM} {ix a ci d : Nat} {q : vw_C} {v1 v2 v3 v4 : Value} {f : Option (Int64 × zS)} {kf : Int64 → zS → Option (ρ × zS)} (hd : M.2.2.2.2[i]? = some (pc, .invokevirtual ix, 3)) (hn : pc + 3 = n) (hlk : Cond.methodLink M.1.cls ix M'.1 ∈ zTT) (hm : zMV M' 4) (hR : zR R d) (hC : ∀ r σ', f = some (r, σ') → zCN X w d M' (.ref a :: [v1, v2, v3, v4]) σ (zeL r, σ')) (hc : ci < 100 ∧ vwCl[ci]? = some q ∧ q.1 = M'.1.cls) (hg : w.2 a = (ci, 0)) (hLn : L.length = M.2.2.1) (hst : (st.map fun v => v.category).sum ≤ 8) (h : ∀ r σ2, zK X w R M Z n L (.long r :: st) σ2 (kf r σ2)) : zK X w R M Z pc L (v4 :: v3 :: v2 :: v1 :: .ref a :: st) σ (zbd f kf) := z_callV (As := [v1, v2, v3, v4]) (em := zeL) i n hd hn hlk hm hR hC hc hg rfl hLn hst h
theorem z_cS4L (i n : Nat) {M' : zM} {ix d : Nat} {v1 v2 v3 v4 : Value} {f : Option (Int64 × zS)} {kf : Int64 → zS → Option (ρ × zS)} (hd : M.2.2.2.2[i]? = some (pc, .invokestatic ix, 3)) (hn : pc + 3 = n) (hlk : Cond.methodLink M.1.cls ix M'.1 ∈ zTT) (hm : zMS M' 4) (hR : zR R d) (hC : ∀ r σ', f = some (r, σ') → zCN X w d M' [v1, v2, v3, v4] σ (zeL r, σ')) (hLn : L.length = M.2.2.1) (hst : (st.map fun v => v.category).sum ≤ 8) (h : ∀ r σ2, zK X w R M Z n L (.long r :: st) σ2 (kf r σ2)) : zK X w R M Z pc L (v4 :: v3 :: v2 :: v1 :: st) σ (zbd f kf) := z_callS (As := [v1, v2, v3, v4]) (em := zeL) i n hd hn hlk hm hR hC rfl hLn hst h
theorem z_cV4V (i n : Nat) {M' : zM} {ix a ci d : Nat} {q : vw_C} {v1 v2 v3 v4 : Value} {f : Option (Unit × zS)} {kf : Unit → zS → Option (ρ × zS)} (hd : M.2.2.2.2[i]? = some (pc, .invokevirtual ix, 3)) (hn : pc + 3 = n) (hlk : Cond.methodLink M.1.cls ix M'.1 ∈ zTT) (hm : zMV M' 4) (hR : zR R d) (hC : ∀ r σ', f = some (r, σ') → zCN X w d M' (.ref a :: [v1, v2, v3, v4]) σ (zeV r, σ')) (hc : ci < 100 ∧ vwCl[ci]? = some q ∧ q.1 = M'.1.cls) (hg : w.2 a = (ci, 0)) (hLn : L.length = M.2.2.1) (hst : (st.map fun v => v.category).sum ≤ 8) (h : ∀ r σ2, zK X w R M Z n L (st) σ2 (kf r σ2)) : zK X w R M Z pc L (v4 :: v3 :: v2 :: v1 :: .ref a :: st) σ (zbd f kf) := z_callV (As := [v1, v2, v3, v4]) (em := zeV) i n hd hn hlk hm hR hC hc hg rfl hLn hst h
theorem z_cS4V (i n : Nat) {M' : zM} {ix d : Nat} {v1 v2 v3 v4 : Value} {f : Option (Unit × zS)} {kf : Unit → zS → Option (ρ × zS)} (hd : M.2.2.2.2[i]? = some (pc, .invokestatic ix, 3)) (hn : pc + 3 = n) (hlk : Cond.methodLink M.1.cls ix M'.1 ∈ zTT) (hm : zMS M' 4) (hR : zR R d) (hC : ∀ r σ', f = some (r, σ') → zCN X w d M' [v1, v2, v3, v4] σ (zeV r, σ')) (hLn : L.length = M.2.2.1) (hst : (st.map fun v => v.category).sum ≤ 8) (h : ∀ r σ2, zK X w R M Z n L (st) σ2 (kf r σ2)) : zK X w R M Z pc L (v4 :: v3 :: v2 :: v1 :: st) σ (zbd f kf) := z_callS (As := [v1, v2, v3, v4]) (em := zeV) i n hd hn hlk hm hR hC rfl hLn hst h
theorem z_cV5I (i n : Nat) {M' : zM} {ix a ci d : Nat} {q : vw_C} {v1 v2 v3 v4 v5 : Value} {f : Option (Int32 × zS)} {kf : Int32 → zS → Option (ρ × zS)} (hd : M.2.2.2.2[i]? = some (pc, .invokevirtual ix, 3)) (hn : pc + 3 = n) (hlk : Cond.methodLink M.1.cls ix M'.1 ∈ zTT) (hm : zMV M' 5) (hR : zR R d) (hC : ∀ r σ', f = some (r, σ') → zCN X w d M' (.ref a :: [v1, v2, v3, v4, v5]) σ (zeI r, σ')) (hc : ci < 100 ∧ vwCl[ci]? = some q ∧ q.1 = M'.1.cls) (hg : w.2 a = (ci, 0)) (hLn : L.length = M.2.2.1) (hst : (st.map fun v => v.category).sum ≤ 8) (h : ∀ r σ2, zK X w R M Z n L (.int r :: st) σ2 (kf r σ2)) : zK X w R M Z pc L (v5 :: v4 :: v3 :: v2 :: v1 :: .ref a :: st) σ (zbd f kf) := z_callV (As := [v1, v2, v3, v4, v5]) (em := zeI) i n hd hn hlk hm hR hC hc hg rfl hLn hst h
theorem z_cN5I (i n : Nat) {M' : zM} {ix a ci d : Nat} {q : vw_C} {v1 v2 v3 v4 v5 : Value} {f : Option (Int32 × zS)} {kf : Int32 → zS → Option (ρ × zS)} (hd : M.2.2.2.2[i]? = some (pc, .invokevirtual ix, 3)) (hn : pc + 3 = n) {host : String} (hlk : znest = Cond.methodLinkNest M.1.cls ix M'.1 host) (hm : zMV M' 5) (hR : zR R d) (hC : ∀ r σ', f = some (r, σ') → zCN X w d M' (.ref a :: [v1, v2, v3, v4, v5]) σ (zeI r, σ')) (hc : ci < 100 ∧ vwCl[ci]? = some q ∧ q.1 = M'.1.cls) (hg : w.2 a = (ci, 0)) (hLn : L.length = M.2.2.1) (hst : (st.map fun v => v.category).sum ≤ 8) (h : ∀ r σ2, zK X w R M Z n L (.int r :: st) σ2 (kf r σ2)) : zK X w R M Z pc L (v5 :: v4 :: v3 :: v2 :: v1 :: .ref a :: st) σ (zbd f kf) := z_callVN (As := [v1, v2, v3, v4, v5]) (em := zeI) i n hd hn hlk hm hR hC hc hg rfl hLn hst h
theorem z_cS5I (i n : Nat) {M' : zM} {ix d : Nat} {v1 v2 v3 v4 v5 : Value} {f : Option (Int32 × zS)} {kf : Int32 → zS → Option (ρ × zS)} (hd : M.2.2.2.2[i]? = some (pc, .invokestatic ix, 3)) (hn : pc + 3 = n) (hlk : Cond.methodLink M.1.cls ix M'.1 ∈ zTT) (hm : zMS M' 5) (hR : zR R d) (hC : ∀ r σ', f = some (r, σ') → zCN X w d M' [v1, v2, v3, v4, v5] σ (zeI r, σ')) (hLn : L.length = M.2.2.1) (hst : (st.map fun v => v.category).sum ≤ 8) (h : ∀ r σ2, zK X w R M Z n L (.int r :: st) σ2 (kf r σ2)) : zK X w R M Z pc L (v5 :: v4 :: v3 :: v2 :: v1 :: st) σ (zbd f kf) := z_callS (As := [v1, v2, v3, v4, v5]) (em := zeI) i n hd hn hlk hm hR hC rfl hLn hst h
theorem z_cV5L (i n : Nat) {M' : zM} {ix a ci d : Nat} {q : vw_C} {v1 v2 v3 v4 v5 : Value} {f : Option (Int64 × zS)} {kf : Int64 → zS → Option (ρ × zS)} (hd : M.2.2.2.2[i]? = some (pc, .invokevirtual ix, 3)) (hn : pc + 3 = n) (hlk : Cond.methodLink M.1.cls ix M'.1 ∈ zTT) (hm : zMV M' 5) (hR : zR R d) (hC : ∀ r σ', f = some (r, σ') → zCN X w d M' (.ref a :: [v1, v2, v3, v4, v5]) σ (zeL r, σ')) (hc : ci < 100 ∧ vwCl[ci]? = some q ∧ q.1 = M'.1.cls) (hg : w.2 a = (ci, 0)) (hLn : L.length = M.2.2.1) (hst : (st.map fun v => v.category).sum ≤ 8) (h : ∀ r σ2, zK X w R M Z n L (.long r :: st) σ2 (kf r σ2)) : zK X w R M Z pc L (v5 :: v4 :: v3 :: v2 :: v1 :: .ref a :: st) σ (zbd f kf) := z_callV (As := [v1, v2, v3, v4, v5]) (em := zeL) i n hd hn hlk hm hR hC hc hg rfl hLn hst h
theorem z_cS5L (i n : Nat) {M' : zM} {ix d : Nat} {v1 v2 v3 v4 v5 : Value} {f : Option (Int64 × zS)} {kf : Int64 → zS → Option (ρ × zS)} (hd : M.2.2.2.2[i]? = some (pc, .invokestatic ix, 3)) (hn : pc + 3 = n) (hlk : Cond.methodLink M.1.cls ix M'.1 ∈ zTT) (hm : zMS M' 5) (hR : zR R d) (hC : ∀ r σ', f = some (r, σ') → zCN X w d M' [v1, v2, v3, v4, v5] σ (zeL r, σ')) (hLn : L.length = M.2.2.1) (hst : (st.map fun v => v.category).sum ≤ 8) (h : ∀ r σ2, zK X w R M Z n L (.long r :: st) σ2 (kf r σ2)) : zK X w R M Z pc L (v5 :: v4 :: v3 :: v2 :: v1 :: st) σ (zbd f kf) := z_callS (As := [v1, v2, v3, v4, v5]) (em := zeL) i n hd hn hlk hm hR hC rfl hLn hst h
theorem z_cV5V (i n : Nat) {M' : zM} {ix a ci d : Nat} {q : vw_C} {v1 v2 v3 v4 v5 : Value} {f : Option (Unit × zS)} {kf : Unit → zS → Option (ρ × zS)} (hd : M.2.2.2.2[i]? = some (pc, .invokevirtual ix, 3)) (hn : pc + 3 = n) (hlk : Cond.methodLink M.1.cls ix M'.1 ∈ zTT) (hm : zMV M' 5) (hR : zR R d) (hC : ∀ r σ', f = some (r, σ') → zCN X w d M' (.ref a :: [v1, v2, v3, v4, v5]) σ (zeV r, σ')) (hc : ci < 100 ∧ vwCl[ci]? = some q ∧ q.1 = M'.1.cls) (hg : w.2 a = (ci, 0)) (hLn : L.length = M.2.2.1) (hst : (st.map fun v => v.category).sum ≤ 8) (h : ∀ r σ2, zK X w R M Z n L (st) σ2 (kf r σ2)) : zK X w R M Z pc L (v5 :: v4 :: v3 :: v2 :: v1 :: .ref a :: st) σ (zbd f kf) := z_callV (As := [v1, v2, v3, v4, v5]) (em := zeV) i n hd hn hlk hm hR hC hc hg rfl hLn hst h
theorem z_cS5V (i n : Nat) {M' : zM} {ix d : Nat} {v1 v2 v3 v4 v5 : Value} {f : Option (Unit × zS)} {kf : Unit → zS → Option (ρ × zS)} (hd : M.2.2.2.2[i]? = some (pc, .invokestatic ix, 3)) (hn : pc + 3 = n) (hlk : Cond.methodLink M.1.cls ix M'.1 ∈ zTT) (hm : zMS M' 5) (hR : zR R d) (hC : ∀ r σ', f = some (r, σ') → zCN X w d M' [v1, v2, v3, v4, v5] σ (zeV r, σ')) (hLn : L.length = M.2.2.1) (hst : (st.map fun v => v.category).sum ≤ 8) (h : ∀ r σ2, zK X w R M Z n L (st) σ2 (kf r σ2)) : zK X w R M Z pc L (v5 :: v4 :: v3 :: v2 :: v1 :: st) σ (zbd f kf) := z_callS (As := [v1, v2, v3, v4, v5]) (em := zeV) i n hd hn hlk hm hR hC rfl hLn hst h
theorem z_cV6I (i n : Nat) {M' : zM} {ix a ci d : Nat} {q : vw_C} {v1 v2 v3 v4 v5 v6 : Value} {f : Option (Int32 × zS)} {kf : Int32 → zS → Option (ρ × zS)} (hd : M.2.2.2.2[i]? = some (pc, .invokevirtual ix, 3)) (hn : pc + 3 = n) (hlk : Cond.methodLink M.1.cls ix M'.1 ∈ zTT) (hm : zMV M' 6) (hR : zR R d) (hC : ∀ r σ', f = some (r, σ') → zCN X w d M' (.ref a :: [v1, v2, v3, v4, v5, v6]) σ (zeI r, σ')) (hc : ci < 100 ∧ vwCl[ci]? = some q ∧ q.1 = M'.1.cls) (hg : w.2 a = (ci, 0)) (hLn : L.length = M.2.2.1) (hst : (st.map fun v => v.category).sum ≤ 8) (h : ∀ r σ2, zK X w R M Z n L (.int r :: st) σ2 (kf r σ2)) : zK X w R M Z pc L (v6 :: v5 :: v4 :: v3 :: v2 :: v1 :: .ref a :: st) σ (zbd f kf) := z_callV (As := [v1, v2, v3, v4, v5, v6]) (em := zeI) i n hd hn hlk hm hR hC hc hg rfl hLn hst h
theorem z_cS6I (i n : Nat) {M' : zM} {ix d : Nat} {v1 v2 v3 v4 v5 v6 : Value} {f : Option (Int32 × zS)} {kf : Int32 → zS → Option (ρ × zS)} (hd : M.2.2.2.2[i]? = some (pc, .invokestatic ix, 3)) (hn : pc + 3 = n) (hlk : Cond.methodLink M.1.cls ix M'.1 ∈ zTT) (hm : zMS M' 6) (hR : zR R d) (hC : ∀ r σ', f = some (r, σ') → zCN X w d M' [v1, v2, v3, v4, v5, v6] σ (zeI r, σ')) (hLn : L.length = M.2.2.1) (hst : (st.map fun v => v.category).sum ≤ 8) (h : ∀ r σ2, zK X w R M Z n L (.int r :: st) σ2 (kf r σ2)) : zK X w R M Z pc L (v6 :: v5 :: v4 :: v3 :: v2 :: v1 :: st) σ (zbd f kf) := z_callS (As := [v1, v2, v3, v4, v5, v6]) (em := zeI) i n hd hn hlk hm hR hC rfl hLn hst h
theorem z_cV6L (i n : Nat) {M' : zM} {ix a ci d : Nat} {q : vw_C} {v1 v2 v3 v4 v5 v6 : Value} {f : Option (Int64 × zS)} {kf : Int64 → zS → Option (ρ × zS)} (hd : M.2.2.2.2[i]? = some (pc, .invokevirtual ix, 3)) (hn : pc + 3 = n) (hlk : Cond.methodLink M.1.cls ix M'.1 ∈ zTT) (hm : zMV M' 6) (hR : zR R d) (hC : ∀ r σ', f = some (r, σ') → zCN X w d M' (.ref a :: [v1, v2, v3, v4, v5, v6]) σ (zeL r, σ')) (hc : ci < 100 ∧ vwCl[ci]? = some q ∧ q.1 = M'.1.cls) (hg : w.2 a = (ci, 0)) (hLn : L.length = M.2.2.1) (hst : (st.map fun v => v.category).sum ≤ 8) (h : ∀ r σ2, zK X w R M Z n L (.long r :: st) σ2 (kf r σ2)) : zK X w R M Z pc L (v6 :: v5 :: v4 :: v3 :: v2 :: v1 :: .ref a :: st) σ (zbd f kf) := z_callV (As := [v1, v2, v3, v4, v5, v6]) (em := zeL) i n hd hn hlk hm hR hC hc hg rfl hLn hst h
theorem z_cS6L (i n : Nat) {M' : zM} {ix d : Nat} {v1 v2 v3 v4 v5 v6 : Value} {f : Option (Int64 × zS)} {kf : Int64 → zS → Option (ρ × zS)} (hd : M.2.2.2.2[i]? = some (pc, .invokestatic ix, 3)) (hn : pc + 3 = n) (hlk : Cond.methodLink M.1.cls ix M'.1 ∈ zTT) (hm : zMS M' 6) (hR : zR R d) (hC : ∀ r σ', f = some (r, σ') → zCN X w d M' [v1, v2, v3, v4, v5, v6] σ (zeL r, σ')) (hLn : L.length = M.2.2.1) (hst : (st.map fun v => v.category).sum ≤ 8) (h : ∀ r σ2, zK X w R M Z n L (.long r :: st) σ2 (kf r σ2)) : zK X w R M Z pc L (v6 :: v5 :: v4 :: v3 :: v2 :: v1 :: st) σ (zbd f kf) := z_callS (As := [v1, v2, v3, v4, v5, v6]) (em := zeL) i n hd hn hlk hm hR hC rfl hLn hst h
theorem z_cV6V (i n : Nat) {M' : zM} {ix a ci d : Nat} {q : vw_C} {v1 v2 v3 v4 v5 v6 : Value} {f : Option (Unit × zS)} {kf : Unit → zS → Option (ρ × zS)} (hd : M.2.2.2.2[i]? = some (pc, .invokevirtual ix, 3)) (hn : pc + 3 = n) (hlk : Cond.methodLink M.1.cls ix M'.1 ∈ zTT) (hm : zMV M' 6) (hR : zR R d) (hC : ∀ r σ', f = some (r, σ') → zCN X w d M' (.ref a :: [v1, v2, v3, v4, v5, v6]) σ (zeV r, σ')) (hc : ci < 100 ∧ vwCl[ci]? = some q ∧ q.1 = M'.1.cls) (hg : w.2 a = (ci, 0)) (hLn : L.length = M.2.2.1) (hst : (st.map fun v => v.category).sum ≤ 8) (h : ∀ r σ2, zK X w R M Z n L (st) σ2 (kf r σ2)) : zK X w R M Z pc L (v6 :: v5 :: v4 :: v3 :: v2 :: v1 :: .ref a :: st) σ (zbd f kf) := z_callV (As := [v1, v2, v3, v4, v5, v6]) (em := zeV) i n hd hn hlk hm hR hC hc hg rfl hLn hst h
theorem z_cS6V (i n : Nat) {M' : zM} {ix d : Nat} {v1 v2 v3 v4 v5 v6 : Value} {f : Option (Unit × zS)} {kf : Unit → zS → Option (ρ × zS)} (hd : M.2.2.2.2[i]? = some (pc, .invokestatic ix, 3)) (hn : pc + 3 = n) (hlk : Cond.methodLink M.1.cls ix M'.1 ∈ zTT) (hm : zMS M' 6) (hR : zR R d) (hC : ∀ r σ', f = some (r, σ') → zCN X w d M' [v1, v2, v3, v4, v5, v6] σ (zeV r, σ')) (hLn : L.length = M.2.2.1) (hst : (st.map fun v => v.category).sum ≤ 8) (h : ∀ r σ2, zK X w R M Z n L (st) σ2 (kf r σ2)) : zK X w R M Z pc L (v6 :: v5 :: v4 :: v3 :: v2 :: v1 :: st) σ (zbd f kf) := z_callS (As := [v1, v2, v3, v4, v5, v6]) (em := zeV) i n hd hn hlk hm hR hC rfl hLn hst h
theorem z_cV7I (i n : Nat) {M' : zM} {ix a ci d : Nat} {q : vw_C} {v1 v2 v3 v4 v5 v6 v7 : Value} {f : Option (Int32 × zS)} {kf : Int32 → zS → Option (ρ × zS)} (hd : M.2.2.2.2[i]? = some (pc, .invokevirtual ix, 3)) (hn : pc + 3 = n) (hlk : Cond.methodLink M.1.cls ix M'.1 ∈ zTT) (hm : zMV M' 7) (hR : zR R d) (hC : ∀ r σ', f = some (r, σ') → zCN X w d M' (.ref a :: [v1, v2, v3, v4, v5, v6, v7]) σ (zeI r, σ')) (hc : ci < 100 ∧ vwCl[ci]? = some q ∧ q.1 = M'.1.cls) (hg : w.2 a = (ci, 0)) (hLn : L.length = M.2.2.1) (hst : (st.map fun v => v.category).sum ≤ 8) (h : ∀ r σ2, zK X w R M Z n L (.int r :: st) σ2 (kf r σ2)) : zK X w R M Z pc L (v7 :: v6 :: v5 :: v4 :: v3 :: v2 :: v1 :: .ref a :: st) σ (zbd f kf) := z_callV (As := [v1, v2, v3, v4, v5, v6, v7]) (em := zeI) i n hd hn hlk hm hR hC hc hg rfl hLn hst h
theorem z_cS7I (i n : Nat) {M' : zM} {ix d : Nat} {v1 v2 v3 v4 v5 v6 v7 : Value} {f : Option (Int32 × zS)} {kf : Int32 → zS → Option (ρ × zS)} (hd : M.2.2.2.2[i]? = some (pc, .invokestatic ix, 3)) (hn : pc + 3 = n) (hlk : Cond.methodLink M.1.cls ix M'.1 ∈ zTT) (hm : zMS M' 7) (hR : zR R d) (hC : ∀ r σ', f = some (r, σ') → zCN X w d M' [v1, v2, v3, v4, v5, v6, v7] σ (zeI r, σ')) (hLn : L.length = M.2.2.1) (hst : (st.map fun v => v.category).sum ≤ 8) (h : ∀ r σ2, zK X w R M Z n L (.int r :: st) σ2 (kf r σ2)) : zK X w R M Z pc L (v7 :: v6 :: v5 :: v4 :: v3 :: v2 :: v1 :: st) σ (zbd f kf) := z_callS (As := [v1, v2, v3, v4, v5, v6, v7]) (em := zeI) i n hd hn hlk hm hR hC rfl hLn hst h
theorem z_cV7L (i n : Nat) {M' : zM} {ix a ci d : Nat} {q : vw_C} {v1 v2 v3 v4 v5 v6 v7 : Value} {f : Option (Int64 × zS)} {kf : Int64 → zS → Option (ρ × zS)} (hd : M.2.2.2.2[i]? = some (pc, .invokevirtual ix, 3)) (hn : pc + 3 = n) (hlk : Cond.methodLink M.1.cls ix M'.1 ∈ zTT) (hm : zMV M' 7) (hR : zR R d) (hC : ∀ r σ', f = some (r, σ') → zCN X w d M' (.ref a :: [v1, v2, v3, v4, v5, v6, v7]) σ (zeL r, σ')) (hc : ci < 100 ∧ vwCl[ci]? = some q ∧ q.1 = M'.1.cls) (hg : w.2 a = (ci, 0)) (hLn : L.length = M.2.2.1) (hst : (st.map fun v => v.category).sum ≤ 8) (h : ∀ r σ2, zK X w R M Z n L (.long r :: st) σ2 (kf r σ2)) : zK X w R M Z pc L (v7 :: v6 :: v5 :: v4 :: v3 :: v2 :: v1 :: .ref a :: st) σ (zbd f kf) := z_callV (As := [v1, v2, v3, v4, v5, v6, v7]) (em := zeL) i n hd hn hlk hm hR hC hc hg rfl hLn hst h
theorem z_cS7L (i n : Nat) {M' : zM} {ix d : Nat} {v1 v2 v3 v4 v5 v6 v7 : Value} {f : Option (Int64 × zS)} {kf : Int64 → zS → Option (ρ × zS)} (hd : M.2.2.2.2[i]? = some (pc, .invokestatic ix, 3)) (hn : pc + 3 = n) (hlk : Cond.methodLink M.1.cls ix M'.1 ∈ zTT) (hm : zMS M' 7) (hR : zR R d) (hC : ∀ r σ', f = some (r, σ') → zCN X w d M' [v1, v2, v3, v4, v5, v6, v7] σ (zeL r, σ')) (hLn : L.length = M.2.2.1) (hst : (st.map fun v => v.category).sum ≤ 8) (h : ∀ r σ2, zK X w R M Z n L (.long r :: st) σ2 (kf r σ2)) : zK X w R M Z pc L (v7 :: v6 :: v5 :: v4 :: v3 :: v2 :: v1 :: st) σ (zbd f kf) := z_callS (As := [v1, v2, v3, v4, v5, v6, v7]) (em := zeL) i n hd hn hlk hm hR hC rfl hLn hst h
theorem z_cV7V (i n : Nat) {M' : zM} {ix a ci d : Nat} {q : vw_C} {v1 v2 v3 v4 v5 v6 v7 : Value} {f : Option (Unit × zS)} {kf : Unit → zS → Option (ρ × zS)} (hd : M.2.2.2.2[i]? = some (pc, .invokevirtual ix, 3)) (hn : pc + 3 = n) (hlk : Cond.methodLink M.1.cls ix M'.1 ∈ zTT) (hm : zMV M' 7) (hR : zR R d) (hC : ∀ r σ', f = some (r, σ') → zCN X w d M' (.ref a :: [v1, v2, v3, v4, v5, v6, v7]) σ (zeV r, σ')) (hc : ci < 100 ∧ vwCl[ci]? = some q ∧ q.1 = M'.1.cls) (hg : w.2 a = (ci, 0)) (hLn : L.length = M.2.2.1) (hst : (st.map fun v => v.category).sum ≤ 8) (h : ∀ r σ2, zK X w R M Z n L (st) σ2 (kf r σ2)) : zK X w R M Z pc L (v7 :: v6 :: v5 :: v4 :: v3 :: v2 :: v1 :: .ref a :: st) σ (zbd f kf) := z_callV (As := [v1, v2, v3, v4, v5, v6, v7]) (em := zeV) i n hd hn hlk hm hR hC hc hg rfl hLn hst h
theorem z_cS7V (i n : Nat) {M' : zM} {ix d : Nat} {v1 v2 v3 v4 v5 v6 v7 : Value} {f : Option (Unit × zS)} {kf : Unit → zS → Option (ρ × zS)} (hd : M.2.2.2.2[i]? = some (pc, .invokestatic ix, 3)) (hn : pc + 3 = n) (hlk : Cond.methodLink M.1.cls ix M'.1 ∈ zTT) (hm : zMS M' 7) (hR : zR R d) (hC : ∀ r σ', f = some (r, σ') → zCN X w d M' [v1, v2, v3, v4, v5, v6, v7] σ (zeV r, σ')) (hLn : L.length = M.2.2.1) (hst : (st.map fun v => v.category).sum ≤ 8) (h : ∀ r σ2, zK X w R M Z n L (st) σ2 (kf r σ2)) : zK X w R M Z pc L (v7 :: v6 :: v5 :: v4 :: v3 :: v2 :: v1 :: st) σ (zbd f kf) := z_callS (As := [v1, v2, v3, v4, v5, v6, v7]) (em := zeV) i n hd hn hlk hm hR hC rfl hLn hst h
end ZCN
theorem zT_of {M : zM} (h : M.2.2.2.2.all (fun q => decide (decode M.2.1 q.1 = .ok q.2)) = true) : zT M := fun i q hq => by
  have := List.all_eq_true.mp h q (List.mem_of_getElem? hq)
  simpa using this
theorem zws {C : String} {T : u_T} {N : Nat} (ps : List Nat) (h : u_ws C T N = ps.filterMap (fun i => lw_tbl[i]?)) (hg : (u_ws C T N).all goodWord = true) : ∀ w ∈ u_ws C T N, w ∈ zTT := by
  intro w hw
  have h1 := List.all_eq_true.mp hg w hw
  rw [h] at hw
  obtain ⟨i, -, hi⟩ := List.mem_filterMap.mp hw
  exact zTT_in hi h1
end
section
theorem zc_0 : zcl 0 (RX0, TX0, 5) tyX0 := ⟨by decide, rfl, tyX0_ok, nmX0, zws [294, 296, 298, 300, 302] (by decide +kernel) (by decide +kernel), rfl⟩
theorem zc_1 : zcl 1 (RX1, TX1, 1) tyX1 := ⟨by decide, rfl, tyX1_ok, nmX1, zws [497] (by decide +kernel) (by decide +kernel), rfl⟩
theorem zc_2 : zcl 2 (RX2, TX2, 10) tyX2 := ⟨by decide, rfl, tyX2_ok, nmX2, zws [468, 470, 472, 474, 476, 478, 480, 482, 484, 486] (by decide +kernel) (by decide +kernel), rfl⟩
theorem zc_3 : zcl 3 (RX3, TX3, 16) tyX3 := ⟨by decide, rfl, tyX3_ok, nmX3, zws [360, 362, 364, 366, 368, 370, 372, 374, 376, 378, 380, 382, 384, 386, 388, 390] (by decide +kernel) (by decide +kernel), rfl⟩
theorem zc_4 : zcl 4 (RX4, TX4, 5) tyX4 := ⟨by decide, rfl, tyX4_ok, nmX4, zws [222, 224, 226, 228, 230] (by decide +kernel) (by decide +kernel), rfl⟩
theorem zc_5 : zcl 5 (RX5, TX5, 2) tyX5 := ⟨by decide, rfl, tyX5_ok, nmX5, zws [422, 424] (by decide +kernel) (by decide +kernel), rfl⟩
theorem zc_6 : zcl 6 (RX6, TX6, 8) tyX6 := ⟨by decide, rfl, tyX6_ok, nmX6, zws [263, 265, 267, 269, 271, 273, 275, 277] (by decide +kernel) (by decide +kernel), rfl⟩
theorem zc_7 : zcl 7 (RX7, TX7, 3) tyX7 := ⟨by decide, rfl, tyX7_ok, nmX7, zws [442, 444, 446] (by decide +kernel) (by decide +kernel), rfl⟩
theorem zc_8 : zcl 8 (RX8, TX8, 5) tyX8 := ⟨by decide, rfl, tyX8_ok, nmX8, zws [402, 404, 406, 408, 410] (by decide +kernel) (by decide +kernel), rfl⟩
theorem zc_9 : zcl 9 (RX9, TX9, 7) tyX9 := ⟨by decide, rfl, tyX9_ok, nmX9, zws [192, 194, 196, 198, 200, 202, 204] (by decide +kernel) (by decide +kernel), rfl⟩
theorem zc_10 : zcl 10 (RX10, TX10, 13) tyX10 := ⟨by decide, rfl, tyX10_ok, nmX10, zws [515, 517, 519, 521, 523, 525, 527, 529, 531, 533, 535, 537, 539] (by decide +kernel) (by decide +kernel), rfl⟩
theorem zc_11 : zcl 11 (RX11, TX11, 40) tyX11 := ⟨by decide, rfl, tyX11_ok, nmX11, zws [1341, 1343, 1345, 1347, 1349, 1351, 1353, 1355, 1357, 1359, 1361, 1363, 1365, 1367, 1369, 1371, 1373, 1375, 1377, 1379, 1381, 1383, 1385, 1387, 1389, 1391, 1393, 1395, 1397, 1399, 1401, 1403, 1405, 1407, 1409, 1411, 1413, 1415, 1417, 1419] (by decide +kernel) (by decide +kernel), rfl⟩
theorem zf_X10_12 : zF RX10 12 10 0 (RX10, TX10, 13) tyX10 := ⟨zc_10, by decide, zTT_in (i := 502) (by decide +kernel) rfl⟩
theorem zf_X10_19 : zF RX10 19 10 1 (RX10, TX10, 13) tyX10 := ⟨zc_10, by decide, zTT_in (i := 503) (by decide +kernel) rfl⟩
theorem zf_X10_23 : zF RX10 23 10 2 (RX10, TX10, 13) tyX10 := ⟨zc_10, by decide, zTT_in (i := 504) (by decide +kernel) rfl⟩
theorem zf_X10_29 : zF RX10 29 10 3 (RX10, TX10, 13) tyX10 := ⟨zc_10, by decide, zTT_in (i := 505) (by decide +kernel) rfl⟩
theorem zf_X10_33 : zF RX10 33 10 4 (RX10, TX10, 13) tyX10 := ⟨zc_10, by decide, zTT_in (i := 506) (by decide +kernel) rfl⟩
theorem zf_X10_40 : zF RX10 40 10 5 (RX10, TX10, 13) tyX10 := ⟨zc_10, by decide, zTT_in (i := 507) (by decide +kernel) rfl⟩
theorem zf_X10_47 : zF RX10 47 10 6 (RX10, TX10, 13) tyX10 := ⟨zc_10, by decide, zTT_in (i := 508) (by decide +kernel) rfl⟩
theorem zf_X10_54 : zF RX10 54 10 7 (RX10, TX10, 13) tyX10 := ⟨zc_10, by decide, zTT_in (i := 509) (by decide +kernel) rfl⟩
theorem zf_X10_61 : zF RX10 61 10 8 (RX10, TX10, 13) tyX10 := ⟨zc_10, by decide, zTT_in (i := 510) (by decide +kernel) rfl⟩
theorem zf_X10_65 : zF RX10 65 10 12 (RX10, TX10, 13) tyX10 := ⟨zc_10, by decide, zTT_in (i := 514) (by decide +kernel) rfl⟩
theorem zf_X10_69 : zF RX10 69 8 0 (RX8, TX8, 5) tyX8 := ⟨zc_8, by decide, zTT_in (i := 394) (by decide +kernel) rfl⟩
theorem zf_X10_73 : zF RX10 73 9 1 (RX9, TX9, 7) tyX9 := ⟨zc_9, by decide, zTT_in (i := 181) (by decide +kernel) rfl⟩
theorem zf_X10_89 : zF RX10 89 8 3 (RX8, TX8, 5) tyX8 := ⟨zc_8, by decide, zTT_in (i := 399) (by decide +kernel) rfl⟩
theorem zf_X10_92 : zF RX10 92 10 11 (RX10, TX10, 13) tyX10 := ⟨zc_10, by decide, zTT_in (i := 513) (by decide +kernel) rfl⟩
theorem zf_X10_93 : zF RX10 93 8 4 (RX8, TX8, 5) tyX8 := ⟨zc_8, by decide, zTT_in (i := 401) (by decide +kernel) rfl⟩
theorem zf_X10_94 : zF RX10 94 8 2 (RX8, TX8, 5) tyX8 := ⟨zc_8, by decide, zTT_in (i := 397) (by decide +kernel) rfl⟩
theorem zf_X10_97 : zF RX10 97 3 7 (RX3, TX3, 16) tyX3 := ⟨zc_3, by decide, zTT_in (i := 330) (by decide +kernel) rfl⟩
theorem zf_X10_108 : zF RX10 108 2 6 (RX2, TX2, 10) tyX2 := ⟨zc_2, by decide, zTT_in (i := 463) (by decide +kernel) rfl⟩
theorem zf_X10_112 : zF RX10 112 7 2 (RX7, TX7, 3) tyX7 := ⟨zc_7, by decide, zTT_in (i := 441) (by decide +kernel) rfl⟩
theorem zf_X10_115 : zF RX10 115 10 9 (RX10, TX10, 13) tyX10 := ⟨zc_10, by decide, zTT_in (i := 511) (by decide +kernel) rfl⟩
theorem zf_X10_118 : zF RX10 118 3 10 (RX3, TX3, 16) tyX3 := ⟨zc_3, by decide, zTT_in (i := 341) (by decide +kernel) rfl⟩
theorem zf_X10_124 : zF RX10 124 10 10 (RX10, TX10, 13) tyX10 := ⟨zc_10, by decide, zTT_in (i := 512) (by decide +kernel) rfl⟩
theorem zf_X10_131 : zF RX10 131 3 0 (RX3, TX3, 16) tyX3 := ⟨zc_3, by decide, zTT_in (i := 307) (by decide +kernel) rfl⟩
theorem zf_X10_135 : zF RX10 135 3 1 (RX3, TX3, 16) tyX3 := ⟨zc_3, by decide, zTT_in (i := 310) (by decide +kernel) rfl⟩
theorem zf_X10_141 : zF RX10 141 5 0 (RX5, TX5, 2) tyX5 := ⟨zc_5, by decide, zTT_in (i := 420) (by decide +kernel) rfl⟩
theorem zf_X10_147 : zF RX10 147 6 7 (RX6, TX6, 8) tyX6 := ⟨zc_6, by decide, zTT_in (i := 262) (by decide +kernel) rfl⟩
theorem zf_X10_153 : zF RX10 153 3 4 (RX3, TX3, 16) tyX3 := ⟨zc_3, by decide, zTT_in (i := 319) (by decide +kernel) rfl⟩
theorem zf_X10_165 : zF RX10 165 6 0 (RX6, TX6, 8) tyX6 := ⟨zc_6, by decide, zTT_in (i := 247) (by decide +kernel) rfl⟩
theorem zf_X10_168 : zF RX10 168 6 1 (RX6, TX6, 8) tyX6 := ⟨zc_6, by decide, zTT_in (i := 249) (by decide +kernel) rfl⟩
theorem zf_X10_171 : zF RX10 171 6 2 (RX6, TX6, 8) tyX6 := ⟨zc_6, by decide, zTT_in (i := 251) (by decide +kernel) rfl⟩
theorem zf_X10_174 : zF RX10 174 6 3 (RX6, TX6, 8) tyX6 := ⟨zc_6, by decide, zTT_in (i := 253) (by decide +kernel) rfl⟩
theorem zf_X10_177 : zF RX10 177 6 4 (RX6, TX6, 8) tyX6 := ⟨zc_6, by decide, zTT_in (i := 255) (by decide +kernel) rfl⟩
theorem zf_X10_178 : zF RX10 178 6 6 (RX6, TX6, 8) tyX6 := ⟨zc_6, by decide, zTT_in (i := 260) (by decide +kernel) rfl⟩
theorem zf_X10_202 : zF RX10 202 3 13 (RX3, TX3, 16) tyX3 := ⟨zc_3, by decide, zTT_in (i := 352) (by decide +kernel) rfl⟩
theorem zf_X10_205 : zF RX10 205 3 12 (RX3, TX3, 16) tyX3 := ⟨zc_3, by decide, zTT_in (i := 348) (by decide +kernel) rfl⟩
theorem zf_X10_216 : zF RX10 216 6 5 (RX6, TX6, 8) tyX6 := ⟨zc_6, by decide, zTT_in (i := 258) (by decide +kernel) rfl⟩
theorem zf_X10_255 : zF RX10 255 3 11 (RX3, TX3, 16) tyX3 := ⟨zc_3, by decide, zTT_in (i := 345) (by decide +kernel) rfl⟩
theorem zf_X10_264 : zF RX10 264 3 8 (RX3, TX3, 16) tyX3 := ⟨zc_3, by decide, zTT_in (i := 334) (by decide +kernel) rfl⟩
theorem zf_X10_273 : zF RX10 273 0 4 (RX0, TX0, 5) tyX0 := ⟨zc_0, by decide, zTT_in (i := 293) (by decide +kernel) rfl⟩
theorem zf_X10_278 : zF RX10 278 2 7 (RX2, TX2, 10) tyX2 := ⟨zc_2, by decide, zTT_in (i := 465) (by decide +kernel) rfl⟩
theorem zf_X10_285 : zF RX10 285 2 1 (RX2, TX2, 10) tyX2 := ⟨zc_2, by decide, zTT_in (i := 457) (by decide +kernel) rfl⟩
theorem zf_X10_294 : zF RX10 294 3 5 (RX3, TX3, 16) tyX3 := ⟨zc_3, by decide, zTT_in (i := 324) (by decide +kernel) rfl⟩
theorem zf_X10_340 : zF RX10 340 7 0 (RX7, TX7, 3) tyX7 := ⟨zc_7, by decide, zTT_in (i := 437) (by decide +kernel) rfl⟩
theorem zf_X10_343 : zF RX10 343 7 1 (RX7, TX7, 3) tyX7 := ⟨zc_7, by decide, zTT_in (i := 439) (by decide +kernel) rfl⟩
theorem zf_X10_349 : zF RX10 349 3 9 (RX3, TX3, 16) tyX3 := ⟨zc_3, by decide, zTT_in (i := 337) (by decide +kernel) rfl⟩
theorem zf_X10_352 : zF RX10 352 3 14 (RX3, TX3, 16) tyX3 := ⟨zc_3, by decide, zTT_in (i := 356) (by decide +kernel) rfl⟩
theorem zf_X10_355 : zF RX10 355 3 15 (RX3, TX3, 16) tyX3 := ⟨zc_3, by decide, zTT_in (i := 359) (by decide +kernel) rfl⟩
theorem zf_X10_369 : zF RX10 369 1 0 (RX1, TX1, 1) tyX1 := ⟨zc_1, by decide, zTT_in (i := 496) (by decide +kernel) rfl⟩
theorem zf_X0_9 : zF RX0 9 0 0 (RX0, TX0, 5) tyX0 := ⟨zc_0, by decide, zTT_in (i := 286) (by decide +kernel) rfl⟩
theorem zf_X0_15 : zF RX0 15 0 1 (RX0, TX0, 5) tyX0 := ⟨zc_0, by decide, zTT_in (i := 287) (by decide +kernel) rfl⟩
theorem zf_X0_18 : zF RX0 18 0 2 (RX0, TX0, 5) tyX0 := ⟨zc_0, by decide, zTT_in (i := 288) (by decide +kernel) rfl⟩
theorem zf_X0_21 : zF RX0 21 0 3 (RX0, TX0, 5) tyX0 := ⟨zc_0, by decide, zTT_in (i := 289) (by decide +kernel) rfl⟩
theorem zf_X0_24 : zF RX0 24 0 4 (RX0, TX0, 5) tyX0 := ⟨zc_0, by decide, zTT_in (i := 290) (by decide +kernel) rfl⟩
theorem zf_X1_9 : zF RX1 9 1 0 (RX1, TX1, 1) tyX1 := ⟨zc_1, by decide, zTT_in (i := 495) (by decide +kernel) rfl⟩
theorem zf_X2_9 : zF RX2 9 2 0 (RX2, TX2, 10) tyX2 := ⟨zc_2, by decide, zTT_in (i := 455) (by decide +kernel) rfl⟩
theorem zf_X2_15 : zF RX2 15 2 1 (RX2, TX2, 10) tyX2 := ⟨zc_2, by decide, zTT_in (i := 456) (by decide +kernel) rfl⟩
theorem zf_X2_18 : zF RX2 18 2 2 (RX2, TX2, 10) tyX2 := ⟨zc_2, by decide, zTT_in (i := 458) (by decide +kernel) rfl⟩
theorem zf_X2_21 : zF RX2 21 2 3 (RX2, TX2, 10) tyX2 := ⟨zc_2, by decide, zTT_in (i := 459) (by decide +kernel) rfl⟩
theorem zf_X2_24 : zF RX2 24 2 4 (RX2, TX2, 10) tyX2 := ⟨zc_2, by decide, zTT_in (i := 460) (by decide +kernel) rfl⟩
theorem zf_X2_27 : zF RX2 27 2 5 (RX2, TX2, 10) tyX2 := ⟨zc_2, by decide, zTT_in (i := 461) (by decide +kernel) rfl⟩
theorem zf_X2_30 : zF RX2 30 2 6 (RX2, TX2, 10) tyX2 := ⟨zc_2, by decide, zTT_in (i := 462) (by decide +kernel) rfl⟩
theorem zf_X2_34 : zF RX2 34 2 7 (RX2, TX2, 10) tyX2 := ⟨zc_2, by decide, zTT_in (i := 464) (by decide +kernel) rfl⟩
theorem zf_X2_38 : zF RX2 38 3 14 (RX3, TX3, 16) tyX3 := ⟨zc_3, by decide, zTT_in (i := 353) (by decide +kernel) rfl⟩
theorem zf_X2_43 : zF RX2 43 2 8 (RX2, TX2, 10) tyX2 := ⟨zc_2, by decide, zTT_in (i := 466) (by decide +kernel) rfl⟩
theorem zf_X2_46 : zF RX2 46 3 13 (RX3, TX3, 16) tyX3 := ⟨zc_3, by decide, zTT_in (i := 349) (by decide +kernel) rfl⟩
theorem zf_X2_49 : zF RX2 49 2 9 (RX2, TX2, 10) tyX2 := ⟨zc_2, by decide, zTT_in (i := 467) (by decide +kernel) rfl⟩
theorem zf_X2_58 : zF RX2 58 3 7 (RX3, TX3, 16) tyX3 := ⟨zc_3, by decide, zTT_in (i := 329) (by decide +kernel) rfl⟩
theorem zf_X2_93 : zF RX2 93 3 6 (RX3, TX3, 16) tyX3 := ⟨zc_3, by decide, zTT_in (i := 326) (by decide +kernel) rfl⟩
theorem zf_X2_96 : zF RX2 96 3 5 (RX3, TX3, 16) tyX3 := ⟨zc_3, by decide, zTT_in (i := 322) (by decide +kernel) rfl⟩
theorem zf_X3_9 : zF RX3 9 3 0 (RX3, TX3, 16) tyX3 := ⟨zc_3, by decide, zTT_in (i := 305) (by decide +kernel) rfl⟩
theorem zf_X3_15 : zF RX3 15 3 1 (RX3, TX3, 16) tyX3 := ⟨zc_3, by decide, zTT_in (i := 309) (by decide +kernel) rfl⟩
theorem zf_X3_18 : zF RX3 18 3 2 (RX3, TX3, 16) tyX3 := ⟨zc_3, by decide, zTT_in (i := 312) (by decide +kernel) rfl⟩
theorem zf_X3_21 : zF RX3 21 3 3 (RX3, TX3, 16) tyX3 := ⟨zc_3, by decide, zTT_in (i := 315) (by decide +kernel) rfl⟩
theorem zf_X3_24 : zF RX3 24 3 4 (RX3, TX3, 16) tyX3 := ⟨zc_3, by decide, zTT_in (i := 318) (by decide +kernel) rfl⟩
theorem zf_X3_27 : zF RX3 27 3 5 (RX3, TX3, 16) tyX3 := ⟨zc_3, by decide, zTT_in (i := 321) (by decide +kernel) rfl⟩
theorem zf_X3_30 : zF RX3 30 3 6 (RX3, TX3, 16) tyX3 := ⟨zc_3, by decide, zTT_in (i := 325) (by decide +kernel) rfl⟩
theorem zf_X3_36 : zF RX3 36 3 7 (RX3, TX3, 16) tyX3 := ⟨zc_3, by decide, zTT_in (i := 328) (by decide +kernel) rfl⟩
theorem zf_X3_43 : zF RX3 43 3 8 (RX3, TX3, 16) tyX3 := ⟨zc_3, by decide, zTT_in (i := 332) (by decide +kernel) rfl⟩
theorem zf_X3_50 : zF RX3 50 0 4 (RX0, TX0, 5) tyX0 := ⟨zc_0, by decide, zTT_in (i := 291) (by decide +kernel) rfl⟩
theorem zf_X3_54 : zF RX3 54 3 9 (RX3, TX3, 16) tyX3 := ⟨zc_3, by decide, zTT_in (i := 335) (by decide +kernel) rfl⟩
theorem zf_X3_57 : zF RX3 57 3 10 (RX3, TX3, 16) tyX3 := ⟨zc_3, by decide, zTT_in (i := 339) (by decide +kernel) rfl⟩
theorem zf_X3_60 : zF RX3 60 3 11 (RX3, TX3, 16) tyX3 := ⟨zc_3, by decide, zTT_in (i := 342) (by decide +kernel) rfl⟩
theorem zf_X3_63 : zF RX3 63 3 12 (RX3, TX3, 16) tyX3 := ⟨zc_3, by decide, zTT_in (i := 346) (by decide +kernel) rfl⟩
theorem zf_X3_66 : zF RX3 66 3 13 (RX3, TX3, 16) tyX3 := ⟨zc_3, by decide, zTT_in (i := 350) (by decide +kernel) rfl⟩
theorem zf_X3_69 : zF RX3 69 3 14 (RX3, TX3, 16) tyX3 := ⟨zc_3, by decide, zTT_in (i := 354) (by decide +kernel) rfl⟩
theorem zf_X3_72 : zF RX3 72 3 15 (RX3, TX3, 16) tyX3 := ⟨zc_3, by decide, zTT_in (i := 357) (by decide +kernel) rfl⟩
theorem zf_X4_11 : zF RX4 11 4 0 (RX4, TX4, 5) tyX4 := ⟨zc_4, by decide, zTT_in (i := 214) (by decide +kernel) rfl⟩
theorem zf_X4_15 : zF RX4 15 4 1 (RX4, TX4, 5) tyX4 := ⟨zc_4, by decide, zTT_in (i := 215) (by decide +kernel) rfl⟩
theorem zf_X4_18 : zF RX4 18 4 2 (RX4, TX4, 5) tyX4 := ⟨zc_4, by decide, zTT_in (i := 216) (by decide +kernel) rfl⟩
theorem zf_X4_21 : zF RX4 21 4 3 (RX4, TX4, 5) tyX4 := ⟨zc_4, by decide, zTT_in (i := 218) (by decide +kernel) rfl⟩
theorem zf_X4_24 : zF RX4 24 4 4 (RX4, TX4, 5) tyX4 := ⟨zc_4, by decide, zTT_in (i := 220) (by decide +kernel) rfl⟩
theorem zf_X4_34 : zF RX4 34 9 3 (RX9, TX9, 7) tyX9 := ⟨zc_9, by decide, zTT_in (i := 184) (by decide +kernel) rfl⟩
theorem zf_X4_36 : zF RX4 36 9 4 (RX9, TX9, 7) tyX9 := ⟨zc_9, by decide, zTT_in (i := 187) (by decide +kernel) rfl⟩
theorem zf_X5_9 : zF RX5 9 5 0 (RX5, TX5, 2) tyX5 := ⟨zc_5, by decide, zTT_in (i := 419) (by decide +kernel) rfl⟩
theorem zf_X5_15 : zF RX5 15 3 10 (RX3, TX3, 16) tyX3 := ⟨zc_3, by decide, zTT_in (i := 338) (by decide +kernel) rfl⟩
theorem zf_X5_21 : zF RX5 21 5 1 (RX5, TX5, 2) tyX5 := ⟨zc_5, by decide, zTT_in (i := 421) (by decide +kernel) rfl⟩
theorem zf_X5_24 : zF RX5 24 3 0 (RX3, TX3, 16) tyX3 := ⟨zc_3, by decide, zTT_in (i := 306) (by decide +kernel) rfl⟩
theorem zf_X5_27 : zF RX5 27 3 11 (RX3, TX3, 16) tyX3 := ⟨zc_3, by decide, zTT_in (i := 343) (by decide +kernel) rfl⟩
theorem zf_X5_30 : zF RX5 30 3 2 (RX3, TX3, 16) tyX3 := ⟨zc_3, by decide, zTT_in (i := 313) (by decide +kernel) rfl⟩
theorem zf_X5_33 : zF RX5 33 3 3 (RX3, TX3, 16) tyX3 := ⟨zc_3, by decide, zTT_in (i := 316) (by decide +kernel) rfl⟩
theorem zf_X6_9 : zF RX6 9 6 0 (RX6, TX6, 8) tyX6 := ⟨zc_6, by decide, zTT_in (i := 246) (by decide +kernel) rfl⟩
theorem zf_X6_15 : zF RX6 15 6 1 (RX6, TX6, 8) tyX6 := ⟨zc_6, by decide, zTT_in (i := 248) (by decide +kernel) rfl⟩
theorem zf_X6_18 : zF RX6 18 6 2 (RX6, TX6, 8) tyX6 := ⟨zc_6, by decide, zTT_in (i := 250) (by decide +kernel) rfl⟩
theorem zf_X6_21 : zF RX6 21 6 3 (RX6, TX6, 8) tyX6 := ⟨zc_6, by decide, zTT_in (i := 252) (by decide +kernel) rfl⟩
theorem zf_X6_24 : zF RX6 24 6 4 (RX6, TX6, 8) tyX6 := ⟨zc_6, by decide, zTT_in (i := 254) (by decide +kernel) rfl⟩
theorem zf_X6_27 : zF RX6 27 6 5 (RX6, TX6, 8) tyX6 := ⟨zc_6, by decide, zTT_in (i := 256) (by decide +kernel) rfl⟩
theorem zf_X6_31 : zF RX6 31 6 6 (RX6, TX6, 8) tyX6 := ⟨zc_6, by decide, zTT_in (i := 259) (by decide +kernel) rfl⟩
theorem zf_X6_34 : zF RX6 34 6 7 (RX6, TX6, 8) tyX6 := ⟨zc_6, by decide, zTT_in (i := 261) (by decide +kernel) rfl⟩
theorem zf_X7_9 : zF RX7 9 7 0 (RX7, TX7, 3) tyX7 := ⟨zc_7, by decide, zTT_in (i := 436) (by decide +kernel) rfl⟩
theorem zf_X7_15 : zF RX7 15 7 1 (RX7, TX7, 3) tyX7 := ⟨zc_7, by decide, zTT_in (i := 438) (by decide +kernel) rfl⟩
theorem zf_X7_18 : zF RX7 18 7 2 (RX7, TX7, 3) tyX7 := ⟨zc_7, by decide, zTT_in (i := 440) (by decide +kernel) rfl⟩
theorem zf_X8_12 : zF RX8 12 8 0 (RX8, TX8, 5) tyX8 := ⟨zc_8, by decide, zTT_in (i := 393) (by decide +kernel) rfl⟩
theorem zf_X8_21 : zF RX8 21 8 1 (RX8, TX8, 5) tyX8 := ⟨zc_8, by decide, zTT_in (i := 395) (by decide +kernel) rfl⟩
theorem zf_X8_28 : zF RX8 28 8 2 (RX8, TX8, 5) tyX8 := ⟨zc_8, by decide, zTT_in (i := 396) (by decide +kernel) rfl⟩
theorem zf_X8_35 : zF RX8 35 4 4 (RX4, TX4, 5) tyX4 := ⟨zc_4, by decide, zTT_in (i := 221) (by decide +kernel) rfl⟩
theorem zf_X8_39 : zF RX8 39 8 3 (RX8, TX8, 5) tyX8 := ⟨zc_8, by decide, zTT_in (i := 398) (by decide +kernel) rfl⟩
theorem zf_X8_42 : zF RX8 42 8 4 (RX8, TX8, 5) tyX8 := ⟨zc_8, by decide, zTT_in (i := 400) (by decide +kernel) rfl⟩
theorem zf_X8_53 : zF RX8 53 9 5 (RX9, TX9, 7) tyX9 := ⟨zc_9, by decide, zTT_in (i := 188) (by decide +kernel) rfl⟩
theorem zf_X8_66 : zF RX8 66 3 10 (RX3, TX3, 16) tyX3 := ⟨zc_3, by decide, zTT_in (i := 340) (by decide +kernel) rfl⟩
theorem zf_X8_69 : zF RX8 69 9 3 (RX9, TX9, 7) tyX9 := ⟨zc_9, by decide, zTT_in (i := 183) (by decide +kernel) rfl⟩
theorem zf_X8_113 : zF RX8 113 3 9 (RX3, TX3, 16) tyX3 := ⟨zc_3, by decide, zTT_in (i := 336) (by decide +kernel) rfl⟩
theorem zf_X8_144 : zF RX8 144 9 6 (RX9, TX9, 7) tyX9 := ⟨zc_9, by decide, zTT_in (i := 191) (by decide +kernel) rfl⟩
theorem zf_X8_150 : zF RX8 150 3 0 (RX3, TX3, 16) tyX3 := ⟨zc_3, by decide, zTT_in (i := 308) (by decide +kernel) rfl⟩
theorem zf_X8_155 : zF RX8 155 3 1 (RX3, TX3, 16) tyX3 := ⟨zc_3, by decide, zTT_in (i := 311) (by decide +kernel) rfl⟩
theorem zf_X8_158 : zF RX8 158 3 11 (RX3, TX3, 16) tyX3 := ⟨zc_3, by decide, zTT_in (i := 344) (by decide +kernel) rfl⟩
theorem zf_X8_168 : zF RX8 168 3 2 (RX3, TX3, 16) tyX3 := ⟨zc_3, by decide, zTT_in (i := 314) (by decide +kernel) rfl⟩
theorem zf_X8_171 : zF RX8 171 3 3 (RX3, TX3, 16) tyX3 := ⟨zc_3, by decide, zTT_in (i := 317) (by decide +kernel) rfl⟩
theorem zf_X8_174 : zF RX8 174 3 12 (RX3, TX3, 16) tyX3 := ⟨zc_3, by decide, zTT_in (i := 347) (by decide +kernel) rfl⟩
theorem zf_X8_179 : zF RX8 179 3 4 (RX3, TX3, 16) tyX3 := ⟨zc_3, by decide, zTT_in (i := 320) (by decide +kernel) rfl⟩
theorem zf_X8_181 : zF RX8 181 3 13 (RX3, TX3, 16) tyX3 := ⟨zc_3, by decide, zTT_in (i := 351) (by decide +kernel) rfl⟩
theorem zf_X8_184 : zF RX8 184 3 5 (RX3, TX3, 16) tyX3 := ⟨zc_3, by decide, zTT_in (i := 323) (by decide +kernel) rfl⟩
theorem zf_X8_187 : zF RX8 187 3 7 (RX3, TX3, 16) tyX3 := ⟨zc_3, by decide, zTT_in (i := 331) (by decide +kernel) rfl⟩
theorem zf_X8_191 : zF RX8 191 6 5 (RX6, TX6, 8) tyX6 := ⟨zc_6, by decide, zTT_in (i := 257) (by decide +kernel) rfl⟩
theorem zf_X8_205 : zF RX8 205 3 14 (RX3, TX3, 16) tyX3 := ⟨zc_3, by decide, zTT_in (i := 355) (by decide +kernel) rfl⟩
theorem zf_X8_207 : zF RX8 207 3 6 (RX3, TX3, 16) tyX3 := ⟨zc_3, by decide, zTT_in (i := 327) (by decide +kernel) rfl⟩
theorem zf_X8_212 : zF RX8 212 3 15 (RX3, TX3, 16) tyX3 := ⟨zc_3, by decide, zTT_in (i := 358) (by decide +kernel) rfl⟩
theorem zf_X8_215 : zF RX8 215 3 8 (RX3, TX3, 16) tyX3 := ⟨zc_3, by decide, zTT_in (i := 333) (by decide +kernel) rfl⟩
theorem zf_X8_219 : zF RX8 219 0 4 (RX0, TX0, 5) tyX0 := ⟨zc_0, by decide, zTT_in (i := 292) (by decide +kernel) rfl⟩
theorem zf_X8_238 : zF RX8 238 4 2 (RX4, TX4, 5) tyX4 := ⟨zc_4, by decide, zTT_in (i := 217) (by decide +kernel) rfl⟩
theorem zf_X8_241 : zF RX8 241 4 3 (RX4, TX4, 5) tyX4 := ⟨zc_4, by decide, zTT_in (i := 219) (by decide +kernel) rfl⟩
theorem zf_X9_9 : zF RX9 9 9 0 (RX9, TX9, 7) tyX9 := ⟨zc_9, by decide, zTT_in (i := 179) (by decide +kernel) rfl⟩
theorem zf_X9_15 : zF RX9 15 9 1 (RX9, TX9, 7) tyX9 := ⟨zc_9, by decide, zTT_in (i := 180) (by decide +kernel) rfl⟩
theorem zf_X9_19 : zF RX9 19 9 2 (RX9, TX9, 7) tyX9 := ⟨zc_9, by decide, zTT_in (i := 182) (by decide +kernel) rfl⟩
theorem zf_X9_22 : zF RX9 22 9 4 (RX9, TX9, 7) tyX9 := ⟨zc_9, by decide, zTT_in (i := 186) (by decide +kernel) rfl⟩
theorem zf_X9_28 : zF RX9 28 9 3 (RX9, TX9, 7) tyX9 := ⟨zc_9, by decide, zTT_in (i := 185) (by decide +kernel) rfl⟩
theorem zf_X9_31 : zF RX9 31 9 5 (RX9, TX9, 7) tyX9 := ⟨zc_9, by decide, zTT_in (i := 189) (by decide +kernel) rfl⟩
theorem zf_X9_47 : zF RX9 47 9 6 (RX9, TX9, 7) tyX9 := ⟨zc_9, by decide, zTT_in (i := 190) (by decide +kernel) rfl⟩
theorem zf_X11_7 : zF RX11 7 11 1 (RX11, TX11, 40) tyX11 := ⟨zc_11, by decide, zTT_in (i := 1302) (by decide +kernel) rfl⟩
theorem zf_X11_13 : zF RX11 13 11 10 (RX11, TX11, 40) tyX11 := ⟨zc_11, by decide, zTT_in (i := 1311) (by decide +kernel) rfl⟩
theorem zf_X11_17 : zF RX11 17 11 12 (RX11, TX11, 40) tyX11 := ⟨zc_11, by decide, zTT_in (i := 1313) (by decide +kernel) rfl⟩
theorem zf_X11_20 : zF RX11 20 11 15 (RX11, TX11, 40) tyX11 := ⟨zc_11, by decide, zTT_in (i := 1316) (by decide +kernel) rfl⟩
theorem zf_X11_23 : zF RX11 23 11 16 (RX11, TX11, 40) tyX11 := ⟨zc_11, by decide, zTT_in (i := 1317) (by decide +kernel) rfl⟩
theorem zf_X11_26 : zF RX11 26 11 17 (RX11, TX11, 40) tyX11 := ⟨zc_11, by decide, zTT_in (i := 1318) (by decide +kernel) rfl⟩
theorem zf_X11_29 : zF RX11 29 11 18 (RX11, TX11, 40) tyX11 := ⟨zc_11, by decide, zTT_in (i := 1319) (by decide +kernel) rfl⟩
theorem zf_X11_32 : zF RX11 32 11 19 (RX11, TX11, 40) tyX11 := ⟨zc_11, by decide, zTT_in (i := 1320) (by decide +kernel) rfl⟩
theorem zf_X11_35 : zF RX11 35 11 20 (RX11, TX11, 40) tyX11 := ⟨zc_11, by decide, zTT_in (i := 1321) (by decide +kernel) rfl⟩
theorem zf_X11_38 : zF RX11 38 11 21 (RX11, TX11, 40) tyX11 := ⟨zc_11, by decide, zTT_in (i := 1322) (by decide +kernel) rfl⟩
theorem zf_X11_41 : zF RX11 41 11 25 (RX11, TX11, 40) tyX11 := ⟨zc_11, by decide, zTT_in (i := 1326) (by decide +kernel) rfl⟩
theorem zf_X11_44 : zF RX11 44 11 26 (RX11, TX11, 40) tyX11 := ⟨zc_11, by decide, zTT_in (i := 1327) (by decide +kernel) rfl⟩
theorem zf_X11_47 : zF RX11 47 11 27 (RX11, TX11, 40) tyX11 := ⟨zc_11, by decide, zTT_in (i := 1328) (by decide +kernel) rfl⟩
theorem zf_X11_50 : zF RX11 50 11 29 (RX11, TX11, 40) tyX11 := ⟨zc_11, by decide, zTT_in (i := 1330) (by decide +kernel) rfl⟩
theorem zf_X11_53 : zF RX11 53 11 30 (RX11, TX11, 40) tyX11 := ⟨zc_11, by decide, zTT_in (i := 1331) (by decide +kernel) rfl⟩
theorem zf_X11_56 : zF RX11 56 11 33 (RX11, TX11, 40) tyX11 := ⟨zc_11, by decide, zTT_in (i := 1334) (by decide +kernel) rfl⟩
theorem zf_X11_59 : zF RX11 59 11 34 (RX11, TX11, 40) tyX11 := ⟨zc_11, by decide, zTT_in (i := 1335) (by decide +kernel) rfl⟩
theorem zf_X11_62 : zF RX11 62 11 36 (RX11, TX11, 40) tyX11 := ⟨zc_11, by decide, zTT_in (i := 1337) (by decide +kernel) rfl⟩
theorem zf_X11_65 : zF RX11 65 11 0 (RX11, TX11, 40) tyX11 := ⟨zc_11, by decide, zTT_in (i := 1301) (by decide +kernel) rfl⟩
theorem zf_X11_68 : zF RX11 68 11 11 (RX11, TX11, 40) tyX11 := ⟨zc_11, by decide, zTT_in (i := 1312) (by decide +kernel) rfl⟩
theorem zf_X11_71 : zF RX11 71 11 2 (RX11, TX11, 40) tyX11 := ⟨zc_11, by decide, zTT_in (i := 1303) (by decide +kernel) rfl⟩
theorem zf_X11_74 : zF RX11 74 11 3 (RX11, TX11, 40) tyX11 := ⟨zc_11, by decide, zTT_in (i := 1304) (by decide +kernel) rfl⟩
theorem zf_X11_77 : zF RX11 77 11 5 (RX11, TX11, 40) tyX11 := ⟨zc_11, by decide, zTT_in (i := 1306) (by decide +kernel) rfl⟩
theorem zf_X11_84 : zF RX11 84 11 4 (RX11, TX11, 40) tyX11 := ⟨zc_11, by decide, zTT_in (i := 1305) (by decide +kernel) rfl⟩
theorem zf_X11_87 : zF RX11 87 11 8 (RX11, TX11, 40) tyX11 := ⟨zc_11, by decide, zTT_in (i := 1309) (by decide +kernel) rfl⟩
theorem zf_X11_90 : zF RX11 90 11 7 (RX11, TX11, 40) tyX11 := ⟨zc_11, by decide, zTT_in (i := 1308) (by decide +kernel) rfl⟩
theorem zf_X11_93 : zF RX11 93 11 6 (RX11, TX11, 40) tyX11 := ⟨zc_11, by decide, zTT_in (i := 1307) (by decide +kernel) rfl⟩
theorem zf_X11_103 : zF RX11 103 11 13 (RX11, TX11, 40) tyX11 := ⟨zc_11, by decide, zTT_in (i := 1314) (by decide +kernel) rfl⟩
theorem zf_X11_107 : zF RX11 107 11 9 (RX11, TX11, 40) tyX11 := ⟨zc_11, by decide, zTT_in (i := 1310) (by decide +kernel) rfl⟩
theorem zf_X11_191 : zF RX11 191 11 14 (RX11, TX11, 40) tyX11 := ⟨zc_11, by decide, zTT_in (i := 1315) (by decide +kernel) rfl⟩
theorem zf_X11_194 : zF RX11 194 11 22 (RX11, TX11, 40) tyX11 := ⟨zc_11, by decide, zTT_in (i := 1323) (by decide +kernel) rfl⟩
theorem zf_X11_197 : zF RX11 197 11 23 (RX11, TX11, 40) tyX11 := ⟨zc_11, by decide, zTT_in (i := 1324) (by decide +kernel) rfl⟩
theorem zf_X11_274 : zF RX11 274 11 24 (RX11, TX11, 40) tyX11 := ⟨zc_11, by decide, zTT_in (i := 1325) (by decide +kernel) rfl⟩
theorem zf_X11_281 : zF RX11 281 11 28 (RX11, TX11, 40) tyX11 := ⟨zc_11, by decide, zTT_in (i := 1329) (by decide +kernel) rfl⟩
theorem zf_X11_358 : zF RX11 358 11 31 (RX11, TX11, 40) tyX11 := ⟨zc_11, by decide, zTT_in (i := 1332) (by decide +kernel) rfl⟩
theorem zf_X11_379 : zF RX11 379 11 32 (RX11, TX11, 40) tyX11 := ⟨zc_11, by decide, zTT_in (i := 1333) (by decide +kernel) rfl⟩
theorem zf_X11_385 : zF RX11 385 11 35 (RX11, TX11, 40) tyX11 := ⟨zc_11, by decide, zTT_in (i := 1336) (by decide +kernel) rfl⟩
theorem zf_X11_417 : zF RX11 417 11 37 (RX11, TX11, 40) tyX11 := ⟨zc_11, by decide, zTT_in (i := 1338) (by decide +kernel) rfl⟩
theorem zf_X11_442 : zF RX11 442 11 38 (RX11, TX11, 40) tyX11 := ⟨zc_11, by decide, zTT_in (i := 1339) (by decide +kernel) rfl⟩
theorem zf_X11_466 : zF RX11 466 11 39 (RX11, TX11, 40) tyX11 := ⟨zc_11, by decide, zTT_in (i := 1340) (by decide +kernel) rfl⟩
end
section
def M_X0_add : zM := (⟨RX0, "add", "(IIII)V"⟩, prog_2_method_2_code, 5, none, [(0, .aload_n 0, 1), (1, .getfield 24, 3), (4, .bipush 6, 2), (6, .if_icmp .lt 4, 3), (9, .return_, 1), (10, .aload_n 0, 1), (11, .getfield 9, 3), (14, .aload_n 0, 1), (15, .getfield 24, 3), (18, .iload_n 1, 1), (19, .iastore, 1), (20, .aload_n 0, 1), (21, .getfield 15, 3), (24, .aload_n 0, 1), (25, .getfield 24, 3), (28, .iload_n 2, 1), (29, .iastore, 1), (30, .aload_n 0, 1), (31, .getfield 18, 3), (34, .aload_n 0, 1), (35, .getfield 24, 3), (38, .iload_n 3, 1), (39, .iastore, 1), (40, .aload_n 0, 1), (41, .getfield 21, 3), (44, .aload_n 0, 1), (45, .getfield 24, 3), (48, .iload 4, 2), (50, .iastore, 1), (51, .aload_n 0, 1), (52, .dup, 1), (53, .getfield 24, 3), (56, .iconst 1, 1), (57, .iadd, 1), (58, .putfield 24, 3), (61, .return_, 1)])
theorem T_X0_add : zT M_X0_add := zT_of (by decide +kernel)
theorem F_X0_add : zMV M_X0_add 4 := ⟨⟨zTT_in (i := 772) (by decide +kernel) rfl, zTT_in (i := 142) (by decide +kernel) rfl, ⟨by decide, by decide, by decide +kernel⟩, by decide⟩, zTT_in (i := 770) (by decide +kernel) rfl, zTT_in (i := 771) (by decide +kernel) rfl⟩
def M_X0_paysOf : zM := (⟨RX0, "paysOf", "(I)I"⟩, prog_2_method_3_code, 4, (some .int), [(0, .iconst 0, 1), (1, .istore_n 2, 1), (2, .iconst 0, 1), (3, .istore_n 3, 1), (4, .iload_n 3, 1), (5, .aload_n 0, 1), (6, .getfield 24, 3), (9, .if_icmp .ge 27, 3), (12, .iload_n 1, 1), (13, .iload_n 3, 1), (14, .ishr, 1), (15, .iconst 1, 1), (16, .iand, 1), (17, .iconst 1, 1), (18, .if_icmp .ne 12, 3), (21, .iload_n 2, 1), (22, .aload_n 0, 1), (23, .getfield 21, 3), (26, .iload_n 3, 1), (27, .iaload, 1), (28, .iadd, 1), (29, .istore_n 2, 1), (30, .iinc 3 1, 3), (33, .goto (-29), 3), (36, .iload_n 2, 1), (37, .ireturn, 1)])
theorem T_X0_paysOf : zT M_X0_paysOf := zT_of (by decide +kernel)
theorem F_X0_paysOf : zMV M_X0_paysOf 1 := ⟨⟨zTT_in (i := 1028) (by decide +kernel) rfl, zTT_in (i := 142) (by decide +kernel) rfl, ⟨by decide, by decide, by decide +kernel⟩, by decide⟩, zTT_in (i := 1026) (by decide +kernel) rfl, zTT_in (i := 1027) (by decide +kernel) rfl⟩
def M_X0_paysBy : zM := (⟨RX0, "paysBy", "(II)I"⟩, prog_2_method_4_code, 5, (some .int), [(0, .iconst 0, 1), (1, .istore_n 3, 1), (2, .iconst 0, 1), (3, .istore 4, 2), (5, .iload 4, 2), (7, .aload_n 0, 1), (8, .getfield 24, 3), (11, .if_icmp .ge 40, 3), (14, .iload_n 2, 1), (15, .iload 4, 2), (17, .ishr, 1), (18, .iconst 1, 1), (19, .iand, 1), (20, .iconst 1, 1), (21, .if_icmp .ne 24, 3), (24, .aload_n 0, 1), (25, .getfield 9, 3), (28, .iload 4, 2), (30, .iaload, 1), (31, .iload_n 1, 1), (32, .if_icmp .ne 13, 3), (35, .iload_n 3, 1), (36, .aload_n 0, 1), (37, .getfield 21, 3), (40, .iload 4, 2), (42, .iaload, 1), (43, .iadd, 1), (44, .istore_n 3, 1), (45, .iinc 4 1, 3), (48, .goto (-43), 3), (51, .iload_n 3, 1), (52, .ireturn, 1)])
theorem T_X0_paysBy : zT M_X0_paysBy := zT_of (by decide +kernel)
theorem F_X0_paysBy : zMV M_X0_paysBy 2 := ⟨⟨zTT_in (i := 1040) (by decide +kernel) rfl, zTT_in (i := 142) (by decide +kernel) rfl, ⟨by decide, by decide, by decide +kernel⟩, by decide⟩, zTT_in (i := 1038) (by decide +kernel) rfl, zTT_in (i := 1039) (by decide +kernel) rfl⟩
def M_X0_inchesAt : zM := (⟨RX0, "inchesAt", "(II)I"⟩, prog_2_method_5_code, 5, (some .int), [(0, .iconst 0, 1), (1, .istore_n 3, 1), (2, .iconst 0, 1), (3, .istore 4, 2), (5, .iload 4, 2), (7, .aload_n 0, 1), (8, .getfield 24, 3), (11, .if_icmp .ge 40, 3), (14, .iload_n 2, 1), (15, .iload 4, 2), (17, .ishr, 1), (18, .iconst 1, 1), (19, .iand, 1), (20, .iconst 1, 1), (21, .if_icmp .ne 24, 3), (24, .aload_n 0, 1), (25, .getfield 15, 3), (28, .iload 4, 2), (30, .iaload, 1), (31, .iload_n 1, 1), (32, .if_icmp .ne 13, 3), (35, .iload_n 3, 1), (36, .aload_n 0, 1), (37, .getfield 18, 3), (40, .iload 4, 2), (42, .iaload, 1), (43, .iadd, 1), (44, .istore_n 3, 1), (45, .iinc 4 1, 3), (48, .goto (-43), 3), (51, .iload_n 3, 1), (52, .ireturn, 1)])
theorem T_X0_inchesAt : zT M_X0_inchesAt := zT_of (by decide +kernel)
theorem F_X0_inchesAt : zMV M_X0_inchesAt 2 := ⟨⟨zTT_in (i := 1036) (by decide +kernel) rfl, zTT_in (i := 142) (by decide +kernel) rfl, ⟨by decide, by decide, by decide +kernel⟩, by decide⟩, zTT_in (i := 1034) (by decide +kernel) rfl, zTT_in (i := 1035) (by decide +kernel) rfl⟩
def M_X1_wonByOne : zM := (⟨RX1, "wonByOne", "(LPostScripts$Order;IIIZ)Z"⟩, prog_3_method_2_code, 7, (some .boolean), [(0, .iload 4, 2), (2, .ifCond .gt 19, 3), (5, .aload_n 1, 1), (6, .iload_n 2, 1), (7, .iload_n 3, 1), (8, .invokevirtual 15, 3), (11, .iconst 1, 1), (12, .if_icmp .ne 7, 3), (15, .iconst 1, 1), (16, .goto 4, 3), (19, .iconst 0, 1), (20, .ireturn, 1), (21, .aload_n 0, 1), (22, .aload_n 1, 1), (23, .iload_n 2, 1), (24, .iload_n 3, 1), (25, .iload 4, 2), (27, .iconst 1, 1), (28, .isub, 1), (29, .iload 5, 2), (31, .ifCond .ne 7, 3), (34, .iconst 1, 1), (35, .goto 4, 3), (38, .iconst 0, 1), (39, .invokevirtual 21, 3), (42, .iload 5, 2), (44, .if_icmp .ne 6, 3), (47, .iload 5, 2), (49, .ireturn, 1), (50, .iconst 0, 1), (51, .istore 6, 2), (53, .iload 6, 2), (55, .bipush 6, 2), (57, .if_icmp .ge 40, 3), (60, .aload_n 0, 1), (61, .getfield 9, 3), (64, .iload 6, 2), (66, .iaload, 1), (67, .ifCond .le 24, 3), (70, .aload_n 0, 1), (71, .aload_n 1, 1), (72, .iload_n 2, 1), (73, .iload_n 3, 1), (74, .iload 4, 2), (76, .iload 5, 2), (78, .iload 6, 2), (80, .invokevirtual 25, 3), (83, .iload 5, 2), (85, .if_icmp .ne 6, 3), (88, .iload 5, 2), (90, .ireturn, 1), (91, .iinc 6 1, 3), (94, .goto (-41), 3), (97, .iload 5, 2), (99, .ifCond .ne 7, 3), (102, .iconst 1, 1), (103, .goto 4, 3), (106, .iconst 0, 1), (107, .ireturn, 1)])
theorem T_X1_wonByOne : zT M_X1_wonByOne := zT_of (by decide +kernel)
theorem F_X1_wonByOne : zMV M_X1_wonByOne 5 := ⟨⟨zTT_in (i := 968) (by decide +kernel) rfl, zTT_in (i := 146) (by decide +kernel) rfl, ⟨by decide, by decide, by decide +kernel⟩, by decide⟩, zTT_in (i := 967) (by decide +kernel) rfl, zTT_in (i := 40) (by decide +kernel) rfl⟩
def M_X1_wonBehind : zM := (⟨RX1, "wonBehind", "(LPostScripts$Order;IIIZI)Z"⟩, prog_3_method_3_code, 9, (some .boolean), [(0, .iconst 1, 1), (1, .iload 6, 2), (3, .ishl, 1), (4, .istore 7, 2), (6, .aload_n 0, 1), (7, .getfield 9, 3), (10, .iload 6, 2), (12, .dup2, 1), (13, .iaload, 1), (14, .iconst 1, 1), (15, .isub, 1), (16, .iastore, 1), (17, .aload_n 0, 1), (18, .aload_n 1, 1), (19, .iload_n 2, 1), (20, .iload 7, 2), (22, .ior, 1), (23, .iload 5, 2), (25, .ifCond .eq 10, 3), (28, .iload_n 3, 1), (29, .iload 7, 2), (31, .ior, 1), (32, .goto 9, 3), (35, .iload_n 3, 1), (36, .iload 7, 2), (38, .iconst (-1), 1), (39, .ixor, 1), (40, .iand, 1), (41, .iload 4, 2), (43, .iconst 1, 1), (44, .isub, 1), (45, .iload 5, 2), (47, .ifCond .ne 7, 3), (50, .iconst 1, 1), (51, .goto 4, 3), (54, .iconst 0, 1), (55, .invokevirtual 21, 3), (58, .istore 8, 2), (60, .aload_n 0, 1), (61, .getfield 9, 3), (64, .iload 6, 2), (66, .dup2, 1), (67, .iaload, 1), (68, .iconst 1, 1), (69, .iadd, 1), (70, .iastore, 1), (71, .iload 8, 2), (73, .ireturn, 1)])
theorem T_X1_wonBehind : zT M_X1_wonBehind := zT_of (by decide +kernel)
theorem F_X1_wonBehind : zMV M_X1_wonBehind 6 := ⟨⟨zTT_in (i := 974) (by decide +kernel) rfl, zTT_in (i := 146) (by decide +kernel) rfl, ⟨by decide, by decide, by decide +kernel⟩, by decide⟩, zTT_in (i := 973) (by decide +kernel) rfl, zTT_in (i := 41) (by decide +kernel) rfl⟩
def M_X1_firstMove : zM := (⟨RX1, "firstMove", "(LPostScripts$Order;III)I"⟩, prog_3_method_4_code, 6, (some .int), [(0, .aload_n 0, 1), (1, .aload_n 1, 1), (2, .iload_n 2, 1), (3, .iload_n 3, 1), (4, .iload 4, 2), (6, .iconst 1, 1), (7, .isub, 1), (8, .iconst 0, 1), (9, .invokevirtual 21, 3), (12, .ifCond .eq 6, 3), (15, .bipush (-2), 2), (17, .ireturn, 1), (18, .iconst 0, 1), (19, .istore 5, 2), (21, .iload 5, 2), (23, .bipush 6, 2), (25, .if_icmp .ge 37, 3), (28, .aload_n 0, 1), (29, .getfield 9, 3), (32, .iload 5, 2), (34, .iaload, 1), (35, .ifCond .le 21, 3), (38, .aload_n 0, 1), (39, .aload_n 1, 1), (40, .iload_n 2, 1), (41, .iload_n 3, 1), (42, .iload 4, 2), (44, .iconst 1, 1), (45, .iload 5, 2), (47, .invokevirtual 25, 3), (50, .ifCond .eq 6, 3), (53, .iload 5, 2), (55, .ireturn, 1), (56, .iinc 5 1, 3), (59, .goto (-38), 3), (62, .bipush (-2), 2), (64, .ireturn, 1)])
theorem T_X1_firstMove : zT M_X1_firstMove := zT_of (by decide +kernel)
theorem F_X1_firstMove : zMV M_X1_firstMove 4 := ⟨⟨zTT_in (i := 982) (by decide +kernel) rfl, zTT_in (i := 146) (by decide +kernel) rfl, ⟨by decide, by decide, by decide +kernel⟩, by decide⟩, zTT_in (i := 980) (by decide +kernel) rfl, zTT_in (i := 981) (by decide +kernel) rfl⟩
def M_X2_find : zM := (⟨RX2, "find", "(LPostScripts$Letter;LPostScripts$Order;)V"⟩, prog_4_method_2_code, 6, none, [(0, .aload_n 0, 1), (1, .getfield 30, 3), (4, .ifCond .eq 4, 3), (7, .return_, 1), (8, .aload_n 0, 1), (9, .iconst 1, 1), (10, .putfield 30, 3), (13, .aload_n 0, 1), (14, .iconst 0, 1), (15, .putfield 34, 3), (18, .aload_n 0, 1), (19, .aload_n 1, 1), (20, .getfield 38, 3), (23, .putfield 43, 3), (26, .aload_n 0, 1), (27, .iconst 2, 1), (28, .aload_n 1, 1), (29, .getfield 46, 3), (32, .imul, 1), (33, .iconst 1, 1), (34, .iadd, 1), (35, .putfield 49, 3), (38, .aload_n 0, 1), (39, .getfield 15, 3), (42, .iconst 0, 1), (43, .invokestatic 52, 3), (46, .aload_n 1, 1), (47, .getfield 58, 3), (50, .invokevirtual 62, 3), (53, .istore_n 3, 1), (54, .iconst 0, 1), (55, .istore 4, 2), (57, .iload 4, 2), (59, .aload_n 1, 1), (60, .getfield 46, 3), (63, .if_icmp .ge 43, 3), (66, .aload_n 0, 1), (67, .getfield 18, 3), (70, .iload 4, 2), (72, .aload_n 1, 1), (73, .getfield 58, 3), (76, .iload 4, 2), (78, .iload_n 3, 1), (79, .invokevirtual 68, 3), (82, .iastore, 1), (83, .aload_n 0, 1), (84, .getfield 21, 3), (87, .iload 4, 2), (89, .aload_n 1, 1), (90, .getfield 58, 3), (93, .iload 4, 2), (95, .iload_n 3, 1), (96, .invokevirtual 72, 3), (99, .iastore, 1), (100, .iinc 4 1, 3), (103, .goto (-46), 3), (106, .aload_n 0, 1), (107, .iconst (-1), 1), (108, .invokevirtual 75, 3), (111, .istore 4, 2), (113, .iconst 0, 1), (114, .istore 5, 2), (116, .iload 5, 2), (118, .iload 4, 2), (120, .if_icmp .ge 39, 3), (123, .iload 5, 2), (125, .sipush 729, 3), (128, .if_icmp .ge 31, 3), (131, .aload_n 0, 1), (132, .aload_n 1, 1), (133, .iload 5, 2), (135, .invokevirtual 79, 3), (138, .aload_n 0, 1), (139, .aload_n 1, 1), (140, .aload_n 2, 1), (141, .invokevirtual 82, 3), (144, .ifCond .eq 9, 3), (147, .aload_n 0, 1), (148, .iload 5, 2), (150, .invokevirtual 86, 3), (153, .iinc 5 1, 3), (156, .goto (-40), 3), (159, .return_, 1)])
theorem T_X2_find : zT M_X2_find := zT_of (by decide +kernel)
theorem F_X2_find : zMV M_X2_find 2 := ⟨⟨zTT_in (i := 1056) (by decide +kernel) rfl, zTT_in (i := 145) (by decide +kernel) rfl, ⟨by decide, by decide, by decide +kernel⟩, by decide⟩, zTT_in (i := 1054) (by decide +kernel) rfl, zTT_in (i := 1055) (by decide +kernel) rfl⟩
def M_X2_stepOf : zM := (⟨RX2, "stepOf", "(I)I"⟩, prog_4_method_3_code, 4, (some .int), [(0, .iconst 1, 1), (1, .istore_n 2, 1), (2, .iload_n 1, 1), (3, .iconst 1, 1), (4, .iadd, 1), (5, .istore_n 3, 1), (6, .iload_n 3, 1), (7, .aload_n 0, 1), (8, .getfield 43, 3), (11, .if_icmp .ge 16, 3), (14, .iload_n 2, 1), (15, .aload_n 0, 1), (16, .getfield 49, 3), (19, .imul, 1), (20, .istore_n 2, 1), (21, .iinc 3 1, 3), (24, .goto (-18), 3), (27, .iload_n 2, 1), (28, .ireturn, 1)])
theorem T_X2_stepOf : zT M_X2_stepOf := zT_of (by decide +kernel)
theorem F_X2_stepOf : zMV M_X2_stepOf 1 := ⟨⟨zTT_in (i := 1066) (by decide +kernel) rfl, zTT_in (i := 145) (by decide +kernel) rfl, ⟨by decide, by decide, by decide +kernel⟩, by decide⟩, zTT_in (i := 1065) (by decide +kernel) rfl, zTT_in (i := 44) (by decide +kernel) rfl⟩
def M_X2_digit : zM := (⟨RX2, "digit", "(II)I"⟩, prog_4_method_4_code, 4, (some .int), [(0, .aload_n 0, 1), (1, .iload_n 2, 1), (2, .invokevirtual 75, 3), (5, .istore_n 3, 1), (6, .iload_n 3, 1), (7, .ifCond .le 21, 3), (10, .aload_n 0, 1), (11, .getfield 49, 3), (14, .ifCond .le 14, 3), (17, .iload_n 1, 1), (18, .iload_n 3, 1), (19, .idiv, 1), (20, .aload_n 0, 1), (21, .getfield 49, 3), (24, .irem, 1), (25, .goto 4, 3), (28, .iconst 0, 1), (29, .ireturn, 1)])
theorem T_X2_digit : zT M_X2_digit := zT_of (by decide +kernel)
theorem F_X2_digit : zMV M_X2_digit 2 := ⟨⟨zTT_in (i := 1074) (by decide +kernel) rfl, zTT_in (i := 145) (by decide +kernel) rfl, ⟨by decide, by decide, by decide +kernel⟩, by decide⟩, zTT_in (i := 1073) (by decide +kernel) rfl, zTT_in (i := 46) (by decide +kernel) rfl⟩
def M_X2_fill : zM := (⟨RX2, "fill", "(LPostScripts$Letter;I)V"⟩, prog_4_method_5_code, 7, none, [(0, .iconst 0, 1), (1, .istore_n 3, 1), (2, .iload_n 3, 1), (3, .aload_n 1, 1), (4, .getfield 46, 3), (7, .if_icmp .ge 33, 3), (10, .aload_n 0, 1), (11, .getfield 24, 3), (14, .iload_n 3, 1), (15, .aload_n 0, 1), (16, .getfield 18, 3), (19, .iload_n 3, 1), (20, .iaload, 1), (21, .iastore, 1), (22, .aload_n 0, 1), (23, .getfield 27, 3), (26, .iload_n 3, 1), (27, .aload_n 0, 1), (28, .getfield 21, 3), (31, .iload_n 3, 1), (32, .iaload, 1), (33, .iastore, 1), (34, .iinc 3 1, 3), (37, .goto (-35), 3), (40, .iconst 0, 1), (41, .istore_n 3, 1), (42, .iload_n 3, 1), (43, .aload_n 0, 1), (44, .getfield 43, 3), (47, .if_icmp .ge 94, 3), (50, .aload_n 0, 1), (51, .iload_n 2, 1), (52, .iload_n 3, 1), (53, .invokevirtual 90, 3), (56, .istore 4, 2), (58, .iload 4, 2), (60, .iconst 2, 1), (61, .idiv, 1), (62, .istore 5, 2), (64, .iconst 1, 1), (65, .aload_n 1, 1), (66, .getfield 93, 3), (69, .iload_n 3, 1), (70, .iaload, 1), (71, .ishl, 1), (72, .istore 6, 2), (74, .iload 5, 2), (76, .aload_n 1, 1), (77, .getfield 46, 3), (80, .if_icmp .ge 55, 3), (83, .aload_n 0, 1), (84, .getfield 24, 3), (87, .iload 5, 2), (89, .dup2, 1), (90, .iaload, 1), (91, .iload 6, 2), (93, .ior, 1), (94, .iastore, 1), (95, .aload_n 0, 1), (96, .getfield 27, 3), (99, .iload 5, 2), (101, .iload 4, 2), (103, .iconst 2, 1), (104, .irem, 1), (105, .iconst 1, 1), (106, .if_icmp .ne 16, 3), (109, .aload_n 0, 1), (110, .getfield 27, 3), (113, .iload 5, 2), (115, .iaload, 1), (116, .iload 6, 2), (118, .ior, 1), (119, .goto 15, 3), (122, .aload_n 0, 1), (123, .getfield 27, 3), (126, .iload 5, 2), (128, .iaload, 1), (129, .iload 6, 2), (131, .iconst (-1), 1), (132, .ixor, 1), (133, .iand, 1), (134, .iastore, 1), (135, .iinc 3 1, 3), (138, .goto (-96), 3), (141, .return_, 1)])
theorem T_X2_fill : zT M_X2_fill := zT_of (by decide +kernel)
theorem F_X2_fill : zMV M_X2_fill 2 := ⟨⟨zTT_in (i := 1070) (by decide +kernel) rfl, zTT_in (i := 145) (by decide +kernel) rfl, ⟨by decide, by decide, by decide +kernel⟩, by decide⟩, zTT_in (i := 1069) (by decide +kernel) rfl, zTT_in (i := 45) (by decide +kernel) rfl⟩
def M_X2_isAsTold : zM := (⟨RX2, "isAsTold", "(LPostScripts$Letter;LPostScripts$Order;)Z"⟩, prog_4_method_6_code, 5, (some .boolean), [(0, .iconst 0, 1), (1, .istore_n 3, 1), (2, .iload_n 3, 1), (3, .aload_n 1, 1), (4, .getfield 46, 3), (7, .if_icmp .ge 46, 3), (10, .aload_n 1, 1), (11, .getfield 96, 3), (14, .iload_n 3, 1), (15, .iaload, 1), (16, .istore 4, 2), (18, .iload 4, 2), (20, .iconst (-1), 1), (21, .if_icmp .eq 26, 3), (24, .iload 4, 2), (26, .aload_n 2, 1), (27, .aload_n 0, 1), (28, .getfield 24, 3), (31, .iload_n 3, 1), (32, .iaload, 1), (33, .aload_n 0, 1), (34, .getfield 27, 3), (37, .iload_n 3, 1), (38, .iaload, 1), (39, .invokevirtual 99, 3), (42, .if_icmp .eq 5, 3), (45, .iconst 0, 1), (46, .ireturn, 1), (47, .iinc 3 1, 3), (50, .goto (-48), 3), (53, .iconst 1, 1), (54, .ireturn, 1)])
theorem T_X2_isAsTold : zT M_X2_isAsTold := zT_of (by decide +kernel)
theorem F_X2_isAsTold : zMV M_X2_isAsTold 2 := ⟨⟨zTT_in (i := 1078) (by decide +kernel) rfl, zTT_in (i := 145) (by decide +kernel) rfl, ⟨by decide, by decide, by decide +kernel⟩, by decide⟩, zTT_in (i := 1077) (by decide +kernel) rfl, zTT_in (i := 47) (by decide +kernel) rfl⟩
def M_X2_keep : zM := (⟨RX2, "keep", "(I)V"⟩, prog_4_method_7_code, 3, none, [(0, .aload_n 0, 1), (1, .getfield 9, 3), (4, .aload_n 0, 1), (5, .getfield 34, 3), (8, .iload_n 1, 1), (9, .iastore, 1), (10, .aload_n 0, 1), (11, .dup, 1), (12, .getfield 34, 3), (15, .iconst 1, 1), (16, .iadd, 1), (17, .putfield 34, 3), (20, .iconst 0, 1), (21, .istore_n 2, 1), (22, .iload_n 2, 1), (23, .aload_n 0, 1), (24, .getfield 43, 3), (27, .if_icmp .ge 29, 3), (30, .aload_n 0, 1), (31, .getfield 15, 3), (34, .iload_n 2, 1), (35, .bipush 9, 2), (37, .imul, 1), (38, .aload_n 0, 1), (39, .iload_n 1, 1), (40, .iload_n 2, 1), (41, .invokevirtual 90, 3), (44, .iadd, 1), (45, .dup2, 1), (46, .iaload, 1), (47, .iconst 1, 1), (48, .iadd, 1), (49, .iastore, 1), (50, .iinc 2 1, 3), (53, .goto (-31), 3), (56, .return_, 1)])
theorem T_X2_keep : zT M_X2_keep := zT_of (by decide +kernel)
theorem F_X2_keep : zMV M_X2_keep 1 := ⟨⟨zTT_in (i := 1083) (by decide +kernel) rfl, zTT_in (i := 145) (by decide +kernel) rfl, ⟨by decide, by decide, by decide +kernel⟩, by decide⟩, zTT_in (i := 1082) (by decide +kernel) rfl, zTT_in (i := 48) (by decide +kernel) rfl⟩
def M_X2_saying : zM := (⟨RX2, "saying", "(II)I"⟩, prog_4_method_8_code, 3, (some .int), [(0, .iload_n 1, 1), (1, .ifCond .lt 25, 3), (4, .iload_n 1, 1), (5, .aload_n 0, 1), (6, .getfield 34, 3), (9, .if_icmp .ge 17, 3), (12, .aload_n 0, 1), (13, .aload_n 0, 1), (14, .getfield 9, 3), (17, .iload_n 1, 1), (18, .iaload, 1), (19, .iload_n 2, 1), (20, .invokevirtual 90, 3), (23, .goto 4, 3), (26, .iconst 0, 1), (27, .ireturn, 1)])
theorem T_X2_saying : zT M_X2_saying := zT_of (by decide +kernel)
theorem F_X2_saying : zMV M_X2_saying 2 := ⟨⟨zTT_in (i := 1095) (by decide +kernel) rfl, zTT_in (i := 145) (by decide +kernel) rfl, ⟨by decide, by decide, by decide +kernel⟩, by decide⟩, zTT_in (i := 1093) (by decide +kernel) rfl, zTT_in (i := 1094) (by decide +kernel) rfl⟩
def M_X2_mostLeft : zM := (⟨RX2, "mostLeft", "(I)I"⟩, prog_4_method_9_code, 4, (some .int), [(0, .iconst 0, 1), (1, .istore_n 2, 1), (2, .iconst 0, 1), (3, .istore_n 3, 1), (4, .iload_n 3, 1), (5, .aload_n 0, 1), (6, .getfield 49, 3), (9, .if_icmp .ge 25, 3), (12, .iload_n 2, 1), (13, .aload_n 0, 1), (14, .getfield 15, 3), (17, .iload_n 1, 1), (18, .bipush 9, 2), (20, .imul, 1), (21, .iload_n 3, 1), (22, .iadd, 1), (23, .iaload, 1), (24, .invokestatic 104, 3), (27, .istore_n 2, 1), (28, .iinc 3 1, 3), (31, .goto (-27), 3), (34, .iload_n 2, 1), (35, .ireturn, 1)])
theorem T_X2_mostLeft : zT M_X2_mostLeft := zT_of (by decide +kernel)
theorem F_X2_mostLeft : zMV M_X2_mostLeft 1 := ⟨⟨zTT_in (i := 1111) (by decide +kernel) rfl, zTT_in (i := 145) (by decide +kernel) rfl, ⟨by decide, by decide, by decide +kernel⟩, by decide⟩, zTT_in (i := 1109) (by decide +kernel) rfl, zTT_in (i := 1110) (by decide +kernel) rfl⟩
def M_X2_lineToAsk : zM := (⟨RX2, "lineToAsk", "()I"⟩, prog_4_method_10_code, 5, (some .int), [(0, .bipush (-2), 2), (2, .istore_n 1, 1), (3, .sipush 730, 3), (6, .istore_n 2, 1), (7, .iconst 0, 1), (8, .istore_n 3, 1), (9, .iload_n 3, 1), (10, .aload_n 0, 1), (11, .getfield 43, 3), (14, .if_icmp .ge 34, 3), (17, .aload_n 0, 1), (18, .getfield 34, 3), (21, .ifCond .le 27, 3), (24, .aload_n 0, 1), (25, .iload_n 3, 1), (26, .invokevirtual 109, 3), (29, .istore 4, 2), (31, .iload 4, 2), (33, .iload_n 2, 1), (34, .if_icmp .ge 8, 3), (37, .iload 4, 2), (39, .istore_n 2, 1), (40, .iload_n 3, 1), (41, .istore_n 1, 1), (42, .iinc 3 1, 3), (45, .goto (-36), 3), (48, .iload_n 1, 1), (49, .ireturn, 1)])
theorem T_X2_lineToAsk : zT M_X2_lineToAsk := zT_of (by decide +kernel)
theorem F_X2_lineToAsk : zMV M_X2_lineToAsk 0 := ⟨⟨zTT_in (i := 1107) (by decide +kernel) rfl, zTT_in (i := 145) (by decide +kernel) rfl, ⟨by decide, by decide, by decide +kernel⟩, by decide⟩, zTT_in (i := 1105) (by decide +kernel) rfl, zTT_in (i := 1106) (by decide +kernel) rfl⟩
def M_X3_empty : zM := (⟨RX3, "empty", "()V"⟩, prog_5_method_2_code, 1, none, [(0, .aload_n 0, 1), (1, .getfield 36, 3), (4, .invokevirtual 47, 3), (7, .aload_n 0, 1), (8, .getfield 43, 3), (11, .iconst 0, 1), (12, .putfield 50, 3), (15, .aload_n 0, 1), (16, .iconst 0, 1), (17, .putfield 54, 3), (20, .aload_n 0, 1), (21, .iconst 0, 1), (22, .putfield 57, 3), (25, .aload_n 0, 1), (26, .iconst 0, 1), (27, .putfield 60, 3), (30, .aload_n 0, 1), (31, .iconst 0, 1), (32, .putfield 63, 3), (35, .aload_n 0, 1), (36, .iconst 0, 1), (37, .putfield 66, 3), (40, .aload_n 0, 1), (41, .iconst 0, 1), (42, .putfield 69, 3), (45, .aload_n 0, 1), (46, .iconst 0, 1), (47, .putfield 72, 3), (50, .return_, 1)])
theorem T_X3_empty : zT M_X3_empty := zT_of (by decide +kernel)
theorem F_X3_empty : zMV M_X3_empty 0 := ⟨⟨zTT_in (i := 565) (by decide +kernel) rfl, zTT_in (i := 140) (by decide +kernel) rfl, ⟨by decide, by decide, by decide +kernel⟩, by decide⟩, zTT_in (i := 563) (by decide +kernel) rfl, zTT_in (i := 564) (by decide +kernel) rfl⟩
def M_X3_hasRank : zM := (⟨RX3, "hasRank", "(I)Z"⟩, prog_5_method_3_code, 3, (some .boolean), [(0, .iconst 0, 1), (1, .istore_n 2, 1), (2, .iload_n 2, 1), (3, .aload_n 0, 1), (4, .getfield 57, 3), (7, .if_icmp .ge 21, 3), (10, .aload_n 0, 1), (11, .getfield 9, 3), (14, .iload_n 2, 1), (15, .iaload, 1), (16, .iload_n 1, 1), (17, .if_icmp .ne 5, 3), (20, .iconst 1, 1), (21, .ireturn, 1), (22, .iinc 2 1, 3), (25, .goto (-23), 3), (28, .iconst 0, 1), (29, .ireturn, 1)])
theorem T_X3_hasRank : zT M_X3_hasRank := zT_of (by decide +kernel)
theorem F_X3_hasRank : zMV M_X3_hasRank 1 := ⟨⟨zTT_in (i := 713) (by decide +kernel) rfl, zTT_in (i := 140) (by decide +kernel) rfl, ⟨by decide, by decide, by decide +kernel⟩, by decide⟩, zTT_in (i := 711) (by decide +kernel) rfl, zTT_in (i := 712) (by decide +kernel) rfl⟩
def M_X3_hasOver : zM := (⟨RX3, "hasOve\x72", "(II)Z"⟩, prog_5_method_4_code, 4, (some .boolean), [(0, .iconst 0, 1), (1, .istore_n 3, 1), (2, .iload_n 3, 1), (3, .aload_n 0, 1), (4, .getfield 60, 3), (7, .if_icmp .ge 51, 3), (10, .aload_n 0, 1), (11, .getfield 18, 3), (14, .iload_n 3, 1), (15, .iaload, 1), (16, .iload_n 1, 1), (17, .if_icmp .ne 13, 3), (20, .aload_n 0, 1), (21, .getfield 21, 3), (24, .iload_n 3, 1), (25, .iaload, 1), (26, .iload_n 2, 1), (27, .if_icmp .eq 23, 3), (30, .aload_n 0, 1), (31, .getfield 18, 3), (34, .iload_n 3, 1), (35, .iaload, 1), (36, .iload_n 2, 1), (37, .if_icmp .ne 15, 3), (40, .aload_n 0, 1), (41, .getfield 21, 3), (44, .iload_n 3, 1), (45, .iaload, 1), (46, .iload_n 1, 1), (47, .if_icmp .ne 5, 3), (50, .iconst 1, 1), (51, .ireturn, 1), (52, .iinc 3 1, 3), (55, .goto (-53), 3), (58, .iconst 0, 1), (59, .ireturn, 1)])
theorem T_X3_hasOver : zT M_X3_hasOver := zT_of (by decide +kernel)
theorem F_X3_hasOver : zMV M_X3_hasOver 2 := ⟨⟨zTT_in (i := 726) (by decide +kernel) rfl, zTT_in (i := 140) (by decide +kernel) rfl, ⟨by decide, by decide, by decide +kernel⟩, by decide⟩, zTT_in (i := 724) (by decide +kernel) rfl, zTT_in (i := 725) (by decide +kernel) rfl⟩
def M_X4_indexOf : zM := (⟨RX4, "indexOf", "(LPostScripts$Tape;)I"⟩, prog_6_method_2_code, 3, (some .int), [(0, .iconst 0, 1), (1, .istore_n 2, 1), (2, .iload_n 2, 1), (3, .aload_n 0, 1), (4, .getfield 24, 3), (7, .if_icmp .ge 30, 3), (10, .aload_n 1, 1), (11, .aload_n 0, 1), (12, .getfield 11, 3), (15, .iload_n 2, 1), (16, .iaload, 1), (17, .aload_n 0, 1), (18, .getfield 15, 3), (21, .iload_n 2, 1), (22, .iaload, 1), (23, .invokevirtual 28, 3), (26, .ifCond .eq 5, 3), (29, .iload_n 2, 1), (30, .ireturn, 1), (31, .iinc 2 1, 3), (34, .goto (-32), 3), (37, .iconst (-1), 1), (38, .ireturn, 1)])
theorem T_X4_indexOf : zT M_X4_indexOf := zT_of (by decide +kernel)
theorem F_X4_indexOf : zMV M_X4_indexOf 1 := ⟨⟨zTT_in (i := 700) (by decide +kernel) rfl, zTT_in (i := 139) (by decide +kernel) rfl, ⟨by decide, by decide, by decide +kernel⟩, by decide⟩, zTT_in (i := 698) (by decide +kernel) rfl, zTT_in (i := 699) (by decide +kernel) rfl⟩
def M_X4_add : zM := (⟨RX4, "add", "(LPostScripts$Tape;II)V"⟩, prog_6_method_3_code, 4, none, [(0, .aload_n 0, 1), (1, .getfield 24, 3), (4, .bipush 14, 2), (6, .if_icmp .lt 4, 3), (9, .return_, 1), (10, .aload_n 0, 1), (11, .getfield 11, 3), (14, .aload_n 0, 1), (15, .getfield 24, 3), (18, .aload_n 1, 1), (19, .getfield 34, 3), (22, .iastore, 1), (23, .aload_n 0, 1), (24, .getfield 15, 3), (27, .aload_n 0, 1), (28, .getfield 24, 3), (31, .aload_n 1, 1), (32, .getfield 36, 3), (35, .aload_n 1, 1), (36, .getfield 34, 3), (39, .isub, 1), (40, .iastore, 1), (41, .aload_n 0, 1), (42, .getfield 18, 3), (45, .aload_n 0, 1), (46, .getfield 24, 3), (49, .iload_n 2, 1), (50, .iastore, 1), (51, .aload_n 0, 1), (52, .getfield 21, 3), (55, .aload_n 0, 1), (56, .getfield 24, 3), (59, .iload_n 3, 1), (60, .iastore, 1), (61, .aload_n 0, 1), (62, .dup, 1), (63, .getfield 24, 3), (66, .iconst 1, 1), (67, .iadd, 1), (68, .putfield 24, 3), (71, .return_, 1)])
theorem T_X4_add : zT M_X4_add := zT_of (by decide +kernel)
theorem F_X4_add : zMV M_X4_add 3 := ⟨⟨zTT_in (i := 708) (by decide +kernel) rfl, zTT_in (i := 139) (by decide +kernel) rfl, ⟨by decide, by decide, by decide +kernel⟩, by decide⟩, zTT_in (i := 706) (by decide +kernel) rfl, zTT_in (i := 707) (by decide +kernel) rfl⟩
def M_X5_arrange : zM := (⟨RX5, "arrange", "(LPostScripts$Letter;I)V"⟩, prog_7_method_2_code, 6, none, [(0, .aload_n 0, 1), (1, .aload_n 1, 1), (2, .getfield 15, 3), (5, .putfield 21, 3), (8, .iconst 0, 1), (9, .istore_n 3, 1), (10, .iload_n 3, 1), (11, .aload_n 0, 1), (12, .getfield 21, 3), (15, .if_icmp .ge 63, 3), (18, .aload_n 0, 1), (19, .getfield 9, 3), (22, .iload_n 3, 1), (23, .iconst 0, 1), (24, .iastore, 1), (25, .iconst 0, 1), (26, .istore 4, 2), (28, .iload 4, 2), (30, .aload_n 0, 1), (31, .getfield 21, 3), (34, .if_icmp .ge 38, 3), (37, .aload_n 1, 1), (38, .getfield 24, 3), (41, .iload_n 3, 1), (42, .iaload, 1), (43, .aload_n 1, 1), (44, .getfield 24, 3), (47, .iload 4, 2), (49, .iaload, 1), (50, .if_icmp .le 16, 3), (53, .aload_n 0, 1), (54, .getfield 9, 3), (57, .iload_n 3, 1), (58, .dup2, 1), (59, .iaload, 1), (60, .iconst 1, 1), (61, .iload 4, 2), (63, .ishl, 1), (64, .ior, 1), (65, .iastore, 1), (66, .iinc 4 1, 3), (69, .goto (-41), 3), (72, .iinc 3 1, 3), (75, .goto (-65), 3), (78, .iconst 0, 1), (79, .istore_n 3, 1), (80, .iload_n 3, 1), (81, .aload_n 1, 1), (82, .getfield 27, 3), (85, .if_icmp .ge 63, 3), (88, .iload_n 2, 1), (89, .iload_n 3, 1), (90, .ishr, 1), (91, .iconst 1, 1), (92, .iand, 1), (93, .ifCond .ne 49, 3), (96, .aload_n 1, 1), (97, .getfield 30, 3), (100, .iload_n 3, 1), (101, .iaload, 1), (102, .istore 4, 2), (104, .aload_n 1, 1), (105, .getfield 33, 3), (108, .iload_n 3, 1), (109, .iaload, 1), (110, .istore 5, 2), (112, .aload_n 0, 1), (113, .getfield 9, 3), (116, .iload 4, 2), (118, .dup2, 1), (119, .iaload, 1), (120, .iconst 1, 1), (121, .iload 5, 2), (123, .ishl, 1), (124, .ior, 1), (125, .iastore, 1), (126, .aload_n 0, 1), (127, .getfield 9, 3), (130, .iload 5, 2), (132, .dup2, 1), (133, .iaload, 1), (134, .iconst 1, 1), (135, .iload 4, 2), (137, .ishl, 1), (138, .iconst (-1), 1), (139, .ixor, 1), (140, .iand, 1), (141, .iastore, 1), (142, .iinc 3 1, 3), (145, .goto (-65), 3), (148, .return_, 1)])
theorem T_X5_arrange : zT M_X5_arrange := zT_of (by decide +kernel)
theorem F_X5_arrange : zMV M_X5_arrange 2 := ⟨⟨zTT_in (i := 780) (by decide +kernel) rfl, zTT_in (i := 143) (by decide +kernel) rfl, ⟨by decide, by decide, by decide +kernel⟩, by decide⟩, zTT_in (i := 778) (by decide +kernel) rfl, zTT_in (i := 779) (by decide +kernel) rfl⟩
def M_X5_unbeaten : zM := (⟨RX5, "unbeaten", "(I)I"⟩, prog_7_method_3_code, 4, (some .int), [(0, .iconst 0, 1), (1, .istore_n 2, 1), (2, .iload_n 2, 1), (3, .aload_n 0, 1), (4, .getfield 21, 3), (7, .if_icmp .ge 38, 3), (10, .iconst 1, 1), (11, .iload_n 2, 1), (12, .ishl, 1), (13, .istore_n 3, 1), (14, .iload_n 1, 1), (15, .iload_n 3, 1), (16, .iand, 1), (17, .ifCond .eq 22, 3), (20, .iload_n 1, 1), (21, .iload_n 3, 1), (22, .iconst (-1), 1), (23, .ixor, 1), (24, .iand, 1), (25, .aload_n 0, 1), (26, .getfield 9, 3), (29, .iload_n 2, 1), (30, .iaload, 1), (31, .iconst (-1), 1), (32, .ixor, 1), (33, .iand, 1), (34, .ifCond .ne 5, 3), (37, .iload_n 2, 1), (38, .ireturn, 1), (39, .iinc 2 1, 3), (42, .goto (-40), 3), (45, .iconst (-1), 1), (46, .ireturn, 1)])
theorem T_X5_unbeaten : zT M_X5_unbeaten := zT_of (by decide +kernel)
theorem F_X5_unbeaten : zMV M_X5_unbeaten 1 := ⟨⟨zTT_in (i := 841) (by decide +kernel) rfl, zTT_in (i := 143) (by decide +kernel) rfl, ⟨by decide, by decide, by decide +kernel⟩, by decide⟩, zTT_in (i := 839) (by decide +kernel) rfl, zTT_in (i := 840) (by decide +kernel) rfl⟩
def M_X5_outcome : zM := (⟨RX5, "outcome", "(II)I"⟩, prog_7_method_4_code, 4, (some .int), [(0, .aload_n 0, 1), (1, .iload_n 1, 1), (2, .invokevirtual 36, 3), (5, .istore_n 3, 1), (6, .iload_n 3, 1), (7, .iconst (-1), 1), (8, .if_icmp .ne 8, 3), (11, .bipush (-2), 2), (13, .goto 8, 3), (16, .iload_n 2, 1), (17, .iload_n 3, 1), (18, .ishr, 1), (19, .iconst 1, 1), (20, .iand, 1), (21, .ireturn, 1)])
theorem T_X5_outcome : zT M_X5_outcome := zT_of (by decide +kernel)
theorem F_X5_outcome : zMV M_X5_outcome 2 := ⟨⟨zTT_in (i := 877) (by decide +kernel) rfl, zTT_in (i := 143) (by decide +kernel) rfl, ⟨by decide, by decide, by decide +kernel⟩, by decide⟩, zTT_in (i := 875) (by decide +kernel) rfl, zTT_in (i := 876) (by decide +kernel) rfl⟩
def M_X5_secondOfRing : zM := (⟨RX5, "secondOfRing", "(I)I"⟩, prog_7_method_5_code, 3, (some .int), [(0, .iconst 0, 1), (1, .istore_n 2, 1), (2, .iload_n 2, 1), (3, .aload_n 0, 1), (4, .getfield 21, 3), (7, .if_icmp .ge 35, 3), (10, .aload_n 0, 1), (11, .getfield 9, 3), (14, .iload_n 1, 1), (15, .iaload, 1), (16, .iload_n 2, 1), (17, .ishr, 1), (18, .iconst 1, 1), (19, .iand, 1), (20, .iconst 1, 1), (21, .if_icmp .ne 15, 3), (24, .aload_n 0, 1), (25, .iload_n 1, 1), (26, .iload_n 2, 1), (27, .invokevirtual 40, 3), (30, .iconst (-1), 1), (31, .if_icmp .eq 5, 3), (34, .iload_n 2, 1), (35, .ireturn, 1), (36, .iinc 2 1, 3), (39, .goto (-37), 3), (42, .iconst (-1), 1), (43, .ireturn, 1)])
theorem T_X5_secondOfRing : zT M_X5_secondOfRing := zT_of (by decide +kernel)
theorem F_X5_secondOfRing : zMV M_X5_secondOfRing 1 := ⟨⟨zTT_in (i := 994) (by decide +kernel) rfl, zTT_in (i := 143) (by decide +kernel) rfl, ⟨by decide, by decide, by decide +kernel⟩, by decide⟩, zTT_in (i := 992) (by decide +kernel) rfl, zTT_in (i := 993) (by decide +kernel) rfl⟩
def M_X5_thirdOfRing : zM := (⟨RX5, "thirdOfRing", "(II)I"⟩, prog_7_method_6_code, 4, (some .int), [(0, .iconst 0, 1), (1, .istore_n 3, 1), (2, .iload_n 3, 1), (3, .aload_n 0, 1), (4, .getfield 21, 3), (7, .if_icmp .ge 39, 3), (10, .aload_n 0, 1), (11, .getfield 9, 3), (14, .iload_n 2, 1), (15, .iaload, 1), (16, .iload_n 3, 1), (17, .ishr, 1), (18, .iconst 1, 1), (19, .iand, 1), (20, .iconst 1, 1), (21, .if_icmp .ne 19, 3), (24, .aload_n 0, 1), (25, .getfield 9, 3), (28, .iload_n 3, 1), (29, .iaload, 1), (30, .iload_n 1, 1), (31, .ishr, 1), (32, .iconst 1, 1), (33, .iand, 1), (34, .iconst 1, 1), (35, .if_icmp .ne 5, 3), (38, .iload_n 3, 1), (39, .ireturn, 1), (40, .iinc 3 1, 3), (43, .goto (-41), 3), (46, .iconst (-1), 1), (47, .ireturn, 1)])
theorem T_X5_thirdOfRing : zT M_X5_thirdOfRing := zT_of (by decide +kernel)
theorem F_X5_thirdOfRing : zMV M_X5_thirdOfRing 2 := ⟨⟨zTT_in (i := 998) (by decide +kernel) rfl, zTT_in (i := 143) (by decide +kernel) rfl, ⟨by decide, by decide, by decide +kernel⟩, by decide⟩, zTT_in (i := 996) (by decide +kernel) rfl, zTT_in (i := 997) (by decide +kernel) rfl⟩
def M_X5_hasRing : zM := (⟨RX5, "hasRing", "()Z"⟩, prog_7_method_7_code, 2, (some .boolean), [(0, .iconst 0, 1), (1, .istore_n 1, 1), (2, .iload_n 1, 1), (3, .aload_n 0, 1), (4, .getfield 21, 3), (7, .if_icmp .ge 20, 3), (10, .aload_n 0, 1), (11, .iload_n 1, 1), (12, .invokevirtual 44, 3), (15, .iconst (-1), 1), (16, .if_icmp .eq 5, 3), (19, .iconst 1, 1), (20, .ireturn, 1), (21, .iinc 1 1, 3), (24, .goto (-22), 3), (27, .iconst 0, 1), (28, .ireturn, 1)])
theorem T_X5_hasRing : zT M_X5_hasRing := zT_of (by decide +kernel)
theorem F_X5_hasRing : zMV M_X5_hasRing 0 := ⟨⟨zTT_in (i := 1011) (by decide +kernel) rfl, zTT_in (i := 143) (by decide +kernel) rfl, ⟨by decide, by decide, by decide +kernel⟩, by decide⟩, zTT_in (i := 1009) (by decide +kernel) rfl, zTT_in (i := 1010) (by decide +kernel) rfl⟩
def M_X6_empty : zM := (⟨RX6, "empty", "()V"⟩, prog_8_method_2_code, 1, none, [(0, .aload_n 0, 1), (1, .iconst 0, 1), (2, .putfield 27, 3), (5, .aload_n 0, 1), (6, .iconst 0, 1), (7, .putfield 31, 3), (10, .aload_n 0, 1), (11, .iconst 0, 1), (12, .putfield 34, 3), (15, .return_, 1)])
theorem T_X6_empty : zT M_X6_empty := zT_of (by decide +kernel)
theorem F_X6_empty : zMV M_X6_empty 0 := ⟨⟨zTT_in (i := 569) (by decide +kernel) rfl, zTT_in (i := 141) (by decide +kernel) rfl, ⟨by decide, by decide, by decide +kernel⟩, by decide⟩, zTT_in (i := 567) (by decide +kernel) rfl, zTT_in (i := 568) (by decide +kernel) rfl⟩
def M_X6_copyFrom : zM := (⟨RX6, "copyFrom", "(LPostScripts$Page;)V"⟩, prog_8_method_3_code, 3, none, [(0, .iconst 0, 1), (1, .istore_n 2, 1), (2, .iload_n 2, 1), (3, .aload_n 1, 1), (4, .getfield 27, 3), (7, .if_icmp .ge 69, 3), (10, .aload_n 0, 1), (11, .getfield 9, 3), (14, .iload_n 2, 1), (15, .aload_n 1, 1), (16, .getfield 9, 3), (19, .iload_n 2, 1), (20, .iaload, 1), (21, .iastore, 1), (22, .aload_n 0, 1), (23, .getfield 15, 3), (26, .iload_n 2, 1), (27, .aload_n 1, 1), (28, .getfield 15, 3), (31, .iload_n 2, 1), (32, .iaload, 1), (33, .iastore, 1), (34, .aload_n 0, 1), (35, .getfield 18, 3), (38, .iload_n 2, 1), (39, .aload_n 1, 1), (40, .getfield 18, 3), (43, .iload_n 2, 1), (44, .iaload, 1), (45, .iastore, 1), (46, .aload_n 0, 1), (47, .getfield 21, 3), (50, .iload_n 2, 1), (51, .aload_n 1, 1), (52, .getfield 21, 3), (55, .iload_n 2, 1), (56, .iaload, 1), (57, .iastore, 1), (58, .aload_n 0, 1), (59, .getfield 24, 3), (62, .iload_n 2, 1), (63, .aload_n 1, 1), (64, .getfield 24, 3), (67, .iload_n 2, 1), (68, .iaload, 1), (69, .iastore, 1), (70, .iinc 2 1, 3), (73, .goto (-71), 3), (76, .aload_n 0, 1), (77, .aload_n 1, 1), (78, .getfield 27, 3), (81, .putfield 27, 3), (84, .aload_n 0, 1), (85, .aload_n 1, 1), (86, .getfield 31, 3), (89, .putfield 31, 3), (92, .aload_n 0, 1), (93, .aload_n 1, 1), (94, .getfield 34, 3), (97, .putfield 34, 3), (100, .return_, 1)])
theorem T_X6_copyFrom : zT M_X6_copyFrom := zT_of (by decide +kernel)
theorem F_X6_copyFrom : zMV M_X6_copyFrom 1 := ⟨⟨zTT_in (i := 776) (by decide +kernel) rfl, zTT_in (i := 141) (by decide +kernel) rfl, ⟨by decide, by decide, by decide +kernel⟩, by decide⟩, zTT_in (i := 774) (by decide +kernel) rfl, zTT_in (i := 775) (by decide +kernel) rfl⟩
def M_X6_add : zM := (⟨RX6, "add", "(IIIII)V"⟩, prog_8_method_4_code, 6, none, [(0, .aload_n 0, 1), (1, .getfield 27, 3), (4, .bipush 8, 2), (6, .if_icmp .lt 4, 3), (9, .return_, 1), (10, .aload_n 0, 1), (11, .getfield 9, 3), (14, .aload_n 0, 1), (15, .getfield 27, 3), (18, .iload_n 1, 1), (19, .iastore, 1), (20, .aload_n 0, 1), (21, .getfield 15, 3), (24, .aload_n 0, 1), (25, .getfield 27, 3), (28, .iload_n 2, 1), (29, .iastore, 1), (30, .aload_n 0, 1), (31, .getfield 18, 3), (34, .aload_n 0, 1), (35, .getfield 27, 3), (38, .iload_n 3, 1), (39, .iastore, 1), (40, .aload_n 0, 1), (41, .getfield 21, 3), (44, .aload_n 0, 1), (45, .getfield 27, 3), (48, .iload 4, 2), (50, .iastore, 1), (51, .aload_n 0, 1), (52, .getfield 24, 3), (55, .aload_n 0, 1), (56, .getfield 27, 3), (59, .iload 5, 2), (61, .iastore, 1), (62, .aload_n 0, 1), (63, .dup, 1), (64, .getfield 27, 3), (67, .iconst 1, 1), (68, .iadd, 1), (69, .putfield 27, 3), (72, .return_, 1)])
theorem T_X6_add : zT M_X6_add := zT_of (by decide +kernel)
theorem F_X6_add : zMV M_X6_add 5 := ⟨⟨zTT_in (i := 754) (by decide +kernel) rfl, zTT_in (i := 141) (by decide +kernel) rfl, ⟨by decide, by decide, by decide +kernel⟩, by decide⟩, zTT_in (i := 752) (by decide +kernel) rfl, zTT_in (i := 753) (by decide +kernel) rfl⟩
def M_X6_read : zM := (⟨RX6, "read", "()I"⟩, prog_8_method_5_code, 3, (some .int), [(0, .iconst 0, 1), (1, .istore_n 1, 1), (2, .iconst 0, 1), (3, .istore_n 2, 1), (4, .iload_n 2, 1), (5, .aload_n 0, 1), (6, .getfield 27, 3), (9, .if_icmp .ge 42, 3), (12, .aload_n 0, 1), (13, .getfield 31, 3), (16, .iload_n 2, 1), (17, .ishr, 1), (18, .iconst 1, 1), (19, .iand, 1), (20, .ifCond .ne 25, 3), (23, .aload_n 0, 1), (24, .getfield 34, 3), (27, .aload_n 0, 1), (28, .getfield 15, 3), (31, .iload_n 2, 1), (32, .iaload, 1), (33, .ishr, 1), (34, .iconst 1, 1), (35, .iand, 1), (36, .ifCond .ne 9, 3), (39, .iload_n 1, 1), (40, .iconst 1, 1), (41, .iload_n 2, 1), (42, .ishl, 1), (43, .ior, 1), (44, .istore_n 1, 1), (45, .iinc 2 1, 3), (48, .goto (-44), 3), (51, .iload_n 1, 1), (52, .ireturn, 1)])
theorem T_X6_read : zT M_X6_read := zT_of (by decide +kernel)
theorem F_X6_read : zMV M_X6_read 0 := ⟨⟨zTT_in (i := 829) (by decide +kernel) rfl, zTT_in (i := 141) (by decide +kernel) rfl, ⟨by decide, by decide, by decide +kernel⟩, by decide⟩, zTT_in (i := 827) (by decide +kernel) rfl, zTT_in (i := 828) (by decide +kernel) rfl⟩
def M_X6_linesAt : zM := (⟨RX6, "linesAt", "(I)I"⟩, prog_8_method_6_code, 4, (some .int), [(0, .iconst 0, 1), (1, .istore_n 2, 1), (2, .iconst 0, 1), (3, .istore_n 3, 1), (4, .iload_n 3, 1), (5, .aload_n 0, 1), (6, .getfield 27, 3), (9, .if_icmp .ge 25, 3), (12, .aload_n 0, 1), (13, .getfield 15, 3), (16, .iload_n 3, 1), (17, .iaload, 1), (18, .iload_n 1, 1), (19, .if_icmp .ne 9, 3), (22, .iload_n 2, 1), (23, .iconst 1, 1), (24, .iload_n 3, 1), (25, .ishl, 1), (26, .ior, 1), (27, .istore_n 2, 1), (28, .iinc 3 1, 3), (31, .goto (-27), 3), (34, .iload_n 2, 1), (35, .ireturn, 1)])
theorem T_X6_linesAt : zT M_X6_linesAt := zT_of (by decide +kernel)
theorem F_X6_linesAt : zMV M_X6_linesAt 1 := ⟨⟨zTT_in (i := 809) (by decide +kernel) rfl, zTT_in (i := 141) (by decide +kernel) rfl, ⟨by decide, by decide, by decide +kernel⟩, by decide⟩, zTT_in (i := 807) (by decide +kernel) rfl, zTT_in (i := 808) (by decide +kernel) rfl⟩
def M_X6_linesBy : zM := (⟨RX6, "linesBy", "(I)I"⟩, prog_8_method_7_code, 4, (some .int), [(0, .iconst 0, 1), (1, .istore_n 2, 1), (2, .iconst 0, 1), (3, .istore_n 3, 1), (4, .iload_n 3, 1), (5, .aload_n 0, 1), (6, .getfield 27, 3), (9, .if_icmp .ge 25, 3), (12, .aload_n 0, 1), (13, .getfield 9, 3), (16, .iload_n 3, 1), (17, .iaload, 1), (18, .iload_n 1, 1), (19, .if_icmp .ne 9, 3), (22, .iload_n 2, 1), (23, .iconst 1, 1), (24, .iload_n 3, 1), (25, .ishl, 1), (26, .ior, 1), (27, .istore_n 2, 1), (28, .iinc 3 1, 3), (31, .goto (-27), 3), (34, .iload_n 2, 1), (35, .ireturn, 1)])
theorem T_X6_linesBy : zT M_X6_linesBy := zT_of (by decide +kernel)
theorem F_X6_linesBy : zMV M_X6_linesBy 1 := ⟨⟨zTT_in (i := 821) (by decide +kernel) rfl, zTT_in (i := 141) (by decide +kernel) rfl, ⟨by decide, by decide, by decide +kernel⟩, by decide⟩, zTT_in (i := 819) (by decide +kernel) rfl, zTT_in (i := 820) (by decide +kernel) rfl⟩
def M_X6_linesOf : zM := (⟨RX6, "linesOf", "(I)I"⟩, prog_8_method_8_code, 4, (some .int), [(0, .iconst 0, 1), (1, .istore_n 2, 1), (2, .iconst 0, 1), (3, .istore_n 3, 1), (4, .iload_n 3, 1), (5, .aload_n 0, 1), (6, .getfield 27, 3), (9, .if_icmp .ge 25, 3), (12, .aload_n 0, 1), (13, .getfield 18, 3), (16, .iload_n 3, 1), (17, .iaload, 1), (18, .iload_n 1, 1), (19, .if_icmp .ne 9, 3), (22, .iload_n 2, 1), (23, .iconst 1, 1), (24, .iload_n 3, 1), (25, .ishl, 1), (26, .ior, 1), (27, .istore_n 2, 1), (28, .iinc 3 1, 3), (31, .goto (-27), 3), (34, .iload_n 2, 1), (35, .ireturn, 1)])
theorem T_X6_linesOf : zT M_X6_linesOf := zT_of (by decide +kernel)
theorem F_X6_linesOf : zMV M_X6_linesOf 1 := ⟨⟨zTT_in (i := 940) (by decide +kernel) rfl, zTT_in (i := 141) (by decide +kernel) rfl, ⟨by decide, by decide, by decide +kernel⟩, by decide⟩, zTT_in (i := 938) (by decide +kernel) rfl, zTT_in (i := 939) (by decide +kernel) rfl⟩
def M_X6_inchesAt : zM := (⟨RX6, "inchesAt", "(I)I"⟩, prog_8_method_9_code, 4, (some .int), [(0, .iconst 0, 1), (1, .istore_n 2, 1), (2, .iconst 0, 1), (3, .istore_n 3, 1), (4, .iload_n 3, 1), (5, .aload_n 0, 1), (6, .getfield 27, 3), (9, .if_icmp .ge 28, 3), (12, .aload_n 0, 1), (13, .getfield 15, 3), (16, .iload_n 3, 1), (17, .iaload, 1), (18, .iload_n 1, 1), (19, .if_icmp .ne 12, 3), (22, .iload_n 2, 1), (23, .aload_n 0, 1), (24, .getfield 24, 3), (27, .iload_n 3, 1), (28, .iaload, 1), (29, .iadd, 1), (30, .istore_n 2, 1), (31, .iinc 3 1, 3), (34, .goto (-30), 3), (37, .iload_n 2, 1), (38, .ireturn, 1)])
theorem T_X6_inchesAt : zT M_X6_inchesAt := zT_of (by decide +kernel)
theorem F_X6_inchesAt : zMV M_X6_inchesAt 1 := ⟨⟨zTT_in (i := 750) (by decide +kernel) rfl, zTT_in (i := 141) (by decide +kernel) rfl, ⟨by decide, by decide, by decide +kernel⟩, by decide⟩, zTT_in (i := 748) (by decide +kernel) rfl, zTT_in (i := 749) (by decide +kernel) rfl⟩
def M_X6_placesOf : zM := (⟨RX6, "placesOf", "(II)I"⟩, prog_8_method_10_code, 5, (some .int), [(0, .iconst 0, 1), (1, .istore_n 3, 1), (2, .iconst 0, 1), (3, .istore 4, 2), (5, .iload 4, 2), (7, .aload_n 0, 1), (8, .getfield 27, 3), (11, .if_icmp .ge 42, 3), (14, .iload_n 2, 1), (15, .iload 4, 2), (17, .ishr, 1), (18, .iconst 1, 1), (19, .iand, 1), (20, .iconst 1, 1), (21, .if_icmp .ne 26, 3), (24, .aload_n 0, 1), (25, .getfield 18, 3), (28, .iload 4, 2), (30, .iaload, 1), (31, .iload_n 1, 1), (32, .if_icmp .ne 15, 3), (35, .iload_n 3, 1), (36, .iconst 1, 1), (37, .aload_n 0, 1), (38, .getfield 15, 3), (41, .iload 4, 2), (43, .iaload, 1), (44, .ishl, 1), (45, .ior, 1), (46, .istore_n 3, 1), (47, .iinc 4 1, 3), (50, .goto (-45), 3), (53, .iload_n 3, 1), (54, .ireturn, 1)])
theorem T_X6_placesOf : zT M_X6_placesOf := zT_of (by decide +kernel)
theorem F_X6_placesOf : zMV M_X6_placesOf 2 := ⟨⟨zTT_in (i := 837) (by decide +kernel) rfl, zTT_in (i := 141) (by decide +kernel) rfl, ⟨by decide, by decide, by decide +kernel⟩, by decide⟩, zTT_in (i := 835) (by decide +kernel) rfl, zTT_in (i := 836) (by decide +kernel) rfl⟩
def M_X6_dosOf : zM := (⟨RX6, "dosOf", "(II)I"⟩, prog_8_method_11_code, 6, (some .int), [(0, .iconst 0, 1), (1, .istore_n 3, 1), (2, .iconst 0, 1), (3, .istore 4, 2), (5, .iload 4, 2), (7, .aload_n 0, 1), (8, .getfield 27, 3), (11, .if_icmp .ge 66, 3), (14, .iload_n 2, 1), (15, .iload 4, 2), (17, .ishr, 1), (18, .iconst 1, 1), (19, .iand, 1), (20, .iconst 1, 1), (21, .if_icmp .ne 50, 3), (24, .aload_n 0, 1), (25, .getfield 18, 3), (28, .iload 4, 2), (30, .iaload, 1), (31, .iload_n 1, 1), (32, .if_icmp .ne 39, 3), (35, .iconst 1, 1), (36, .aload_n 0, 1), (37, .getfield 15, 3), (40, .iload 4, 2), (42, .iaload, 1), (43, .ishl, 1), (44, .istore 5, 2), (46, .aload_n 0, 1), (47, .getfield 21, 3), (50, .iload 4, 2), (52, .iaload, 1), (53, .iconst 1, 1), (54, .if_icmp .ne 10, 3), (57, .iload_n 3, 1), (58, .iload 5, 2), (60, .ior, 1), (61, .goto 9, 3), (64, .iload_n 3, 1), (65, .iload 5, 2), (67, .iconst (-1), 1), (68, .ixor, 1), (69, .iand, 1), (70, .istore_n 3, 1), (71, .iinc 4 1, 3), (74, .goto (-69), 3), (77, .iload_n 3, 1), (78, .ireturn, 1)])
theorem T_X6_dosOf : zT M_X6_dosOf := zT_of (by decide +kernel)
theorem F_X6_dosOf : zMV M_X6_dosOf 2 := ⟨⟨zTT_in (i := 873) (by decide +kernel) rfl, zTT_in (i := 141) (by decide +kernel) rfl, ⟨by decide, by decide, by decide +kernel⟩, by decide⟩, zTT_in (i := 871) (by decide +kernel) rfl, zTT_in (i := 872) (by decide +kernel) rfl⟩
def M_X6_latestAt : zM := (⟨RX6, "latestAt", "(III)I"⟩, prog_8_method_12_code, 5, (some .int), [(0, .aload_n 0, 1), (1, .getfield 27, 3), (4, .iconst 1, 1), (5, .isub, 1), (6, .istore 4, 2), (8, .iload 4, 2), (10, .ifCond .lt 44, 3), (13, .iload_n 3, 1), (14, .iload 4, 2), (16, .ishr, 1), (17, .iconst 1, 1), (18, .iand, 1), (19, .iconst 1, 1), (20, .if_icmp .ne 28, 3), (23, .aload_n 0, 1), (24, .getfield 18, 3), (27, .iload 4, 2), (29, .iaload, 1), (30, .iload_n 2, 1), (31, .if_icmp .ne 17, 3), (34, .aload_n 0, 1), (35, .getfield 15, 3), (38, .iload 4, 2), (40, .iaload, 1), (41, .iload_n 1, 1), (42, .if_icmp .ne 6, 3), (45, .iload 4, 2), (47, .ireturn, 1), (48, .iinc 4 (-1), 3), (51, .goto (-43), 3), (54, .bipush (-2), 2), (56, .ireturn, 1)])
theorem T_X6_latestAt : zT M_X6_latestAt := zT_of (by decide +kernel)
theorem F_X6_latestAt : zMV M_X6_latestAt 3 := ⟨⟨zTT_in (i := 845) (by decide +kernel) rfl, zTT_in (i := 141) (by decide +kernel) rfl, ⟨by decide, by decide, by decide +kernel⟩, by decide⟩, zTT_in (i := 843) (by decide +kernel) rfl, zTT_in (i := 844) (by decide +kernel) rfl⟩
def M_X7_keep : zM := (⟨RX7, "keep", "(II)V"⟩, prog_9_method_2_code, 4, none, [(0, .aload_n 0, 1), (1, .getfield 18, 3), (4, .bipush 16, 2), (6, .if_icmp .lt 51, 3), (9, .iconst 1, 1), (10, .istore_n 3, 1), (11, .iload_n 3, 1), (12, .bipush 16, 2), (14, .if_icmp .ge 37, 3), (17, .aload_n 0, 1), (18, .getfield 9, 3), (21, .iload_n 3, 1), (22, .iconst 1, 1), (23, .isub, 1), (24, .aload_n 0, 1), (25, .getfield 9, 3), (28, .iload_n 3, 1), (29, .iaload, 1), (30, .iastore, 1), (31, .aload_n 0, 1), (32, .getfield 15, 3), (35, .iload_n 3, 1), (36, .iconst 1, 1), (37, .isub, 1), (38, .aload_n 0, 1), (39, .getfield 15, 3), (42, .iload_n 3, 1), (43, .iaload, 1), (44, .iastore, 1), (45, .iinc 3 1, 3), (48, .goto (-37), 3), (51, .aload_n 0, 1), (52, .bipush 15, 2), (54, .putfield 18, 3), (57, .aload_n 0, 1), (58, .getfield 9, 3), (61, .aload_n 0, 1), (62, .getfield 18, 3), (65, .iload_n 1, 1), (66, .iastore, 1), (67, .aload_n 0, 1), (68, .getfield 15, 3), (71, .aload_n 0, 1), (72, .getfield 18, 3), (75, .iload_n 2, 1), (76, .iastore, 1), (77, .aload_n 0, 1), (78, .dup, 1), (79, .getfield 18, 3), (82, .iconst 1, 1), (83, .iadd, 1), (84, .putfield 18, 3), (87, .return_, 1)])
theorem T_X7_keep : zT M_X7_keep := zT_of (by decide +kernel)
theorem F_X7_keep : zMV M_X7_keep 2 := ⟨⟨zTT_in (i := 1197) (by decide +kernel) rfl, zTT_in (i := 144) (by decide +kernel) rfl, ⟨by decide, by decide, by decide +kernel⟩, by decide⟩, zTT_in (i := 1195) (by decide +kernel) rfl, zTT_in (i := 1196) (by decide +kernel) rfl⟩
def M_X8_readFirst : zM := (⟨RX8, "readFirst", "(I)V"⟩, prog_10_method_2_code, 4, none, [(0, .aload_n 0, 1), (1, .getfield 28, 3), (4, .invokevirtual 32, 3), (7, .aload_n 0, 1), (8, .getfield 21, 3), (11, .iconst 0, 1), (12, .putfield 35, 3), (15, .aload_n 0, 1), (16, .iconst 0, 1), (17, .putfield 39, 3), (20, .aload_n 0, 1), (21, .iconst (-1), 1), (22, .putfield 42, 3), (25, .aload_n 0, 1), (26, .getfield 12, 3), (29, .iload_n 1, 1), (30, .invokevirtual 45, 3), (33, .aload_n 0, 1), (34, .invokevirtual 49, 3), (37, .istore_n 2, 1), (38, .iconst 0, 1), (39, .istore_n 3, 1), (40, .iload_n 3, 1), (41, .sipush 900, 3), (44, .if_icmp .ge 36, 3), (47, .iload_n 2, 1), (48, .ifCond .eq 32, 3), (51, .aload_n 0, 1), (52, .getfield 12, 3), (55, .getfield 53, 3), (58, .iconst 3, 1), (59, .if_icmp .ne 21, 3), (62, .aload_n 0, 1), (63, .getfield 12, 3), (66, .invokevirtual 56, 3), (69, .aload_n 0, 1), (70, .invokevirtual 59, 3), (73, .istore_n 2, 1), (74, .iinc 3 1, 3), (77, .goto (-37), 3), (80, .iload_n 2, 1), (81, .ifCond .eq 22, 3), (84, .aload_n 0, 1), (85, .getfield 12, 3), (88, .getfield 53, 3), (91, .ifCond .eq 12, 3), (94, .aload_n 0, 1), (95, .iconst 1, 1), (96, .invokevirtual 62, 3), (99, .pop, 1), (100, .goto 24, 3), (103, .iload_n 2, 1), (104, .ifCond .eq 20, 3), (107, .aload_n 0, 1), (108, .getfield 28, 3), (111, .getfield 66, 3), (114, .ifCond .ne 10, 3), (117, .aload_n 0, 1), (118, .bipush 6, 2), (120, .invokevirtual 62, 3), (123, .pop, 1), (124, .return_, 1)])
theorem T_X8_readFirst : zT M_X8_readFirst := zT_of (by decide +kernel)
theorem F_X8_readFirst : zMV M_X8_readFirst 1 := ⟨⟨zTT_in (i := 561) (by decide +kernel) rfl, zTT_in (i := 137) (by decide +kernel) rfl, ⟨by decide, by decide, by decide +kernel⟩, by decide⟩, zTT_in (i := 559) (by decide +kernel) rfl, zTT_in (i := 560) (by decide +kernel) rfl⟩
def M_X8_blame : zM := (⟨RX8, "blame", "(I)Z"⟩, prog_10_method_3_code, 2, (some .boolean), [(0, .aload_n 0, 1), (1, .iload_n 1, 1), (2, .aload_n 0, 1), (3, .getfield 12, 3), (6, .getfield 69, 3), (9, .invokevirtual 72, 3), (12, .ireturn, 1)])
theorem T_X8_blame : zT M_X8_blame := zT_of (by decide +kernel)
theorem F_X8_blame : zMV M_X8_blame 1 := ⟨⟨zTT_in (i := 666) (by decide +kernel) rfl, zTT_in (i := 137) (by decide +kernel) rfl, ⟨by decide, by decide, by decide +kernel⟩, by decide⟩, zTT_in (i := 665) (by decide +kernel) rfl, zTT_in (i := 7) (by decide +kernel) rfl⟩
def M_X8_blameAt : zM := (⟨RX8, "blameAt", "(II)Z"⟩, prog_10_method_4_code, 3, (some .boolean), [(0, .aload_n 0, 1), (1, .iload_n 1, 1), (2, .putfield 39, 3), (5, .aload_n 0, 1), (6, .iload_n 2, 1), (7, .putfield 42, 3), (10, .iconst 0, 1), (11, .ireturn, 1)])
theorem T_X8_blameAt : zT M_X8_blameAt := zT_of (by decide +kernel)
theorem F_X8_blameAt : zMV M_X8_blameAt 2 := ⟨⟨zTT_in (i := 670) (by decide +kernel) rfl, zTT_in (i := 137) (by decide +kernel) rfl, ⟨by decide, by decide, by decide +kernel⟩, by decide⟩, zTT_in (i := 669) (by decide +kernel) rfl, zTT_in (i := 8) (by decide +kernel) rfl⟩
def M_X8_lineWord : zM := (⟨RX8, "lineWord", "()I"⟩, prog_10_method_5_code, 1, (some .int), [(0, .aload_n 0, 1), (1, .getfield 12, 3), (4, .ldc 76, 2), (6, .invokevirtual 78, 3), (9, .ifCond .eq 5, 3), (12, .iconst 1, 1), (13, .ireturn, 1), (14, .aload_n 0, 1), (15, .getfield 12, 3), (18, .ldc 82, 2), (20, .invokevirtual 78, 3), (23, .ifCond .eq 5, 3), (26, .iconst 2, 1), (27, .ireturn, 1), (28, .aload_n 0, 1), (29, .getfield 12, 3), (32, .ldc 84, 2), (34, .invokevirtual 78, 3), (37, .ifCond .eq 5, 3), (40, .iconst 3, 1), (41, .ireturn, 1), (42, .aload_n 0, 1), (43, .getfield 12, 3), (46, .ldc 86, 2), (48, .invokevirtual 78, 3), (51, .ifCond .eq 5, 3), (54, .iconst 4, 1), (55, .ireturn, 1), (56, .aload_n 0, 1), (57, .getfield 12, 3), (60, .ldc 88, 2), (62, .invokevirtual 78, 3), (65, .ifCond .eq 5, 3), (68, .iconst 5, 1), (69, .ireturn, 1), (70, .aload_n 0, 1), (71, .getfield 12, 3), (74, .ldc 90, 2), (76, .invokevirtual 78, 3), (79, .ifCond .eq 6, 3), (82, .bipush 6, 2), (84, .ireturn, 1), (85, .aload_n 0, 1), (86, .getfield 12, 3), (89, .ldc 92, 2), (91, .invokevirtual 78, 3), (94, .ifCond .eq 6, 3), (97, .bipush 7, 2), (99, .ireturn, 1), (100, .aload_n 0, 1), (101, .getfield 12, 3), (104, .ldc 94, 2), (106, .invokevirtual 78, 3), (109, .ifCond .eq 6, 3), (112, .bipush 8, 2), (114, .ireturn, 1), (115, .aload_n 0, 1), (116, .getfield 12, 3), (119, .ldc 96, 2), (121, .invokevirtual 78, 3), (124, .ifCond .eq 8, 3), (127, .bipush 9, 2), (129, .goto 4, 3), (132, .iconst 0, 1), (133, .ireturn, 1)])
theorem T_X8_lineWord : zT M_X8_lineWord := zT_of (by decide +kernel)
theorem F_X8_lineWord : zMV M_X8_lineWord 0 := ⟨⟨zTT_in (i := 601) (by decide +kernel) rfl, zTT_in (i := 137) (by decide +kernel) rfl, ⟨by decide, by decide, by decide +kernel⟩, by decide⟩, zTT_in (i := 600) (by decide +kernel) rfl, zTT_in (i := 6) (by decide +kernel) rfl⟩
def M_X8_readHead : zM := (⟨RX8, "readHead", "()Z"⟩, prog_10_method_6_code, 2, (some .boolean), [(0, .aload_n 0, 1), (1, .invokevirtual 98, 3), (4, .istore_n 1, 1), (5, .iload_n 1, 1), (6, .iconst 1, 1), (7, .if_icmp .eq 18, 3), (10, .aload_n 0, 1), (11, .iload_n 1, 1), (12, .ifCond .ne 7, 3), (15, .iconst 1, 1), (16, .goto 5, 3), (19, .bipush 6, 2), (21, .invokevirtual 62, 3), (24, .ireturn, 1), (25, .aload_n 0, 1), (26, .getfield 12, 3), (29, .invokevirtual 56, 3), (32, .aload_n 0, 1), (33, .ldc 102, 2), (35, .invokevirtual 104, 3), (38, .ifCond .eq 13, 3), (41, .aload_n 0, 1), (42, .iconst 0, 1), (43, .bipush 100, 2), (45, .invokevirtual 107, 3), (48, .ifCond .ne 5, 3), (51, .iconst 0, 1), (52, .ireturn, 1), (53, .aload_n 0, 1), (54, .getfield 28, 3), (57, .aload_n 0, 1), (58, .invokevirtual 110, 3), (61, .putfield 113, 3), (64, .iconst 1, 1), (65, .ireturn, 1)])
theorem T_X8_readHead : zT M_X8_readHead := zT_of (by decide +kernel)
theorem F_X8_readHead : zMV M_X8_readHead 0 := ⟨⟨zTT_in (i := 597) (by decide +kernel) rfl, zTT_in (i := 137) (by decide +kernel) rfl, ⟨by decide, by decide, by decide +kernel⟩, by decide⟩, zTT_in (i := 596) (by decide +kernel) rfl, zTT_in (i := 5) (by decide +kernel) rfl⟩
def M_X8_readLine : zM := (⟨RX8, "readLine", "()Z"⟩, prog_10_method_7_code, 1, (some .boolean), [(0, .aload_n 0, 1), (1, .invokevirtual 98, 3), (4, .tableswitch 98 1 9 #[52, 58, 63, 68, 73, 78, 83, 88, 93], 52), (56, .aload_n 0, 1), (57, .iconst 3, 1), (58, .invokevirtual 62, 3), (61, .ireturn, 1), (62, .aload_n 0, 1), (63, .invokevirtual 115, 3), (66, .ireturn, 1), (67, .aload_n 0, 1), (68, .invokevirtual 118, 3), (71, .ireturn, 1), (72, .aload_n 0, 1), (73, .invokevirtual 121, 3), (76, .ireturn, 1), (77, .aload_n 0, 1), (78, .invokevirtual 124, 3), (81, .ireturn, 1), (82, .aload_n 0, 1), (83, .invokevirtual 127, 3), (86, .ireturn, 1), (87, .aload_n 0, 1), (88, .invokevirtual 130, 3), (91, .ireturn, 1), (92, .aload_n 0, 1), (93, .invokevirtual 133, 3), (96, .ireturn, 1), (97, .aload_n 0, 1), (98, .invokevirtual 136, 3), (101, .ireturn, 1), (102, .aload_n 0, 1), (103, .iconst 1, 1), (104, .invokevirtual 62, 3), (107, .ireturn, 1)])
theorem T_X8_readLine : zT M_X8_readLine := zT_of (by decide +kernel)
theorem F_X8_readLine : zMV M_X8_readLine 0 := ⟨⟨zTT_in (i := 688) (by decide +kernel) rfl, zTT_in (i := 137) (by decide +kernel) rfl, ⟨by decide, by decide, by decide +kernel⟩, by decide⟩, zTT_in (i := 687) (by decide +kernel) rfl, zTT_in (i := 12) (by decide +kernel) rfl⟩
def M_X8_readPlace : zM := (⟨RX8, "readPlace", "()Z"⟩, prog_10_method_8_code, 2, (some .boolean), [(0, .aload_n 0, 1), (1, .getfield 28, 3), (4, .getfield 66, 3), (7, .istore_n 1, 1), (8, .iload_n 1, 1), (9, .bipush 6, 2), (11, .if_icmp .lt 9, 3), (14, .aload_n 0, 1), (15, .iconst 5, 1), (16, .invokevirtual 62, 3), (19, .ireturn, 1), (20, .aload_n 0, 1), (21, .getfield 12, 3), (24, .invokevirtual 56, 3), (27, .aload_n 0, 1), (28, .iconst 2, 1), (29, .iload_n 1, 1), (30, .invokevirtual 139, 3), (33, .ifCond .eq 22, 3), (36, .aload_n 0, 1), (37, .ldc 142, 2), (39, .invokevirtual 104, 3), (42, .ifCond .eq 13, 3), (45, .aload_n 0, 1), (46, .iconst 0, 1), (47, .bipush 99, 2), (49, .invokevirtual 107, 3), (52, .ifCond .ne 5, 3), (55, .iconst 0, 1), (56, .ireturn, 1), (57, .aload_n 0, 1), (58, .getfield 28, 3), (61, .aload_n 0, 1), (62, .getfield 12, 3), (65, .getfield 144, 3), (68, .invokevirtual 147, 3), (71, .ifCond .eq 9, 3), (74, .aload_n 0, 1), (75, .iconst 3, 1), (76, .invokevirtual 62, 3), (79, .ireturn, 1), (80, .aload_n 0, 1), (81, .getfield 28, 3), (84, .getfield 150, 3), (87, .iload_n 1, 1), (88, .aload_n 0, 1), (89, .invokevirtual 110, 3), (92, .iastore, 1), (93, .aload_n 0, 1), (94, .ldc 153, 2), (96, .invokevirtual 104, 3), (99, .ifCond .eq 13, 3), (102, .aload_n 0, 1), (103, .iconst 1, 1), (104, .bipush 9, 2), (106, .invokevirtual 107, 3), (109, .ifCond .ne 5, 3), (112, .iconst 0, 1), (113, .ireturn, 1), (114, .aload_n 0, 1), (115, .getfield 28, 3), (118, .getfield 155, 3), (121, .iload_n 1, 1), (122, .aload_n 0, 1), (123, .invokevirtual 110, 3), (126, .iastore, 1), (127, .aload_n 0, 1), (128, .getfield 28, 3), (131, .dup, 1), (132, .getfield 66, 3), (135, .iconst 1, 1), (136, .iadd, 1), (137, .putfield 66, 3), (140, .iconst 1, 1), (141, .ireturn, 1)])
theorem T_X8_readPlace : zT M_X8_readPlace := zT_of (by decide +kernel)
theorem F_X8_readPlace : zMV M_X8_readPlace 0 := ⟨⟨zTT_in (i := 692) (by decide +kernel) rfl, zTT_in (i := 137) (by decide +kernel) rfl, ⟨by decide, by decide, by decide +kernel⟩, by decide⟩, zTT_in (i := 691) (by decide +kernel) rfl, zTT_in (i := 13) (by decide +kernel) rfl⟩
def M_X8_readOver : zM := (⟨RX8, "readOve\x72", "()Z"⟩, prog_10_method_9_code, 5, (some .boolean), [(0, .aload_n 0, 1), (1, .getfield 28, 3), (4, .getfield 158, 3), (7, .istore_n 1, 1), (8, .iload_n 1, 1), (9, .bipush 6, 2), (11, .if_icmp .lt 9, 3), (14, .aload_n 0, 1), (15, .iconst 5, 1), (16, .invokevirtual 62, 3), (19, .ireturn, 1), (20, .aload_n 0, 1), (21, .getfield 12, 3), (24, .invokevirtual 56, 3), (27, .aload_n 0, 1), (28, .iconst 2, 1), (29, .invokevirtual 161, 3), (32, .istore_n 2, 1), (33, .iload_n 2, 1), (34, .iconst (-1), 1), (35, .if_icmp .ne 5, 3), (38, .iconst 0, 1), (39, .ireturn, 1), (40, .aload_n 0, 1), (41, .getfield 12, 3), (44, .getfield 69, 3), (47, .istore_n 3, 1), (48, .aload_n 0, 1), (49, .iconst 2, 1), (50, .invokevirtual 161, 3), (53, .istore 4, 2), (55, .iload 4, 2), (57, .iconst (-1), 1), (58, .if_icmp .ne 5, 3), (61, .iconst 0, 1), (62, .ireturn, 1), (63, .iload_n 2, 1), (64, .iload 4, 2), (66, .if_icmp .eq 16, 3), (69, .aload_n 0, 1), (70, .getfield 28, 3), (73, .iload_n 2, 1), (74, .iload 4, 2), (76, .invokevirtual 165, 3), (79, .ifCond .eq 10, 3), (82, .aload_n 0, 1), (83, .iconst 3, 1), (84, .iload_n 3, 1), (85, .invokevirtual 72, 3), (88, .ireturn, 1), (89, .aload_n 0, 1), (90, .getfield 28, 3), (93, .getfield 168, 3), (96, .iload_n 1, 1), (97, .iload_n 2, 1), (98, .iastore, 1), (99, .aload_n 0, 1), (100, .getfield 28, 3), (103, .getfield 171, 3), (106, .iload_n 1, 1), (107, .iload 4, 2), (109, .iastore, 1), (110, .aload_n 0, 1), (111, .getfield 28, 3), (114, .dup, 1), (115, .getfield 158, 3), (118, .iconst 1, 1), (119, .iadd, 1), (120, .putfield 158, 3), (123, .iconst 1, 1), (124, .ireturn, 1)])
theorem T_X8_readOver : zT M_X8_readOver := zT_of (by decide +kernel)
theorem F_X8_readOver : zMV M_X8_readOver 0 := ⟨⟨zTT_in (i := 718) (by decide +kernel) rfl, zTT_in (i := 137) (by decide +kernel) rfl, ⟨by decide, by decide, by decide +kernel⟩, by decide⟩, zTT_in (i := 717) (by decide +kernel) rfl, zTT_in (i := 15) (by decide +kernel) rfl⟩
def M_X8_readHand : zM := (⟨RX8, "readHand", "()Z"⟩, prog_10_method_10_code, 2, (some .boolean), [(0, .aload_n 0, 1), (1, .getfield 28, 3), (4, .getfield 174, 3), (7, .istore_n 1, 1), (8, .iload_n 1, 1), (9, .iconst 4, 1), (10, .if_icmp .lt 9, 3), (13, .aload_n 0, 1), (14, .iconst 5, 1), (15, .invokevirtual 62, 3), (18, .ireturn, 1), (19, .aload_n 0, 1), (20, .getfield 12, 3), (23, .invokevirtual 56, 3), (26, .aload_n 0, 1), (27, .iconst 4, 1), (28, .iload_n 1, 1), (29, .invokevirtual 139, 3), (32, .ifCond .eq 22, 3), (35, .aload_n 0, 1), (36, .ldc 177, 2), (38, .invokevirtual 104, 3), (41, .ifCond .eq 13, 3), (44, .aload_n 0, 1), (45, .iconst 0, 1), (46, .bipush 99, 2), (48, .invokevirtual 107, 3), (51, .ifCond .ne 5, 3), (54, .iconst 0, 1), (55, .ireturn, 1), (56, .aload_n 0, 1), (57, .getfield 28, 3), (60, .getfield 179, 3), (63, .iload_n 1, 1), (64, .aload_n 0, 1), (65, .invokevirtual 110, 3), (68, .iastore, 1), (69, .aload_n 0, 1), (70, .getfield 28, 3), (73, .dup, 1), (74, .getfield 174, 3), (77, .iconst 1, 1), (78, .iadd, 1), (79, .putfield 174, 3), (82, .iconst 1, 1), (83, .ireturn, 1)])
theorem T_X8_readHand : zT M_X8_readHand := zT_of (by decide +kernel)
theorem F_X8_readHand : zMV M_X8_readHand 0 := ⟨⟨zTT_in (i := 730) (by decide +kernel) rfl, zTT_in (i := 137) (by decide +kernel) rfl, ⟨by decide, by decide, by decide +kernel⟩, by decide⟩, zTT_in (i := 729) (by decide +kernel) rfl, zTT_in (i := 17) (by decide +kernel) rfl⟩
def M_X8_readMatter : zM := (⟨RX8, "readMatte\x72", "()Z"⟩, prog_10_method_11_code, 2, (some .boolean), [(0, .aload_n 0, 1), (1, .getfield 28, 3), (4, .getfield 181, 3), (7, .istore_n 1, 1), (8, .iload_n 1, 1), (9, .iconst 4, 1), (10, .if_icmp .lt 9, 3), (13, .aload_n 0, 1), (14, .iconst 5, 1), (15, .invokevirtual 62, 3), (18, .ireturn, 1), (19, .aload_n 0, 1), (20, .getfield 12, 3), (23, .invokevirtual 56, 3), (26, .aload_n 0, 1), (27, .iconst 5, 1), (28, .iload_n 1, 1), (29, .invokevirtual 139, 3), (32, .ifCond .ne 5, 3), (35, .iconst 0, 1), (36, .ireturn, 1), (37, .aload_n 0, 1), (38, .getfield 28, 3), (41, .getfield 184, 3), (44, .iload_n 1, 1), (45, .iconst (-1), 1), (46, .iastore, 1), (47, .aload_n 0, 1), (48, .getfield 28, 3), (51, .dup, 1), (52, .getfield 181, 3), (55, .iconst 1, 1), (56, .iadd, 1), (57, .putfield 181, 3), (60, .iconst 1, 1), (61, .ireturn, 1)])
theorem T_X8_readMatter : zT M_X8_readMatter := zT_of (by decide +kernel)
theorem F_X8_readMatter : zMV M_X8_readMatter 0 := ⟨⟨zTT_in (i := 735) (by decide +kernel) rfl, zTT_in (i := 137) (by decide +kernel) rfl, ⟨by decide, by decide, by decide +kernel⟩, by decide⟩, zTT_in (i := 734) (by decide +kernel) rfl, zTT_in (i := 18) (by decide +kernel) rfl⟩
def M_X8_readWrote : zM := (⟨RX8, "readWrote", "()Z"⟩, prog_10_method_12_code, 5, (some .boolean), [(0, .aload_n 0, 1), (1, .getfield 28, 3), (4, .getfield 187, 3), (7, .getfield 191, 3), (10, .bipush 8, 2), (12, .if_icmp .lt 9, 3), (15, .aload_n 0, 1), (16, .iconst 5, 1), (17, .invokevirtual 62, 3), (20, .ireturn, 1), (21, .aload_n 0, 1), (22, .getfield 12, 3), (25, .invokevirtual 56, 3), (28, .aload_n 0, 1), (29, .iconst 4, 1), (30, .invokevirtual 161, 3), (33, .istore_n 1, 1), (34, .iload_n 1, 1), (35, .iconst (-1), 1), (36, .if_icmp .ne 7, 3), (39, .iconst (-1), 1), (40, .goto 8, 3), (43, .aload_n 0, 1), (44, .iconst 2, 1), (45, .invokevirtual 161, 3), (48, .istore_n 2, 1), (49, .iload_n 2, 1), (50, .iconst (-1), 1), (51, .if_icmp .ne 7, 3), (54, .iconst (-1), 1), (55, .goto 8, 3), (58, .aload_n 0, 1), (59, .iconst 5, 1), (60, .invokevirtual 161, 3), (63, .istore_n 3, 1), (64, .iload_n 3, 1), (65, .iconst (-1), 1), (66, .if_icmp .ne 5, 3), (69, .iconst 0, 1), (70, .ireturn, 1), (71, .aload_n 0, 1), (72, .invokevirtual 194, 3), (75, .istore 4, 2), (77, .iload 4, 2), (79, .iconst (-1), 1), (80, .if_icmp .ne 9, 3), (83, .aload_n 0, 1), (84, .iconst 1, 1), (85, .invokevirtual 62, 3), (88, .ireturn, 1), (89, .aload_n 0, 1), (90, .getfield 12, 3), (93, .invokevirtual 56, 3), (96, .aload_n 0, 1), (97, .ldc 197, 2), (99, .invokevirtual 104, 3), (102, .ifCond .eq 13, 3), (105, .aload_n 0, 1), (106, .iconst 1, 1), (107, .bipush 9, 2), (109, .invokevirtual 107, 3), (112, .ifCond .ne 5, 3), (115, .iconst 0, 1), (116, .ireturn, 1), (117, .aload_n 0, 1), (118, .getfield 12, 3), (121, .getfield 144, 3), (124, .aload_n 0, 1), (125, .getfield 28, 3), (128, .getfield 155, 3), (131, .iload_n 2, 1), (132, .iaload, 1), (133, .aload_n 0, 1), (134, .getfield 28, 3), (137, .getfield 187, 3), (140, .iload_n 2, 1), (141, .invokevirtual 198, 3), (144, .isub, 1), (145, .if_icmp .le 10, 3), (148, .aload_n 0, 1), (149, .bipush 7, 2), (151, .invokevirtual 62, 3), (154, .ireturn, 1), (155, .aload_n 0, 1), (156, .getfield 28, 3), (159, .getfield 187, 3), (162, .iload_n 1, 1), (163, .iload_n 2, 1), (164, .iload_n 3, 1), (165, .iload 4, 2), (167, .aload_n 0, 1), (168, .invokevirtual 110, 3), (171, .invokevirtual 201, 3), (174, .iconst 1, 1), (175, .ireturn, 1)])
theorem T_X8_readWrote : zT M_X8_readWrote := zT_of (by decide +kernel)
theorem F_X8_readWrote : zMV M_X8_readWrote 0 := ⟨⟨zTT_in (i := 739) (by decide +kernel) rfl, zTT_in (i := 137) (by decide +kernel) rfl, ⟨by decide, by decide, by decide +kernel⟩, by decide⟩, zTT_in (i := 738) (by decide +kernel) rfl, zTT_in (i := 19) (by decide +kernel) rfl⟩
def M_X8_readHidden : zM := (⟨RX8, "readHidden", "()Z"⟩, prog_10_method_13_code, 3, (some .boolean), [(0, .aload_n 0, 1), (1, .getfield 28, 3), (4, .getfield 205, 3), (7, .istore_n 1, 1), (8, .iload_n 1, 1), (9, .iconst 3, 1), (10, .if_icmp .lt 9, 3), (13, .aload_n 0, 1), (14, .iconst 5, 1), (15, .invokevirtual 62, 3), (18, .ireturn, 1), (19, .aload_n 0, 1), (20, .getfield 12, 3), (23, .invokevirtual 56, 3), (26, .aload_n 0, 1), (27, .iconst 2, 1), (28, .invokevirtual 161, 3), (31, .istore_n 2, 1), (32, .iload_n 2, 1), (33, .iconst (-1), 1), (34, .if_icmp .ne 5, 3), (37, .iconst 0, 1), (38, .ireturn, 1), (39, .aload_n 0, 1), (40, .getfield 28, 3), (43, .getfield 207, 3), (46, .iload_n 1, 1), (47, .iload_n 2, 1), (48, .iastore, 1), (49, .aload_n 0, 1), (50, .getfield 28, 3), (53, .dup, 1), (54, .getfield 205, 3), (57, .iconst 1, 1), (58, .iadd, 1), (59, .putfield 205, 3), (62, .iconst 1, 1), (63, .ireturn, 1)])
theorem T_X8_readHidden : zT M_X8_readHidden := zT_of (by decide +kernel)
theorem F_X8_readHidden : zMV M_X8_readHidden 0 := ⟨⟨zTT_in (i := 758) (by decide +kernel) rfl, zTT_in (i := 137) (by decide +kernel) rfl, ⟨by decide, by decide, by decide +kernel⟩, by decide⟩, zTT_in (i := 757) (by decide +kernel) rfl, zTT_in (i := 21) (by decide +kernel) rfl⟩
def M_X8_readDone : zM := (⟨RX8, "readDone", "()Z"⟩, prog_10_method_14_code, 4, (some .boolean), [(0, .aload_n 0, 1), (1, .getfield 12, 3), (4, .invokevirtual 56, 3), (7, .aload_n 0, 1), (8, .getfield 12, 3), (11, .getfield 69, 3), (14, .istore_n 1, 1), (15, .aload_n 0, 1), (16, .iconst 5, 1), (17, .invokevirtual 161, 3), (20, .istore_n 2, 1), (21, .iload_n 2, 1), (22, .iconst (-1), 1), (23, .if_icmp .ne 5, 3), (26, .iconst 0, 1), (27, .ireturn, 1), (28, .aload_n 0, 1), (29, .getfield 28, 3), (32, .getfield 184, 3), (35, .iload_n 2, 1), (36, .iaload, 1), (37, .iconst (-1), 1), (38, .if_icmp .eq 10, 3), (41, .aload_n 0, 1), (42, .iconst 3, 1), (43, .iload_n 1, 1), (44, .invokevirtual 72, 3), (47, .ireturn, 1), (48, .aload_n 0, 1), (49, .getfield 12, 3), (52, .ldc 210, 2), (54, .invokevirtual 78, 3), (57, .ifCond .eq 8, 3), (60, .bipush (-2), 2), (62, .goto 7, 3), (65, .aload_n 0, 1), (66, .invokevirtual 194, 3), (69, .istore_n 3, 1), (70, .iload_n 3, 1), (71, .iconst (-1), 1), (72, .if_icmp .ne 9, 3), (75, .aload_n 0, 1), (76, .iconst 1, 1), (77, .invokevirtual 62, 3), (80, .ireturn, 1), (81, .aload_n 0, 1), (82, .getfield 12, 3), (85, .invokevirtual 56, 3), (88, .aload_n 0, 1), (89, .getfield 28, 3), (92, .getfield 184, 3), (95, .iload_n 2, 1), (96, .iload_n 3, 1), (97, .iastore, 1), (98, .aload_n 0, 1), (99, .getfield 28, 3), (102, .dup, 1), (103, .getfield 212, 3), (106, .iconst 1, 1), (107, .iadd, 1), (108, .putfield 212, 3), (111, .iconst 1, 1), (112, .ireturn, 1)])
theorem T_X8_readDone : zT M_X8_readDone := zT_of (by decide +kernel)
theorem F_X8_readDone : zMV M_X8_readDone 0 := ⟨⟨zTT_in (i := 762) (by decide +kernel) rfl, zTT_in (i := 137) (by decide +kernel) rfl, ⟨by decide, by decide, by decide +kernel⟩, by decide⟩, zTT_in (i := 761) (by decide +kernel) rfl, zTT_in (i := 22) (by decide +kernel) rfl⟩
def M_X8_readBid : zM := (⟨RX8, "readBid", "()Z"⟩, prog_10_method_15_code, 4, (some .boolean), [(0, .aload_n 0, 1), (1, .getfield 28, 3), (4, .getfield 215, 3), (7, .getfield 219, 3), (10, .bipush 6, 2), (12, .if_icmp .lt 9, 3), (15, .aload_n 0, 1), (16, .iconst 5, 1), (17, .invokevirtual 62, 3), (20, .ireturn, 1), (21, .aload_n 0, 1), (22, .getfield 12, 3), (25, .invokevirtual 56, 3), (28, .aload_n 0, 1), (29, .iconst 4, 1), (30, .invokevirtual 161, 3), (33, .istore_n 1, 1), (34, .iload_n 1, 1), (35, .iconst (-1), 1), (36, .if_icmp .ne 7, 3), (39, .iconst (-1), 1), (40, .goto 8, 3), (43, .aload_n 0, 1), (44, .iconst 2, 1), (45, .invokevirtual 161, 3), (48, .istore_n 2, 1), (49, .iload_n 2, 1), (50, .iconst (-1), 1), (51, .if_icmp .eq 22, 3), (54, .aload_n 0, 1), (55, .ldc 197, 2), (57, .invokevirtual 104, 3), (60, .ifCond .eq 13, 3), (63, .aload_n 0, 1), (64, .iconst 1, 1), (65, .bipush 9, 2), (67, .invokevirtual 107, 3), (70, .ifCond .ne 5, 3), (73, .iconst 0, 1), (74, .ireturn, 1), (75, .aload_n 0, 1), (76, .invokevirtual 110, 3), (79, .istore_n 3, 1), (80, .aload_n 0, 1), (81, .ldc 222, 2), (83, .invokevirtual 104, 3), (86, .ifCond .eq 13, 3), (89, .aload_n 0, 1), (90, .iconst 0, 1), (91, .bipush 99, 2), (93, .invokevirtual 107, 3), (96, .ifCond .ne 5, 3), (99, .iconst 0, 1), (100, .ireturn, 1), (101, .aload_n 0, 1), (102, .getfield 28, 3), (105, .getfield 215, 3), (108, .iload_n 1, 1), (109, .iload_n 2, 1), (110, .iload_n 3, 1), (111, .aload_n 0, 1), (112, .invokevirtual 110, 3), (115, .invokevirtual 224, 3), (118, .iconst 1, 1), (119, .ireturn, 1)])
theorem T_X8_readBid : zT M_X8_readBid := zT_of (by decide +kernel)
theorem F_X8_readBid : zMV M_X8_readBid 0 := ⟨⟨zTT_in (i := 767) (by decide +kernel) rfl, zTT_in (i := 137) (by decide +kernel) rfl, ⟨by decide, by decide, by decide +kernel⟩, by decide⟩, zTT_in (i := 766) (by decide +kernel) rfl, zTT_in (i := 23) (by decide +kernel) rfl⟩
def M_X8_passWord : zM := (⟨RX8, "passWord", "(Ljava/lang/String;)Z"⟩, prog_10_method_16_code, 2, (some .boolean), [(0, .aload_n 0, 1), (1, .getfield 12, 3), (4, .aload_n 1, 1), (5, .invokevirtual 78, 3), (8, .ifCond .ne 9, 3), (11, .aload_n 0, 1), (12, .iconst 1, 1), (13, .invokevirtual 62, 3), (16, .ireturn, 1), (17, .aload_n 0, 1), (18, .getfield 12, 3), (21, .invokevirtual 56, 3), (24, .iconst 1, 1), (25, .ireturn, 1)])
theorem T_X8_passWord : zT M_X8_passWord := zT_of (by decide +kernel)
theorem F_X8_passWord : zMV M_X8_passWord 1 := ⟨⟨zTT_in (i := 676) (by decide +kernel) rfl, zTT_in (i := 137) (by decide +kernel) rfl, ⟨by decide, by decide, by decide +kernel⟩, by decide⟩, zTT_in (i := 675) (by decide +kernel) rfl, zTT_in (i := 9) (by decide +kernel) rfl⟩
def M_X8_isWhole : zM := (⟨RX8, "isWhole", "(II)Z"⟩, prog_10_method_17_code, 3, (some .boolean), [(0, .aload_n 0, 1), (1, .getfield 12, 3), (4, .getfield 53, 3), (7, .iconst 2, 1), (8, .if_icmp .eq 9, 3), (11, .aload_n 0, 1), (12, .iconst 1, 1), (13, .invokevirtual 62, 3), (16, .ireturn, 1), (17, .aload_n 0, 1), (18, .getfield 12, 3), (21, .getfield 144, 3), (24, .iload_n 1, 1), (25, .if_icmp .lt 14, 3), (28, .aload_n 0, 1), (29, .getfield 12, 3), (32, .getfield 144, 3), (35, .iload_n 2, 1), (36, .if_icmp .le 11, 3), (39, .aload_n 0, 1), (40, .iconst 4, 1), (41, .invokevirtual 62, 3), (44, .ifCond .eq 7, 3), (47, .iconst 1, 1), (48, .goto 4, 3), (51, .iconst 0, 1), (52, .ireturn, 1)])
theorem T_X8_isWhole : zT M_X8_isWhole := zT_of (by decide +kernel)
theorem F_X8_isWhole : zMV M_X8_isWhole 2 := ⟨⟨zTT_in (i := 680) (by decide +kernel) rfl, zTT_in (i := 137) (by decide +kernel) rfl, ⟨by decide, by decide, by decide +kernel⟩, by decide⟩, zTT_in (i := 679) (by decide +kernel) rfl, zTT_in (i := 10) (by decide +kernel) rfl⟩
def M_X8_passNumber : zM := (⟨RX8, "passNumbe\x72", "()I"⟩, prog_10_method_18_code, 2, (some .int), [(0, .aload_n 0, 1), (1, .getfield 12, 3), (4, .getfield 144, 3), (7, .istore_n 1, 1), (8, .aload_n 0, 1), (9, .getfield 12, 3), (12, .invokevirtual 56, 3), (15, .iload_n 1, 1), (16, .ireturn, 1)])
theorem T_X8_passNumber : zT M_X8_passNumber := zT_of (by decide +kernel)
theorem F_X8_passNumber : zMV M_X8_passNumber 0 := ⟨⟨zTT_in (i := 684) (by decide +kernel) rfl, zTT_in (i := 137) (by decide +kernel) rfl, ⟨by decide, by decide, by decide +kernel⟩, by decide⟩, zTT_in (i := 683) (by decide +kernel) rfl, zTT_in (i := 11) (by decide +kernel) rfl⟩
def M_X8_sayAtHand : zM := (⟨RX8, "sayAtHand", "()I"⟩, prog_10_method_19_code, 1, (some .int), [(0, .aload_n 0, 1), (1, .getfield 12, 3), (4, .ldc 227, 2), (6, .invokevirtual 78, 3), (9, .ifCond .eq 5, 3), (12, .iconst 1, 1), (13, .ireturn, 1), (14, .aload_n 0, 1), (15, .getfield 12, 3), (18, .ldc 229, 2), (20, .invokevirtual 78, 3), (23, .ifCond .eq 7, 3), (26, .iconst 0, 1), (27, .goto 4, 3), (30, .iconst (-1), 1), (31, .ireturn, 1)])
theorem T_X8_sayAtHand : zT M_X8_sayAtHand := zT_of (by decide +kernel)
theorem F_X8_sayAtHand : zMV M_X8_sayAtHand 0 := ⟨⟨zTT_in (i := 743) (by decide +kernel) rfl, zTT_in (i := 137) (by decide +kernel) rfl, ⟨by decide, by decide, by decide +kernel⟩, by decide⟩, zTT_in (i := 742) (by decide +kernel) rfl, zTT_in (i := 20) (by decide +kernel) rfl⟩
def M_X8_passNewName : zM := (⟨RX8, "passNewName", "(II)Z"⟩, prog_10_method_20_code, 3, (some .boolean), [(0, .aload_n 0, 1), (1, .getfield 12, 3), (4, .getfield 53, 3), (7, .iconst 1, 1), (8, .if_icmp .ne 10, 3), (11, .aload_n 0, 1), (12, .invokevirtual 98, 3), (15, .ifCond .eq 9, 3), (18, .aload_n 0, 1), (19, .iconst 1, 1), (20, .invokevirtual 62, 3), (23, .ireturn, 1), (24, .aload_n 0, 1), (25, .getfield 21, 3), (28, .aload_n 0, 1), (29, .getfield 12, 3), (32, .invokevirtual 231, 3), (35, .iconst (-1), 1), (36, .if_icmp .eq 9, 3), (39, .aload_n 0, 1), (40, .iconst 3, 1), (41, .invokevirtual 62, 3), (44, .ireturn, 1), (45, .aload_n 0, 1), (46, .getfield 21, 3), (49, .aload_n 0, 1), (50, .getfield 12, 3), (53, .iload_n 1, 1), (54, .iload_n 2, 1), (55, .invokevirtual 235, 3), (58, .aload_n 0, 1), (59, .getfield 12, 3), (62, .invokevirtual 56, 3), (65, .iconst 1, 1), (66, .ireturn, 1)])
theorem T_X8_passNewName : zT M_X8_passNewName := zT_of (by decide +kernel)
theorem F_X8_passNewName : zMV M_X8_passNewName 2 := ⟨⟨zTT_in (i := 696) (by decide +kernel) rfl, zTT_in (i := 137) (by decide +kernel) rfl, ⟨by decide, by decide, by decide +kernel⟩, by decide⟩, zTT_in (i := 695) (by decide +kernel) rfl, zTT_in (i := 14) (by decide +kernel) rfl⟩
def M_X8_passName : zM := (⟨RX8, "passName", "(I)I"⟩, prog_10_method_21_code, 3, (some .int), [(0, .aload_n 0, 1), (1, .getfield 12, 3), (4, .getfield 53, 3), (7, .iconst 1, 1), (8, .if_icmp .ne 10, 3), (11, .aload_n 0, 1), (12, .invokevirtual 98, 3), (15, .ifCond .eq 11, 3), (18, .aload_n 0, 1), (19, .iconst 1, 1), (20, .invokevirtual 62, 3), (23, .pop, 1), (24, .iconst (-1), 1), (25, .ireturn, 1), (26, .aload_n 0, 1), (27, .getfield 21, 3), (30, .aload_n 0, 1), (31, .getfield 12, 3), (34, .invokevirtual 231, 3), (37, .istore_n 2, 1), (38, .iload_n 2, 1), (39, .iconst (-1), 1), (40, .if_icmp .eq 16, 3), (43, .aload_n 0, 1), (44, .getfield 21, 3), (47, .getfield 238, 3), (50, .iload_n 2, 1), (51, .iaload, 1), (52, .iload_n 1, 1), (53, .if_icmp .eq 11, 3), (56, .aload_n 0, 1), (57, .iconst 2, 1), (58, .invokevirtual 62, 3), (61, .pop, 1), (62, .iconst (-1), 1), (63, .ireturn, 1), (64, .aload_n 0, 1), (65, .getfield 12, 3), (68, .invokevirtual 56, 3), (71, .aload_n 0, 1), (72, .getfield 21, 3), (75, .getfield 241, 3), (78, .iload_n 2, 1), (79, .iaload, 1), (80, .ireturn, 1)])
theorem T_X8_passName : zT M_X8_passName := zT_of (by decide +kernel)
theorem F_X8_passName : zMV M_X8_passName 1 := ⟨⟨zTT_in (i := 722) (by decide +kernel) rfl, zTT_in (i := 137) (by decide +kernel) rfl, ⟨by decide, by decide, by decide +kernel⟩, by decide⟩, zTT_in (i := 721) (by decide +kernel) rfl, zTT_in (i := 16) (by decide +kernel) rfl⟩
def M_X9_append : zM := (⟨RX9, "append", "(I)V"⟩, prog_11_method_2_code, 3, none, [(0, .bipush 24, 2), (2, .istore_n 2, 1), (3, .iload_n 2, 1), (4, .ifCond .lt 42, 3), (7, .aload_n 0, 1), (8, .getfield 15, 3), (11, .sipush 900, 3), (14, .if_icmp .ge 26, 3), (17, .aload_n 0, 1), (18, .getfield 9, 3), (21, .aload_n 0, 1), (22, .getfield 15, 3), (25, .iload_n 1, 1), (26, .iload_n 2, 1), (27, .ishr, 1), (28, .i2b, 1), (29, .bastore, 1), (30, .aload_n 0, 1), (31, .dup, 1), (32, .getfield 15, 3), (35, .iconst 1, 1), (36, .iadd, 1), (37, .putfield 15, 3), (40, .iinc 2 (-8), 3), (43, .goto (-40), 3), (46, .return_, 1)])
theorem T_X9_append : zT M_X9_append := zT_of (by decide +kernel)
theorem F_X9_append : zMV M_X9_append 1 := ⟨⟨zTT_in (i := 549) (by decide +kernel) rfl, zTT_in (i := 138) (by decide +kernel) rfl, ⟨by decide, by decide, by decide +kernel⟩, by decide⟩, zTT_in (i := 547) (by decide +kernel) rfl, zTT_in (i := 548) (by decide +kernel) rfl⟩
def M_X9_start : zM := (⟨RX9, "start", "(I)V"⟩, prog_11_method_3_code, 2, none, [(0, .aload_n 0, 1), (1, .iload_n 1, 1), (2, .putfield 19, 3), (5, .aload_n 0, 1), (6, .iconst 0, 1), (7, .putfield 22, 3), (10, .aload_n 0, 1), (11, .invokevirtual 25, 3), (14, .return_, 1)])
theorem T_X9_start : zT M_X9_start := zT_of (by decide +kernel)
theorem F_X9_start : zMV M_X9_start 1 := ⟨⟨zTT_in (i := 573) (by decide +kernel) rfl, zTT_in (i := 138) (by decide +kernel) rfl, ⟨by decide, by decide, by decide +kernel⟩, by decide⟩, zTT_in (i := 571) (by decide +kernel) rfl, zTT_in (i := 572) (by decide +kernel) rfl⟩
def M_X9_next : zM := (⟨RX9, "next", "()V"⟩, prog_11_method_4_code, 1, none, [(0, .aload_n 0, 1), (1, .aload_n 0, 1), (2, .getfield 22, 3), (5, .putfield 28, 3), (8, .aload_n 0, 1), (9, .getfield 28, 3), (12, .aload_n 0, 1), (13, .getfield 19, 3), (16, .if_icmp .ge 30, 3), (19, .aload_n 0, 1), (20, .getfield 9, 3), (23, .aload_n 0, 1), (24, .getfield 28, 3), (27, .baload, 1), (28, .bipush 32, 2), (30, .if_icmp .ne 16, 3), (33, .aload_n 0, 1), (34, .dup, 1), (35, .getfield 28, 3), (38, .iconst 1, 1), (39, .iadd, 1), (40, .putfield 28, 3), (43, .goto (-35), 3), (46, .aload_n 0, 1), (47, .aload_n 0, 1), (48, .getfield 28, 3), (51, .putfield 22, 3), (54, .aload_n 0, 1), (55, .getfield 28, 3), (58, .aload_n 0, 1), (59, .getfield 19, 3), (62, .if_icmp .lt 11, 3), (65, .aload_n 0, 1), (66, .iconst 0, 1), (67, .putfield 31, 3), (70, .goto 72, 3), (73, .aload_n 0, 1), (74, .aload_n 0, 1), (75, .getfield 28, 3), (78, .invokevirtual 34, 3), (81, .ifCond .eq 10, 3), (84, .aload_n 0, 1), (85, .invokevirtual 38, 3), (88, .goto 54, 3), (91, .aload_n 0, 1), (92, .aload_n 0, 1), (93, .getfield 28, 3), (96, .invokevirtual 41, 3), (99, .ifCond .eq 10, 3), (102, .aload_n 0, 1), (103, .invokevirtual 44, 3), (106, .goto 36, 3), (109, .aload_n 0, 1), (110, .aload_n 0, 1), (111, .getfield 9, 3), (114, .aload_n 0, 1), (115, .getfield 28, 3), (118, .baload, 1), (119, .bipush 59, 2), (121, .if_icmp .ne 7, 3), (124, .iconst 3, 1), (125, .goto 4, 3), (128, .iconst 4, 1), (129, .putfield 31, 3), (132, .aload_n 0, 1), (133, .dup, 1), (134, .getfield 22, 3), (137, .iconst 1, 1), (138, .iadd, 1), (139, .putfield 22, 3), (142, .return_, 1)])
theorem T_X9_next : zT M_X9_next := zT_of (by decide +kernel)
theorem F_X9_next : zMV M_X9_next 0 := ⟨⟨zTT_in (i := 577) (by decide +kernel) rfl, zTT_in (i := 138) (by decide +kernel) rfl, ⟨by decide, by decide, by decide +kernel⟩, by decide⟩, zTT_in (i := 575) (by decide +kernel) rfl, zTT_in (i := 576) (by decide +kernel) rfl⟩
def M_X9_isSmall : zM := (⟨RX9, "isSmall", "(I)Z"⟩, prog_11_method_5_code, 2, (some .boolean), [(0, .aload_n 0, 1), (1, .getfield 9, 3), (4, .iload_n 1, 1), (5, .baload, 1), (6, .bipush 97, 2), (8, .if_icmp .lt 18, 3), (11, .aload_n 0, 1), (12, .getfield 9, 3), (15, .iload_n 1, 1), (16, .baload, 1), (17, .bipush 122, 2), (19, .if_icmp .gt 7, 3), (22, .iconst 1, 1), (23, .goto 4, 3), (26, .iconst 0, 1), (27, .ireturn, 1)])
theorem T_X9_isSmall : zT M_X9_isSmall := zT_of (by decide +kernel)
theorem F_X9_isSmall : zMV M_X9_isSmall 1 := ⟨⟨zTT_in (i := 581) (by decide +kernel) rfl, zTT_in (i := 138) (by decide +kernel) rfl, ⟨by decide, by decide, by decide +kernel⟩, by decide⟩, zTT_in (i := 580) (by decide +kernel) rfl, zTT_in (i := 1) (by decide +kernel) rfl⟩
def M_X9_isDigit : zM := (⟨RX9, "isDigit", "(I)Z"⟩, prog_11_method_6_code, 2, (some .boolean), [(0, .aload_n 0, 1), (1, .getfield 9, 3), (4, .iload_n 1, 1), (5, .baload, 1), (6, .bipush 48, 2), (8, .if_icmp .lt 18, 3), (11, .aload_n 0, 1), (12, .getfield 9, 3), (15, .iload_n 1, 1), (16, .baload, 1), (17, .bipush 57, 2), (19, .if_icmp .gt 7, 3), (22, .iconst 1, 1), (23, .goto 4, 3), (26, .iconst 0, 1), (27, .ireturn, 1)])
theorem T_X9_isDigit : zT M_X9_isDigit := zT_of (by decide +kernel)
theorem F_X9_isDigit : zMV M_X9_isDigit 1 := ⟨⟨zTT_in (i := 589) (by decide +kernel) rfl, zTT_in (i := 138) (by decide +kernel) rfl, ⟨by decide, by decide, by decide +kernel⟩, by decide⟩, zTT_in (i := 588) (by decide +kernel) rfl, zTT_in (i := 3) (by decide +kernel) rfl⟩
def M_X9_readWord : zM := (⟨RX9, "readWord", "()V"⟩, prog_11_method_7_code, 1, none, [(0, .aload_n 0, 1), (1, .getfield 22, 3), (4, .aload_n 0, 1), (5, .getfield 19, 3), (8, .if_icmp .ge 27, 3), (11, .aload_n 0, 1), (12, .aload_n 0, 1), (13, .getfield 22, 3), (16, .invokevirtual 34, 3), (19, .ifCond .eq 16, 3), (22, .aload_n 0, 1), (23, .dup, 1), (24, .getfield 22, 3), (27, .iconst 1, 1), (28, .iadd, 1), (29, .putfield 22, 3), (32, .goto (-32), 3), (35, .aload_n 0, 1), (36, .aload_n 0, 1), (37, .getfield 22, 3), (40, .aload_n 0, 1), (41, .getfield 28, 3), (44, .isub, 1), (45, .bipush 8, 2), (47, .if_icmp .gt 7, 3), (50, .iconst 1, 1), (51, .goto 4, 3), (54, .iconst 4, 1), (55, .putfield 31, 3), (58, .return_, 1)])
theorem T_X9_readWord : zT M_X9_readWord := zT_of (by decide +kernel)
theorem F_X9_readWord : zMV M_X9_readWord 0 := ⟨⟨zTT_in (i := 585) (by decide +kernel) rfl, zTT_in (i := 138) (by decide +kernel) rfl, ⟨by decide, by decide, by decide +kernel⟩, by decide⟩, zTT_in (i := 584) (by decide +kernel) rfl, zTT_in (i := 2) (by decide +kernel) rfl⟩
def M_X9_readWhole : zM := (⟨RX9, "readWhole", "()V"⟩, prog_11_method_8_code, 1, none, [(0, .aload_n 0, 1), (1, .iconst 0, 1), (2, .putfield 47, 3), (5, .aload_n 0, 1), (6, .getfield 22, 3), (9, .aload_n 0, 1), (10, .getfield 19, 3), (13, .if_icmp .ge 51, 3), (16, .aload_n 0, 1), (17, .aload_n 0, 1), (18, .getfield 22, 3), (21, .invokevirtual 41, 3), (24, .ifCond .eq 40, 3), (27, .aload_n 0, 1), (28, .bipush 10, 2), (30, .aload_n 0, 1), (31, .getfield 47, 3), (34, .imul, 1), (35, .aload_n 0, 1), (36, .getfield 9, 3), (39, .aload_n 0, 1), (40, .getfield 22, 3), (43, .baload, 1), (44, .iadd, 1), (45, .bipush 48, 2), (47, .isub, 1), (48, .putfield 47, 3), (51, .aload_n 0, 1), (52, .dup, 1), (53, .getfield 22, 3), (56, .iconst 1, 1), (57, .iadd, 1), (58, .putfield 22, 3), (61, .goto (-56), 3), (64, .aload_n 0, 1), (65, .aload_n 0, 1), (66, .getfield 22, 3), (69, .aload_n 0, 1), (70, .getfield 28, 3), (73, .isub, 1), (74, .iconst 3, 1), (75, .if_icmp .gt 7, 3), (78, .iconst 2, 1), (79, .goto 4, 3), (82, .iconst 4, 1), (83, .putfield 31, 3), (86, .return_, 1)])
theorem T_X9_readWhole : zT M_X9_readWhole := zT_of (by decide +kernel)
theorem F_X9_readWhole : zMV M_X9_readWhole 0 := ⟨⟨zTT_in (i := 593) (by decide +kernel) rfl, zTT_in (i := 138) (by decide +kernel) rfl, ⟨by decide, by decide, by decide +kernel⟩, by decide⟩, zTT_in (i := 592) (by decide +kernel) rfl, zTT_in (i := 4) (by decide +kernel) rfl⟩
def M_X9_isWord : zM := (⟨RX9, "isWord", "(Ljava/lang/String;)Z"⟩, prog_11_method_9_code, 3, (some .boolean), [(0, .aload_n 0, 1), (1, .getfield 31, 3), (4, .iconst 1, 1), (5, .if_icmp .ne 19, 3), (8, .aload_n 0, 1), (9, .getfield 22, 3), (12, .aload_n 0, 1), (13, .getfield 28, 3), (16, .isub, 1), (17, .aload_n 1, 1), (18, .invokevirtual 50, 3), (21, .if_icmp .eq 5, 3), (24, .iconst 0, 1), (25, .ireturn, 1), (26, .iconst 0, 1), (27, .istore_n 2, 1), (28, .iload_n 2, 1), (29, .aload_n 1, 1), (30, .invokevirtual 50, 3), (33, .if_icmp .ge 30, 3), (36, .aload_n 0, 1), (37, .getfield 9, 3), (40, .aload_n 0, 1), (41, .getfield 28, 3), (44, .iload_n 2, 1), (45, .iadd, 1), (46, .baload, 1), (47, .aload_n 1, 1), (48, .iload_n 2, 1), (49, .invokevirtual 56, 3), (52, .if_icmp .eq 5, 3), (55, .iconst 0, 1), (56, .ireturn, 1), (57, .iinc 2 1, 3), (60, .goto (-32), 3), (63, .iconst 1, 1), (64, .ireturn, 1)])
theorem T_X9_isWord : zT M_X9_isWord := zT_of (by decide +kernel)
theorem F_X9_isWord : zMV M_X9_isWord 1 := ⟨⟨zTT_in (i := 606) (by decide +kernel) rfl, zTT_in (i := 138) (by decide +kernel) rfl, ⟨by decide, by decide, by decide +kernel⟩, by decide⟩, zTT_in (i := 604) (by decide +kernel) rfl, zTT_in (i := 605) (by decide +kernel) rfl⟩
def M_X9_isSame : zM := (⟨RX9, "isSame", "(II)Z"⟩, prog_11_method_10_code, 4, (some .boolean), [(0, .aload_n 0, 1), (1, .getfield 22, 3), (4, .aload_n 0, 1), (5, .getfield 28, 3), (8, .isub, 1), (9, .iload_n 2, 1), (10, .if_icmp .eq 5, 3), (13, .iconst 0, 1), (14, .ireturn, 1), (15, .iconst 0, 1), (16, .istore_n 3, 1), (17, .iload_n 3, 1), (18, .iload_n 2, 1), (19, .if_icmp .ge 33, 3), (22, .aload_n 0, 1), (23, .getfield 9, 3), (26, .aload_n 0, 1), (27, .getfield 28, 3), (30, .iload_n 3, 1), (31, .iadd, 1), (32, .baload, 1), (33, .aload_n 0, 1), (34, .getfield 9, 3), (37, .iload_n 1, 1), (38, .iload_n 3, 1), (39, .iadd, 1), (40, .baload, 1), (41, .if_icmp .eq 5, 3), (44, .iconst 0, 1), (45, .ireturn, 1), (46, .iinc 3 1, 3), (49, .goto (-32), 3), (52, .iconst 1, 1), (53, .ireturn, 1)])
theorem T_X9_isSame : zT M_X9_isSame := zT_of (by decide +kernel)
theorem F_X9_isSame : zMV M_X9_isSame 2 := ⟨⟨zTT_in (i := 704) (by decide +kernel) rfl, zTT_in (i := 138) (by decide +kernel) rfl, ⟨by decide, by decide, by decide +kernel⟩, by decide⟩, zTT_in (i := 702) (by decide +kernel) rfl, zTT_in (i := 703) (by decide +kernel) rfl⟩
def M_X10_feed : zM := (⟨RX10, "feed", "(IIIII)I"⟩, prog_1_method_2_code, 7, (some .int), [(0, .aload_n 0, 1), (1, .getfield 12, 3), (4, .getfield 69, 3), (7, .astore 6, 2), (9, .aload 6, 2), (11, .getfield 73, 3), (14, .bipush 20, 2), (16, .iadd, 1), (17, .sipush 900, 3), (20, .if_icmp .le 5, 3), (23, .iconst (-1), 1), (24, .ireturn, 1), (25, .aload 6, 2), (27, .iload_n 1, 1), (28, .invokevirtual 78, 3), (31, .aload 6, 2), (33, .iload_n 2, 1), (34, .invokevirtual 78, 3), (37, .aload 6, 2), (39, .iload_n 3, 1), (40, .invokevirtual 78, 3), (43, .aload 6, 2), (45, .iload 4, 2), (47, .invokevirtual 78, 3), (50, .aload 6, 2), (52, .iload 5, 2), (54, .invokevirtual 78, 3), (57, .aload 6, 2), (59, .getfield 73, 3), (62, .ireturn, 1)])
theorem T_X10_feed : zT M_X10_feed := zT_of (by decide +kernel)
theorem F_X10_feed : zMV M_X10_feed 5 := ⟨⟨zTT_in (i := 545) (by decide +kernel) rfl, zTT_in (i := 136) (by decide +kernel) rfl, ⟨by decide, by decide, by decide +kernel⟩, by decide⟩, zTT_in (i := 543) (by decide +kernel) rfl, zTT_in (i := 544) (by decide +kernel) rfl⟩
def M_X10_letter : zM := (⟨RX10, "lette\x72", "(I)I"⟩, prog_1_method_3_code, 3, (some .int), [(0, .iload_n 1, 1), (1, .ifCond .lt 17, 3), (4, .iload_n 1, 1), (5, .aload_n 0, 1), (6, .getfield 12, 3), (9, .getfield 69, 3), (12, .getfield 73, 3), (15, .if_icmp .le 9, 3), (18, .aload_n 0, 1), (19, .iconst 2, 1), (20, .invokevirtual 82, 3), (23, .ireturn, 1), (24, .aload_n 0, 1), (25, .getfield 12, 3), (28, .iload_n 1, 1), (29, .invokevirtual 86, 3), (32, .aload_n 0, 1), (33, .getfield 12, 3), (36, .getfield 69, 3), (39, .iconst 0, 1), (40, .putfield 73, 3), (43, .aload_n 0, 1), (44, .aload_n 0, 1), (45, .getfield 12, 3), (48, .getfield 89, 3), (51, .putfield 92, 3), (54, .aload_n 0, 1), (55, .aload_n 0, 1), (56, .getfield 12, 3), (59, .getfield 93, 3), (62, .putfield 65, 3), (65, .aload_n 0, 1), (66, .getfield 92, 3), (69, .ifCond .eq 9, 3), (72, .aload_n 0, 1), (73, .iconst 4, 1), (74, .invokevirtual 82, 3), (77, .ireturn, 1), (78, .aload_n 0, 1), (79, .getfield 61, 3), (82, .astore_n 2, 1), (83, .aload_n 0, 1), (84, .aload_n 0, 1), (85, .getfield 12, 3), (88, .getfield 94, 3), (91, .putfield 61, 3), (94, .aload_n 0, 1), (95, .getfield 12, 3), (98, .aload_n 2, 1), (99, .putfield 94, 3), (102, .aload_n 0, 1), (103, .getfield 29, 3), (106, .aload_n 0, 1), (107, .getfield 61, 3), (110, .getfield 97, 3), (113, .invokevirtual 100, 3), (116, .aload_n 0, 1), (117, .getfield 19, 3), (120, .aload_n 0, 1), (121, .getfield 61, 3), (124, .iconst 0, 1), (125, .invokevirtual 104, 3), (128, .aload_n 0, 1), (129, .getfield 47, 3), (132, .iconst 0, 1), (133, .putfield 108, 3), (136, .aload_n 0, 1), (137, .getfield 40, 3), (140, .iconst 0, 1), (141, .putfield 112, 3), (144, .aload_n 0, 1), (145, .iconst 0, 1), (146, .putfield 115, 3), (149, .aload_n 0, 1), (150, .aload_n 0, 1), (151, .getfield 61, 3), (154, .getfield 118, 3), (157, .invokevirtual 121, 3), (160, .ireturn, 1)])
theorem T_X10_letter : zT M_X10_letter := zT_of (by decide +kernel)
theorem F_X10_letter : zMV M_X10_letter 1 := ⟨⟨zTT_in (i := 553) (by decide +kernel) rfl, zTT_in (i := 136) (by decide +kernel) rfl, ⟨by decide, by decide, by decide +kernel⟩, by decide⟩, zTT_in (i := 551) (by decide +kernel) rfl, zTT_in (i := 552) (by decide +kernel) rfl⟩
def M_X10_fault : zM := (⟨RX10, "fault", "()I"⟩, prog_1_method_4_code, 1, (some .int), [(0, .aload_n 0, 1), (1, .getfield 92, 3), (4, .ireturn, 1)])
theorem T_X10_fault : zT M_X10_fault := zT_of (by decide +kernel)
theorem F_X10_fault : zMV M_X10_fault 0 := ⟨⟨zTT_in (i := 788) (by decide +kernel) rfl, zTT_in (i := 136) (by decide +kernel) rfl, ⟨by decide, by decide, by decide +kernel⟩, by decide⟩, zTT_in (i := 786) (by decide +kernel) rfl, zTT_in (i := 787) (by decide +kernel) rfl⟩
def M_X10_where : zM := (⟨RX10, "where", "()I"⟩, prog_1_method_5_code, 1, (some .int), [(0, .aload_n 0, 1), (1, .getfield 124, 3), (4, .iconst 4, 1), (5, .if_icmp .ne 10, 3), (8, .aload_n 0, 1), (9, .getfield 65, 3), (12, .goto 4, 3), (15, .iconst (-1), 1), (16, .ireturn, 1)])
theorem T_X10_where : zT M_X10_where := zT_of (by decide +kernel)
theorem F_X10_where : zMV M_X10_where 0 := ⟨⟨zTT_in (i := 792) (by decide +kernel) rfl, zTT_in (i := 136) (by decide +kernel) rfl, ⟨by decide, by decide, by decide +kernel⟩, by decide⟩, zTT_in (i := 790) (by decide +kernel) rfl, zTT_in (i := 791) (by decide +kernel) rfl⟩
def M_X10_place : zM := (⟨RX10, "place", "(II)I"⟩, prog_1_method_6_code, 3, (some .int), [(0, .aload_n 0, 1), (1, .iload_n 1, 1), (2, .invokevirtual 127, 3), (5, .ifCond .ne 9, 3), (8, .aload_n 0, 1), (9, .iconst 1, 1), (10, .invokevirtual 82, 3), (13, .ireturn, 1), (14, .iload_n 2, 1), (15, .tableswitch 118 0 5 #[37, 51, 65, 75, 89, 102], 37), (52, .aload_n 0, 1), (53, .aload_n 0, 1), (54, .getfield 61, 3), (57, .getfield 131, 3), (60, .iload_n 1, 1), (61, .iaload, 1), (62, .invokevirtual 121, 3), (65, .ireturn, 1), (66, .aload_n 0, 1), (67, .aload_n 0, 1), (68, .getfield 61, 3), (71, .getfield 135, 3), (74, .iload_n 1, 1), (75, .iaload, 1), (76, .invokevirtual 121, 3), (79, .ireturn, 1), (80, .aload_n 0, 1), (81, .aload_n 0, 1), (82, .iload_n 1, 1), (83, .invokevirtual 138, 3), (86, .invokevirtual 121, 3), (89, .ireturn, 1), (90, .aload_n 0, 1), (91, .aload_n 0, 1), (92, .getfield 19, 3), (95, .getfield 141, 3), (98, .iload_n 1, 1), (99, .iaload, 1), (100, .invokevirtual 121, 3), (103, .ireturn, 1), (104, .aload_n 0, 1), (105, .aload_n 0, 1), (106, .getfield 29, 3), (109, .iload_n 1, 1), (110, .invokevirtual 144, 3), (113, .invokevirtual 121, 3), (116, .ireturn, 1), (117, .aload_n 0, 1), (118, .aload_n 0, 1), (119, .getfield 29, 3), (122, .getfield 147, 3), (125, .iload_n 1, 1), (126, .ishr, 1), (127, .iconst 1, 1), (128, .iand, 1), (129, .invokevirtual 121, 3), (132, .ireturn, 1), (133, .aload_n 0, 1), (134, .iconst 1, 1), (135, .invokevirtual 82, 3), (138, .ireturn, 1)])
theorem T_X10_place : zT M_X10_place := zT_of (by decide +kernel)
theorem F_X10_place : zMV M_X10_place 2 := ⟨⟨zTT_in (i := 796) (by decide +kernel) rfl, zTT_in (i := 136) (by decide +kernel) rfl, ⟨by decide, by decide, by decide +kernel⟩, by decide⟩, zTT_in (i := 794) (by decide +kernel) rfl, zTT_in (i := 795) (by decide +kernel) rfl⟩
def M_X10_hand : zM := (⟨RX10, "hand", "(II)I"⟩, prog_1_method_7_code, 3, (some .int), [(0, .aload_n 0, 1), (1, .iload_n 1, 1), (2, .invokevirtual 150, 3), (5, .ifCond .ne 9, 3), (8, .aload_n 0, 1), (9, .iconst 1, 1), (10, .invokevirtual 82, 3), (13, .ireturn, 1), (14, .iload_n 2, 1), (15, .tableswitch 62 0 2 #[25, 39, 52], 25), (40, .aload_n 0, 1), (41, .aload_n 0, 1), (42, .getfield 61, 3), (45, .getfield 153, 3), (48, .iload_n 1, 1), (49, .iaload, 1), (50, .invokevirtual 121, 3), (53, .ireturn, 1), (54, .aload_n 0, 1), (55, .aload_n 0, 1), (56, .getfield 29, 3), (59, .iload_n 1, 1), (60, .invokevirtual 156, 3), (63, .invokevirtual 121, 3), (66, .ireturn, 1), (67, .aload_n 0, 1), (68, .aload_n 0, 1), (69, .iload_n 1, 1), (70, .invokevirtual 159, 3), (73, .invokevirtual 121, 3), (76, .ireturn, 1), (77, .aload_n 0, 1), (78, .iconst 1, 1), (79, .invokevirtual 82, 3), (82, .ireturn, 1)])
theorem T_X10_hand : zT M_X10_hand := zT_of (by decide +kernel)
theorem F_X10_hand : zMV M_X10_hand 2 := ⟨⟨zTT_in (i := 813) (by decide +kernel) rfl, zTT_in (i := 136) (by decide +kernel) rfl, ⟨by decide, by decide, by decide +kernel⟩, by decide⟩, zTT_in (i := 811) (by decide +kernel) rfl, zTT_in (i := 812) (by decide +kernel) rfl⟩
def M_X10_line : zM := (⟨RX10, "line", "(II)I"⟩, prog_1_method_8_code, 3, (some .int), [(0, .aload_n 0, 1), (1, .iload_n 1, 1), (2, .invokevirtual 162, 3), (5, .ifCond .ne 9, 3), (8, .aload_n 0, 1), (9, .iconst 1, 1), (10, .invokevirtual 82, 3), (13, .ireturn, 1), (14, .iload_n 2, 1), (15, .tableswitch 157 0 7 #[45, 59, 73, 87, 101, 115, 131, 147], 45), (60, .aload_n 0, 1), (61, .aload_n 0, 1), (62, .getfield 29, 3), (65, .getfield 165, 3), (68, .iload_n 1, 1), (69, .iaload, 1), (70, .invokevirtual 121, 3), (73, .ireturn, 1), (74, .aload_n 0, 1), (75, .aload_n 0, 1), (76, .getfield 29, 3), (79, .getfield 168, 3), (82, .iload_n 1, 1), (83, .iaload, 1), (84, .invokevirtual 121, 3), (87, .ireturn, 1), (88, .aload_n 0, 1), (89, .aload_n 0, 1), (90, .getfield 29, 3), (93, .getfield 171, 3), (96, .iload_n 1, 1), (97, .iaload, 1), (98, .invokevirtual 121, 3), (101, .ireturn, 1), (102, .aload_n 0, 1), (103, .aload_n 0, 1), (104, .getfield 29, 3), (107, .getfield 174, 3), (110, .iload_n 1, 1), (111, .iaload, 1), (112, .invokevirtual 121, 3), (115, .ireturn, 1), (116, .aload_n 0, 1), (117, .aload_n 0, 1), (118, .getfield 29, 3), (121, .getfield 177, 3), (124, .iload_n 1, 1), (125, .iaload, 1), (126, .invokevirtual 121, 3), (129, .ireturn, 1), (130, .aload_n 0, 1), (131, .aload_n 0, 1), (132, .getfield 29, 3), (135, .getfield 178, 3), (138, .iload_n 1, 1), (139, .ishr, 1), (140, .iconst 1, 1), (141, .iand, 1), (142, .invokevirtual 121, 3), (145, .ireturn, 1), (146, .aload_n 0, 1), (147, .aload_n 0, 1), (148, .getfield 29, 3), (151, .invokevirtual 181, 3), (154, .iload_n 1, 1), (155, .ishr, 1), (156, .iconst 1, 1), (157, .iand, 1), (158, .invokevirtual 121, 3), (161, .ireturn, 1), (162, .aload_n 0, 1), (163, .aload_n 0, 1), (164, .iload_n 1, 1), (165, .invokevirtual 185, 3), (168, .invokevirtual 121, 3), (171, .ireturn, 1), (172, .aload_n 0, 1), (173, .iconst 1, 1), (174, .invokevirtual 82, 3), (177, .ireturn, 1)])
theorem T_X10_line : zT M_X10_line := zT_of (by decide +kernel)
theorem F_X10_line : zMV M_X10_line 2 := ⟨⟨zTT_in (i := 849) (by decide +kernel) rfl, zTT_in (i := 136) (by decide +kernel) rfl, ⟨by decide, by decide, by decide +kernel⟩, by decide⟩, zTT_in (i := 847) (by decide +kernel) rfl, zTT_in (i := 848) (by decide +kernel) rfl⟩
def M_X10_done : zM := (⟨RX10, "done", "(I)I"⟩, prog_1_method_9_code, 2, (some .int), [(0, .aload_n 0, 1), (1, .iload_n 1, 1), (2, .invokevirtual 188, 3), (5, .ifCond .eq 22, 3), (8, .aload_n 0, 1), (9, .aload_n 0, 1), (10, .iload_n 1, 1), (11, .aload_n 0, 1), (12, .getfield 29, 3), (15, .invokevirtual 181, 3), (18, .invokevirtual 191, 3), (21, .invokevirtual 121, 3), (24, .goto 8, 3), (27, .aload_n 0, 1), (28, .iconst 1, 1), (29, .invokevirtual 82, 3), (32, .ireturn, 1)])
theorem T_X10_done : zT M_X10_done := zT_of (by decide +kernel)
theorem F_X10_done : zMV M_X10_done 1 := ⟨⟨zTT_in (i := 861) (by decide +kernel) rfl, zTT_in (i := 136) (by decide +kernel) rfl, ⟨by decide, by decide, by decide +kernel⟩, by decide⟩, zTT_in (i := 859) (by decide +kernel) rfl, zTT_in (i := 860) (by decide +kernel) rfl⟩
def M_X10_stands : zM := (⟨RX10, "stands", "(I)I"⟩, prog_1_method_10_code, 2, (some .int), [(0, .aload_n 0, 1), (1, .iload_n 1, 1), (2, .invokevirtual 188, 3), (5, .ifCond .eq 22, 3), (8, .aload_n 0, 1), (9, .aload_n 0, 1), (10, .iload_n 1, 1), (11, .aload_n 0, 1), (12, .getfield 29, 3), (15, .invokevirtual 181, 3), (18, .invokevirtual 195, 3), (21, .invokevirtual 121, 3), (24, .goto 8, 3), (27, .aload_n 0, 1), (28, .iconst 1, 1), (29, .invokevirtual 82, 3), (32, .ireturn, 1)])
theorem T_X10_stands : zT M_X10_stands := zT_of (by decide +kernel)
theorem F_X10_stands : zMV M_X10_stands 1 := ⟨⟨zTT_in (i := 882) (by decide +kernel) rfl, zTT_in (i := 136) (by decide +kernel) rfl, ⟨by decide, by decide, by decide +kernel⟩, by decide⟩, zTT_in (i := 880) (by decide +kernel) rfl, zTT_in (i := 881) (by decide +kernel) rfl⟩
def M_X10_allDone : zM := (⟨RX10, "allDone", "()I"⟩, prog_1_method_11_code, 4, (some .int), [(0, .aload_n 0, 1), (1, .invokevirtual 198, 3), (4, .ifCond .eq 9, 3), (7, .aload_n 0, 1), (8, .iconst 1, 1), (9, .invokevirtual 82, 3), (12, .ireturn, 1), (13, .aload_n 0, 1), (14, .getfield 29, 3), (17, .invokevirtual 181, 3), (20, .istore_n 1, 1), (21, .iconst 0, 1), (22, .istore_n 2, 1), (23, .iconst 0, 1), (24, .istore_n 3, 1), (25, .iload_n 3, 1), (26, .aload_n 0, 1), (27, .getfield 61, 3), (30, .getfield 202, 3), (33, .if_icmp .ge 25, 3), (36, .aload_n 0, 1), (37, .iload_n 3, 1), (38, .iload_n 1, 1), (39, .invokevirtual 191, 3), (42, .iconst 1, 1), (43, .if_icmp .ne 9, 3), (46, .iload_n 2, 1), (47, .iconst 1, 1), (48, .iload_n 3, 1), (49, .ishl, 1), (50, .ior, 1), (51, .istore_n 2, 1), (52, .iinc 3 1, 3), (55, .goto (-30), 3), (58, .aload_n 0, 1), (59, .iload_n 2, 1), (60, .invokevirtual 121, 3), (63, .ireturn, 1)])
theorem T_X10_allDone : zT M_X10_allDone := zT_of (by decide +kernel)
theorem F_X10_allDone : zMV M_X10_allDone 0 := ⟨⟨zTT_in (i := 886) (by decide +kernel) rfl, zTT_in (i := 136) (by decide +kernel) rfl, ⟨by decide, by decide, by decide +kernel⟩, by decide⟩, zTT_in (i := 884) (by decide +kernel) rfl, zTT_in (i := 885) (by decide +kernel) rfl⟩
def M_X10_ruler : zM := (⟨RX10, "rule\x72", "()I"⟩, prog_1_method_12_code, 5, (some .int), [(0, .aload_n 0, 1), (1, .invokevirtual 198, 3), (4, .ifCond .eq 9, 3), (7, .aload_n 0, 1), (8, .iconst 1, 1), (9, .invokevirtual 82, 3), (12, .ireturn, 1), (13, .bipush (-2), 2), (15, .istore_n 1, 1), (16, .iconst 0, 1), (17, .istore_n 2, 1), (18, .iconst 0, 1), (19, .istore_n 3, 1), (20, .iload_n 3, 1), (21, .aload_n 0, 1), (22, .getfield 61, 3), (25, .getfield 205, 3), (28, .if_icmp .ge 30, 3), (31, .aload_n 0, 1), (32, .iload_n 3, 1), (33, .invokevirtual 159, 3), (36, .invokestatic 208, 3), (39, .istore 4, 2), (41, .iload 4, 2), (43, .iload_n 2, 1), (44, .if_icmp .le 8, 3), (47, .iload 4, 2), (49, .istore_n 2, 1), (50, .iload_n 3, 1), (51, .istore_n 1, 1), (52, .iinc 3 1, 3), (55, .goto (-35), 3), (58, .aload_n 0, 1), (59, .iload_n 1, 1), (60, .invokevirtual 121, 3), (63, .ireturn, 1)])
theorem T_X10_ruler : zT M_X10_ruler := zT_of (by decide +kernel)
theorem F_X10_ruler : zMV M_X10_ruler 0 := ⟨⟨zTT_in (i := 894) (by decide +kernel) rfl, zTT_in (i := 136) (by decide +kernel) rfl, ⟨by decide, by decide, by decide +kernel⟩, by decide⟩, zTT_in (i := 892) (by decide +kernel) rfl, zTT_in (i := 893) (by decide +kernel) rfl⟩
def M_X10_power : zM := (⟨RX10, "powe\x72", "()I"⟩, prog_1_method_13_code, 5, (some .int), [(0, .aload_n 0, 1), (1, .invokevirtual 198, 3), (4, .ifCond .eq 9, 3), (7, .aload_n 0, 1), (8, .iconst 1, 1), (9, .invokevirtual 82, 3), (12, .ireturn, 1), (13, .bipush (-2), 2), (15, .istore_n 1, 1), (16, .iconst 0, 1), (17, .istore_n 2, 1), (18, .iconst 0, 1), (19, .istore_n 3, 1), (20, .iload_n 3, 1), (21, .aload_n 0, 1), (22, .getfield 61, 3), (25, .getfield 205, 3), (28, .if_icmp .ge 34, 3), (31, .aload_n 0, 1), (32, .aload_n 0, 1), (33, .getfield 29, 3), (36, .iload_n 3, 1), (37, .invokevirtual 156, 3), (40, .invokevirtual 213, 3), (43, .istore 4, 2), (45, .iload 4, 2), (47, .iload_n 2, 1), (48, .if_icmp .le 8, 3), (51, .iload 4, 2), (53, .istore_n 2, 1), (54, .iload_n 3, 1), (55, .istore_n 1, 1), (56, .iinc 3 1, 3), (59, .goto (-39), 3), (62, .aload_n 0, 1), (63, .iload_n 1, 1), (64, .invokevirtual 121, 3), (67, .ireturn, 1)])
theorem T_X10_power : zT M_X10_power := zT_of (by decide +kernel)
theorem F_X10_power : zMV M_X10_power 0 := ⟨⟨zTT_in (i := 904) (by decide +kernel) rfl, zTT_in (i := 136) (by decide +kernel) rfl, ⟨by decide, by decide, by decide +kernel⟩, by decide⟩, zTT_in (i := 902) (by decide +kernel) rfl, zTT_in (i := 903) (by decide +kernel) rfl⟩
def M_X10_doneBy : zM := (⟨RX10, "doneBy", "(II)I"⟩, prog_1_method_14_code, 3, (some .int), [(0, .aload_n 0, 1), (1, .iload_n 1, 1), (2, .invokevirtual 188, 3), (5, .ifCond .ne 9, 3), (8, .aload_n 0, 1), (9, .iconst 1, 1), (10, .invokevirtual 82, 3), (13, .ireturn, 1), (14, .iload_n 2, 1), (15, .ifCond .lt 14, 3), (18, .iload_n 2, 1), (19, .aload_n 0, 1), (20, .getfield 29, 3), (23, .getfield 216, 3), (26, .if_icmp .le 9, 3), (29, .aload_n 0, 1), (30, .iconst 2, 1), (31, .invokevirtual 82, 3), (34, .ireturn, 1), (35, .aload_n 0, 1), (36, .aload_n 0, 1), (37, .iload_n 1, 1), (38, .iload_n 2, 1), (39, .invokevirtual 217, 3), (42, .invokevirtual 121, 3), (45, .ireturn, 1)])
theorem T_X10_doneBy : zT M_X10_doneBy := zT_of (by decide +kernel)
theorem F_X10_doneBy : zMV M_X10_doneBy 2 := ⟨⟨zTT_in (i := 912) (by decide +kernel) rfl, zTT_in (i := 136) (by decide +kernel) rfl, ⟨by decide, by decide, by decide +kernel⟩, by decide⟩, zTT_in (i := 910) (by decide +kernel) rfl, zTT_in (i := 911) (by decide +kernel) rfl⟩
def M_X10_changes : zM := (⟨RX10, "changes", "(I)I"⟩, prog_1_method_15_code, 6, (some .int), [(0, .aload_n 0, 1), (1, .iload_n 1, 1), (2, .invokevirtual 188, 3), (5, .ifCond .ne 9, 3), (8, .aload_n 0, 1), (9, .iconst 1, 1), (10, .invokevirtual 82, 3), (13, .ireturn, 1), (14, .iconst 0, 1), (15, .istore_n 2, 1), (16, .aload_n 0, 1), (17, .iload_n 1, 1), (18, .iconst 0, 1), (19, .invokevirtual 217, 3), (22, .istore_n 3, 1), (23, .iconst 1, 1), (24, .istore 4, 2), (26, .iload 4, 2), (28, .aload_n 0, 1), (29, .getfield 29, 3), (32, .getfield 216, 3), (35, .if_icmp .gt 30, 3), (38, .aload_n 0, 1), (39, .iload_n 1, 1), (40, .iload 4, 2), (42, .invokevirtual 217, 3), (45, .istore 5, 2), (47, .iload 5, 2), (49, .iload_n 3, 1), (50, .if_icmp .eq 6, 3), (53, .iinc 2 1, 3), (56, .iload 5, 2), (58, .istore_n 3, 1), (59, .iinc 4 1, 3), (62, .goto (-36), 3), (65, .aload_n 0, 1), (66, .iload_n 2, 1), (67, .invokevirtual 121, 3), (70, .ireturn, 1)])
theorem T_X10_changes : zT M_X10_changes := zT_of (by decide +kernel)
theorem F_X10_changes : zMV M_X10_changes 1 := ⟨⟨zTT_in (i := 920) (by decide +kernel) rfl, zTT_in (i := 136) (by decide +kernel) rfl, ⟨by decide, by decide, by decide +kernel⟩, by decide⟩, zTT_in (i := 918) (by decide +kernel) rfl, zTT_in (i := 919) (by decide +kernel) rfl⟩
def M_X10_since : zM := (⟨RX10, "since", "(I)I"⟩, prog_1_method_16_code, 5, (some .int), [(0, .aload_n 0, 1), (1, .iload_n 1, 1), (2, .invokevirtual 188, 3), (5, .ifCond .ne 9, 3), (8, .aload_n 0, 1), (9, .iconst 1, 1), (10, .invokevirtual 82, 3), (13, .ireturn, 1), (14, .aload_n 0, 1), (15, .iload_n 1, 1), (16, .aload_n 0, 1), (17, .getfield 29, 3), (20, .getfield 216, 3), (23, .invokevirtual 217, 3), (26, .istore_n 2, 1), (27, .aload_n 0, 1), (28, .getfield 29, 3), (31, .getfield 216, 3), (34, .istore_n 3, 1), (35, .aload_n 0, 1), (36, .getfield 29, 3), (39, .getfield 216, 3), (42, .iconst 1, 1), (43, .isub, 1), (44, .istore 4, 2), (46, .iload 4, 2), (48, .ifCond .lt 23, 3), (51, .aload_n 0, 1), (52, .iload_n 1, 1), (53, .iload 4, 2), (55, .invokevirtual 217, 3), (58, .iload_n 2, 1), (59, .if_icmp .ne 12, 3), (62, .iload 4, 2), (64, .istore_n 3, 1), (65, .iinc 4 (-1), 3), (68, .goto (-22), 3), (71, .aload_n 0, 1), (72, .iload_n 3, 1), (73, .invokevirtual 121, 3), (76, .ireturn, 1)])
theorem T_X10_since : zT M_X10_since := zT_of (by decide +kernel)
theorem F_X10_since : zMV M_X10_since 1 := ⟨⟨zTT_in (i := 924) (by decide +kernel) rfl, zTT_in (i := 136) (by decide +kernel) rfl, ⟨by decide, by decide, by decide +kernel⟩, by decide⟩, zTT_in (i := 922) (by decide +kernel) rfl, zTT_in (i := 923) (by decide +kernel) rfl⟩
def M_X10_idle : zM := (⟨RX10, "idle", "()I"⟩, prog_1_method_17_code, 4, (some .int), [(0, .aload_n 0, 1), (1, .invokevirtual 198, 3), (4, .ifCond .eq 9, 3), (7, .aload_n 0, 1), (8, .iconst 1, 1), (9, .invokevirtual 82, 3), (12, .ireturn, 1), (13, .aload_n 0, 1), (14, .getfield 29, 3), (17, .invokevirtual 181, 3), (20, .istore_n 1, 1), (21, .iconst 0, 1), (22, .istore_n 2, 1), (23, .iconst 0, 1), (24, .istore_n 3, 1), (25, .iload_n 3, 1), (26, .aload_n 0, 1), (27, .getfield 29, 3), (30, .getfield 216, 3), (33, .if_icmp .ge 34, 3), (36, .iload_n 1, 1), (37, .iload_n 3, 1), (38, .ishr, 1), (39, .iconst 1, 1), (40, .iand, 1), (41, .iconst 1, 1), (42, .if_icmp .ne 19, 3), (45, .aload_n 0, 1), (46, .iconst 1, 1), (47, .iload_n 3, 1), (48, .ishl, 1), (49, .invokevirtual 213, 3), (52, .ifCond .ne 9, 3), (55, .iload_n 2, 1), (56, .iconst 1, 1), (57, .iload_n 3, 1), (58, .ishl, 1), (59, .ior, 1), (60, .istore_n 2, 1), (61, .iinc 3 1, 3), (64, .goto (-39), 3), (67, .aload_n 0, 1), (68, .iload_n 2, 1), (69, .invokevirtual 121, 3), (72, .ireturn, 1)])
theorem T_X10_idle : zT M_X10_idle := zT_of (by decide +kernel)
theorem F_X10_idle : zMV M_X10_idle 0 := ⟨⟨zTT_in (i := 928) (by decide +kernel) rfl, zTT_in (i := 136) (by decide +kernel) rfl, ⟨by decide, by decide, by decide +kernel⟩, by decide⟩, zTT_in (i := 926) (by decide +kernel) rfl, zTT_in (i := 927) (by decide +kernel) rfl⟩
def M_X10_turn : zM := (⟨RX10, "turn", "(I)I"⟩, prog_1_method_18_code, 2, (some .int), [(0, .aload_n 0, 1), (1, .iload_n 1, 1), (2, .invokevirtual 188, 3), (5, .ifCond .eq 15, 3), (8, .aload_n 0, 1), (9, .aload_n 0, 1), (10, .iload_n 1, 1), (11, .invokevirtual 220, 3), (14, .invokevirtual 121, 3), (17, .goto 8, 3), (20, .aload_n 0, 1), (21, .iconst 1, 1), (22, .invokevirtual 82, 3), (25, .ireturn, 1)])
theorem T_X10_turn : zT M_X10_turn := zT_of (by decide +kernel)
theorem F_X10_turn : zMV M_X10_turn 1 := ⟨⟨zTT_in (i := 932) (by decide +kernel) rfl, zTT_in (i := 136) (by decide +kernel) rfl, ⟨by decide, by decide, by decide +kernel⟩, by decide⟩, zTT_in (i := 930) (by decide +kernel) rfl, zTT_in (i := 931) (by decide +kernel) rfl⟩
def M_X10_weakest : zM := (⟨RX10, "weakest", "()I"⟩, prog_1_method_19_code, 5, (some .int), [(0, .aload_n 0, 1), (1, .invokevirtual 198, 3), (4, .ifCond .eq 9, 3), (7, .aload_n 0, 1), (8, .iconst 1, 1), (9, .invokevirtual 82, 3), (12, .ireturn, 1), (13, .bipush (-2), 2), (15, .istore_n 1, 1), (16, .bipush 9, 2), (18, .istore_n 2, 1), (19, .iconst 0, 1), (20, .istore_n 3, 1), (21, .iload_n 3, 1), (22, .aload_n 0, 1), (23, .getfield 61, 3), (26, .getfield 202, 3), (29, .if_icmp .ge 40, 3), (32, .aload_n 0, 1), (33, .iload_n 3, 1), (34, .invokevirtual 220, 3), (37, .istore 4, 2), (39, .iload 4, 2), (41, .bipush (-2), 2), (43, .if_icmp .eq 20, 3), (46, .iload 4, 2), (48, .invokestatic 208, 3), (51, .iload_n 2, 1), (52, .if_icmp .ge 11, 3), (55, .iload 4, 2), (57, .invokestatic 208, 3), (60, .istore_n 2, 1), (61, .iload_n 3, 1), (62, .istore_n 1, 1), (63, .iinc 3 1, 3), (66, .goto (-45), 3), (69, .aload_n 0, 1), (70, .iload_n 1, 1), (71, .invokevirtual 121, 3), (74, .ireturn, 1)])
theorem T_X10_weakest : zT M_X10_weakest := zT_of (by decide +kernel)
theorem F_X10_weakest : zMV M_X10_weakest 0 := ⟨⟨zTT_in (i := 944) (by decide +kernel) rfl, zTT_in (i := 136) (by decide +kernel) rfl, ⟨by decide, by decide, by decide +kernel⟩, by decide⟩, zTT_in (i := 942) (by decide +kernel) rfl, zTT_in (i := 943) (by decide +kernel) rfl⟩
def M_X10_holds : zM := (⟨RX10, "holds", "(IZ)I"⟩, prog_1_method_20_code, 8, (some .int), [(0, .aload_n 0, 1), (1, .iload_n 1, 1), (2, .invokevirtual 188, 3), (5, .ifCond .ne 9, 3), (8, .aload_n 0, 1), (9, .iconst 1, 1), (10, .invokevirtual 82, 3), (13, .ireturn, 1), (14, .aload_n 0, 1), (15, .getfield 29, 3), (18, .iload_n 1, 1), (19, .aload_n 0, 1), (20, .getfield 29, 3), (23, .invokevirtual 181, 3), (26, .invokevirtual 223, 3), (29, .istore_n 3, 1), (30, .aload_n 0, 1), (31, .invokevirtual 226, 3), (34, .istore 4, 2), (36, .iconst 0, 1), (37, .istore 5, 2), (39, .iconst 0, 1), (40, .istore 6, 2), (42, .iload 6, 2), (44, .aload_n 0, 1), (45, .getfield 61, 3), (48, .getfield 118, 3), (51, .if_icmp .ge 67, 3), (54, .iload 4, 2), (56, .iload 6, 2), (58, .ishr, 1), (59, .iconst 1, 1), (60, .iand, 1), (61, .iconst 1, 1), (62, .if_icmp .ne 17, 3), (65, .aload_n 0, 1), (66, .iload 6, 2), (68, .invokevirtual 138, 3), (71, .iconst 1, 1), (72, .if_icmp .ne 7, 3), (75, .iconst 1, 1), (76, .goto 4, 3), (79, .iconst 0, 1), (80, .istore 7, 2), (82, .iload 7, 2), (84, .ifCond .eq 28, 3), (87, .aload_n 0, 1), (88, .getfield 19, 3), (91, .iload_n 3, 1), (92, .iload 4, 2), (94, .ior, 1), (95, .invokevirtual 229, 3), (98, .iload 6, 2), (100, .if_icmp .ne 12, 3), (103, .iload 5, 2), (105, .iconst 1, 1), (106, .iload 6, 2), (108, .ishl, 1), (109, .ior, 1), (110, .istore 5, 2), (112, .iinc 6 1, 3), (115, .goto (-73), 3), (118, .aload_n 0, 1), (119, .iload 5, 2), (121, .invokevirtual 121, 3), (124, .ireturn, 1)])
theorem T_X10_holds : zT M_X10_holds := zT_of (by decide +kernel)
theorem F_X10_holds : zMV M_X10_holds 2 := ⟨⟨zTT_in (i := 948) (by decide +kernel) rfl, zTT_in (i := 136) (by decide +kernel) rfl, ⟨by decide, by decide, by decide +kernel⟩, by decide⟩, zTT_in (i := 946) (by decide +kernel) rfl, zTT_in (i := 947) (by decide +kernel) rfl⟩
def M_X10_doneIf : zM := (⟨RX10, "doneIf", "(IIZ)I"⟩, prog_1_method_21_code, 7, (some .int), [(0, .aload_n 0, 1), (1, .iload_n 1, 1), (2, .invokevirtual 188, 3), (5, .ifCond .eq 11, 3), (8, .aload_n 0, 1), (9, .iload_n 2, 1), (10, .invokevirtual 127, 3), (13, .ifCond .ne 9, 3), (16, .aload_n 0, 1), (17, .iconst 1, 1), (18, .invokevirtual 82, 3), (21, .ireturn, 1), (22, .aload_n 0, 1), (23, .getfield 29, 3), (26, .getfield 147, 3), (29, .iload_n 2, 1), (30, .ishr, 1), (31, .iconst 1, 1), (32, .iand, 1), (33, .iconst 1, 1), (34, .if_icmp .ne 9, 3), (37, .aload_n 0, 1), (38, .iconst 5, 1), (39, .invokevirtual 82, 3), (42, .ireturn, 1), (43, .aload_n 0, 1), (44, .iload_n 2, 1), (45, .invokevirtual 138, 3), (48, .iconst 1, 1), (49, .if_icmp .ge 9, 3), (52, .aload_n 0, 1), (53, .iconst 3, 1), (54, .invokevirtual 82, 3), (57, .ireturn, 1), (58, .aload_n 0, 1), (59, .getfield 29, 3), (62, .invokevirtual 181, 3), (65, .istore 4, 2), (67, .iconst 1, 1), (68, .iload_n 2, 1), (69, .ishl, 1), (70, .istore 5, 2), (72, .aload_n 0, 1), (73, .getfield 29, 3), (76, .iload_n 1, 1), (77, .iload 4, 2), (79, .invokevirtual 232, 3), (82, .istore 6, 2), (84, .aload_n 0, 1), (85, .aload_n 0, 1), (86, .getfield 19, 3), (89, .aload_n 0, 1), (90, .getfield 29, 3), (93, .iload_n 1, 1), (94, .iload 4, 2), (96, .invokevirtual 223, 3), (99, .iload 5, 2), (101, .ior, 1), (102, .iload_n 3, 1), (103, .ifCond .eq 11, 3), (106, .iload 6, 2), (108, .iload 5, 2), (110, .ior, 1), (111, .goto 10, 3), (114, .iload 6, 2), (116, .iload 5, 2), (118, .iconst (-1), 1), (119, .ixor, 1), (120, .iand, 1), (121, .invokevirtual 235, 3), (124, .invokevirtual 121, 3), (127, .ireturn, 1)])
theorem T_X10_doneIf : zT M_X10_doneIf := zT_of (by decide +kernel)
theorem F_X10_doneIf : zMV M_X10_doneIf 3 := ⟨⟨zTT_in (i := 956) (by decide +kernel) rfl, zTT_in (i := 136) (by decide +kernel) rfl, ⟨by decide, by decide, by decide +kernel⟩, by decide⟩, zTT_in (i := 954) (by decide +kernel) rfl, zTT_in (i := 955) (by decide +kernel) rfl⟩
def M_X10_wins : zM := (⟨RX10, "wins", "(II)I"⟩, prog_1_method_22_code, 5, (some .int), [(0, .aload_n 0, 1), (1, .iload_n 1, 1), (2, .invokevirtual 188, 3), (5, .ifCond .ne 9, 3), (8, .aload_n 0, 1), (9, .iconst 1, 1), (10, .invokevirtual 82, 3), (13, .ireturn, 1), (14, .iload_n 2, 1), (15, .ifCond .lt 8, 3), (18, .iload_n 2, 1), (19, .iconst 4, 1), (20, .if_icmp .le 9, 3), (23, .aload_n 0, 1), (24, .iconst 2, 1), (25, .invokevirtual 82, 3), (28, .ireturn, 1), (29, .aload_n 0, 1), (30, .getfield 29, 3), (33, .invokevirtual 181, 3), (36, .istore_n 3, 1), (37, .aload_n 0, 1), (38, .invokevirtual 238, 3), (41, .aload_n 0, 1), (42, .getfield 54, 3), (45, .aload_n 0, 1), (46, .getfield 19, 3), (49, .aload_n 0, 1), (50, .getfield 29, 3), (53, .iload_n 1, 1), (54, .iload_n 3, 1), (55, .invokevirtual 223, 3), (58, .aload_n 0, 1), (59, .getfield 29, 3), (62, .iload_n 1, 1), (63, .iload_n 3, 1), (64, .invokevirtual 232, 3), (67, .iload_n 2, 1), (68, .iconst 1, 1), (69, .invokevirtual 241, 3), (72, .istore 4, 2), (74, .aload_n 0, 1), (75, .iload 4, 2), (77, .ifCond .eq 7, 3), (80, .iconst 1, 1), (81, .goto 4, 3), (84, .iconst 0, 1), (85, .invokevirtual 121, 3), (88, .ireturn, 1)])
theorem T_X10_wins : zT M_X10_wins := zT_of (by decide +kernel)
theorem F_X10_wins : zMV M_X10_wins 2 := ⟨⟨zTT_in (i := 960) (by decide +kernel) rfl, zTT_in (i := 136) (by decide +kernel) rfl, ⟨by decide, by decide, by decide +kernel⟩, by decide⟩, zTT_in (i := 958) (by decide +kernel) rfl, zTT_in (i := 959) (by decide +kernel) rfl⟩
def M_X10_winsBy : zM := (⟨RX10, "winsBy", "(II)I"⟩, prog_1_method_23_code, 4, (some .int), [(0, .aload_n 0, 1), (1, .iload_n 1, 1), (2, .invokevirtual 188, 3), (5, .ifCond .ne 9, 3), (8, .aload_n 0, 1), (9, .iconst 1, 1), (10, .invokevirtual 82, 3), (13, .ireturn, 1), (14, .iload_n 2, 1), (15, .iconst 1, 1), (16, .if_icmp .lt 8, 3), (19, .iload_n 2, 1), (20, .iconst 4, 1), (21, .if_icmp .le 9, 3), (24, .aload_n 0, 1), (25, .iconst 2, 1), (26, .invokevirtual 82, 3), (29, .ireturn, 1), (30, .aload_n 0, 1), (31, .getfield 29, 3), (34, .invokevirtual 181, 3), (37, .istore_n 3, 1), (38, .aload_n 0, 1), (39, .invokevirtual 238, 3), (42, .aload_n 0, 1), (43, .aload_n 0, 1), (44, .getfield 54, 3), (47, .aload_n 0, 1), (48, .getfield 19, 3), (51, .aload_n 0, 1), (52, .getfield 29, 3), (55, .iload_n 1, 1), (56, .iload_n 3, 1), (57, .invokevirtual 223, 3), (60, .aload_n 0, 1), (61, .getfield 29, 3), (64, .iload_n 1, 1), (65, .iload_n 3, 1), (66, .invokevirtual 232, 3), (69, .iload_n 2, 1), (70, .invokevirtual 245, 3), (73, .invokevirtual 121, 3), (76, .ireturn, 1)])
theorem T_X10_winsBy : zT M_X10_winsBy := zT_of (by decide +kernel)
theorem F_X10_winsBy : zMV M_X10_winsBy 2 := ⟨⟨zTT_in (i := 978) (by decide +kernel) rfl, zTT_in (i := 136) (by decide +kernel) rfl, ⟨by decide, by decide, by decide +kernel⟩, by decide⟩, zTT_in (i := 976) (by decide +kernel) rfl, zTT_in (i := 977) (by decide +kernel) rfl⟩
def M_X10_outranks : zM := (⟨RX10, "outranks", "(II)I"⟩, prog_1_method_24_code, 3, (some .int), [(0, .aload_n 0, 1), (1, .iload_n 1, 1), (2, .invokevirtual 127, 3), (5, .ifCond .eq 16, 3), (8, .aload_n 0, 1), (9, .iload_n 2, 1), (10, .invokevirtual 127, 3), (13, .ifCond .eq 8, 3), (16, .iload_n 1, 1), (17, .iload_n 2, 1), (18, .if_icmp .ne 9, 3), (21, .aload_n 0, 1), (22, .iconst 1, 1), (23, .invokevirtual 82, 3), (26, .ireturn, 1), (27, .aload_n 0, 1), (28, .aload_n 0, 1), (29, .getfield 19, 3), (32, .getfield 141, 3), (35, .iload_n 1, 1), (36, .iaload, 1), (37, .iload_n 2, 1), (38, .ishr, 1), (39, .iconst 1, 1), (40, .iand, 1), (41, .invokevirtual 121, 3), (44, .ireturn, 1)])
theorem T_X10_outranks : zT M_X10_outranks := zT_of (by decide +kernel)
theorem F_X10_outranks : zMV M_X10_outranks 2 := ⟨⟨zTT_in (i := 986) (by decide +kernel) rfl, zTT_in (i := 136) (by decide +kernel) rfl, ⟨by decide, by decide, by decide +kernel⟩, by decide⟩, zTT_in (i := 984) (by decide +kernel) rfl, zTT_in (i := 985) (by decide +kernel) rfl⟩
def M_X10_ring : zM := (⟨RX10, "ring", "(I)I"⟩, prog_1_method_25_code, 2, (some .int), [(0, .aload_n 0, 1), (1, .iload_n 1, 1), (2, .invokevirtual 127, 3), (5, .ifCond .ne 9, 3), (8, .aload_n 0, 1), (9, .iconst 1, 1), (10, .invokevirtual 82, 3), (13, .ireturn, 1), (14, .aload_n 0, 1), (15, .aload_n 0, 1), (16, .getfield 19, 3), (19, .iload_n 1, 1), (20, .invokevirtual 249, 3), (23, .iconst (-1), 1), (24, .if_icmp .ne 8, 3), (27, .bipush (-2), 2), (29, .goto 4, 3), (32, .iconst 3, 1), (33, .invokevirtual 121, 3), (36, .ireturn, 1)])
theorem T_X10_ring : zT M_X10_ring := zT_of (by decide +kernel)
theorem F_X10_ring : zMV M_X10_ring 1 := ⟨⟨zTT_in (i := 990) (by decide +kernel) rfl, zTT_in (i := 136) (by decide +kernel) rfl, ⟨by decide, by decide, by decide +kernel⟩, by decide⟩, zTT_in (i := 988) (by decide +kernel) rfl, zTT_in (i := 989) (by decide +kernel) rfl⟩
def M_X10_ringAt : zM := (⟨RX10, "ringAt", "(II)I"⟩, prog_1_method_26_code, 4, (some .int), [(0, .aload_n 0, 1), (1, .iload_n 1, 1), (2, .invokevirtual 127, 3), (5, .ifCond .eq 12, 3), (8, .iload_n 2, 1), (9, .ifCond .lt 8, 3), (12, .iload_n 2, 1), (13, .iconst 3, 1), (14, .if_icmp .lt 9, 3), (17, .aload_n 0, 1), (18, .iconst 1, 1), (19, .invokevirtual 82, 3), (22, .ireturn, 1), (23, .aload_n 0, 1), (24, .getfield 19, 3), (27, .iload_n 1, 1), (28, .invokevirtual 249, 3), (31, .istore_n 3, 1), (32, .iload_n 3, 1), (33, .iconst (-1), 1), (34, .if_icmp .ne 9, 3), (37, .aload_n 0, 1), (38, .iconst 1, 1), (39, .invokevirtual 82, 3), (42, .ireturn, 1), (43, .iload_n 2, 1), (44, .ifCond .ne 9, 3), (47, .aload_n 0, 1), (48, .iload_n 1, 1), (49, .invokevirtual 121, 3), (52, .ireturn, 1), (53, .aload_n 0, 1), (54, .iload_n 2, 1), (55, .iconst 1, 1), (56, .if_icmp .ne 7, 3), (59, .iload_n 3, 1), (60, .goto 12, 3), (63, .aload_n 0, 1), (64, .getfield 19, 3), (67, .iload_n 1, 1), (68, .iload_n 3, 1), (69, .invokevirtual 252, 3), (72, .invokevirtual 121, 3), (75, .ireturn, 1)])
theorem T_X10_ringAt : zT M_X10_ringAt := zT_of (by decide +kernel)
theorem F_X10_ringAt : zMV M_X10_ringAt 2 := ⟨⟨zTT_in (i := 1002) (by decide +kernel) rfl, zTT_in (i := 136) (by decide +kernel) rfl, ⟨by decide, by decide, by decide +kernel⟩, by decide⟩, zTT_in (i := 1000) (by decide +kernel) rfl, zTT_in (i := 1001) (by decide +kernel) rfl⟩
def M_X10_free : zM := (⟨RX10, "free", "()I"⟩, prog_1_method_27_code, 4, (some .int), [(0, .aload_n 0, 1), (1, .invokevirtual 198, 3), (4, .ifCond .eq 9, 3), (7, .aload_n 0, 1), (8, .iconst 1, 1), (9, .invokevirtual 82, 3), (12, .ireturn, 1), (13, .iconst 0, 1), (14, .istore_n 1, 1), (15, .bipush 7, 2), (17, .istore_n 2, 1), (18, .iconst 0, 1), (19, .istore_n 3, 1), (20, .iload_n 3, 1), (21, .iconst 1, 1), (22, .aload_n 0, 1), (23, .getfield 61, 3), (26, .getfield 255, 3), (29, .ishl, 1), (30, .if_icmp .ge 46, 3), (33, .iload_n 3, 1), (34, .invokestatic 208, 3), (37, .iload_n 2, 1), (38, .if_icmp .ge 32, 3), (41, .aload_n 0, 1), (42, .getfield 23, 3), (45, .aload_n 0, 1), (46, .getfield 61, 3), (49, .iload_n 3, 1), (50, .invokevirtual 104, 3), (53, .aload_n 0, 1), (54, .getfield 23, 3), (57, .invokevirtual 258, 3), (60, .ifCond .ne 10, 3), (63, .iload_n 3, 1), (64, .invokestatic 208, 3), (67, .istore_n 2, 1), (68, .iload_n 3, 1), (69, .istore_n 1, 1), (70, .iinc 3 1, 3), (73, .goto (-53), 3), (76, .aload_n 0, 1), (77, .iload_n 1, 1), (78, .invokevirtual 121, 3), (81, .ireturn, 1)])
theorem T_X10_free : zT M_X10_free := zT_of (by decide +kernel)
theorem F_X10_free : zMV M_X10_free 0 := ⟨⟨zTT_in (i := 1007) (by decide +kernel) rfl, zTT_in (i := 136) (by decide +kernel) rfl, ⟨by decide, by decide, by decide +kernel⟩, by decide⟩, zTT_in (i := 1005) (by decide +kernel) rfl, zTT_in (i := 1006) (by decide +kernel) rfl⟩
def M_X10_top : zM := (⟨RX10, "top", "()I"⟩, prog_1_method_28_code, 3, (some .int), [(0, .aload_n 0, 1), (1, .invokevirtual 198, 3), (4, .ifCond .eq 9, 3), (7, .aload_n 0, 1), (8, .iconst 1, 1), (9, .invokevirtual 82, 3), (12, .ireturn, 1), (13, .iconst 0, 1), (14, .istore_n 1, 1), (15, .iconst 1, 1), (16, .istore_n 2, 1), (17, .iload_n 2, 1), (18, .aload_n 0, 1), (19, .getfield 61, 3), (22, .getfield 118, 3), (25, .if_icmp .ge 38, 3), (28, .aload_n 0, 1), (29, .getfield 19, 3), (32, .getfield 141, 3), (35, .iload_n 2, 1), (36, .iaload, 1), (37, .invokestatic 208, 3), (40, .aload_n 0, 1), (41, .getfield 19, 3), (44, .getfield 141, 3), (47, .iload_n 1, 1), (48, .iaload, 1), (49, .invokestatic 208, 3), (52, .if_icmp .le 5, 3), (55, .iload_n 2, 1), (56, .istore_n 1, 1), (57, .iinc 2 1, 3), (60, .goto (-43), 3), (63, .aload_n 0, 1), (64, .iload_n 1, 1), (65, .invokevirtual 121, 3), (68, .ireturn, 1)])
theorem T_X10_top : zT M_X10_top := zT_of (by decide +kernel)
theorem F_X10_top : zMV M_X10_top 0 := ⟨⟨zTT_in (i := 1016) (by decide +kernel) rfl, zTT_in (i := 136) (by decide +kernel) rfl, ⟨by decide, by decide, by decide +kernel⟩, by decide⟩, zTT_in (i := 1014) (by decide +kernel) rfl, zTT_in (i := 1015) (by decide +kernel) rfl⟩
def M_X10_taken : zM := (⟨RX10, "taken", "()I"⟩, prog_1_method_29_code, 1, (some .int), [(0, .aload_n 0, 1), (1, .invokevirtual 198, 3), (4, .ifCond .eq 11, 3), (7, .aload_n 0, 1), (8, .iconst 1, 1), (9, .invokevirtual 82, 3), (12, .goto 12, 3), (15, .aload_n 0, 1), (16, .aload_n 0, 1), (17, .iconst 0, 1), (18, .invokevirtual 261, 3), (21, .invokevirtual 121, 3), (24, .ireturn, 1)])
theorem T_X10_taken : zT M_X10_taken := zT_of (by decide +kernel)
theorem F_X10_taken : zMV M_X10_taken 0 := ⟨⟨zTT_in (i := 1020) (by decide +kernel) rfl, zTT_in (i := 136) (by decide +kernel) rfl, ⟨by decide, by decide, by decide +kernel⟩, by decide⟩, zTT_in (i := 1018) (by decide +kernel) rfl, zTT_in (i := 1019) (by decide +kernel) rfl⟩
def M_X10_paid : zM := (⟨RX10, "paid", "()I"⟩, prog_1_method_30_code, 1, (some .int), [(0, .aload_n 0, 1), (1, .invokevirtual 198, 3), (4, .ifCond .eq 11, 3), (7, .aload_n 0, 1), (8, .iconst 1, 1), (9, .invokevirtual 82, 3), (12, .goto 22, 3), (15, .aload_n 0, 1), (16, .aload_n 0, 1), (17, .getfield 61, 3), (20, .getfield 264, 3), (23, .aload_n 0, 1), (24, .iconst 0, 1), (25, .invokevirtual 261, 3), (28, .invokevirtual 268, 3), (31, .invokevirtual 121, 3), (34, .ireturn, 1)])
theorem T_X10_paid : zT M_X10_paid := zT_of (by decide +kernel)
theorem F_X10_paid : zMV M_X10_paid 0 := ⟨⟨zTT_in (i := 1044) (by decide +kernel) rfl, zTT_in (i := 136) (by decide +kernel) rfl, ⟨by decide, by decide, by decide +kernel⟩, by decide⟩, zTT_in (i := 1042) (by decide +kernel) rfl, zTT_in (i := 1043) (by decide +kernel) rfl⟩
def M_X10_worthOf : zM := (⟨RX10, "worthOf", "(I)I"⟩, prog_1_method_31_code, 3, (some .int), [(0, .iload_n 1, 1), (1, .ifCond .lt 17, 3), (4, .iload_n 1, 1), (5, .aload_n 0, 1), (6, .getfield 61, 3), (9, .getfield 264, 3), (12, .getfield 273, 3), (15, .if_icmp .lt 9, 3), (18, .aload_n 0, 1), (19, .iconst 1, 1), (20, .invokevirtual 82, 3), (23, .ireturn, 1), (24, .aload_n 0, 1), (25, .getfield 61, 3), (28, .getfield 264, 3), (31, .astore_n 2, 1), (32, .aload_n 0, 1), (33, .aload_n 2, 1), (34, .aload_n 0, 1), (35, .iconst 0, 1), (36, .invokevirtual 261, 3), (39, .invokevirtual 268, 3), (42, .aload_n 2, 1), (43, .aload_n 0, 1), (44, .iconst 1, 1), (45, .iload_n 1, 1), (46, .ishl, 1), (47, .invokevirtual 261, 3), (50, .invokevirtual 268, 3), (53, .isub, 1), (54, .invokevirtual 121, 3), (57, .ireturn, 1)])
theorem T_X10_worthOf : zT M_X10_worthOf := zT_of (by decide +kernel)
theorem F_X10_worthOf : zMV M_X10_worthOf 1 := ⟨⟨zTT_in (i := 1048) (by decide +kernel) rfl, zTT_in (i := 136) (by decide +kernel) rfl, ⟨by decide, by decide, by decide +kernel⟩, by decide⟩, zTT_in (i := 1046) (by decide +kernel) rfl, zTT_in (i := 1047) (by decide +kernel) rfl⟩
def M_X10_fits : zM := (⟨RX10, "fits", "()I"⟩, prog_1_method_32_code, 1, (some .int), [(0, .aload_n 0, 1), (1, .invokevirtual 198, 3), (4, .ifCond .eq 9, 3), (7, .aload_n 0, 1), (8, .iconst 1, 1), (9, .invokevirtual 82, 3), (12, .ireturn, 1), (13, .aload_n 0, 1), (14, .getfield 47, 3), (17, .aload_n 0, 1), (18, .getfield 61, 3), (21, .aload_n 0, 1), (22, .getfield 19, 3), (25, .invokevirtual 274, 3), (28, .aload_n 0, 1), (29, .aload_n 0, 1), (30, .getfield 47, 3), (33, .getfield 278, 3), (36, .invokevirtual 121, 3), (39, .ireturn, 1)])
theorem T_X10_fits : zT M_X10_fits := zT_of (by decide +kernel)
theorem F_X10_fits : zMV M_X10_fits 0 := ⟨⟨zTT_in (i := 1052) (by decide +kernel) rfl, zTT_in (i := 136) (by decide +kernel) rfl, ⟨by decide, by decide, by decide +kernel⟩, by decide⟩, zTT_in (i := 1050) (by decide +kernel) rfl, zTT_in (i := 1051) (by decide +kernel) rfl⟩
def M_X10_fitAt : zM := (⟨RX10, "fitAt", "(II)I"⟩, prog_1_method_33_code, 4, (some .int), [(0, .aload_n 0, 1), (1, .iload_n 2, 1), (2, .invokevirtual 279, 3), (5, .ifCond .ne 9, 3), (8, .aload_n 0, 1), (9, .iconst 1, 1), (10, .invokevirtual 82, 3), (13, .ireturn, 1), (14, .aload_n 0, 1), (15, .getfield 47, 3), (18, .aload_n 0, 1), (19, .getfield 61, 3), (22, .aload_n 0, 1), (23, .getfield 19, 3), (26, .invokevirtual 274, 3), (29, .iload_n 1, 1), (30, .ifCond .lt 14, 3), (33, .iload_n 1, 1), (34, .aload_n 0, 1), (35, .getfield 47, 3), (38, .getfield 278, 3), (41, .if_icmp .lt 9, 3), (44, .aload_n 0, 1), (45, .iconst 1, 1), (46, .invokevirtual 82, 3), (49, .ireturn, 1), (50, .aload_n 0, 1), (51, .getfield 47, 3), (54, .iload_n 1, 1), (55, .iload_n 2, 1), (56, .invokevirtual 282, 3), (59, .istore_n 3, 1), (60, .aload_n 0, 1), (61, .iload_n 3, 1), (62, .iconst 2, 1), (63, .aload_n 0, 1), (64, .getfield 61, 3), (67, .getfield 202, 3), (70, .imul, 1), (71, .if_icmp .ne 8, 3), (74, .bipush (-2), 2), (76, .goto 4, 3), (79, .iload_n 3, 1), (80, .invokevirtual 121, 3), (83, .ireturn, 1)])
theorem T_X10_fitAt : zT M_X10_fitAt := zT_of (by decide +kernel)
theorem F_X10_fitAt : zMV M_X10_fitAt 2 := ⟨⟨zTT_in (i := 1087) (by decide +kernel) rfl, zTT_in (i := 136) (by decide +kernel) rfl, ⟨by decide, by decide, by decide +kernel⟩, by decide⟩, zTT_in (i := 1085) (by decide +kernel) rfl, zTT_in (i := 1086) (by decide +kernel) rfl⟩
def M_X10_says : zM := (⟨RX10, "says", "(II)I"⟩, prog_1_method_34_code, 4, (some .int), [(0, .aload_n 0, 1), (1, .iload_n 1, 1), (2, .invokevirtual 279, 3), (5, .ifCond .eq 11, 3), (8, .aload_n 0, 1), (9, .iload_n 2, 1), (10, .invokevirtual 188, 3), (13, .ifCond .ne 9, 3), (16, .aload_n 0, 1), (17, .iconst 1, 1), (18, .invokevirtual 82, 3), (21, .ireturn, 1), (22, .aload_n 0, 1), (23, .getfield 47, 3), (26, .aload_n 0, 1), (27, .getfield 61, 3), (30, .aload_n 0, 1), (31, .getfield 19, 3), (34, .invokevirtual 274, 3), (37, .iload_n 1, 1), (38, .bipush 9, 2), (40, .imul, 1), (41, .iconst 2, 1), (42, .iload_n 2, 1), (43, .imul, 1), (44, .iadd, 1), (45, .istore_n 3, 1), (46, .aload_n 0, 1), (47, .aload_n 0, 1), (48, .getfield 47, 3), (51, .getfield 285, 3), (54, .iload_n 3, 1), (55, .iaload, 1), (56, .aload_n 0, 1), (57, .getfield 47, 3), (60, .getfield 285, 3), (63, .iload_n 3, 1), (64, .iconst 1, 1), (65, .iadd, 1), (66, .iaload, 1), (67, .iadd, 1), (68, .invokevirtual 121, 3), (71, .ireturn, 1)])
theorem T_X10_says : zT M_X10_says := zT_of (by decide +kernel)
theorem F_X10_says : zMV M_X10_says 2 := ⟨⟨zTT_in (i := 1099) (by decide +kernel) rfl, zTT_in (i := 136) (by decide +kernel) rfl, ⟨by decide, by decide, by decide +kernel⟩, by decide⟩, zTT_in (i := 1097) (by decide +kernel) rfl, zTT_in (i := 1098) (by decide +kernel) rfl⟩
def M_X10_ask : zM := (⟨RX10, "ask", "()I"⟩, prog_1_method_35_code, 1, (some .int), [(0, .aload_n 0, 1), (1, .invokevirtual 198, 3), (4, .ifCond .eq 9, 3), (7, .aload_n 0, 1), (8, .iconst 1, 1), (9, .invokevirtual 82, 3), (12, .ireturn, 1), (13, .aload_n 0, 1), (14, .getfield 47, 3), (17, .aload_n 0, 1), (18, .getfield 61, 3), (21, .aload_n 0, 1), (22, .getfield 19, 3), (25, .invokevirtual 274, 3), (28, .aload_n 0, 1), (29, .aload_n 0, 1), (30, .getfield 47, 3), (33, .invokevirtual 288, 3), (36, .invokevirtual 121, 3), (39, .ireturn, 1)])
theorem T_X10_ask : zT M_X10_ask := zT_of (by decide +kernel)
theorem F_X10_ask : zMV M_X10_ask 0 := ⟨⟨zTT_in (i := 1103) (by decide +kernel) rfl, zTT_in (i := 136) (by decide +kernel) rfl, ⟨by decide, by decide, by decide +kernel⟩, by decide⟩, zTT_in (i := 1101) (by decide +kernel) rfl, zTT_in (i := 1102) (by decide +kernel) rfl⟩
def M_X10_askLeaves : zM := (⟨RX10, "askLeaves", "()I"⟩, prog_1_method_36_code, 2, (some .int), [(0, .aload_n 0, 1), (1, .invokevirtual 198, 3), (4, .ifCond .eq 9, 3), (7, .aload_n 0, 1), (8, .iconst 1, 1), (9, .invokevirtual 82, 3), (12, .ireturn, 1), (13, .aload_n 0, 1), (14, .getfield 47, 3), (17, .aload_n 0, 1), (18, .getfield 61, 3), (21, .aload_n 0, 1), (22, .getfield 19, 3), (25, .invokevirtual 274, 3), (28, .aload_n 0, 1), (29, .getfield 47, 3), (32, .invokevirtual 288, 3), (35, .istore_n 1, 1), (36, .aload_n 0, 1), (37, .iload_n 1, 1), (38, .bipush (-2), 2), (40, .if_icmp .ne 8, 3), (43, .bipush (-2), 2), (45, .goto 11, 3), (48, .aload_n 0, 1), (49, .getfield 47, 3), (52, .iload_n 1, 1), (53, .invokevirtual 291, 3), (56, .invokevirtual 121, 3), (59, .ireturn, 1)])
theorem T_X10_askLeaves : zT M_X10_askLeaves := zT_of (by decide +kernel)
theorem F_X10_askLeaves : zMV M_X10_askLeaves 0 := ⟨⟨zTT_in (i := 1118) (by decide +kernel) rfl, zTT_in (i := 136) (by decide +kernel) rfl, ⟨by decide, by decide, by decide +kernel⟩, by decide⟩, zTT_in (i := 1116) (by decide +kernel) rfl, zTT_in (i := 1117) (by decide +kernel) rfl⟩
def M_X10_judge : zM := (⟨RX10, "judge", "()I"⟩, prog_1_method_37_code, 5, (some .int), [(0, .aload_n 0, 1), (1, .invokevirtual 198, 3), (4, .ifCond .eq 9, 3), (7, .aload_n 0, 1), (8, .iconst 1, 1), (9, .invokevirtual 82, 3), (12, .ireturn, 1), (13, .aload_n 0, 1), (14, .getfield 61, 3), (17, .getfield 97, 3), (20, .astore_n 1, 1), (21, .aload_n 1, 1), (22, .invokevirtual 181, 3), (25, .istore_n 2, 1), (26, .iconst 0, 1), (27, .istore_n 3, 1), (28, .iload_n 3, 1), (29, .aload_n 0, 1), (30, .getfield 61, 3), (33, .getfield 202, 3), (36, .if_icmp .ge 56, 3), (39, .aload_n 0, 1), (40, .getfield 61, 3), (43, .getfield 294, 3), (46, .iload_n 3, 1), (47, .iaload, 1), (48, .istore 4, 2), (50, .iload 4, 2), (52, .iconst (-1), 1), (53, .if_icmp .eq 33, 3), (56, .iload 4, 2), (58, .aload_n 0, 1), (59, .getfield 19, 3), (62, .aload_n 1, 1), (63, .iload_n 3, 1), (64, .iload_n 2, 1), (65, .invokevirtual 223, 3), (68, .aload_n 1, 1), (69, .iload_n 3, 1), (70, .iload_n 2, 1), (71, .invokevirtual 232, 3), (74, .invokevirtual 235, 3), (77, .if_icmp .eq 9, 3), (80, .aload_n 0, 1), (81, .iload_n 3, 1), (82, .invokevirtual 121, 3), (85, .ireturn, 1), (86, .iinc 3 1, 3), (89, .goto (-61), 3), (92, .aload_n 0, 1), (93, .bipush (-2), 2), (95, .invokevirtual 121, 3), (98, .ireturn, 1)])
theorem T_X10_judge : zT M_X10_judge := zT_of (by decide +kernel)
theorem F_X10_judge : zMV M_X10_judge 0 := ⟨⟨zTT_in (i := 1123) (by decide +kernel) rfl, zTT_in (i := 136) (by decide +kernel) rfl, ⟨by decide, by decide, by decide +kernel⟩, by decide⟩, zTT_in (i := 1121) (by decide +kernel) rfl, zTT_in (i := 1122) (by decide +kernel) rfl⟩
def M_X10_foot : zM := (⟨RX10, "foot", "(IZZZ)I"⟩, prog_1_method_38_code, 5, (some .int), [(0, .aload_n 0, 1), (1, .invokevirtual 198, 3), (4, .ifCond .eq 12, 3), (7, .aload_n 0, 1), (8, .iconst 1, 1), (9, .invokevirtual 82, 3), (12, .pop, 1), (13, .bipush (-100), 2), (15, .ireturn, 1), (16, .iload_n 1, 1), (17, .invokestatic 297, 3), (20, .ifCond .ne 12, 3), (23, .aload_n 0, 1), (24, .iconst 2, 1), (25, .invokevirtual 82, 3), (28, .pop, 1), (29, .bipush (-100), 2), (31, .ireturn, 1), (32, .aload_n 0, 1), (33, .iload 4, 2), (35, .ifCond .eq 12, 3), (38, .iload_n 1, 1), (39, .iload_n 3, 1), (40, .iload_n 2, 1), (41, .invokestatic 300, 3), (44, .goto 9, 3), (47, .iload_n 1, 1), (48, .iload_n 2, 1), (49, .iload_n 3, 1), (50, .invokestatic 300, 3), (53, .invokevirtual 121, 3), (56, .ireturn, 1)])
theorem T_X10_foot : zT M_X10_foot := zT_of (by decide +kernel)
theorem F_X10_foot : zMV M_X10_foot 4 := ⟨⟨zTT_in (i := 1127) (by decide +kernel) rfl, zTT_in (i := 136) (by decide +kernel) rfl, ⟨by decide, by decide, by decide +kernel⟩, by decide⟩, zTT_in (i := 1125) (by decide +kernel) rfl, zTT_in (i := 1126) (by decide +kernel) rfl⟩
def M_X10_rests : zM := (⟨RX10, "rests", "(I)I"⟩, prog_1_method_39_code, 4, (some .int), [(0, .aload_n 0, 1), (1, .invokevirtual 198, 3), (4, .ifCond .eq 9, 3), (7, .aload_n 0, 1), (8, .iconst 1, 1), (9, .invokevirtual 82, 3), (12, .ireturn, 1), (13, .iload_n 1, 1), (14, .invokestatic 297, 3), (17, .ifCond .ne 9, 3), (20, .aload_n 0, 1), (21, .iconst 2, 1), (22, .invokevirtual 82, 3), (25, .ireturn, 1), (26, .iconst 0, 1), (27, .istore_n 2, 1), (28, .iconst 0, 1), (29, .istore_n 3, 1), (30, .iload_n 3, 1), (31, .iconst 4, 1), (32, .if_icmp .ge 41, 3), (35, .iload_n 1, 1), (36, .iload_n 3, 1), (37, .iconst 2, 1), (38, .if_icmp .lt 7, 3), (41, .iconst 1, 1), (42, .goto 4, 3), (45, .iconst 0, 1), (46, .iload_n 3, 1), (47, .iconst 2, 1), (48, .irem, 1), (49, .iconst 1, 1), (50, .if_icmp .ne 7, 3), (53, .iconst 1, 1), (54, .goto 4, 3), (57, .iconst 0, 1), (58, .invokestatic 304, 3), (61, .ifCond .eq 6, 3), (64, .iinc 2 1, 3), (67, .iinc 3 1, 3), (70, .goto (-40), 3), (73, .aload_n 0, 1), (74, .iload_n 2, 1), (75, .invokevirtual 121, 3), (78, .ireturn, 1)])
theorem T_X10_rests : zT M_X10_rests := zT_of (by decide +kernel)
theorem F_X10_rests : zMV M_X10_rests 1 := ⟨⟨zTT_in (i := 1137) (by decide +kernel) rfl, zTT_in (i := 136) (by decide +kernel) rfl, ⟨by decide, by decide, by decide +kernel⟩, by decide⟩, zTT_in (i := 1135) (by decide +kernel) rfl, zTT_in (i := 1136) (by decide +kernel) rfl⟩
def M_X10_rest : zM := (⟨RX10, "rest", "(I)I"⟩, prog_1_method_40_code, 3, (some .int), [(0, .aload_n 0, 1), (1, .invokevirtual 198, 3), (4, .ifCond .eq 9, 3), (7, .aload_n 0, 1), (8, .iconst 1, 1), (9, .invokevirtual 82, 3), (12, .ireturn, 1), (13, .iload_n 1, 1), (14, .invokestatic 297, 3), (17, .ifCond .ne 9, 3), (20, .aload_n 0, 1), (21, .iconst 2, 1), (22, .invokevirtual 82, 3), (25, .ireturn, 1), (26, .iconst 0, 1), (27, .istore_n 2, 1), (28, .iload_n 2, 1), (29, .iconst 4, 1), (30, .if_icmp .ge 53, 3), (33, .iload_n 1, 1), (34, .iload_n 2, 1), (35, .iconst 2, 1), (36, .if_icmp .lt 7, 3), (39, .iconst 1, 1), (40, .goto 4, 3), (43, .iconst 0, 1), (44, .iload_n 2, 1), (45, .iconst 2, 1), (46, .irem, 1), (47, .iconst 1, 1), (48, .if_icmp .ne 7, 3), (51, .iconst 1, 1), (52, .goto 4, 3), (55, .iconst 0, 1), (56, .invokestatic 304, 3), (59, .ifCond .eq 18, 3), (62, .aload_n 0, 1), (63, .bipush 10, 2), (65, .iload_n 2, 1), (66, .iconst 2, 1), (67, .idiv, 1), (68, .imul, 1), (69, .iload_n 2, 1), (70, .iconst 2, 1), (71, .irem, 1), (72, .iadd, 1), (73, .invokevirtual 121, 3), (76, .ireturn, 1), (77, .iinc 2 1, 3), (80, .goto (-52), 3), (83, .aload_n 0, 1), (84, .bipush (-2), 2), (86, .invokevirtual 121, 3), (89, .ireturn, 1)])
theorem T_X10_rest : zT M_X10_rest := zT_of (by decide +kernel)
theorem F_X10_rest : zMV M_X10_rest 1 := ⟨⟨zTT_in (i := 1144) (by decide +kernel) rfl, zTT_in (i := 136) (by decide +kernel) rfl, ⟨by decide, by decide, by decide +kernel⟩, by decide⟩, zTT_in (i := 1142) (by decide +kernel) rfl, zTT_in (i := 1143) (by decide +kernel) rfl⟩
def M_X10_odds : zM := (⟨RX10, "odds", "(IZ)J"⟩, prog_1_method_41_code, 3, (some .long), [(0, .aload_n 0, 1), (1, .iload_n 1, 1), (2, .invokevirtual 188, 3), (5, .ifCond .ne 10, 3), (8, .aload_n 0, 1), (9, .iconst 1, 1), (10, .invokevirtual 82, 3), (13, .i2l, 1), (14, .lreturn, 1), (15, .aload_n 0, 1), (16, .iconst 0, 1), (17, .invokevirtual 121, 3), (20, .pop, 1), (21, .aload_n 0, 1), (22, .iload_n 1, 1), (23, .iconst (-1), 1), (24, .invokevirtual 308, 3), (27, .ldc2_w 312, 3), (30, .aload_n 0, 1), (31, .iload_n 1, 1), (32, .invokevirtual 314, 3), (35, .invokestatic 317, 3), (38, .iload_n 2, 1), (39, .invokestatic 321, 3), (42, .lreturn, 1)])
theorem T_X10_odds : zT M_X10_odds := zT_of (by decide +kernel)
theorem F_X10_odds : zMV M_X10_odds 2 := ⟨⟨zTT_in (i := 1148) (by decide +kernel) rfl, zTT_in (i := 136) (by decide +kernel) rfl, ⟨by decide, by decide, by decide +kernel⟩, by decide⟩, zTT_in (i := 1146) (by decide +kernel) rfl, zTT_in (i := 1147) (by decide +kernel) rfl⟩
def M_X10_standOdds : zM := (⟨RX10, "standOdds", "(IZ)J"⟩, prog_1_method_42_code, 4, (some .long), [(0, .aload_n 0, 1), (1, .iload_n 1, 1), (2, .invokevirtual 162, 3), (5, .ifCond .ne 10, 3), (8, .aload_n 0, 1), (9, .iconst 1, 1), (10, .invokevirtual 82, 3), (13, .i2l, 1), (14, .lreturn, 1), (15, .aload_n 0, 1), (16, .iconst 0, 1), (17, .invokevirtual 121, 3), (20, .pop, 1), (21, .aload_n 0, 1), (22, .getfield 29, 3), (25, .getfield 171, 3), (28, .iload_n 1, 1), (29, .iaload, 1), (30, .istore_n 3, 1), (31, .aload_n 0, 1), (32, .iload_n 3, 1), (33, .iload_n 1, 1), (34, .invokevirtual 308, 3), (37, .ldc2_w 312, 3), (40, .aload_n 0, 1), (41, .iload_n 3, 1), (42, .invokevirtual 314, 3), (45, .invokestatic 317, 3), (48, .iload_n 2, 1), (49, .invokestatic 321, 3), (52, .lreturn, 1)])
theorem T_X10_standOdds : zT M_X10_standOdds := zT_of (by decide +kernel)
theorem F_X10_standOdds : zMV M_X10_standOdds 2 := ⟨⟨zTT_in (i := 1168) (by decide +kernel) rfl, zTT_in (i := 136) (by decide +kernel) rfl, ⟨by decide, by decide, by decide +kernel⟩, by decide⟩, zTT_in (i := 1166) (by decide +kernel) rfl, zTT_in (i := 1167) (by decide +kernel) rfl⟩
def M_X10_mean : zM := (⟨RX10, "mean", "(Z)J"⟩, prog_1_method_43_code, 6, (some .long), [(0, .aload_n 0, 1), (1, .invokevirtual 198, 3), (4, .ifCond .eq 10, 3), (7, .aload_n 0, 1), (8, .iconst 1, 1), (9, .invokevirtual 82, 3), (12, .i2l, 1), (13, .lreturn, 1), (14, .aload_n 0, 1), (15, .iconst 0, 1), (16, .invokevirtual 121, 3), (19, .pop, 1), (20, .aload_n 0, 1), (21, .getfield 29, 3), (24, .invokevirtual 181, 3), (27, .invokestatic 208, 3), (30, .istore_n 2, 1), (31, .lconst 0, 1), (32, .lstore_n 3, 1), (33, .iconst 0, 1), (34, .istore 5, 2), (36, .iload 5, 2), (38, .aload_n 0, 1), (39, .getfield 61, 3), (42, .getfield 202, 3), (45, .if_icmp .ge 34, 3), (48, .lload_n 3, 1), (49, .aload_n 0, 1), (50, .iload 5, 2), (52, .iconst (-1), 1), (53, .invokevirtual 308, 3), (56, .ldc2_w 312, 3), (59, .iload_n 2, 1), (60, .aload_n 0, 1), (61, .iload 5, 2), (63, .invokevirtual 314, 3), (66, .isub, 1), (67, .invokestatic 317, 3), (70, .lmul, 1), (71, .ladd, 1), (72, .lstore_n 3, 1), (73, .iinc 5 1, 3), (76, .goto (-40), 3), (79, .lload_n 3, 1), (80, .ldc2_w 312, 3), (83, .iload_n 2, 1), (84, .invokestatic 317, 3), (87, .iload_n 1, 1), (88, .invokestatic 321, 3), (91, .lreturn, 1)])
theorem T_X10_mean : zT M_X10_mean := zT_of (by decide +kernel)
theorem F_X10_mean : zMV M_X10_mean 1 := ⟨⟨zTT_in (i := 1172) (by decide +kernel) rfl, zTT_in (i := 136) (by decide +kernel) rfl, ⟨by decide, by decide, by decide +kernel⟩, by decide⟩, zTT_in (i := 1170) (by decide +kernel) rfl, zTT_in (i := 1171) (by decide +kernel) rfl⟩
def M_X10_thumbs : zM := (⟨RX10, "thumbs", "(III)I"⟩, prog_1_method_44_code, 4, (some .int), [(0, .aload_n 0, 1), (1, .iload_n 1, 1), (2, .invokevirtual 188, 3), (5, .ifCond .ne 9, 3), (8, .aload_n 0, 1), (9, .iconst 1, 1), (10, .invokevirtual 82, 3), (13, .ireturn, 1), (14, .iload_n 2, 1), (15, .iload_n 3, 1), (16, .invokestatic 325, 3), (19, .ifCond .ne 9, 3), (22, .aload_n 0, 1), (23, .iconst 2, 1), (24, .invokevirtual 82, 3), (27, .ireturn, 1), (28, .aload_n 0, 1), (29, .aload_n 0, 1), (30, .iload_n 1, 1), (31, .aload_n 0, 1), (32, .getfield 29, 3), (35, .invokevirtual 181, 3), (38, .aload_n 0, 1), (39, .iload_n 2, 1), (40, .iload_n 3, 1), (41, .invokevirtual 329, 3), (44, .iconst (-1), 1), (45, .ixor, 1), (46, .iand, 1), (47, .invokevirtual 191, 3), (50, .invokevirtual 121, 3), (53, .ireturn, 1)])
theorem T_X10_thumbs : zT M_X10_thumbs := zT_of (by decide +kernel)
theorem F_X10_thumbs : zMV M_X10_thumbs 3 := ⟨⟨zTT_in (i := 1176) (by decide +kernel) rfl, zTT_in (i := 136) (by decide +kernel) rfl, ⟨by decide, by decide, by decide +kernel⟩, by decide⟩, zTT_in (i := 1174) (by decide +kernel) rfl, zTT_in (i := 1175) (by decide +kernel) rfl⟩
def M_X10_smudged : zM := (⟨RX10, "smudged", "(II)I"⟩, prog_1_method_45_code, 3, (some .int), [(0, .aload_n 0, 1), (1, .invokevirtual 198, 3), (4, .ifCond .eq 9, 3), (7, .aload_n 0, 1), (8, .iconst 1, 1), (9, .invokevirtual 82, 3), (12, .ireturn, 1), (13, .iload_n 1, 1), (14, .iload_n 2, 1), (15, .invokestatic 325, 3), (18, .ifCond .ne 9, 3), (21, .aload_n 0, 1), (22, .iconst 2, 1), (23, .invokevirtual 82, 3), (26, .ireturn, 1), (27, .aload_n 0, 1), (28, .aload_n 0, 1), (29, .iload_n 1, 1), (30, .iload_n 2, 1), (31, .invokevirtual 329, 3), (34, .invokestatic 208, 3), (37, .invokevirtual 121, 3), (40, .ireturn, 1)])
theorem T_X10_smudged : zT M_X10_smudged := zT_of (by decide +kernel)
theorem F_X10_smudged : zMV M_X10_smudged 2 := ⟨⟨zTT_in (i := 1188) (by decide +kernel) rfl, zTT_in (i := 136) (by decide +kernel) rfl, ⟨by decide, by decide, by decide +kernel⟩, by decide⟩, zTT_in (i := 1186) (by decide +kernel) rfl, zTT_in (i := 1187) (by decide +kernel) rfl⟩
def M_X10_write : zM := (⟨RX10, "write", "(IIIZI)I"⟩, prog_1_method_46_code, 6, (some .int), [(0, .aload_n 0, 1), (1, .iload_n 1, 1), (2, .invokevirtual 150, 3), (5, .ifCond .eq 19, 3), (8, .aload_n 0, 1), (9, .iload_n 2, 1), (10, .invokevirtual 127, 3), (13, .ifCond .eq 11, 3), (16, .aload_n 0, 1), (17, .iload_n 3, 1), (18, .invokevirtual 188, 3), (21, .ifCond .ne 9, 3), (24, .aload_n 0, 1), (25, .iconst 1, 1), (26, .invokevirtual 82, 3), (29, .ireturn, 1), (30, .iload 5, 2), (32, .iconst 1, 1), (33, .if_icmp .lt 10, 3), (36, .iload 5, 2), (38, .bipush 9, 2), (40, .if_icmp .le 9, 3), (43, .aload_n 0, 1), (44, .iconst 2, 1), (45, .invokevirtual 82, 3), (48, .ireturn, 1), (49, .aload_n 0, 1), (50, .getfield 29, 3), (53, .getfield 147, 3), (56, .iload_n 2, 1), (57, .ishr, 1), (58, .iconst 1, 1), (59, .iand, 1), (60, .iconst 1, 1), (61, .if_icmp .ne 9, 3), (64, .aload_n 0, 1), (65, .iconst 5, 1), (66, .invokevirtual 82, 3), (69, .ireturn, 1), (70, .iload 5, 2), (72, .aload_n 0, 1), (73, .iload_n 2, 1), (74, .invokevirtual 138, 3), (77, .if_icmp .gt 15, 3), (80, .aload_n 0, 1), (81, .getfield 29, 3), (84, .getfield 216, 3), (87, .bipush 8, 2), (89, .if_icmp .lt 9, 3), (92, .aload_n 0, 1), (93, .iconst 3, 1), (94, .invokevirtual 82, 3), (97, .ireturn, 1), (98, .aload_n 0, 1), (99, .getfield 29, 3), (102, .iload_n 1, 1), (103, .iload_n 2, 1), (104, .iload_n 3, 1), (105, .iload 4, 2), (107, .ifCond .eq 7, 3), (110, .iconst 1, 1), (111, .goto 4, 3), (114, .iconst 0, 1), (115, .iload 5, 2), (117, .invokevirtual 332, 3), (120, .aload_n 0, 1), (121, .getfield 40, 3), (124, .iconst 0, 1), (125, .aload_n 0, 1), (126, .getfield 29, 3), (129, .getfield 216, 3), (132, .iconst 1, 1), (133, .isub, 1), (134, .invokevirtual 336, 3), (137, .aload_n 0, 1), (138, .aload_n 0, 1), (139, .getfield 29, 3), (142, .getfield 216, 3), (145, .iconst 1, 1), (146, .isub, 1), (147, .invokevirtual 121, 3), (150, .ireturn, 1)])
theorem T_X10_write : zT M_X10_write := zT_of (by decide +kernel)
theorem F_X10_write : zMV M_X10_write 5 := ⟨⟨zTT_in (i := 1192) (by decide +kernel) rfl, zTT_in (i := 136) (by decide +kernel) rfl, ⟨by decide, by decide, by decide +kernel⟩, by decide⟩, zTT_in (i := 1190) (by decide +kernel) rfl, zTT_in (i := 1191) (by decide +kernel) rfl⟩
def M_X10_strike : zM := (⟨RX10, "strike", "(I)Z"⟩, prog_1_method_47_code, 2, (some .boolean), [(0, .aload_n 0, 1), (1, .iload_n 1, 1), (2, .invokevirtual 162, 3), (5, .ifCond .ne 11, 3), (8, .aload_n 0, 1), (9, .iconst 1, 1), (10, .invokevirtual 82, 3), (13, .pop, 1), (14, .iconst 0, 1), (15, .ireturn, 1), (16, .aload_n 0, 1), (17, .getfield 29, 3), (20, .getfield 178, 3), (23, .iload_n 1, 1), (24, .ishr, 1), (25, .iconst 1, 1), (26, .iand, 1), (27, .iconst 1, 1), (28, .if_icmp .ne 11, 3), (31, .aload_n 0, 1), (32, .iconst 5, 1), (33, .invokevirtual 82, 3), (36, .pop, 1), (37, .iconst 0, 1), (38, .ireturn, 1), (39, .aload_n 0, 1), (40, .getfield 29, 3), (43, .dup, 1), (44, .getfield 178, 3), (47, .iconst 1, 1), (48, .iload_n 1, 1), (49, .ishl, 1), (50, .ior, 1), (51, .putfield 178, 3), (54, .aload_n 0, 1), (55, .getfield 40, 3), (58, .iconst 1, 1), (59, .iload_n 1, 1), (60, .invokevirtual 336, 3), (63, .aload_n 0, 1), (64, .iconst 0, 1), (65, .invokevirtual 121, 3), (68, .pop, 1), (69, .iconst 1, 1), (70, .ireturn, 1)])
theorem T_X10_strike : zT M_X10_strike := zT_of (by decide +kernel)
theorem F_X10_strike : zMV M_X10_strike 1 := ⟨⟨zTT_in (i := 1201) (by decide +kernel) rfl, zTT_in (i := 136) (by decide +kernel) rfl, ⟨by decide, by decide, by decide +kernel⟩, by decide⟩, zTT_in (i := 1199) (by decide +kernel) rfl, zTT_in (i := 1200) (by decide +kernel) rfl⟩
def M_X10_fold : zM := (⟨RX10, "fold", "(I)I"⟩, prog_1_method_48_code, 2, (some .int), [(0, .aload_n 0, 1), (1, .iload_n 1, 1), (2, .invokevirtual 127, 3), (5, .ifCond .ne 9, 3), (8, .aload_n 0, 1), (9, .iconst 1, 1), (10, .invokevirtual 82, 3), (13, .ireturn, 1), (14, .aload_n 0, 1), (15, .getfield 29, 3), (18, .dup, 1), (19, .getfield 147, 3), (22, .iconst 1, 1), (23, .iload_n 1, 1), (24, .ishl, 1), (25, .ixor, 1), (26, .putfield 147, 3), (29, .aload_n 0, 1), (30, .getfield 40, 3), (33, .iconst 2, 1), (34, .iload_n 1, 1), (35, .invokevirtual 336, 3), (38, .aload_n 0, 1), (39, .aload_n 0, 1), (40, .getfield 29, 3), (43, .getfield 147, 3), (46, .iload_n 1, 1), (47, .ishr, 1), (48, .iconst 1, 1), (49, .iand, 1), (50, .invokevirtual 121, 3), (53, .ireturn, 1)])
theorem T_X10_fold : zT M_X10_fold := zT_of (by decide +kernel)
theorem F_X10_fold : zMV M_X10_fold 1 := ⟨⟨zTT_in (i := 1205) (by decide +kernel) rfl, zTT_in (i := 136) (by decide +kernel) rfl, ⟨by decide, by decide, by decide +kernel⟩, by decide⟩, zTT_in (i := 1203) (by decide +kernel) rfl, zTT_in (i := 1204) (by decide +kernel) rfl⟩
def M_X10_undo : zM := (⟨RX10, "undo", "()Z"⟩, prog_1_method_49_code, 3, (some .boolean), [(0, .aload_n 0, 1), (1, .getfield 40, 3), (4, .getfield 112, 3), (7, .ifCond .ne 12, 3), (10, .aload_n 0, 1), (11, .bipush 6, 2), (13, .invokevirtual 82, 3), (16, .pop, 1), (17, .iconst 0, 1), (18, .ireturn, 1), (19, .aload_n 0, 1), (20, .getfield 40, 3), (23, .dup, 1), (24, .getfield 112, 3), (27, .iconst 1, 1), (28, .isub, 1), (29, .putfield 112, 3), (32, .aload_n 0, 1), (33, .getfield 40, 3), (36, .getfield 340, 3), (39, .aload_n 0, 1), (40, .getfield 40, 3), (43, .getfield 112, 3), (46, .iaload, 1), (47, .istore_n 1, 1), (48, .aload_n 0, 1), (49, .getfield 40, 3), (52, .getfield 343, 3), (55, .aload_n 0, 1), (56, .getfield 40, 3), (59, .getfield 112, 3), (62, .iaload, 1), (63, .istore_n 2, 1), (64, .iload_n 1, 1), (65, .ifCond .ne 14, 3), (68, .aload_n 0, 1), (69, .getfield 29, 3), (72, .iload_n 2, 1), (73, .putfield 216, 3), (76, .goto 43, 3), (79, .iload_n 1, 1), (80, .iconst 1, 1), (81, .if_icmp .ne 23, 3), (84, .aload_n 0, 1), (85, .getfield 29, 3), (88, .dup, 1), (89, .getfield 178, 3), (92, .iconst 1, 1), (93, .iload_n 2, 1), (94, .ishl, 1), (95, .iconst (-1), 1), (96, .ixor, 1), (97, .iand, 1), (98, .putfield 178, 3), (101, .goto 18, 3), (104, .aload_n 0, 1), (105, .getfield 29, 3), (108, .dup, 1), (109, .getfield 147, 3), (112, .iconst 1, 1), (113, .iload_n 2, 1), (114, .ishl, 1), (115, .ixor, 1), (116, .putfield 147, 3), (119, .aload_n 0, 1), (120, .iconst 0, 1), (121, .invokevirtual 121, 3), (124, .pop, 1), (125, .iconst 1, 1), (126, .ireturn, 1)])
theorem T_X10_undo : zT M_X10_undo := zT_of (by decide +kernel)
theorem F_X10_undo : zMV M_X10_undo 0 := ⟨⟨zTT_in (i := 1209) (by decide +kernel) rfl, zTT_in (i := 136) (by decide +kernel) rfl, ⟨by decide, by decide, by decide +kernel⟩, by decide⟩, zTT_in (i := 1207) (by decide +kernel) rfl, zTT_in (i := 1208) (by decide +kernel) rfl⟩
def M_X10_image : zM := (⟨RX10, "image", "()I"⟩, prog_1_method_50_code, 1, (some .int), [(0, .aload_n 0, 1), (1, .invokevirtual 198, 3), (4, .ifCond .eq 9, 3), (7, .aload_n 0, 1), (8, .iconst 1, 1), (9, .invokevirtual 82, 3), (12, .ireturn, 1), (13, .aload_n 0, 1), (14, .getfield 115, 3), (17, .iconst 3, 1), (18, .if_icmp .lt 9, 3), (21, .aload_n 0, 1), (22, .iconst 3, 1), (23, .invokevirtual 82, 3), (26, .ireturn, 1), (27, .aload_n 0, 1), (28, .getfield 33, 3), (31, .aload_n 0, 1), (32, .getfield 115, 3), (35, .aaload, 1), (36, .aload_n 0, 1), (37, .getfield 29, 3), (40, .invokevirtual 100, 3), (43, .aload_n 0, 1), (44, .dup, 1), (45, .getfield 115, 3), (48, .iconst 1, 1), (49, .iadd, 1), (50, .putfield 115, 3), (53, .aload_n 0, 1), (54, .aload_n 0, 1), (55, .getfield 115, 3), (58, .iconst 1, 1), (59, .isub, 1), (60, .invokevirtual 121, 3), (63, .ireturn, 1)])
theorem T_X10_image : zT M_X10_image := zT_of (by decide +kernel)
theorem F_X10_image : zMV M_X10_image 0 := ⟨⟨zTT_in (i := 1213) (by decide +kernel) rfl, zTT_in (i := 136) (by decide +kernel) rfl, ⟨by decide, by decide, by decide +kernel⟩, by decide⟩, zTT_in (i := 1211) (by decide +kernel) rfl, zTT_in (i := 1212) (by decide +kernel) rfl⟩
def M_X10_back : zM := (⟨RX10, "back", "(I)Z"⟩, prog_1_method_51_code, 2, (some .boolean), [(0, .iload_n 1, 1), (1, .ifCond .lt 11, 3), (4, .iload_n 1, 1), (5, .aload_n 0, 1), (6, .getfield 115, 3), (9, .if_icmp .lt 11, 3), (12, .aload_n 0, 1), (13, .iconst 1, 1), (14, .invokevirtual 82, 3), (17, .pop, 1), (18, .iconst 0, 1), (19, .ireturn, 1), (20, .aload_n 0, 1), (21, .getfield 29, 3), (24, .aload_n 0, 1), (25, .getfield 33, 3), (28, .iload_n 1, 1), (29, .aaload, 1), (30, .invokevirtual 100, 3), (33, .aload_n 0, 1), (34, .getfield 40, 3), (37, .iconst 0, 1), (38, .putfield 112, 3), (41, .aload_n 0, 1), (42, .iconst 0, 1), (43, .invokevirtual 121, 3), (46, .pop, 1), (47, .iconst 1, 1), (48, .ireturn, 1)])
theorem T_X10_back : zT M_X10_back := zT_of (by decide +kernel)
theorem F_X10_back : zMV M_X10_back 1 := ⟨⟨zTT_in (i := 1217) (by decide +kernel) rfl, zTT_in (i := 136) (by decide +kernel) rfl, ⟨by decide, by decide, by decide +kernel⟩, by decide⟩, zTT_in (i := 1215) (by decide +kernel) rfl, zTT_in (i := 1216) (by decide +kernel) rfl⟩
def M_X10_size : zM := (⟨RX10, "size", "(I)I"⟩, prog_1_method_53_code, 2, (some .int), [(0, .iload_n 1, 1), (1, .tableswitch 162 0 11 #[63, 71, 79, 87, 95, 103, 111, 119, 127, 138, 146, 151], 63), (64, .aload_n 0, 1), (65, .getfield 61, 3), (68, .getfield 349, 3), (71, .ireturn, 1), (72, .aload_n 0, 1), (73, .getfield 61, 3), (76, .getfield 118, 3), (79, .ireturn, 1), (80, .aload_n 0, 1), (81, .getfield 61, 3), (84, .getfield 255, 3), (87, .ireturn, 1), (88, .aload_n 0, 1), (89, .getfield 61, 3), (92, .getfield 205, 3), (95, .ireturn, 1), (96, .aload_n 0, 1), (97, .getfield 61, 3), (100, .getfield 202, 3), (103, .ireturn, 1), (104, .aload_n 0, 1), (105, .getfield 29, 3), (108, .getfield 216, 3), (111, .ireturn, 1), (112, .aload_n 0, 1), (113, .getfield 61, 3), (116, .getfield 352, 3), (119, .ireturn, 1), (120, .aload_n 0, 1), (121, .getfield 61, 3), (124, .getfield 355, 3), (127, .ireturn, 1), (128, .aload_n 0, 1), (129, .getfield 61, 3), (132, .getfield 264, 3), (135, .getfield 273, 3), (138, .ireturn, 1), (139, .aload_n 0, 1), (140, .getfield 40, 3), (143, .getfield 112, 3), (146, .ireturn, 1), (147, .aload_n 0, 1), (148, .getfield 115, 3), (151, .ireturn, 1), (152, .aload_n 0, 1), (153, .getfield 12, 3), (156, .getfield 69, 3), (159, .getfield 73, 3), (162, .ireturn, 1), (163, .iconst (-1), 1), (164, .ireturn, 1)])
theorem T_X10_size : zT M_X10_size := zT_of (by decide +kernel)
theorem F_X10_size : zMV M_X10_size 1 := ⟨⟨zTT_in (i := 1221) (by decide +kernel) rfl, zTT_in (i := 136) (by decide +kernel) rfl, ⟨by decide, by decide, by decide +kernel⟩, by decide⟩, zTT_in (i := 1219) (by decide +kernel) rfl, zTT_in (i := 1220) (by decide +kernel) rfl⟩
def M_X10_trouble : zM := (⟨RX10, "trouble", "()I"⟩, prog_1_method_54_code, 1, (some .int), [(0, .aload_n 0, 1), (1, .getfield 124, 3), (4, .ireturn, 1)])
theorem T_X10_trouble : zT M_X10_trouble := zT_of (by decide +kernel)
theorem F_X10_trouble : zMV M_X10_trouble 0 := ⟨⟨zTT_in (i := 1225) (by decide +kernel) rfl, zTT_in (i := 136) (by decide +kernel) rfl, ⟨by decide, by decide, by decide +kernel⟩, by decide⟩, zTT_in (i := 1223) (by decide +kernel) rfl, zTT_in (i := 1224) (by decide +kernel) rfl⟩
def M_X10_refuse : zM := (⟨RX10, "refuse", "(I)I"⟩, prog_1_method_55_code, 2, (some .int), [(0, .aload_n 0, 1), (1, .iload_n 1, 1), (2, .putfield 124, 3), (5, .iconst (-1), 1), (6, .ireturn, 1)])
theorem T_X10_refuse : zT M_X10_refuse := zT_of (by decide +kernel)
theorem F_X10_refuse : zMV M_X10_refuse 1 := ⟨⟨zTT_in (i := 557) (by decide +kernel) rfl, zTT_in (i := 136) (by decide +kernel) rfl, ⟨by decide, by decide, by decide +kernel⟩, by decide⟩, zTT_in (i := 556) (by decide +kernel) rfl, zTT_in (i := 0) (by decide +kernel) rfl⟩
def M_X10_grant : zM := (⟨RX10, "grant", "(I)I"⟩, prog_1_method_56_code, 2, (some .int), [(0, .aload_n 0, 1), (1, .iconst 0, 1), (2, .putfield 124, 3), (5, .iload_n 1, 1), (6, .ireturn, 1)])
theorem T_X10_grant : zT M_X10_grant := zT_of (by decide +kernel)
theorem F_X10_grant : zMV M_X10_grant 1 := ⟨⟨zTT_in (i := 784) (by decide +kernel) rfl, zTT_in (i := 136) (by decide +kernel) rfl, ⟨by decide, by decide, by decide +kernel⟩, by decide⟩, zTT_in (i := 783) (by decide +kernel) rfl, zTT_in (i := 24) (by decide +kernel) rfl⟩
def M_X10_noLetter : zM := (⟨RX10, "noLette\x72", "()Z"⟩, prog_1_method_57_code, 1, (some .boolean), [(0, .aload_n 0, 1), (1, .getfield 61, 3), (4, .getfield 118, 3), (7, .ifCond .ne 7, 3), (10, .iconst 1, 1), (11, .goto 4, 3), (14, .iconst 0, 1), (15, .ireturn, 1)])
theorem T_X10_noLetter : zT M_X10_noLetter := zT_of (by decide +kernel)
theorem F_X10_noLetter : zMV M_X10_noLetter 0 := ⟨⟨zTT_in (i := 890) (by decide +kernel) rfl, zTT_in (i := 136) (by decide +kernel) rfl, ⟨by decide, by decide, by decide +kernel⟩, by decide⟩, zTT_in (i := 889) (by decide +kernel) rfl, zTT_in (i := 34) (by decide +kernel) rfl⟩
def M_X10_isPlace : zM := (⟨RX10, "isPlace", "(I)Z"⟩, prog_1_method_58_code, 2, (some .boolean), [(0, .iload_n 1, 1), (1, .ifCond .lt 18, 3), (4, .iload_n 1, 1), (5, .aload_n 0, 1), (6, .getfield 61, 3), (9, .getfield 118, 3), (12, .if_icmp .ge 7, 3), (15, .iconst 1, 1), (16, .goto 4, 3), (19, .iconst 0, 1), (20, .ireturn, 1)])
theorem T_X10_isPlace : zT M_X10_isPlace := zT_of (by decide +kernel)
theorem F_X10_isPlace : zMV M_X10_isPlace 1 := ⟨⟨zTT_in (i := 800) (by decide +kernel) rfl, zTT_in (i := 136) (by decide +kernel) rfl, ⟨by decide, by decide, by decide +kernel⟩, by decide⟩, zTT_in (i := 799) (by decide +kernel) rfl, zTT_in (i := 25) (by decide +kernel) rfl⟩
def M_X10_isHand : zM := (⟨RX10, "isHand", "(I)Z"⟩, prog_1_method_59_code, 2, (some .boolean), [(0, .iload_n 1, 1), (1, .ifCond .lt 18, 3), (4, .iload_n 1, 1), (5, .aload_n 0, 1), (6, .getfield 61, 3), (9, .getfield 205, 3), (12, .if_icmp .ge 7, 3), (15, .iconst 1, 1), (16, .goto 4, 3), (19, .iconst 0, 1), (20, .ireturn, 1)])
theorem T_X10_isHand : zT M_X10_isHand := zT_of (by decide +kernel)
theorem F_X10_isHand : zMV M_X10_isHand 1 := ⟨⟨zTT_in (i := 817) (by decide +kernel) rfl, zTT_in (i := 136) (by decide +kernel) rfl, ⟨by decide, by decide, by decide +kernel⟩, by decide⟩, zTT_in (i := 816) (by decide +kernel) rfl, zTT_in (i := 27) (by decide +kernel) rfl⟩
def M_X10_isMatter : zM := (⟨RX10, "isMatte\x72", "(I)Z"⟩, prog_1_method_60_code, 2, (some .boolean), [(0, .iload_n 1, 1), (1, .ifCond .lt 18, 3), (4, .iload_n 1, 1), (5, .aload_n 0, 1), (6, .getfield 61, 3), (9, .getfield 202, 3), (12, .if_icmp .ge 7, 3), (15, .iconst 1, 1), (16, .goto 4, 3), (19, .iconst 0, 1), (20, .ireturn, 1)])
theorem T_X10_isMatter : zT M_X10_isMatter := zT_of (by decide +kernel)
theorem F_X10_isMatter : zMV M_X10_isMatter 1 := ⟨⟨zTT_in (i := 865) (by decide +kernel) rfl, zTT_in (i := 136) (by decide +kernel) rfl, ⟨by decide, by decide, by decide +kernel⟩, by decide⟩, zTT_in (i := 864) (by decide +kernel) rfl, zTT_in (i := 32) (by decide +kernel) rfl⟩
def M_X10_isLine : zM := (⟨RX10, "isLine", "(I)Z"⟩, prog_1_method_61_code, 2, (some .boolean), [(0, .iload_n 1, 1), (1, .ifCond .lt 18, 3), (4, .iload_n 1, 1), (5, .aload_n 0, 1), (6, .getfield 29, 3), (9, .getfield 216, 3), (12, .if_icmp .ge 7, 3), (15, .iconst 1, 1), (16, .goto 4, 3), (19, .iconst 0, 1), (20, .ireturn, 1)])
theorem T_X10_isLine : zT M_X10_isLine := zT_of (by decide +kernel)
theorem F_X10_isLine : zMV M_X10_isLine 1 := ⟨⟨zTT_in (i := 853) (by decide +kernel) rfl, zTT_in (i := 136) (by decide +kernel) rfl, ⟨by decide, by decide, by decide +kernel⟩, by decide⟩, zTT_in (i := 852) (by decide +kernel) rfl, zTT_in (i := 30) (by decide +kernel) rfl⟩
def M_X10_isHidden : zM := (⟨RX10, "isHidden", "(I)Z"⟩, prog_1_method_62_code, 2, (some .boolean), [(0, .iload_n 1, 1), (1, .ifCond .lt 18, 3), (4, .iload_n 1, 1), (5, .aload_n 0, 1), (6, .getfield 61, 3), (9, .getfield 352, 3), (12, .if_icmp .ge 7, 3), (15, .iconst 1, 1), (16, .goto 4, 3), (19, .iconst 0, 1), (20, .ireturn, 1)])
theorem T_X10_isHidden : zT M_X10_isHidden := zT_of (by decide +kernel)
theorem F_X10_isHidden : zMV M_X10_isHidden 1 := ⟨⟨zTT_in (i := 1091) (by decide +kernel) rfl, zTT_in (i := 136) (by decide +kernel) rfl, ⟨by decide, by decide, by decide +kernel⟩, by decide⟩, zTT_in (i := 1090) (by decide +kernel) rfl, zTT_in (i := 49) (by decide +kernel) rfl⟩
def M_X10_isInk : zM := (⟨RX10, "isInk", "(I)Z"⟩, prog_1_method_63_code, 1, (some .boolean), [(0, .iload_n 0, 1), (1, .ifCond .lt 13, 3), (4, .iload_n 0, 1), (5, .bipush 9, 2), (7, .if_icmp .gt 7, 3), (10, .iconst 1, 1), (11, .goto 4, 3), (14, .iconst 0, 1), (15, .ireturn, 1)])
theorem T_X10_isInk : zT M_X10_isInk := zT_of (by decide +kernel)
theorem F_X10_isInk : zMS M_X10_isInk 1 := ⟨⟨zTT_in (i := 1130) (by decide +kernel) rfl, zTT_in (i := 136) (by decide +kernel) rfl, ⟨by decide, by decide, by decide +kernel⟩, by decide⟩, zTT_in (i := 1129) (by decide +kernel) rfl⟩
def M_X10_isThumbs : zM := (⟨RX10, "isThumbs", "(II)Z"⟩, prog_1_method_64_code, 2, (some .boolean), [(0, .iload_n 0, 1), (1, .ifCond .lt 24, 3), (4, .iload_n 0, 1), (5, .ldc_w 358, 3), (8, .if_icmp .ge 17, 3), (11, .iload_n 1, 1), (12, .ifCond .lt 13, 3), (15, .iload_n 1, 1), (16, .bipush 60, 2), (18, .if_icmp .gt 7, 3), (21, .iconst 1, 1), (22, .goto 4, 3), (25, .iconst 0, 1), (26, .ireturn, 1)])
theorem T_X10_isThumbs : zT M_X10_isThumbs := zT_of (by decide +kernel)
theorem F_X10_isThumbs : zMS M_X10_isThumbs 2 := ⟨⟨zTT_in (i := 1179) (by decide +kernel) rfl, zTT_in (i := 136) (by decide +kernel) rfl, ⟨by decide, by decide, by decide +kernel⟩, by decide⟩, zTT_in (i := 1178) (by decide +kernel) rfl⟩
def M_X10_roomAt : zM := (⟨RX10, "roomAt", "(I)I"⟩, prog_1_method_65_code, 2, (some .int), [(0, .aload_n 0, 1), (1, .getfield 61, 3), (4, .getfield 135, 3), (7, .iload_n 1, 1), (8, .iaload, 1), (9, .aload_n 0, 1), (10, .getfield 29, 3), (13, .iload_n 1, 1), (14, .invokevirtual 359, 3), (17, .isub, 1), (18, .ireturn, 1)])
theorem T_X10_roomAt : zT M_X10_roomAt := zT_of (by decide +kernel)
theorem F_X10_roomAt : zMV M_X10_roomAt 1 := ⟨⟨zTT_in (i := 804) (by decide +kernel) rfl, zTT_in (i := 136) (by decide +kernel) rfl, ⟨by decide, by decide, by decide +kernel⟩, by decide⟩, zTT_in (i := 803) (by decide +kernel) rfl, zTT_in (i := 26) (by decide +kernel) rfl⟩
def M_X10_openPlaces : zM := (⟨RX10, "openPlaces", "()I"⟩, prog_1_method_66_code, 3, (some .int), [(0, .iconst 0, 1), (1, .istore_n 1, 1), (2, .iconst 0, 1), (3, .istore_n 2, 1), (4, .iload_n 2, 1), (5, .aload_n 0, 1), (6, .getfield 61, 3), (9, .getfield 118, 3), (12, .if_icmp .ge 37, 3), (15, .aload_n 0, 1), (16, .getfield 29, 3), (19, .getfield 147, 3), (22, .iload_n 2, 1), (23, .ishr, 1), (24, .iconst 1, 1), (25, .iand, 1), (26, .ifCond .ne 17, 3), (29, .aload_n 0, 1), (30, .iload_n 2, 1), (31, .invokevirtual 138, 3), (34, .ifCond .le 9, 3), (37, .iload_n 1, 1), (38, .iconst 1, 1), (39, .iload_n 2, 1), (40, .ishl, 1), (41, .ior, 1), (42, .istore_n 1, 1), (43, .iinc 2 1, 3), (46, .goto (-42), 3), (49, .iload_n 1, 1), (50, .ireturn, 1)])
theorem T_X10_openPlaces : zT M_X10_openPlaces := zT_of (by decide +kernel)
theorem F_X10_openPlaces : zMV M_X10_openPlaces 0 := ⟨⟨zTT_in (i := 952) (by decide +kernel) rfl, zTT_in (i := 136) (by decide +kernel) rfl, ⟨by decide, by decide, by decide +kernel⟩, by decide⟩, zTT_in (i := 951) (by decide +kernel) rfl, zTT_in (i := 38) (by decide +kernel) rfl⟩
def M_X10_verdict : zM := (⟨RX10, "verdict", "(II)I"⟩, prog_1_method_67_code, 3, (some .int), [(0, .aload_n 0, 1), (1, .getfield 19, 3), (4, .aload_n 0, 1), (5, .getfield 29, 3), (8, .iload_n 1, 1), (9, .iload_n 2, 1), (10, .invokevirtual 223, 3), (13, .aload_n 0, 1), (14, .getfield 29, 3), (17, .iload_n 1, 1), (18, .iload_n 2, 1), (19, .invokevirtual 232, 3), (22, .invokevirtual 235, 3), (25, .ireturn, 1)])
theorem T_X10_verdict : zT M_X10_verdict := zT_of (by decide +kernel)
theorem F_X10_verdict : zMV M_X10_verdict 2 := ⟨⟨zTT_in (i := 869) (by decide +kernel) rfl, zTT_in (i := 136) (by decide +kernel) rfl, ⟨by decide, by decide, by decide +kernel⟩, by decide⟩, zTT_in (i := 868) (by decide +kernel) rfl, zTT_in (i := 33) (by decide +kernel) rfl⟩
def M_X10_verdictOfFirst : zM := (⟨RX10, "verdictOfFirst", "(II)I"⟩, prog_1_method_68_code, 3, (some .int), [(0, .aload_n 0, 1), (1, .iload_n 1, 1), (2, .aload_n 0, 1), (3, .getfield 29, 3), (6, .invokevirtual 181, 3), (9, .iconst 1, 1), (10, .iload_n 2, 1), (11, .ishl, 1), (12, .iconst 1, 1), (13, .isub, 1), (14, .iand, 1), (15, .invokevirtual 191, 3), (18, .ireturn, 1)])
theorem T_X10_verdictOfFirst : zT M_X10_verdictOfFirst := zT_of (by decide +kernel)
theorem F_X10_verdictOfFirst : zMV M_X10_verdictOfFirst 2 := ⟨⟨zTT_in (i := 916) (by decide +kernel) rfl, zTT_in (i := 136) (by decide +kernel) rfl, ⟨by decide, by decide, by decide +kernel⟩, by decide⟩, zTT_in (i := 915) (by decide +kernel) rfl, zTT_in (i := 36) (by decide +kernel) rfl⟩
def M_X10_standing : zM := (⟨RX10, "standing", "(II)I"⟩, prog_1_method_69_code, 4, (some .int), [(0, .aload_n 0, 1), (1, .getfield 19, 3), (4, .aload_n 0, 1), (5, .getfield 29, 3), (8, .iload_n 1, 1), (9, .iload_n 2, 1), (10, .invokevirtual 223, 3), (13, .invokevirtual 229, 3), (16, .istore_n 3, 1), (17, .iload_n 3, 1), (18, .iconst (-1), 1), (19, .if_icmp .ne 8, 3), (22, .bipush (-2), 2), (24, .goto 13, 3), (27, .aload_n 0, 1), (28, .getfield 29, 3), (31, .iload_n 3, 1), (32, .iload_n 1, 1), (33, .iload_n 2, 1), (34, .invokevirtual 362, 3), (37, .ireturn, 1)])
theorem T_X10_standing : zT M_X10_standing := zT_of (by decide +kernel)
theorem F_X10_standing : zMV M_X10_standing 2 := ⟨⟨zTT_in (i := 833) (by decide +kernel) rfl, zTT_in (i := 136) (by decide +kernel) rfl, ⟨by decide, by decide, by decide +kernel⟩, by decide⟩, zTT_in (i := 832) (by decide +kernel) rfl, zTT_in (i := 29) (by decide +kernel) rfl⟩
def M_X10_ruledBy : zM := (⟨RX10, "ruledBy", "(I)I"⟩, prog_1_method_70_code, 6, (some .int), [(0, .aload_n 0, 1), (1, .getfield 29, 3), (4, .invokevirtual 181, 3), (7, .istore_n 2, 1), (8, .iconst 0, 1), (9, .istore_n 3, 1), (10, .iconst 0, 1), (11, .istore 4, 2), (13, .iload 4, 2), (15, .aload_n 0, 1), (16, .getfield 61, 3), (19, .getfield 202, 3), (22, .if_icmp .ge 46, 3), (25, .aload_n 0, 1), (26, .iload 4, 2), (28, .iload_n 2, 1), (29, .invokevirtual 195, 3), (32, .istore 5, 2), (34, .iload 5, 2), (36, .bipush (-2), 2), (38, .if_icmp .eq 24, 3), (41, .aload_n 0, 1), (42, .getfield 29, 3), (45, .getfield 165, 3), (48, .iload 5, 2), (50, .iaload, 1), (51, .iload_n 1, 1), (52, .if_icmp .ne 10, 3), (55, .iload_n 3, 1), (56, .iconst 1, 1), (57, .iload 4, 2), (59, .ishl, 1), (60, .ior, 1), (61, .istore_n 3, 1), (62, .iinc 4 1, 3), (65, .goto (-52), 3), (68, .iload_n 3, 1), (69, .ireturn, 1)])
theorem T_X10_ruledBy : zT M_X10_ruledBy := zT_of (by decide +kernel)
theorem F_X10_ruledBy : zMV M_X10_ruledBy 1 := ⟨⟨zTT_in (i := 825) (by decide +kernel) rfl, zTT_in (i := 136) (by decide +kernel) rfl, ⟨by decide, by decide, by decide +kernel⟩, by decide⟩, zTT_in (i := 824) (by decide +kernel) rfl, zTT_in (i := 28) (by decide +kernel) rfl⟩
def M_X10_beaters : zM := (⟨RX10, "beaters", "(I)I"⟩, prog_1_method_71_code, 7, (some .int), [(0, .aload_n 0, 1), (1, .getfield 29, 3), (4, .invokevirtual 181, 3), (7, .istore_n 2, 1), (8, .iload_n 2, 1), (9, .iload_n 1, 1), (10, .ishr, 1), (11, .iconst 1, 1), (12, .iand, 1), (13, .ifCond .ne 5, 3), (16, .iconst 0, 1), (17, .ireturn, 1), (18, .iconst 0, 1), (19, .istore_n 3, 1), (20, .iconst 0, 1), (21, .istore 4, 2), (23, .iload 4, 2), (25, .aload_n 0, 1), (26, .getfield 29, 3), (29, .getfield 216, 3), (32, .if_icmp .ge 134, 3), (35, .iload_n 2, 1), (36, .iload 4, 2), (38, .ishr, 1), (39, .iconst 1, 1), (40, .iand, 1), (41, .iconst 1, 1), (42, .if_icmp .ne 29, 3), (45, .aload_n 0, 1), (46, .getfield 29, 3), (49, .getfield 171, 3), (52, .iload 4, 2), (54, .iaload, 1), (55, .aload_n 0, 1), (56, .getfield 29, 3), (59, .getfield 171, 3), (62, .iload_n 1, 1), (63, .iaload, 1), (64, .if_icmp .ne 7, 3), (67, .iconst 1, 1), (68, .goto 4, 3), (71, .iconst 0, 1), (72, .istore 5, 2), (74, .aload_n 0, 1), (75, .getfield 29, 3), (78, .getfield 168, 3), (81, .iload 4, 2), (83, .iaload, 1), (84, .aload_n 0, 1), (85, .getfield 29, 3), (88, .getfield 168, 3), (91, .iload_n 1, 1), (92, .iaload, 1), (93, .if_icmp .ne 13, 3), (96, .iload 4, 2), (98, .iload_n 1, 1), (99, .if_icmp .le 7, 3), (102, .iconst 1, 1), (103, .goto 4, 3), (106, .iconst 0, 1), (107, .istore 6, 2), (109, .iload 5, 2), (111, .ifCond .eq 49, 3), (114, .iload 6, 2), (116, .ifCond .ne 37, 3), (119, .aload_n 0, 1), (120, .getfield 19, 3), (123, .getfield 141, 3), (126, .aload_n 0, 1), (127, .getfield 29, 3), (130, .getfield 168, 3), (133, .iload 4, 2), (135, .iaload, 1), (136, .iaload, 1), (137, .aload_n 0, 1), (138, .getfield 29, 3), (141, .getfield 168, 3), (144, .iload_n 1, 1), (145, .iaload, 1), (146, .ishr, 1), (147, .iconst 1, 1), (148, .iand, 1), (149, .iconst 1, 1), (150, .if_icmp .ne 10, 3), (153, .iload_n 3, 1), (154, .iconst 1, 1), (155, .iload 4, 2), (157, .ishl, 1), (158, .ior, 1), (159, .istore_n 3, 1), (160, .iinc 4 1, 3), (163, .goto (-140), 3), (166, .iload_n 3, 1), (167, .ireturn, 1)])
theorem T_X10_beaters : zT M_X10_beaters := zT_of (by decide +kernel)
theorem F_X10_beaters : zMV M_X10_beaters 1 := ⟨⟨zTT_in (i := 857) (by decide +kernel) rfl, zTT_in (i := 136) (by decide +kernel) rfl, ⟨by decide, by decide, by decide +kernel⟩, by decide⟩, zTT_in (i := 856) (by decide +kernel) rfl, zTT_in (i := 31) (by decide +kernel) rfl⟩
def M_X10_turnedWithout : zM := (⟨RX10, "turnedWithout", "(I)I"⟩, prog_1_method_72_code, 5, (some .int), [(0, .aload_n 0, 1), (1, .getfield 29, 3), (4, .invokevirtual 181, 3), (7, .istore_n 2, 1), (8, .iconst 0, 1), (9, .istore_n 3, 1), (10, .iconst 0, 1), (11, .istore 4, 2), (13, .iload 4, 2), (15, .aload_n 0, 1), (16, .getfield 61, 3), (19, .getfield 202, 3), (22, .if_icmp .ge 33, 3), (25, .aload_n 0, 1), (26, .iload 4, 2), (28, .iload_n 2, 1), (29, .iload_n 1, 1), (30, .iconst (-1), 1), (31, .ixor, 1), (32, .iand, 1), (33, .invokevirtual 191, 3), (36, .aload_n 0, 1), (37, .iload 4, 2), (39, .iload_n 2, 1), (40, .invokevirtual 191, 3), (43, .if_icmp .eq 6, 3), (46, .iinc 3 1, 3), (49, .iinc 4 1, 3), (52, .goto (-39), 3), (55, .iload_n 3, 1), (56, .ireturn, 1)])
theorem T_X10_turnedWithout : zT M_X10_turnedWithout := zT_of (by decide +kernel)
theorem F_X10_turnedWithout : zMV M_X10_turnedWithout 1 := ⟨⟨zTT_in (i := 908) (by decide +kernel) rfl, zTT_in (i := 136) (by decide +kernel) rfl, ⟨by decide, by decide, by decide +kernel⟩, by decide⟩, zTT_in (i := 907) (by decide +kernel) rfl, zTT_in (i := 35) (by decide +kernel) rfl⟩
def M_X10_leastTurn : zM := (⟨RX10, "leastTurn", "(I)I"⟩, prog_1_method_73_code, 8, (some .int), [(0, .aload_n 0, 1), (1, .getfield 29, 3), (4, .invokevirtual 181, 3), (7, .istore_n 2, 1), (8, .iload_n 2, 1), (9, .aload_n 0, 1), (10, .getfield 29, 3), (13, .iload_n 1, 1), (14, .invokevirtual 366, 3), (17, .iand, 1), (18, .istore_n 3, 1), (19, .aload_n 0, 1), (20, .iload_n 1, 1), (21, .iload_n 2, 1), (22, .invokevirtual 191, 3), (25, .istore 4, 2), (27, .bipush (-2), 2), (29, .istore 5, 2), (31, .bipush 9, 2), (33, .istore 6, 2), (35, .iconst 1, 1), (36, .istore 7, 2), (38, .iload 7, 2), (40, .iload_n 3, 1), (41, .if_icmp .gt 55, 3), (44, .iload 7, 2), (46, .iload_n 3, 1), (47, .iconst (-1), 1), (48, .ixor, 1), (49, .iand, 1), (50, .ifCond .ne 40, 3), (53, .iload 7, 2), (55, .invokestatic 208, 3), (58, .iload 6, 2), (60, .if_icmp .ge 30, 3), (63, .aload_n 0, 1), (64, .iload_n 1, 1), (65, .iload_n 2, 1), (66, .iload 7, 2), (68, .iconst (-1), 1), (69, .ixor, 1), (70, .iand, 1), (71, .invokevirtual 191, 3), (74, .iload 4, 2), (76, .if_icmp .eq 14, 3), (79, .iload 7, 2), (81, .invokestatic 208, 3), (84, .istore 6, 2), (86, .iload 7, 2), (88, .istore 5, 2), (90, .iinc 7 1, 3), (93, .goto (-55), 3), (96, .iload 5, 2), (98, .ireturn, 1)])
theorem T_X10_leastTurn : zT M_X10_leastTurn := zT_of (by decide +kernel)
theorem F_X10_leastTurn : zMV M_X10_leastTurn 1 := ⟨⟨zTT_in (i := 936) (by decide +kernel) rfl, zTT_in (i := 136) (by decide +kernel) rfl, ⟨by decide, by decide, by decide +kernel⟩, by decide⟩, zTT_in (i := 935) (by decide +kernel) rfl, zTT_in (i := 37) (by decide +kernel) rfl⟩
def M_X10_setDuelRooms : zM := (⟨RX10, "setDuelRooms", "()V"⟩, prog_1_method_74_code, 3, none, [(0, .aload_n 0, 1), (1, .invokevirtual 226, 3), (4, .istore_n 1, 1), (5, .iconst 0, 1), (6, .istore_n 2, 1), (7, .iload_n 2, 1), (8, .bipush 6, 2), (10, .if_icmp .ge 36, 3), (13, .aload_n 0, 1), (14, .getfield 54, 3), (17, .getfield 369, 3), (20, .iload_n 2, 1), (21, .iload_n 1, 1), (22, .iload_n 2, 1), (23, .ishr, 1), (24, .iconst 1, 1), (25, .iand, 1), (26, .iconst 1, 1), (27, .if_icmp .ne 11, 3), (30, .aload_n 0, 1), (31, .iload_n 2, 1), (32, .invokevirtual 138, 3), (35, .goto 4, 3), (38, .iconst 0, 1), (39, .iastore, 1), (40, .iinc 2 1, 3), (43, .goto (-36), 3), (46, .return_, 1)])
theorem T_X10_setDuelRooms : zT M_X10_setDuelRooms := zT_of (by decide +kernel)
theorem F_X10_setDuelRooms : zMV M_X10_setDuelRooms 0 := ⟨⟨zTT_in (i := 964) (by decide +kernel) rfl, zTT_in (i := 136) (by decide +kernel) rfl, ⟨by decide, by decide, by decide +kernel⟩, by decide⟩, zTT_in (i := 963) (by decide +kernel) rfl, zTT_in (i := 39) (by decide +kernel) rfl⟩
def M_X10_bestBids : zM := (⟨RX10, "bestBids", "(I)I"⟩, prog_1_method_75_code, 5, (some .int), [(0, .aload_n 0, 1), (1, .getfield 61, 3), (4, .getfield 264, 3), (7, .astore_n 2, 1), (8, .iconst 0, 1), (9, .istore_n 3, 1), (10, .iconst 1, 1), (11, .istore 4, 2), (13, .iload 4, 2), (15, .iconst 1, 1), (16, .aload_n 2, 1), (17, .getfield 273, 3), (20, .ishl, 1), (21, .if_icmp .ge 42, 3), (24, .iload 4, 2), (26, .iload_n 1, 1), (27, .iand, 1), (28, .ifCond .ne 29, 3), (31, .aload_n 2, 1), (32, .iload 4, 2), (34, .invokevirtual 268, 3), (37, .aload_n 2, 1), (38, .iload_n 3, 1), (39, .invokevirtual 268, 3), (42, .if_icmp .le 15, 3), (45, .aload_n 0, 1), (46, .iload 4, 2), (48, .invokevirtual 372, 3), (51, .ifCond .eq 6, 3), (54, .iload 4, 2), (56, .istore_n 3, 1), (57, .iinc 4 1, 3), (60, .goto (-47), 3), (63, .iload_n 3, 1), (64, .ireturn, 1)])
theorem T_X10_bestBids : zT M_X10_bestBids := zT_of (by decide +kernel)
theorem F_X10_bestBids : zMV M_X10_bestBids 1 := ⟨⟨zTT_in (i := 1024) (by decide +kernel) rfl, zTT_in (i := 136) (by decide +kernel) rfl, ⟨by decide, by decide, by decide +kernel⟩, by decide⟩, zTT_in (i := 1023) (by decide +kernel) rfl, zTT_in (i := 42) (by decide +kernel) rfl⟩
def M_X10_canTake : zM := (⟨RX10, "canTake", "(I)Z"⟩, prog_1_method_76_code, 3, (some .boolean), [(0, .iconst 0, 1), (1, .istore_n 2, 1), (2, .iload_n 2, 1), (3, .aload_n 0, 1), (4, .getfield 61, 3), (7, .getfield 118, 3), (10, .if_icmp .ge 31, 3), (13, .aload_n 0, 1), (14, .getfield 61, 3), (17, .getfield 264, 3), (20, .iload_n 2, 1), (21, .iload_n 1, 1), (22, .invokevirtual 375, 3), (25, .aload_n 0, 1), (26, .iload_n 2, 1), (27, .invokevirtual 138, 3), (30, .if_icmp .le 5, 3), (33, .iconst 0, 1), (34, .ireturn, 1), (35, .iinc 2 1, 3), (38, .goto (-36), 3), (41, .iconst 0, 1), (42, .istore_n 2, 1), (43, .iload_n 2, 1), (44, .aload_n 0, 1), (45, .getfield 61, 3), (48, .getfield 205, 3), (51, .if_icmp .ge 35, 3), (54, .aload_n 0, 1), (55, .getfield 61, 3), (58, .getfield 264, 3), (61, .iload_n 2, 1), (62, .iload_n 1, 1), (63, .invokevirtual 377, 3), (66, .aload_n 0, 1), (67, .getfield 61, 3), (70, .getfield 153, 3), (73, .iload_n 2, 1), (74, .iaload, 1), (75, .if_icmp .le 5, 3), (78, .iconst 0, 1), (79, .ireturn, 1), (80, .iinc 2 1, 3), (83, .goto (-40), 3), (86, .iconst 1, 1), (87, .ireturn, 1)])
theorem T_X10_canTake : zT M_X10_canTake := zT_of (by decide +kernel)
theorem F_X10_canTake : zMV M_X10_canTake 1 := ⟨⟨zTT_in (i := 1032) (by decide +kernel) rfl, zTT_in (i := 136) (by decide +kernel) rfl, ⟨by decide, by decide, by decide +kernel⟩, by decide⟩, zTT_in (i := 1031) (by decide +kernel) rfl, zTT_in (i := 43) (by decide +kernel) rfl⟩
def M_X10_footOf : zM := (⟨RX10, "footOf", "(IZZ)I"⟩, prog_1_method_77_code, 3, (some .int), [(0, .iload_n 1, 1), (1, .ifCond .eq 15, 3), (4, .iload_n 2, 1), (5, .ifCond .eq 7, 3), (8, .iconst 1, 1), (9, .goto 6, 3), (12, .iconst 4, 1), (13, .iload_n 0, 1), (14, .isub, 1), (15, .ireturn, 1), (16, .iload_n 2, 1), (17, .ifCond .eq 7, 3), (20, .iconst 0, 1), (21, .goto 4, 3), (24, .iconst 3, 1), (25, .ireturn, 1)])
theorem T_X10_footOf : zT M_X10_footOf := zT_of (by decide +kernel)
theorem F_X10_footOf : zMS M_X10_footOf 3 := ⟨⟨zTT_in (i := 1133) (by decide +kernel) rfl, zTT_in (i := 136) (by decide +kernel) rfl, ⟨by decide, by decide, by decide +kernel⟩, by decide⟩, zTT_in (i := 1132) (by decide +kernel) rfl⟩
def M_X10_isRest : zM := (⟨RX10, "isRest", "(IZZ)Z"⟩, prog_1_method_78_code, 3, (some .boolean), [(0, .iload_n 0, 1), (1, .iload_n 1, 1), (2, .iload_n 2, 1), (3, .invokestatic 300, 3), (6, .iload_n 0, 1), (7, .iload_n 1, 1), (8, .ifCond .ne 7, 3), (11, .iconst 1, 1), (12, .goto 4, 3), (15, .iconst 0, 1), (16, .iload_n 2, 1), (17, .invokestatic 300, 3), (20, .if_icmp .lt 30, 3), (23, .iload_n 0, 1), (24, .iload_n 2, 1), (25, .iload_n 1, 1), (26, .invokestatic 300, 3), (29, .iload_n 0, 1), (30, .iload_n 2, 1), (31, .ifCond .ne 7, 3), (34, .iconst 1, 1), (35, .goto 4, 3), (38, .iconst 0, 1), (39, .iload_n 1, 1), (40, .invokestatic 300, 3), (43, .if_icmp .lt 7, 3), (46, .iconst 1, 1), (47, .goto 4, 3), (50, .iconst 0, 1), (51, .ireturn, 1)])
theorem T_X10_isRest : zT M_X10_isRest := zT_of (by decide +kernel)
theorem F_X10_isRest : zMS M_X10_isRest 3 := ⟨⟨zTT_in (i := 1140) (by decide +kernel) rfl, zTT_in (i := 136) (by decide +kernel) rfl, ⟨by decide, by decide, by decide +kernel⟩, by decide⟩, zTT_in (i := 1139) (by decide +kernel) rfl⟩
def M_X10_countRead : zM := (⟨RX10, "countRead", "(I)I"⟩, prog_1_method_79_code, 2, (some .int), [(0, .aload_n 0, 1), (1, .getfield 29, 3), (4, .invokevirtual 181, 3), (7, .aload_n 0, 1), (8, .getfield 29, 3), (11, .iload_n 1, 1), (12, .invokevirtual 366, 3), (15, .iand, 1), (16, .invokestatic 208, 3), (19, .ireturn, 1)])
theorem T_X10_countRead : zT M_X10_countRead := zT_of (by decide +kernel)
theorem F_X10_countRead : zMV M_X10_countRead 1 := ⟨⟨zTT_in (i := 1160) (by decide +kernel) rfl, zTT_in (i := 136) (by decide +kernel) rfl, ⟨by decide, by decide, by decide +kernel⟩, by decide⟩, zTT_in (i := 1159) (by decide +kernel) rfl, zTT_in (i := 51) (by decide +kernel) rfl⟩
def M_X10_chance : zM := (⟨RX10, "chance", "(II)J"⟩, prog_1_method_80_code, 8, (some .long), [(0, .aload_n 0, 1), (1, .getfield 29, 3), (4, .invokevirtual 181, 3), (7, .aload_n 0, 1), (8, .getfield 29, 3), (11, .iload_n 1, 1), (12, .invokevirtual 366, 3), (15, .iand, 1), (16, .istore_n 3, 1), (17, .lconst 0, 1), (18, .lstore 4, 2), (20, .iconst 0, 1), (21, .istore 6, 2), (23, .iload 6, 2), (25, .iload_n 3, 1), (26, .if_icmp .gt 97, 3), (29, .iload 6, 2), (31, .iload_n 3, 1), (32, .iconst (-1), 1), (33, .ixor, 1), (34, .iand, 1), (35, .ifCond .ne 82, 3), (38, .iload_n 2, 1), (39, .iconst (-1), 1), (40, .if_icmp .ne 17, 3), (43, .aload_n 0, 1), (44, .iload_n 1, 1), (45, .iload 6, 2), (47, .invokevirtual 191, 3), (50, .iconst 1, 1), (51, .if_icmp .ne 66, 3), (54, .goto 14, 3), (57, .aload_n 0, 1), (58, .iload_n 1, 1), (59, .iload 6, 2), (61, .invokevirtual 195, 3), (64, .iload_n 2, 1), (65, .if_icmp .ne 52, 3), (68, .iload_n 3, 1), (69, .iload 6, 2), (71, .iconst (-1), 1), (72, .ixor, 1), (73, .iand, 1), (74, .invokestatic 208, 3), (77, .istore 7, 2), (79, .lload 4, 2), (81, .aload_n 0, 1), (82, .getfield 61, 3), (85, .getfield 349, 3), (88, .i2l, 1), (89, .iload 7, 2), (91, .invokestatic 317, 3), (94, .bipush 100, 2), (96, .aload_n 0, 1), (97, .getfield 61, 3), (100, .getfield 349, 3), (103, .isub, 1), (104, .i2l, 1), (105, .iload 6, 2), (107, .invokestatic 208, 3), (110, .invokestatic 317, 3), (113, .lmul, 1), (114, .ladd, 1), (115, .lstore 4, 2), (117, .iinc 6 1, 3), (120, .goto (-97), 3), (123, .lload 4, 2), (125, .lreturn, 1)])
theorem T_X10_chance : zT M_X10_chance := zT_of (by decide +kernel)
theorem F_X10_chance : zMV M_X10_chance 2 := ⟨⟨zTT_in (i := 1152) (by decide +kernel) rfl, zTT_in (i := 136) (by decide +kernel) rfl, ⟨by decide, by decide, by decide +kernel⟩, by decide⟩, zTT_in (i := 1151) (by decide +kernel) rfl, zTT_in (i := 50) (by decide +kernel) rfl⟩
def M_X10_raised : zM := (⟨RX10, "raised", "(JI)J"⟩, prog_1_method_81_code, 6, (some .long), [(0, .lconst 1, 1), (1, .lstore_n 3, 1), (2, .iconst 0, 1), (3, .istore 5, 2), (5, .iload 5, 2), (7, .iload_n 2, 1), (8, .if_icmp .ge 13, 3), (11, .lload_n 3, 1), (12, .lload_n 0, 1), (13, .lmul, 1), (14, .lstore_n 3, 1), (15, .iinc 5 1, 3), (18, .goto (-13), 3), (21, .lload_n 3, 1), (22, .lreturn, 1)])
theorem T_X10_raised : zT M_X10_raised := zT_of (by decide +kernel)
theorem F_X10_raised : zMS M_X10_raised 2 := ⟨⟨zTT_in (i := 1155) (by decide +kernel) rfl, zTT_in (i := 136) (by decide +kernel) rfl, ⟨by decide, by decide, by decide +kernel⟩, by decide⟩, zTT_in (i := 1154) (by decide +kernel) rfl⟩
def M_X10_partOf : zM := (⟨RX10, "partOf", "(JJZ)J"⟩, prog_1_method_82_code, 12, (some .long), [(0, .lload_n 2, 1), (1, .lstore 5, 2), (3, .lload_n 0, 1), (4, .lstore 7, 2), (6, .iconst 0, 1), (7, .istore 9, 2), (9, .iload 9, 2), (11, .sipush 200, 3), (14, .if_icmp .ge 31, 3), (17, .lload 7, 2), (19, .lconst 0, 1), (20, .lcmp, 1), (21, .ifCond .eq 24, 3), (24, .lload 5, 2), (26, .lload 7, 2), (28, .lrem, 1), (29, .lstore 10, 2), (31, .lload 7, 2), (33, .lstore 5, 2), (35, .lload 10, 2), (37, .lstore 7, 2), (39, .iinc 9 1, 3), (42, .goto (-33), 3), (45, .lload 5, 2), (47, .lconst 0, 1), (48, .lcmp, 1), (49, .ifCond .ne 7, 3), (52, .ldc2_w 380, 3), (55, .lreturn, 1), (56, .iload 4, 2), (58, .ifCond .eq 7, 3), (61, .lload_n 2, 1), (62, .goto 4, 3), (65, .lload_n 0, 1), (66, .lload 5, 2), (68, .ldiv, 1), (69, .lreturn, 1)])
theorem T_X10_partOf : zT M_X10_partOf := zT_of (by decide +kernel)
theorem F_X10_partOf : zMS M_X10_partOf 3 := ⟨⟨zTT_in (i := 1163) (by decide +kernel) rfl, zTT_in (i := 136) (by decide +kernel) rfl, ⟨by decide, by decide, by decide +kernel⟩, by decide⟩, zTT_in (i := 1162) (by decide +kernel) rfl⟩
def M_X10_smudge : zM := (⟨RX10, "smudge", "(II)I"⟩, prog_1_method_83_code, 6, (some .int), [(0, .iload_n 1, 1), (1, .istore_n 3, 1), (2, .iconst 0, 1), (3, .istore 4, 2), (5, .iconst 0, 1), (6, .istore 5, 2), (8, .iload 5, 2), (10, .iload_n 2, 1), (11, .if_icmp .ge 73, 3), (14, .bipush 75, 2), (16, .iload_n 3, 1), (17, .imul, 1), (18, .bipush 74, 2), (20, .iadd, 1), (21, .ldc_w 358, 3), (24, .irem, 1), (25, .istore_n 3, 1), (26, .iload_n 3, 1), (27, .bipush 100, 2), (29, .irem, 1), (30, .aload_n 0, 1), (31, .getfield 61, 3), (34, .getfield 349, 3), (37, .if_icmp .ge 41, 3), (40, .aload_n 0, 1), (41, .getfield 29, 3), (44, .getfield 216, 3), (47, .ifCond .le 31, 3), (50, .bipush 75, 2), (52, .iload_n 3, 1), (53, .imul, 1), (54, .bipush 74, 2), (56, .iadd, 1), (57, .ldc_w 358, 3), (60, .irem, 1), (61, .istore_n 3, 1), (62, .iload 4, 2), (64, .iconst 1, 1), (65, .iload_n 3, 1), (66, .aload_n 0, 1), (67, .getfield 29, 3), (70, .getfield 216, 3), (73, .irem, 1), (74, .ishl, 1), (75, .ior, 1), (76, .istore 4, 2), (78, .iinc 5 1, 3), (81, .goto (-73), 3), (84, .iload 4, 2), (86, .ireturn, 1)])
theorem T_X10_smudge : zT M_X10_smudge := zT_of (by decide +kernel)
theorem F_X10_smudge : zMV M_X10_smudge 2 := ⟨⟨zTT_in (i := 1184) (by decide +kernel) rfl, zTT_in (i := 136) (by decide +kernel) rfl, ⟨by decide, by decide, by decide +kernel⟩, by decide⟩, zTT_in (i := 1183) (by decide +kernel) rfl, zTT_in (i := 52) (by decide +kernel) rfl⟩
def M_X11_thrown : zM := (⟨RX11, "thrown", "()I"⟩, prog_13_method_2_code, 1, (some .int), [(0, .aload_n 0, 1), (1, .getfield 65, 3), (4, .ireturn, 1)])
theorem T_X11_thrown : zT M_X11_thrown := zT_of (by decide +kernel)
theorem F_X11_thrown : zMV M_X11_thrown 0 := ⟨⟨zTT_in (i := 1425) (by decide +kernel) rfl, zTT_in (i := 147) (by decide +kernel) rfl, ⟨by decide, by decide, by decide +kernel⟩, by decide⟩, zTT_in (i := 1423) (by decide +kernel) rfl, zTT_in (i := 1424) (by decide +kernel) rfl⟩
def M_X11_good : zM := (⟨RX11, "good", "()V"⟩, prog_13_method_3_code, 1, none, [(0, .aload_n 0, 1), (1, .iconst 0, 1), (2, .putfield 65, 3), (5, .aload_n 0, 1), (6, .iconst 0, 1), (7, .putfield 68, 3), (10, .return_, 1)])
theorem T_X11_good : zT M_X11_good := zT_of (by decide +kernel)
theorem F_X11_good : zMV M_X11_good 0 := ⟨⟨zTT_in (i := 1437) (by decide +kernel) rfl, zTT_in (i := 147) (by decide +kernel) rfl, ⟨by decide, by decide, by decide +kernel⟩, by decide⟩, zTT_in (i := 1436) (by decide +kernel) rfl, zTT_in (i := 54) (by decide +kernel) rfl⟩
def M_X11_no : zM := (⟨RX11, "no", "(I)I"⟩, prog_13_method_4_code, 2, (some .int), [(0, .aload_n 0, 1), (1, .iload_n 1, 1), (2, .putfield 68, 3), (5, .iconst (-1), 1), (6, .ireturn, 1)])
theorem T_X11_no : zT M_X11_no := zT_of (by decide +kernel)
theorem F_X11_no : zMV M_X11_no 1 := ⟨⟨zTT_in (i := 1444) (by decide +kernel) rfl, zTT_in (i := 147) (by decide +kernel) rfl, ⟨by decide, by decide, by decide +kernel⟩, by decide⟩, zTT_in (i := 1443) (by decide +kernel) rfl, zTT_in (i := 55) (by decide +kernel) rfl⟩
def M_X11_isNot : zM := (⟨RX11, "isNot", "(I)Z"⟩, prog_13_method_5_code, 2, (some .boolean), [(0, .aload_n 0, 1), (1, .iload_n 1, 1), (2, .putfield 68, 3), (5, .iconst 0, 1), (6, .ireturn, 1)])
theorem T_X11_isNot : zT M_X11_isNot := zT_of (by decide +kernel)
theorem F_X11_isNot : zMV M_X11_isNot 1 := ⟨⟨zTT_in (i := 1987) (by decide +kernel) rfl, zTT_in (i := 147) (by decide +kernel) rfl, ⟨by decide, by decide, by decide +kernel⟩, by decide⟩, zTT_in (i := 1986) (by decide +kernel) rfl, zTT_in (i := 134) (by decide +kernel) rfl⟩
def M_X11_in : zM := (⟨RX11, "in", "(III)Z"⟩, prog_13_method_6_code, 3, (some .boolean), [(0, .iload_n 0, 1), (1, .iload_n 1, 1), (2, .if_icmp .lt 12, 3), (5, .iload_n 0, 1), (6, .iload_n 2, 1), (7, .if_icmp .gt 7, 3), (10, .iconst 1, 1), (11, .goto 4, 3), (14, .iconst 0, 1), (15, .ireturn, 1)])
theorem T_X11_in : zT M_X11_in := zT_of (by decide +kernel)
theorem F_X11_in : zMS M_X11_in 3 := ⟨⟨zTT_in (i := 1440) (by decide +kernel) rfl, zTT_in (i := 147) (by decide +kernel) rfl, ⟨by decide, by decide, by decide +kernel⟩, by decide⟩, zTT_in (i := 1439) (by decide +kernel) rfl⟩
def M_X11_hasBit : zM := (⟨RX11, "hasBit", "(II)Z"⟩, prog_13_method_7_code, 2, (some .boolean), [(0, .iload_n 0, 1), (1, .iload_n 1, 1), (2, .ishr, 1), (3, .iconst 1, 1), (4, .iand, 1), (5, .iconst 1, 1), (6, .if_icmp .ne 7, 3), (9, .iconst 1, 1), (10, .goto 4, 3), (13, .iconst 0, 1), (14, .ireturn, 1)])
theorem T_X11_hasBit : zT M_X11_hasBit := zT_of (by decide +kernel)
theorem F_X11_hasBit : zMS M_X11_hasBit 2 := ⟨⟨zTT_in (i := 1619) (by decide +kernel) rfl, zTT_in (i := 147) (by decide +kernel) rfl, ⟨by decide, by decide, by decide +kernel⟩, by decide⟩, zTT_in (i := 1618) (by decide +kernel) rfl⟩
def M_X11_ones : zM := (⟨RX11, "ones", "(I)I"⟩, prog_13_method_8_code, 3, (some .int), [(0, .iconst 0, 1), (1, .istore_n 1, 1), (2, .iconst 0, 1), (3, .istore_n 2, 1), (4, .iload_n 2, 1), (5, .bipush 8, 2), (7, .if_icmp .ge 17, 3), (10, .iload_n 1, 1), (11, .iload_n 0, 1), (12, .iload_n 2, 1), (13, .ishr, 1), (14, .iconst 1, 1), (15, .iand, 1), (16, .iadd, 1), (17, .istore_n 1, 1), (18, .iinc 2 1, 3), (21, .goto (-17), 3), (24, .iload_n 1, 1), (25, .ireturn, 1)])
theorem T_X11_ones : zT M_X11_ones := zT_of (by decide +kernel)
theorem F_X11_ones : zMS M_X11_ones 1 := ⟨⟨zTT_in (i := 1705) (by decide +kernel) rfl, zTT_in (i := 147) (by decide +kernel) rfl, ⟨by decide, by decide, by decide +kernel⟩, by decide⟩, zTT_in (i := 1704) (by decide +kernel) rfl⟩
def M_X11_copy : zM := (⟨RX11, "copy", "([II[III)V"⟩, prog_13_method_9_code, 6, none, [(0, .iconst 0, 1), (1, .istore 5, 2), (3, .iload 5, 2), (5, .iload 4, 2), (7, .if_icmp .ge 21, 3), (10, .aload_n 2, 1), (11, .iload_n 3, 1), (12, .iload 5, 2), (14, .iadd, 1), (15, .aload_n 0, 1), (16, .iload_n 1, 1), (17, .iload 5, 2), (19, .iadd, 1), (20, .iaload, 1), (21, .iastore, 1), (22, .iinc 5 1, 3), (25, .goto (-22), 3), (28, .return_, 1)])
theorem T_X11_copy : zT M_X11_copy := zT_of (by decide +kernel)
theorem F_X11_copy : zMS M_X11_copy 5 := ⟨⟨zTT_in (i := 1592) (by decide +kernel) rfl, zTT_in (i := 147) (by decide +kernel) rfl, ⟨by decide, by decide, by decide +kernel⟩, by decide⟩, zTT_in (i := 1591) (by decide +kernel) rfl⟩
def M_X11_lowest : zM := (⟨RX11, "lowest", "(JJZ)J"⟩, prog_13_method_10_code, 11, (some .long), [(0, .lload_n 2, 1), (1, .lstore 5, 2), (3, .lload_n 0, 1), (4, .lstore 7, 2), (6, .lload 7, 2), (8, .lconst 0, 1), (9, .lcmp, 1), (10, .ifCond .eq 21, 3), (13, .lload 5, 2), (15, .lload 7, 2), (17, .lrem, 1), (18, .lstore 9, 2), (20, .lload 7, 2), (22, .lstore 5, 2), (24, .lload 9, 2), (26, .lstore 7, 2), (28, .goto (-22), 3), (31, .iload 4, 2), (33, .ifCond .eq 7, 3), (36, .lload_n 2, 1), (37, .goto 4, 3), (40, .lload_n 0, 1), (41, .lload 5, 2), (43, .ldiv, 1), (44, .lreturn, 1)])
theorem T_X11_lowest : zT M_X11_lowest := zT_of (by decide +kernel)
theorem F_X11_lowest : zMS M_X11_lowest 3 := ⟨⟨zTT_in (i := 1949) (by decide +kernel) rfl, zTT_in (i := 147) (by decide +kernel) rfl, ⟨by decide, by decide, by decide +kernel⟩, by decide⟩, zTT_in (i := 1948) (by decide +kernel) rfl⟩
def M_X11_feed : zM := (⟨RX11, "feed", "(IIIII)I"⟩, prog_13_method_11_code, 8, (some .int), [(0, .aload_n 0, 1), (1, .iconst 0, 1), (2, .putfield 65, 3), (5, .aload_n 0, 1), (6, .getfield 71, 3), (9, .bipush 20, 2), (11, .iadd, 1), (12, .sipush 900, 3), (15, .if_icmp .le 5, 3), (18, .iconst (-1), 1), (19, .ireturn, 1), (20, .iconst 0, 1), (21, .istore 6, 2), (23, .iload 6, 2), (25, .bipush 20, 2), (27, .if_icmp .ge 93, 3), (30, .iload 6, 2), (32, .iconst 4, 1), (33, .if_icmp .ge 7, 3), (36, .iload_n 1, 1), (37, .goto 39, 3), (40, .iload 6, 2), (42, .bipush 8, 2), (44, .if_icmp .ge 7, 3), (47, .iload_n 2, 1), (48, .goto 28, 3), (51, .iload 6, 2), (53, .bipush 12, 2), (55, .if_icmp .ge 7, 3), (58, .iload_n 3, 1), (59, .goto 17, 3), (62, .iload 6, 2), (64, .bipush 16, 2), (66, .if_icmp .ge 8, 3), (69, .iload 4, 2), (71, .goto 5, 3), (74, .iload 5, 2), (76, .istore 7, 2), (78, .aload_n 0, 1), (79, .getfield 7, 3), (82, .aload_n 0, 1), (83, .getfield 71, 3), (86, .iload 7, 2), (88, .bipush 24, 2), (90, .bipush 8, 2), (92, .iload 6, 2), (94, .iconst 4, 1), (95, .irem, 1), (96, .imul, 1), (97, .isub, 1), (98, .ishr, 1), (99, .sipush 255, 3), (102, .iand, 1), (103, .iastore, 1), (104, .aload_n 0, 1), (105, .dup, 1), (106, .getfield 71, 3), (109, .iconst 1, 1), (110, .iadd, 1), (111, .putfield 71, 3), (114, .iinc 6 1, 3), (117, .goto (-94), 3), (120, .aload_n 0, 1), (121, .getfield 71, 3), (124, .ireturn, 1)])
theorem T_X11_feed : zT M_X11_feed := zT_of (by decide +kernel)
theorem F_X11_feed : zMV M_X11_feed 5 := ⟨⟨zTT_in (i := 1429) (by decide +kernel) rfl, zTT_in (i := 147) (by decide +kernel) rfl, ⟨by decide, by decide, by decide +kernel⟩, by decide⟩, zTT_in (i := 1427) (by decide +kernel) rfl, zTT_in (i := 1428) (by decide +kernel) rfl⟩
def M_X11_see : zM := (⟨RX11, "see", "(I)I"⟩, prog_13_method_12_code, 2, (some .int), [(0, .iload_n 1, 1), (1, .aload_n 0, 1), (2, .getfield 74, 3), (5, .if_icmp .ge 12, 3), (8, .aload_n 0, 1), (9, .getfield 7, 3), (12, .iload_n 1, 1), (13, .iaload, 1), (14, .goto 4, 3), (17, .iconst (-1), 1), (18, .ireturn, 1)])
theorem T_X11_see : zT M_X11_see := zT_of (by decide +kernel)
theorem F_X11_see : zMV M_X11_see 1 := ⟨⟨zTT_in (i := 1452) (by decide +kernel) rfl, zTT_in (i := 147) (by decide +kernel) rfl, ⟨by decide, by decide, by decide +kernel⟩, by decide⟩, zTT_in (i := 1451) (by decide +kernel) rfl, zTT_in (i := 57) (by decide +kernel) rfl⟩
def M_X11_isSmall : zM := (⟨RX11, "isSmall", "(I)Z"⟩, prog_13_method_13_code, 1, (some .boolean), [(0, .iload_n 0, 1), (1, .bipush 97, 2), (3, .if_icmp .lt 13, 3), (6, .iload_n 0, 1), (7, .bipush 122, 2), (9, .if_icmp .gt 7, 3), (12, .iconst 1, 1), (13, .goto 4, 3), (16, .iconst 0, 1), (17, .ireturn, 1)])
theorem T_X11_isSmall : zT M_X11_isSmall := zT_of (by decide +kernel)
theorem F_X11_isSmall : zMS M_X11_isSmall 1 := ⟨⟨zTT_in (i := 1455) (by decide +kernel) rfl, zTT_in (i := 147) (by decide +kernel) rfl, ⟨by decide, by decide, by decide +kernel⟩, by decide⟩, zTT_in (i := 1454) (by decide +kernel) rfl⟩
def M_X11_isDigit : zM := (⟨RX11, "isDigit", "(I)Z"⟩, prog_13_method_14_code, 1, (some .boolean), [(0, .iload_n 0, 1), (1, .bipush 48, 2), (3, .if_icmp .lt 13, 3), (6, .iload_n 0, 1), (7, .bipush 57, 2), (9, .if_icmp .gt 7, 3), (12, .iconst 1, 1), (13, .goto 4, 3), (16, .iconst 0, 1), (17, .ireturn, 1)])
theorem T_X11_isDigit : zT M_X11_isDigit := zT_of (by decide +kernel)
theorem F_X11_isDigit : zMS M_X11_isDigit 1 := ⟨⟨zTT_in (i := 1458) (by decide +kernel) rfl, zTT_in (i := 147) (by decide +kernel) rfl, ⟨by decide, by decide, by decide +kernel⟩, by decide⟩, zTT_in (i := 1457) (by decide +kernel) rfl⟩
def M_X11_next : zM := (⟨RX11, "next", "()V"⟩, prog_13_method_15_code, 4, none, [(0, .aload_n 0, 1), (1, .getfield 77, 3), (4, .istore_n 1, 1), (5, .aload_n 0, 1), (6, .iload_n 1, 1), (7, .invokevirtual 80, 3), (10, .bipush 32, 2), (12, .if_icmp .ne 9, 3), (15, .iinc 1 1, 3), (18, .goto (-13), 3), (21, .aload_n 0, 1), (22, .iload_n 1, 1), (23, .putfield 84, 3), (26, .aload_n 0, 1), (27, .iload_n 1, 1), (28, .invokevirtual 80, 3), (31, .istore_n 2, 1), (32, .aload_n 0, 1), (33, .iconst 0, 1), (34, .putfield 87, 3), (37, .aload_n 0, 1), (38, .iconst 0, 1), (39, .putfield 90, 3), (42, .iload_n 2, 1), (43, .iconst (-1), 1), (44, .if_icmp .ne 16, 3), (47, .aload_n 0, 1), (48, .iconst 0, 1), (49, .putfield 93, 3), (52, .aload_n 0, 1), (53, .iload_n 1, 1), (54, .putfield 77, 3), (57, .goto 184, 3), (60, .iload_n 2, 1), (61, .invokestatic 96, 3), (64, .ifCond .eq 79, 3), (67, .aload_n 0, 1), (68, .iload_n 1, 1), (69, .invokevirtual 80, 3), (72, .invokestatic 96, 3), (75, .ifCond .eq 42, 3), (78, .aload_n 0, 1), (79, .getfield 87, 3), (82, .bipush 8, 2), (84, .if_icmp .ge 17, 3), (87, .aload_n 0, 1), (88, .getfield 17, 3), (91, .aload_n 0, 1), (92, .getfield 87, 3), (95, .aload_n 0, 1), (96, .iload_n 1, 1), (97, .invokevirtual 80, 3), (100, .iastore, 1), (101, .aload_n 0, 1), (102, .dup, 1), (103, .getfield 87, 3), (106, .iconst 1, 1), (107, .iadd, 1), (108, .putfield 87, 3), (111, .iinc 1 1, 3), (114, .goto (-47), 3), (117, .aload_n 0, 1), (118, .iload_n 1, 1), (119, .putfield 77, 3), (122, .aload_n 0, 1), (123, .aload_n 0, 1), (124, .getfield 87, 3), (127, .bipush 8, 2), (129, .if_icmp .le 7, 3), (132, .iconst 1, 1), (133, .goto 4, 3), (136, .iconst 2, 1), (137, .putfield 93, 3), (140, .goto 101, 3), (143, .iload_n 2, 1), (144, .invokestatic 100, 3), (147, .ifCond .eq 72, 3), (150, .iconst 0, 1), (151, .istore_n 3, 1), (152, .aload_n 0, 1), (153, .iload_n 1, 1), (154, .invokevirtual 80, 3), (157, .invokestatic 100, 3), (160, .ifCond .eq 37, 3), (163, .iload_n 3, 1), (164, .iconst 3, 1), (165, .if_icmp .ge 23, 3), (168, .aload_n 0, 1), (169, .bipush 10, 2), (171, .aload_n 0, 1), (172, .getfield 90, 3), (175, .imul, 1), (176, .aload_n 0, 1), (177, .iload_n 1, 1), (178, .invokevirtual 80, 3), (181, .iadd, 1), (182, .bipush 48, 2), (184, .isub, 1), (185, .putfield 90, 3), (188, .iinc 3 1, 3), (191, .iinc 1 1, 3), (194, .goto (-42), 3), (197, .aload_n 0, 1), (198, .iload_n 1, 1), (199, .putfield 77, 3), (202, .aload_n 0, 1), (203, .iload_n 3, 1), (204, .iconst 3, 1), (205, .if_icmp .le 7, 3), (208, .iconst 1, 1), (209, .goto 4, 3), (212, .iconst 3, 1), (213, .putfield 93, 3), (216, .goto 25, 3), (219, .aload_n 0, 1), (220, .iload_n 1, 1), (221, .iconst 1, 1), (222, .iadd, 1), (223, .putfield 77, 3), (226, .aload_n 0, 1), (227, .iload_n 2, 1), (228, .bipush 59, 2), (230, .if_icmp .ne 7, 3), (233, .iload_n 2, 1), (234, .goto 4, 3), (237, .iconst 1, 1), (238, .putfield 93, 3), (241, .return_, 1)])
theorem T_X11_next : zT M_X11_next := zT_of (by decide +kernel)
theorem F_X11_next : zMV M_X11_next 0 := ⟨⟨zTT_in (i := 1448) (by decide +kernel) rfl, zTT_in (i := 147) (by decide +kernel) rfl, ⟨by decide, by decide, by decide +kernel⟩, by decide⟩, zTT_in (i := 1447) (by decide +kernel) rfl, zTT_in (i := 56) (by decide +kernel) rfl⟩
def M_X11_wrong : zM := (⟨RX11, "wrong", "(II)V"⟩, prog_13_method_16_code, 3, none, [(0, .aload_n 0, 1), (1, .getfield 103, 3), (4, .ifCond .eq 4, 3), (7, .return_, 1), (8, .aload_n 0, 1), (9, .iconst 1, 1), (10, .putfield 103, 3), (13, .aload_n 0, 1), (14, .iload_n 1, 1), (15, .putfield 107, 3), (18, .aload_n 0, 1), (19, .iload_n 2, 1), (20, .putfield 13, 3), (23, .return_, 1)])
theorem T_X11_wrong : zT M_X11_wrong := zT_of (by decide +kernel)
theorem F_X11_wrong : zMV M_X11_wrong 2 := ⟨⟨zTT_in (i := 1477) (by decide +kernel) rfl, zTT_in (i := 147) (by decide +kernel) rfl, ⟨by decide, by decide, by decide +kernel⟩, by decide⟩, zTT_in (i := 1476) (by decide +kernel) rfl, zTT_in (i := 61) (by decide +kernel) rfl⟩
def M_X11_isWord : zM := (⟨RX11, "isWord", "(Ljava/lang/String;)Z"⟩, prog_13_method_17_code, 4, (some .boolean), [(0, .aload_n 0, 1), (1, .getfield 103, 3), (4, .ifCond .ne 22, 3), (7, .aload_n 0, 1), (8, .getfield 93, 3), (11, .iconst 2, 1), (12, .if_icmp .ne 14, 3), (15, .aload_n 0, 1), (16, .getfield 87, 3), (19, .aload_n 1, 1), (20, .invokevirtual 110, 3), (23, .if_icmp .eq 5, 3), (26, .iconst 0, 1), (27, .ireturn, 1), (28, .iconst 1, 1), (29, .istore_n 2, 1), (30, .iconst 0, 1), (31, .istore_n 3, 1), (32, .iload_n 3, 1), (33, .aload_n 0, 1), (34, .getfield 87, 3), (37, .if_icmp .ge 33, 3), (40, .iload_n 2, 1), (41, .ifCond .eq 21, 3), (44, .aload_n 0, 1), (45, .getfield 17, 3), (48, .iload_n 3, 1), (49, .iaload, 1), (50, .aload_n 1, 1), (51, .iload_n 3, 1), (52, .invokevirtual 116, 3), (55, .if_icmp .ne 7, 3), (58, .iconst 1, 1), (59, .goto 4, 3), (62, .iconst 0, 1), (63, .istore_n 2, 1), (64, .iinc 3 1, 3), (67, .goto (-35), 3), (70, .iload_n 2, 1), (71, .ireturn, 1)])
theorem T_X11_isWord : zT M_X11_isWord := zT_of (by decide +kernel)
theorem F_X11_isWord : zMV M_X11_isWord 1 := ⟨⟨zTT_in (i := 1467) (by decide +kernel) rfl, zTT_in (i := 147) (by decide +kernel) rfl, ⟨by decide, by decide, by decide +kernel⟩, by decide⟩, zTT_in (i := 1466) (by decide +kernel) rfl, zTT_in (i := 59) (by decide +kernel) rfl⟩
def M_X11_takesWord : zM := (⟨RX11, "takesWord", "(Ljava/lang/String;)Z"⟩, prog_13_method_18_code, 2, (some .boolean), [(0, .aload_n 0, 1), (1, .aload_n 1, 1), (2, .invokevirtual 120, 3), (5, .ifCond .ne 5, 3), (8, .iconst 0, 1), (9, .ireturn, 1), (10, .aload_n 0, 1), (11, .invokevirtual 124, 3), (14, .iconst 1, 1), (15, .ireturn, 1)])
theorem T_X11_takesWord : zT M_X11_takesWord := zT_of (by decide +kernel)
theorem F_X11_takesWord : zMV M_X11_takesWord 1 := ⟨⟨zTT_in (i := 1490) (by decide +kernel) rfl, zTT_in (i := 147) (by decide +kernel) rfl, ⟨by decide, by decide, by decide +kernel⟩, by decide⟩, zTT_in (i := 1489) (by decide +kernel) rfl, zTT_in (i := 64) (by decide +kernel) rfl⟩
def M_X11_must : zM := (⟨RX11, "must", "(Ljava/lang/String;)V"⟩, prog_13_method_19_code, 2, none, [(0, .aload_n 0, 1), (1, .getfield 103, 3), (4, .ifCond .ne 20, 3), (7, .aload_n 0, 1), (8, .aload_n 1, 1), (9, .invokevirtual 127, 3), (12, .ifCond .ne 12, 3), (15, .aload_n 0, 1), (16, .iconst 1, 1), (17, .aload_n 0, 1), (18, .getfield 84, 3), (21, .invokevirtual 130, 3), (24, .return_, 1)])
theorem T_X11_must : zT M_X11_must := zT_of (by decide +kernel)
theorem F_X11_must : zMV M_X11_must 1 := ⟨⟨zTT_in (i := 1486) (by decide +kernel) rfl, zTT_in (i := 147) (by decide +kernel) rfl, ⟨by decide, by decide, by decide +kernel⟩, by decide⟩, zTT_in (i := 1485) (by decide +kernel) rfl, zTT_in (i := 63) (by decide +kernel) rfl⟩
def M_X11_mustName : zM := (⟨RX11, "mustName", "()V"⟩, prog_13_method_20_code, 1, none, [(0, .aload_n 0, 1), (1, .getfield 93, 3), (4, .iconst 2, 1), (5, .if_icmp .ne 84, 3), (8, .aload_n 0, 1), (9, .ldc 134, 2), (11, .invokevirtual 120, 3), (14, .ifCond .ne 75, 3), (17, .aload_n 0, 1), (18, .ldc 136, 2), (20, .invokevirtual 120, 3), (23, .ifCond .ne 66, 3), (26, .aload_n 0, 1), (27, .ldc 137, 2), (29, .invokevirtual 120, 3), (32, .ifCond .ne 57, 3), (35, .aload_n 0, 1), (36, .ldc 139, 2), (38, .invokevirtual 120, 3), (41, .ifCond .ne 48, 3), (44, .aload_n 0, 1), (45, .ldc 141, 2), (47, .invokevirtual 120, 3), (50, .ifCond .ne 39, 3), (53, .aload_n 0, 1), (54, .ldc 143, 2), (56, .invokevirtual 120, 3), (59, .ifCond .ne 30, 3), (62, .aload_n 0, 1), (63, .ldc 145, 2), (65, .invokevirtual 120, 3), (68, .ifCond .ne 21, 3), (71, .aload_n 0, 1), (72, .ldc 147, 2), (74, .invokevirtual 120, 3), (77, .ifCond .ne 12, 3), (80, .aload_n 0, 1), (81, .ldc 149, 2), (83, .invokevirtual 120, 3), (86, .ifCond .eq 12, 3), (89, .aload_n 0, 1), (90, .iconst 1, 1), (91, .aload_n 0, 1), (92, .getfield 84, 3), (95, .invokevirtual 130, 3), (98, .return_, 1)])
theorem T_X11_mustName : zT M_X11_mustName := zT_of (by decide +kernel)
theorem F_X11_mustName : zMV M_X11_mustName 0 := ⟨⟨zTT_in (i := 1519) (by decide +kernel) rfl, zTT_in (i := 147) (by decide +kernel) rfl, ⟨by decide, by decide, by decide +kernel⟩, by decide⟩, zTT_in (i := 1518) (by decide +kernel) rfl, zTT_in (i := 71) (by decide +kernel) rfl⟩
def M_X11_find : zM := (⟨RX11, "find", "()I"⟩, prog_13_method_21_code, 4, (some .int), [(0, .iconst 0, 1), (1, .istore_n 1, 1), (2, .iload_n 1, 1), (3, .bipush 14, 2), (5, .if_icmp .ge 98, 3), (8, .aload_n 0, 1), (9, .getfield 23, 3), (12, .bipush 69, 2), (14, .iload_n 1, 1), (15, .iadd, 1), (16, .iaload, 1), (17, .ifCond .le 23, 3), (20, .aload_n 0, 1), (21, .getfield 23, 3), (24, .bipush 69, 2), (26, .iload_n 1, 1), (27, .iadd, 1), (28, .iaload, 1), (29, .aload_n 0, 1), (30, .getfield 87, 3), (33, .if_icmp .ne 7, 3), (36, .iconst 1, 1), (37, .goto 4, 3), (40, .iconst 0, 1), (41, .istore_n 2, 1), (42, .iconst 0, 1), (43, .istore_n 3, 1), (44, .iload_n 3, 1), (45, .aload_n 0, 1), (46, .getfield 87, 3), (49, .if_icmp .ge 42, 3), (52, .iload_n 2, 1), (53, .ifCond .eq 38, 3), (56, .aload_n 0, 1), (57, .getfield 23, 3), (60, .bipush 83, 2), (62, .bipush 8, 2), (64, .iload_n 1, 1), (65, .imul, 1), (66, .iadd, 1), (67, .iload_n 3, 1), (68, .iadd, 1), (69, .iaload, 1), (70, .aload_n 0, 1), (71, .getfield 17, 3), (74, .iload_n 3, 1), (75, .iaload, 1), (76, .if_icmp .ne 7, 3), (79, .iconst 1, 1), (80, .goto 4, 3), (83, .iconst 0, 1), (84, .istore_n 2, 1), (85, .iinc 3 1, 3), (88, .goto (-44), 3), (91, .iload_n 2, 1), (92, .ifCond .eq 5, 3), (95, .iload_n 1, 1), (96, .ireturn, 1), (97, .iinc 1 1, 3), (100, .goto (-98), 3), (103, .iconst (-1), 1), (104, .ireturn, 1)])
theorem T_X11_find : zT M_X11_find := zT_of (by decide +kernel)
theorem F_X11_find : zMV M_X11_find 0 := ⟨⟨zTT_in (i := 1530) (by decide +kernel) rfl, zTT_in (i := 147) (by decide +kernel) rfl, ⟨by decide, by decide, by decide +kernel⟩, by decide⟩, zTT_in (i := 1529) (by decide +kernel) rfl, zTT_in (i := 72) (by decide +kernel) rfl⟩
def M_X11_newName : zM := (⟨RX11, "newName", "(I)V"⟩, prog_13_method_22_code, 3, none, [(0, .aload_n 0, 1), (1, .getfield 103, 3), (4, .ifCond .eq 4, 3), (7, .return_, 1), (8, .aload_n 0, 1), (9, .invokevirtual 151, 3), (12, .aload_n 0, 1), (13, .getfield 103, 3), (16, .ifCond .ne 19, 3), (19, .aload_n 0, 1), (20, .invokevirtual 154, 3), (23, .ifCond .lt 12, 3), (26, .aload_n 0, 1), (27, .iconst 3, 1), (28, .aload_n 0, 1), (29, .getfield 84, 3), (32, .invokevirtual 130, 3), (35, .aload_n 0, 1), (36, .getfield 103, 3), (39, .ifCond .eq 4, 3), (42, .return_, 1), (43, .iconst 0, 1), (44, .istore_n 2, 1), (45, .iload_n 2, 1), (46, .aload_n 0, 1), (47, .getfield 87, 3), (50, .if_icmp .ge 29, 3), (53, .aload_n 0, 1), (54, .getfield 23, 3), (57, .bipush 83, 2), (59, .bipush 8, 2), (61, .iload_n 1, 1), (62, .imul, 1), (63, .iadd, 1), (64, .iload_n 2, 1), (65, .iadd, 1), (66, .aload_n 0, 1), (67, .getfield 17, 3), (70, .iload_n 2, 1), (71, .iaload, 1), (72, .iastore, 1), (73, .iinc 2 1, 3), (76, .goto (-31), 3), (79, .aload_n 0, 1), (80, .getfield 23, 3), (83, .bipush 69, 2), (85, .iload_n 1, 1), (86, .iadd, 1), (87, .aload_n 0, 1), (88, .getfield 87, 3), (91, .iastore, 1), (92, .aload_n 0, 1), (93, .invokevirtual 124, 3), (96, .return_, 1)])
theorem T_X11_newName : zT M_X11_newName := zT_of (by decide +kernel)
theorem F_X11_newName : zMV M_X11_newName 1 := ⟨⟨zTT_in (i := 1515) (by decide +kernel) rfl, zTT_in (i := 147) (by decide +kernel) rfl, ⟨by decide, by decide, by decide +kernel⟩, by decide⟩, zTT_in (i := 1514) (by decide +kernel) rfl, zTT_in (i := 70) (by decide +kernel) rfl⟩
def M_X11_named : zM := (⟨RX11, "named", "(II)I"⟩, prog_13_method_23_code, 4, (some .int), [(0, .aload_n 0, 1), (1, .getfield 103, 3), (4, .ifCond .eq 5, 3), (7, .iconst 0, 1), (8, .ireturn, 1), (9, .aload_n 0, 1), (10, .invokevirtual 151, 3), (13, .aload_n 0, 1), (14, .getfield 103, 3), (17, .ifCond .eq 5, 3), (20, .iconst 0, 1), (21, .ireturn, 1), (22, .aload_n 0, 1), (23, .invokevirtual 154, 3), (26, .istore_n 3, 1), (27, .iload_n 3, 1), (28, .iload_n 1, 1), (29, .iload_n 2, 1), (30, .invokestatic 157, 3), (33, .ifCond .ne 12, 3), (36, .aload_n 0, 1), (37, .iconst 2, 1), (38, .aload_n 0, 1), (39, .getfield 84, 3), (42, .invokevirtual 130, 3), (45, .aload_n 0, 1), (46, .getfield 103, 3), (49, .ifCond .eq 7, 3), (52, .iconst 0, 1), (53, .goto 6, 3), (56, .iload_n 3, 1), (57, .iload_n 1, 1), (58, .isub, 1), (59, .ireturn, 1)])
theorem T_X11_named : zT M_X11_named := zT_of (by decide +kernel)
theorem F_X11_named : zMV M_X11_named 2 := ⟨⟨zTT_in (i := 1544) (by decide +kernel) rfl, zTT_in (i := 147) (by decide +kernel) rfl, ⟨by decide, by decide, by decide +kernel⟩, by decide⟩, zTT_in (i := 1543) (by decide +kernel) rfl, zTT_in (i := 75) (by decide +kernel) rfl⟩
def M_X11_pass : zM := (⟨RX11, "pass", "()V"⟩, prog_13_method_24_code, 1, none, [(0, .aload_n 0, 1), (1, .getfield 103, 3), (4, .ifCond .ne 7, 3), (7, .aload_n 0, 1), (8, .invokevirtual 124, 3), (11, .return_, 1)])
theorem T_X11_pass : zT M_X11_pass := zT_of (by decide +kernel)
theorem F_X11_pass : zMV M_X11_pass 0 := ⟨⟨zTT_in (i := 1502) (by decide +kernel) rfl, zTT_in (i := 147) (by decide +kernel) rfl, ⟨by decide, by decide, by decide +kernel⟩, by decide⟩, zTT_in (i := 1501) (by decide +kernel) rfl, zTT_in (i := 67) (by decide +kernel) rfl⟩
def M_X11_placePassed : zM := (⟨RX11, "placePassed", "()I"⟩, prog_13_method_25_code, 2, (some .int), [(0, .aload_n 0, 1), (1, .iconst 0, 1), (2, .iconst 5, 1), (3, .invokevirtual 161, 3), (6, .istore_n 1, 1), (7, .aload_n 0, 1), (8, .invokevirtual 165, 3), (11, .iload_n 1, 1), (12, .ireturn, 1)])
theorem T_X11_placePassed : zT M_X11_placePassed := zT_of (by decide +kernel)
theorem F_X11_placePassed : zMV M_X11_placePassed 0 := ⟨⟨zTT_in (i := 1540) (by decide +kernel) rfl, zTT_in (i := 147) (by decide +kernel) rfl, ⟨by decide, by decide, by decide +kernel⟩, by decide⟩, zTT_in (i := 1539) (by decide +kernel) rfl, zTT_in (i := 74) (by decide +kernel) rfl⟩
def M_X11_handPassed : zM := (⟨RX11, "handPassed", "()I"⟩, prog_13_method_26_code, 2, (some .int), [(0, .aload_n 0, 1), (1, .bipush 6, 2), (3, .bipush 9, 2), (5, .invokevirtual 161, 3), (8, .istore_n 1, 1), (9, .aload_n 0, 1), (10, .invokevirtual 165, 3), (13, .iload_n 1, 1), (14, .ireturn, 1)])
theorem T_X11_handPassed : zT M_X11_handPassed := zT_of (by decide +kernel)
theorem F_X11_handPassed : zMV M_X11_handPassed 0 := ⟨⟨zTT_in (i := 1561) (by decide +kernel) rfl, zTT_in (i := 147) (by decide +kernel) rfl, ⟨by decide, by decide, by decide +kernel⟩, by decide⟩, zTT_in (i := 1560) (by decide +kernel) rfl, zTT_in (i := 79) (by decide +kernel) rfl⟩
def M_X11_numberHere : zM := (⟨RX11, "numberHere", "(II)I"⟩, prog_13_method_27_code, 3, (some .int), [(0, .aload_n 0, 1), (1, .getfield 103, 3), (4, .ifCond .eq 5, 3), (7, .iload_n 1, 1), (8, .ireturn, 1), (9, .aload_n 0, 1), (10, .getfield 93, 3), (13, .iconst 3, 1), (14, .if_icmp .eq 15, 3), (17, .aload_n 0, 1), (18, .iconst 1, 1), (19, .aload_n 0, 1), (20, .getfield 84, 3), (23, .invokevirtual 130, 3), (26, .goto 24, 3), (29, .aload_n 0, 1), (30, .getfield 90, 3), (33, .iload_n 1, 1), (34, .iload_n 2, 1), (35, .invokestatic 157, 3), (38, .ifCond .ne 12, 3), (41, .aload_n 0, 1), (42, .iconst 4, 1), (43, .aload_n 0, 1), (44, .getfield 84, 3), (47, .invokevirtual 130, 3), (50, .aload_n 0, 1), (51, .getfield 103, 3), (54, .ifCond .eq 7, 3), (57, .iload_n 1, 1), (58, .goto 7, 3), (61, .aload_n 0, 1), (62, .getfield 90, 3), (65, .ireturn, 1)])
theorem T_X11_numberHere : zT M_X11_numberHere := zT_of (by decide +kernel)
theorem F_X11_numberHere : zMV M_X11_numberHere 2 := ⟨⟨zTT_in (i := 1498) (by decide +kernel) rfl, zTT_in (i := 147) (by decide +kernel) rfl, ⟨by decide, by decide, by decide +kernel⟩, by decide⟩, zTT_in (i := 1497) (by decide +kernel) rfl, zTT_in (i := 66) (by decide +kernel) rfl⟩
def M_X11_number : zM := (⟨RX11, "numbe\x72", "(II)I"⟩, prog_13_method_28_code, 4, (some .int), [(0, .aload_n 0, 1), (1, .iload_n 1, 1), (2, .iload_n 2, 1), (3, .invokevirtual 168, 3), (6, .istore_n 3, 1), (7, .aload_n 0, 1), (8, .invokevirtual 165, 3), (11, .iload_n 3, 1), (12, .ireturn, 1)])
theorem T_X11_number : zT M_X11_number := zT_of (by decide +kernel)
theorem F_X11_number : zMV M_X11_number 2 := ⟨⟨zTT_in (i := 1494) (by decide +kernel) rfl, zTT_in (i := 147) (by decide +kernel) rfl, ⟨by decide, by decide, by decide +kernel⟩, by decide⟩, zTT_in (i := 1493) (by decide +kernel) rfl, zTT_in (i := 65) (by decide +kernel) rfl⟩
def M_X11_after : zM := (⟨RX11, "afte\x72", "(Ljava/lang/String;II)I"⟩, prog_13_method_29_code, 4, (some .int), [(0, .aload_n 0, 1), (1, .aload_n 1, 1), (2, .invokevirtual 171, 3), (5, .aload_n 0, 1), (6, .iload_n 2, 1), (7, .iload_n 3, 1), (8, .invokevirtual 175, 3), (11, .ireturn, 1)])
theorem T_X11_after : zT M_X11_after := zT_of (by decide +kernel)
theorem F_X11_after : zMV M_X11_after 3 := ⟨⟨zTT_in (i := 1482) (by decide +kernel) rfl, zTT_in (i := 147) (by decide +kernel) rfl, ⟨by decide, by decide, by decide +kernel⟩, by decide⟩, zTT_in (i := 1481) (by decide +kernel) rfl, zTT_in (i := 62) (by decide +kernel) rfl⟩
def M_X11_letter : zM := (⟨RX11, "lette\x72", "(I)I"⟩, prog_13_method_30_code, 3, (some .int), [(0, .aload_n 0, 1), (1, .invokevirtual 178, 3), (4, .iload_n 1, 1), (5, .iconst 0, 1), (6, .aload_n 0, 1), (7, .getfield 71, 3), (10, .invokestatic 157, 3), (13, .ifCond .ne 9, 3), (16, .aload_n 0, 1), (17, .iconst 2, 1), (18, .invokevirtual 181, 3), (21, .ireturn, 1), (22, .aload_n 0, 1), (23, .iconst 0, 1), (24, .putfield 71, 3), (27, .aload_n 0, 1), (28, .iconst 0, 1), (29, .putfield 107, 3), (32, .aload_n 0, 1), (33, .iconst 0, 1), (34, .putfield 103, 3), (37, .iconst 0, 1), (38, .istore_n 2, 1), (39, .iload_n 2, 1), (40, .sipush 195, 3), (43, .if_icmp .ge 16, 3), (46, .aload_n 0, 1), (47, .getfield 23, 3), (50, .iload_n 2, 1), (51, .iconst 0, 1), (52, .iastore, 1), (53, .iinc 2 1, 3), (56, .goto (-17), 3), (59, .iconst 0, 1), (60, .istore_n 2, 1), (61, .iload_n 2, 1), (62, .bipush 50, 2), (64, .if_icmp .ge 16, 3), (67, .aload_n 0, 1), (68, .getfield 29, 3), (71, .iload_n 2, 1), (72, .iconst 0, 1), (73, .iastore, 1), (74, .iinc 2 1, 3), (77, .goto (-16), 3), (80, .aload_n 0, 1), (81, .iload_n 1, 1), (82, .putfield 74, 3), (85, .aload_n 0, 1), (86, .iconst 0, 1), (87, .putfield 77, 3), (90, .aload_n 0, 1), (91, .invokevirtual 124, 3), (94, .aload_n 0, 1), (95, .invokevirtual 184, 3), (98, .aload_n 0, 1), (99, .getfield 103, 3), (102, .ifCond .ne 23, 3), (105, .aload_n 0, 1), (106, .getfield 93, 3), (109, .bipush 59, 2), (111, .if_icmp .ne 14, 3), (114, .aload_n 0, 1), (115, .invokevirtual 124, 3), (118, .aload_n 0, 1), (119, .invokevirtual 184, 3), (122, .goto (-24), 3), (125, .aload_n 0, 1), (126, .getfield 103, 3), (129, .ifCond .ne 19, 3), (132, .aload_n 0, 1), (133, .getfield 93, 3), (136, .ifCond .eq 12, 3), (139, .aload_n 0, 1), (140, .iconst 1, 1), (141, .aload_n 0, 1), (142, .getfield 84, 3), (145, .invokevirtual 130, 3), (148, .aload_n 0, 1), (149, .getfield 103, 3), (152, .ifCond .ne 32, 3), (155, .aload_n 0, 1), (156, .getfield 23, 3), (159, .bipush 9, 2), (161, .iaload, 1), (162, .ifCond .eq 12, 3), (165, .aload_n 0, 1), (166, .getfield 23, 3), (169, .iconst 1, 1), (170, .iaload, 1), (171, .ifCond .ne 13, 3), (174, .aload_n 0, 1), (175, .bipush 6, 2), (177, .aload_n 0, 1), (178, .getfield 84, 3), (181, .invokevirtual 130, 3), (184, .aload_n 0, 1), (185, .getfield 103, 3), (188, .ifCond .eq 9, 3), (191, .aload_n 0, 1), (192, .iconst 4, 1), (193, .invokevirtual 181, 3), (196, .ireturn, 1), (197, .aload_n 0, 1), (198, .getfield 23, 3), (201, .iconst 0, 1), (202, .aload_n 0, 1), (203, .getfield 20, 3), (206, .iconst 0, 1), (207, .sipush 195, 3), (210, .invokestatic 187, 3), (213, .aload_n 0, 1), (214, .getfield 29, 3), (217, .iconst 0, 1), (218, .aload_n 0, 1), (219, .getfield 26, 3), (222, .iconst 0, 1), (223, .bipush 50, 2), (225, .invokestatic 187, 3), (228, .aload_n 0, 1), (229, .getfield 29, 3), (232, .iconst 0, 1), (233, .aload_n 0, 1), (234, .getfield 32, 3), (237, .iconst 0, 1), (238, .bipush 50, 2), (240, .invokestatic 187, 3), (243, .aload_n 0, 1), (244, .iconst 1, 1), (245, .putfield 191, 3), (248, .aload_n 0, 1), (249, .iconst 0, 1), (250, .putfield 194, 3), (253, .aload_n 0, 1), (254, .iconst 0, 1), (255, .putfield 197, 3), (258, .aload_n 0, 1), (259, .getfield 20, 3), (262, .iconst 1, 1), (263, .iaload, 1), (264, .ireturn, 1)])
theorem T_X11_letter : zT M_X11_letter := zT_of (by decide +kernel)
theorem F_X11_letter : zMV M_X11_letter 1 := ⟨⟨zTT_in (i := 1433) (by decide +kernel) rfl, zTT_in (i := 147) (by decide +kernel) rfl, ⟨by decide, by decide, by decide +kernel⟩, by decide⟩, zTT_in (i := 1431) (by decide +kernel) rfl, zTT_in (i := 1432) (by decide +kernel) rfl⟩
def M_X11_begins : zM := (⟨RX11, "begins", "(Ljava/lang/String;Z)Z"⟩, prog_13_method_31_code, 3, (some .boolean), [(0, .aload_n 0, 1), (1, .aload_n 1, 1), (2, .invokevirtual 120, 3), (5, .ifCond .ne 5, 3), (8, .iconst 0, 1), (9, .ireturn, 1), (10, .iload_n 2, 1), (11, .ifCond .ne 12, 3), (14, .aload_n 0, 1), (15, .iconst 5, 1), (16, .aload_n 0, 1), (17, .getfield 84, 3), (20, .invokevirtual 130, 3), (23, .aload_n 0, 1), (24, .getfield 23, 3), (27, .bipush 9, 2), (29, .iaload, 1), (30, .ifCond .ne 13, 3), (33, .aload_n 0, 1), (34, .bipush 6, 2), (36, .aload_n 0, 1), (37, .getfield 84, 3), (40, .invokevirtual 130, 3), (43, .aload_n 0, 1), (44, .invokevirtual 165, 3), (47, .iconst 1, 1), (48, .ireturn, 1)])
theorem T_X11_begins : zT M_X11_begins := zT_of (by decide +kernel)
theorem F_X11_begins : zMV M_X11_begins 2 := ⟨⟨zTT_in (i := 1507) (by decide +kernel) rfl, zTT_in (i := 147) (by decide +kernel) rfl, ⟨by decide, by decide, by decide +kernel⟩, by decide⟩, zTT_in (i := 1506) (by decide +kernel) rfl, zTT_in (i := 68) (by decide +kernel) rfl⟩
def M_X11_readLine : zM := (⟨RX11, "readLine", "()V"⟩, prog_13_method_32_code, 1, none, [(0, .aload_n 0, 1), (1, .ldc 134, 2), (3, .invokevirtual 120, 3), (6, .ifCond .eq 10, 3), (9, .aload_n 0, 1), (10, .invokevirtual 200, 3), (13, .goto 253, 3), (16, .aload_n 0, 1), (17, .ldc 136, 2), (19, .aload_n 0, 1), (20, .getfield 23, 3), (23, .iconst 1, 1), (24, .iaload, 1), (25, .bipush 6, 2), (27, .if_icmp .ge 7, 3), (30, .iconst 1, 1), (31, .goto 4, 3), (34, .iconst 0, 1), (35, .invokevirtual 203, 3), (38, .ifCond .eq 10, 3), (41, .aload_n 0, 1), (42, .invokevirtual 207, 3), (45, .goto 221, 3), (48, .aload_n 0, 1), (49, .ldc 137, 2), (51, .aload_n 0, 1), (52, .getfield 23, 3), (55, .iconst 2, 1), (56, .iaload, 1), (57, .bipush 6, 2), (59, .if_icmp .ge 7, 3), (62, .iconst 1, 1), (63, .goto 4, 3), (66, .iconst 0, 1), (67, .invokevirtual 203, 3), (70, .ifCond .eq 10, 3), (73, .aload_n 0, 1), (74, .invokevirtual 210, 3), (77, .goto 189, 3), (80, .aload_n 0, 1), (81, .ldc 139, 2), (83, .aload_n 0, 1), (84, .getfield 23, 3), (87, .iconst 3, 1), (88, .iaload, 1), (89, .iconst 4, 1), (90, .if_icmp .ge 7, 3), (93, .iconst 1, 1), (94, .goto 4, 3), (97, .iconst 0, 1), (98, .invokevirtual 203, 3), (101, .ifCond .eq 10, 3), (104, .aload_n 0, 1), (105, .invokevirtual 213, 3), (108, .goto 158, 3), (111, .aload_n 0, 1), (112, .ldc 141, 2), (114, .aload_n 0, 1), (115, .getfield 23, 3), (118, .iconst 4, 1), (119, .iaload, 1), (120, .iconst 4, 1), (121, .if_icmp .ge 7, 3), (124, .iconst 1, 1), (125, .goto 4, 3), (128, .iconst 0, 1), (129, .invokevirtual 203, 3), (132, .ifCond .eq 10, 3), (135, .aload_n 0, 1), (136, .invokevirtual 216, 3), (139, .goto 127, 3), (142, .aload_n 0, 1), (143, .ldc 143, 2), (145, .aload_n 0, 1), (146, .getfield 29, 3), (149, .bipush 48, 2), (151, .iaload, 1), (152, .bipush 8, 2), (154, .if_icmp .ge 7, 3), (157, .iconst 1, 1), (158, .goto 4, 3), (161, .iconst 0, 1), (162, .invokevirtual 203, 3), (165, .ifCond .eq 10, 3), (168, .aload_n 0, 1), (169, .invokevirtual 219, 3), (172, .goto 94, 3), (175, .aload_n 0, 1), (176, .ldc 145, 2), (178, .aload_n 0, 1), (179, .getfield 23, 3), (182, .bipush 6, 2), (184, .iaload, 1), (185, .iconst 3, 1), (186, .if_icmp .ge 7, 3), (189, .iconst 1, 1), (190, .goto 4, 3), (193, .iconst 0, 1), (194, .invokevirtual 203, 3), (197, .ifCond .eq 10, 3), (200, .aload_n 0, 1), (201, .invokevirtual 222, 3), (204, .goto 62, 3), (207, .aload_n 0, 1), (208, .ldc 147, 2), (210, .iconst 1, 1), (211, .invokevirtual 203, 3), (214, .ifCond .eq 10, 3), (217, .aload_n 0, 1), (218, .invokevirtual 225, 3), (221, .goto 45, 3), (224, .aload_n 0, 1), (225, .ldc 149, 2), (227, .aload_n 0, 1), (228, .getfield 23, 3), (231, .bipush 8, 2), (233, .iaload, 1), (234, .bipush 6, 2), (236, .if_icmp .ge 7, 3), (239, .iconst 1, 1), (240, .goto 4, 3), (243, .iconst 0, 1), (244, .invokevirtual 203, 3), (247, .ifCond .eq 10, 3), (250, .aload_n 0, 1), (251, .invokevirtual 228, 3), (254, .goto 12, 3), (257, .aload_n 0, 1), (258, .iconst 1, 1), (259, .aload_n 0, 1), (260, .getfield 84, 3), (263, .invokevirtual 130, 3), (266, .return_, 1)])
theorem T_X11_readLine : zT M_X11_readLine := zT_of (by decide +kernel)
theorem F_X11_readLine : zMV M_X11_readLine 0 := ⟨⟨zTT_in (i := 1462) (by decide +kernel) rfl, zTT_in (i := 147) (by decide +kernel) rfl, ⟨by decide, by decide, by decide +kernel⟩, by decide⟩, zTT_in (i := 1461) (by decide +kernel) rfl, zTT_in (i := 58) (by decide +kernel) rfl⟩
def M_X11_letterLine : zM := (⟨RX11, "letterLine", "()V"⟩, prog_13_method_33_code, 1, none, [(0, .aload_n 0, 1), (1, .getfield 23, 3), (4, .bipush 9, 2), (6, .iaload, 1), (7, .ifCond .le 12, 3), (10, .aload_n 0, 1), (11, .iconst 3, 1), (12, .aload_n 0, 1), (13, .getfield 84, 3), (16, .invokevirtual 130, 3), (19, .aload_n 0, 1), (20, .getfield 103, 3), (23, .ifCond .eq 4, 3), (26, .return_, 1), (27, .aload_n 0, 1), (28, .invokevirtual 124, 3), (31, .aload_n 0, 1), (32, .getfield 23, 3), (35, .iconst 0, 1), (36, .aload_n 0, 1), (37, .ldc 231, 2), (39, .iconst 0, 1), (40, .bipush 100, 2), (42, .invokevirtual 233, 3), (45, .iastore, 1), (46, .aload_n 0, 1), (47, .getfield 103, 3), (50, .ifCond .ne 11, 3), (53, .aload_n 0, 1), (54, .getfield 23, 3), (57, .bipush 9, 2), (59, .iconst 1, 1), (60, .iastore, 1), (61, .return_, 1)])
theorem T_X11_letterLine : zT M_X11_letterLine := zT_of (by decide +kernel)
theorem F_X11_letterLine : zMV M_X11_letterLine 0 := ⟨⟨zTT_in (i := 1473) (by decide +kernel) rfl, zTT_in (i := 147) (by decide +kernel) rfl, ⟨by decide, by decide, by decide +kernel⟩, by decide⟩, zTT_in (i := 1472) (by decide +kernel) rfl, zTT_in (i := 60) (by decide +kernel) rfl⟩
def M_X11_placeLine : zM := (⟨RX11, "placeLine", "()V"⟩, prog_13_method_34_code, 4, none, [(0, .aload_n 0, 1), (1, .getfield 103, 3), (4, .ifCond .eq 4, 3), (7, .return_, 1), (8, .bipush 10, 2), (10, .iconst 2, 1), (11, .aload_n 0, 1), (12, .getfield 23, 3), (15, .iconst 1, 1), (16, .iaload, 1), (17, .imul, 1), (18, .iadd, 1), (19, .istore_n 1, 1), (20, .aload_n 0, 1), (21, .aload_n 0, 1), (22, .getfield 23, 3), (25, .iconst 1, 1), (26, .iaload, 1), (27, .invokevirtual 237, 3), (30, .aload_n 0, 1), (31, .ldc 241, 2), (33, .invokevirtual 171, 3), (36, .aload_n 0, 1), (37, .iconst 0, 1), (38, .bipush 99, 2), (40, .invokevirtual 168, 3), (43, .istore_n 2, 1), (44, .iconst 0, 1), (45, .istore_n 3, 1), (46, .iload_n 3, 1), (47, .aload_n 0, 1), (48, .getfield 23, 3), (51, .iconst 1, 1), (52, .iaload, 1), (53, .if_icmp .ge 40, 3), (56, .aload_n 0, 1), (57, .getfield 103, 3), (60, .ifCond .ne 27, 3), (63, .aload_n 0, 1), (64, .getfield 23, 3), (67, .bipush 10, 2), (69, .iconst 2, 1), (70, .iload_n 3, 1), (71, .imul, 1), (72, .iadd, 1), (73, .iaload, 1), (74, .iload_n 2, 1), (75, .if_icmp .ne 12, 3), (78, .aload_n 0, 1), (79, .iconst 3, 1), (80, .aload_n 0, 1), (81, .getfield 84, 3), (84, .invokevirtual 130, 3), (87, .iinc 3 1, 3), (90, .goto (-44), 3), (93, .aload_n 0, 1), (94, .invokevirtual 165, 3), (97, .aload_n 0, 1), (98, .getfield 23, 3), (101, .iload_n 1, 1), (102, .iload_n 2, 1), (103, .iastore, 1), (104, .aload_n 0, 1), (105, .getfield 23, 3), (108, .iload_n 1, 1), (109, .iconst 1, 1), (110, .iadd, 1), (111, .aload_n 0, 1), (112, .ldc 243, 2), (114, .iconst 1, 1), (115, .bipush 9, 2), (117, .invokevirtual 233, 3), (120, .iastore, 1), (121, .aload_n 0, 1), (122, .getfield 103, 3), (125, .ifCond .ne 13, 3), (128, .aload_n 0, 1), (129, .getfield 23, 3), (132, .iconst 1, 1), (133, .dup2, 1), (134, .iaload, 1), (135, .iconst 1, 1), (136, .iadd, 1), (137, .iastore, 1), (138, .return_, 1)])
theorem T_X11_placeLine : zT M_X11_placeLine := zT_of (by decide +kernel)
theorem F_X11_placeLine : zMV M_X11_placeLine 0 := ⟨⟨zTT_in (i := 1511) (by decide +kernel) rfl, zTT_in (i := 147) (by decide +kernel) rfl, ⟨by decide, by decide, by decide +kernel⟩, by decide⟩, zTT_in (i := 1510) (by decide +kernel) rfl, zTT_in (i := 69) (by decide +kernel) rfl⟩
def M_X11_overLine : zM := (⟨RX11, "overLine", "()V"⟩, prog_13_method_35_code, 8, none, [(0, .aload_n 0, 1), (1, .getfield 103, 3), (4, .ifCond .eq 4, 3), (7, .return_, 1), (8, .bipush 22, 2), (10, .iconst 2, 1), (11, .aload_n 0, 1), (12, .getfield 23, 3), (15, .iconst 2, 1), (16, .iaload, 1), (17, .imul, 1), (18, .iadd, 1), (19, .istore_n 1, 1), (20, .aload_n 0, 1), (21, .invokevirtual 245, 3), (24, .istore_n 2, 1), (25, .aload_n 0, 1), (26, .iconst 0, 1), (27, .iconst 5, 1), (28, .invokevirtual 161, 3), (31, .istore_n 3, 1), (32, .iload_n 2, 1), (33, .iload_n 3, 1), (34, .if_icmp .ne 7, 3), (37, .iconst 1, 1), (38, .goto 4, 3), (41, .iconst 0, 1), (42, .istore 4, 2), (44, .iconst 0, 1), (45, .istore 5, 2), (47, .iload 5, 2), (49, .aload_n 0, 1), (50, .getfield 23, 3), (53, .iconst 2, 1), (54, .iaload, 1), (55, .if_icmp .ge 75, 3), (58, .aload_n 0, 1), (59, .getfield 23, 3), (62, .bipush 22, 2), (64, .iconst 2, 1), (65, .iload 5, 2), (67, .imul, 1), (68, .iadd, 1), (69, .iaload, 1), (70, .istore 6, 2), (72, .aload_n 0, 1), (73, .getfield 23, 3), (76, .bipush 22, 2), (78, .iconst 2, 1), (79, .iload 5, 2), (81, .imul, 1), (82, .iadd, 1), (83, .iconst 1, 1), (84, .iadd, 1), (85, .iaload, 1), (86, .istore 7, 2), (88, .iload 4, 2), (90, .ifCond .ne 27, 3), (93, .iload 6, 2), (95, .iload_n 2, 1), (96, .if_icmp .ne 9, 3), (99, .iload 7, 2), (101, .iload_n 3, 1), (102, .if_icmp .eq 15, 3), (105, .iload 6, 2), (107, .iload_n 3, 1), (108, .if_icmp .ne 13, 3), (111, .iload 7, 2), (113, .iload_n 2, 1), (114, .if_icmp .ne 7, 3), (117, .iconst 1, 1), (118, .goto 4, 3), (121, .iconst 0, 1), (122, .istore 4, 2), (124, .iinc 5 1, 3), (127, .goto (-80), 3), (130, .aload_n 0, 1), (131, .getfield 103, 3), (134, .ifCond .ne 17, 3), (137, .iload 4, 2), (139, .ifCond .eq 12, 3), (142, .aload_n 0, 1), (143, .iconst 3, 1), (144, .aload_n 0, 1), (145, .getfield 84, 3), (148, .invokevirtual 130, 3), (151, .aload_n 0, 1), (152, .invokevirtual 165, 3), (155, .aload_n 0, 1), (156, .getfield 103, 3), (159, .ifCond .eq 4, 3), (162, .return_, 1), (163, .aload_n 0, 1), (164, .getfield 23, 3), (167, .iload_n 1, 1), (168, .iload_n 2, 1), (169, .iastore, 1), (170, .aload_n 0, 1), (171, .getfield 23, 3), (174, .iload_n 1, 1), (175, .iconst 1, 1), (176, .iadd, 1), (177, .iload_n 3, 1), (178, .iastore, 1), (179, .aload_n 0, 1), (180, .getfield 23, 3), (183, .iconst 2, 1), (184, .dup2, 1), (185, .iaload, 1), (186, .iconst 1, 1), (187, .iadd, 1), (188, .iastore, 1), (189, .return_, 1)])
theorem T_X11_overLine : zT M_X11_overLine := zT_of (by decide +kernel)
theorem F_X11_overLine : zMV M_X11_overLine 0 := ⟨⟨zTT_in (i := 1536) (by decide +kernel) rfl, zTT_in (i := 147) (by decide +kernel) rfl, ⟨by decide, by decide, by decide +kernel⟩, by decide⟩, zTT_in (i := 1535) (by decide +kernel) rfl, zTT_in (i := 73) (by decide +kernel) rfl⟩
def M_X11_handLine : zM := (⟨RX11, "handLine", "()V"⟩, prog_13_method_36_code, 1, none, [(0, .aload_n 0, 1), (1, .getfield 103, 3), (4, .ifCond .eq 4, 3), (7, .return_, 1), (8, .aload_n 0, 1), (9, .bipush 6, 2), (11, .aload_n 0, 1), (12, .getfield 23, 3), (15, .iconst 3, 1), (16, .iaload, 1), (17, .iadd, 1), (18, .invokevirtual 237, 3), (21, .aload_n 0, 1), (22, .getfield 23, 3), (25, .bipush 34, 2), (27, .aload_n 0, 1), (28, .getfield 23, 3), (31, .iconst 3, 1), (32, .iaload, 1), (33, .iadd, 1), (34, .aload_n 0, 1), (35, .ldc 248, 2), (37, .iconst 0, 1), (38, .bipush 99, 2), (40, .invokevirtual 233, 3), (43, .iastore, 1), (44, .aload_n 0, 1), (45, .getfield 103, 3), (48, .ifCond .ne 13, 3), (51, .aload_n 0, 1), (52, .getfield 23, 3), (55, .iconst 3, 1), (56, .dup2, 1), (57, .iaload, 1), (58, .iconst 1, 1), (59, .iadd, 1), (60, .iastore, 1), (61, .return_, 1)])
theorem T_X11_handLine : zT M_X11_handLine := zT_of (by decide +kernel)
theorem F_X11_handLine : zMV M_X11_handLine 0 := ⟨⟨zTT_in (i := 1548) (by decide +kernel) rfl, zTT_in (i := 147) (by decide +kernel) rfl, ⟨by decide, by decide, by decide +kernel⟩, by decide⟩, zTT_in (i := 1547) (by decide +kernel) rfl, zTT_in (i := 76) (by decide +kernel) rfl⟩
def M_X11_matterLine : zM := (⟨RX11, "matterLine", "()V"⟩, prog_13_method_37_code, 1, none, [(0, .aload_n 0, 1), (1, .getfield 103, 3), (4, .ifCond .eq 4, 3), (7, .return_, 1), (8, .aload_n 0, 1), (9, .bipush 10, 2), (11, .aload_n 0, 1), (12, .getfield 23, 3), (15, .iconst 4, 1), (16, .iaload, 1), (17, .iadd, 1), (18, .invokevirtual 237, 3), (21, .aload_n 0, 1), (22, .getfield 103, 3), (25, .ifCond .ne 13, 3), (28, .aload_n 0, 1), (29, .getfield 23, 3), (32, .iconst 4, 1), (33, .dup2, 1), (34, .iaload, 1), (35, .iconst 1, 1), (36, .iadd, 1), (37, .iastore, 1), (38, .return_, 1)])
theorem T_X11_matterLine : zT M_X11_matterLine := zT_of (by decide +kernel)
theorem F_X11_matterLine : zMV M_X11_matterLine 0 := ⟨⟨zTT_in (i := 1553) (by decide +kernel) rfl, zTT_in (i := 147) (by decide +kernel) rfl, ⟨by decide, by decide, by decide +kernel⟩, by decide⟩, zTT_in (i := 1552) (by decide +kernel) rfl, zTT_in (i := 77) (by decide +kernel) rfl⟩
def M_X11_say : zM := (⟨RX11, "say", "()I"⟩, prog_13_method_38_code, 1, (some .int), [(0, .aload_n 0, 1), (1, .ldc 250, 2), (3, .invokevirtual 127, 3), (6, .ifCond .eq 5, 3), (9, .iconst 1, 1), (10, .ireturn, 1), (11, .aload_n 0, 1), (12, .ldc 252, 2), (14, .invokevirtual 171, 3), (17, .iconst 0, 1), (18, .ireturn, 1)])
theorem T_X11_say : zT M_X11_say := zT_of (by decide +kernel)
theorem F_X11_say : zMV M_X11_say 0 := ⟨⟨zTT_in (i := 1565) (by decide +kernel) rfl, zTT_in (i := 147) (by decide +kernel) rfl, ⟨by decide, by decide, by decide +kernel⟩, by decide⟩, zTT_in (i := 1564) (by decide +kernel) rfl, zTT_in (i := 80) (by decide +kernel) rfl⟩
def M_X11_roomOn : zM := (⟨RX11, "roomOn", "([I[II)I"⟩, prog_13_method_39_code, 6, (some .int), [(0, .aload_n 1, 1), (1, .bipush 10, 2), (3, .iconst 2, 1), (4, .iload_n 3, 1), (5, .imul, 1), (6, .iadd, 1), (7, .iconst 1, 1), (8, .iadd, 1), (9, .iaload, 1), (10, .istore 4, 2), (12, .iconst 0, 1), (13, .istore 5, 2), (15, .iload 5, 2), (17, .aload_n 2, 1), (18, .bipush 48, 2), (20, .iaload, 1), (21, .if_icmp .ge 40, 3), (24, .iload 4, 2), (26, .aload_n 2, 1), (27, .bipush 6, 2), (29, .iload 5, 2), (31, .imul, 1), (32, .iconst 1, 1), (33, .iadd, 1), (34, .iaload, 1), (35, .iload_n 3, 1), (36, .if_icmp .ne 15, 3), (39, .aload_n 2, 1), (40, .bipush 6, 2), (42, .iload 5, 2), (44, .imul, 1), (45, .iconst 4, 1), (46, .iadd, 1), (47, .iaload, 1), (48, .goto 4, 3), (51, .iconst 0, 1), (52, .isub, 1), (53, .istore 4, 2), (55, .iinc 5 1, 3), (58, .goto (-43), 3), (61, .iload 4, 2), (63, .ireturn, 1)])
theorem T_X11_roomOn : zT M_X11_roomOn := zT_of (by decide +kernel)
theorem F_X11_roomOn : zMV M_X11_roomOn 3 := ⟨⟨zTT_in (i := 1572) (by decide +kernel) rfl, zTT_in (i := 147) (by decide +kernel) rfl, ⟨by decide, by decide, by decide +kernel⟩, by decide⟩, zTT_in (i := 1571) (by decide +kernel) rfl, zTT_in (i := 81) (by decide +kernel) rfl⟩
def M_X11_wroteLine : zM := (⟨RX11, "wroteLine", "()V"⟩, prog_13_method_40_code, 6, none, [(0, .aload_n 0, 1), (1, .getfield 103, 3), (4, .ifCond .eq 4, 3), (7, .return_, 1), (8, .aload_n 0, 1), (9, .invokevirtual 254, 3), (12, .istore_n 1, 1), (13, .aload_n 0, 1), (14, .invokevirtual 245, 3), (17, .istore_n 2, 1), (18, .aload_n 0, 1), (19, .bipush 10, 2), (21, .bipush 13, 2), (23, .invokevirtual 161, 3), (26, .istore_n 3, 1), (27, .aload_n 0, 1), (28, .invokevirtual 165, 3), (31, .aload_n 0, 1), (32, .invokevirtual 257, 3), (35, .istore 4, 2), (37, .aload_n 0, 1), (38, .ldc_w 260, 3), (41, .invokevirtual 171, 3), (44, .aload_n 0, 1), (45, .iconst 1, 1), (46, .bipush 9, 2), (48, .invokevirtual 168, 3), (51, .istore 5, 2), (53, .aload_n 0, 1), (54, .getfield 103, 3), (57, .ifCond .ne 31, 3), (60, .iload 5, 2), (62, .aload_n 0, 1), (63, .aload_n 0, 1), (64, .getfield 23, 3), (67, .aload_n 0, 1), (68, .getfield 29, 3), (71, .iload_n 2, 1), (72, .invokevirtual 262, 3), (75, .if_icmp .le 13, 3), (78, .aload_n 0, 1), (79, .bipush 7, 2), (81, .aload_n 0, 1), (82, .getfield 84, 3), (85, .invokevirtual 130, 3), (88, .aload_n 0, 1), (89, .invokevirtual 165, 3), (92, .aload_n 0, 1), (93, .getfield 103, 3), (96, .ifCond .eq 4, 3), (99, .return_, 1), (100, .aload_n 0, 1), (101, .getfield 29, 3), (104, .iload_n 1, 1), (105, .iload_n 2, 1), (106, .iload_n 3, 1), (107, .iload 4, 2), (109, .iload 5, 2), (111, .invokestatic 266, 3), (114, .aload_n 0, 1), (115, .getfield 23, 3), (118, .iconst 5, 1), (119, .dup2, 1), (120, .iaload, 1), (121, .iconst 1, 1), (122, .iadd, 1), (123, .iastore, 1), (124, .return_, 1)])
theorem T_X11_wroteLine : zT M_X11_wroteLine := zT_of (by decide +kernel)
theorem F_X11_wroteLine : zMV M_X11_wroteLine 0 := ⟨⟨zTT_in (i := 1557) (by decide +kernel) rfl, zTT_in (i := 147) (by decide +kernel) rfl, ⟨by decide, by decide, by decide +kernel⟩, by decide⟩, zTT_in (i := 1556) (by decide +kernel) rfl, zTT_in (i := 78) (by decide +kernel) rfl⟩
def M_X11_lay : zM := (⟨RX11, "lay", "([IIIIII)V"⟩, prog_13_method_41_code, 7, none, [(0, .bipush 6, 2), (2, .aload_n 0, 1), (3, .bipush 48, 2), (5, .iaload, 1), (6, .imul, 1), (7, .istore 6, 2), (9, .aload_n 0, 1), (10, .iload 6, 2), (12, .iconst 0, 1), (13, .iadd, 1), (14, .iload_n 1, 1), (15, .iastore, 1), (16, .aload_n 0, 1), (17, .iload 6, 2), (19, .iconst 1, 1), (20, .iadd, 1), (21, .iload_n 2, 1), (22, .iastore, 1), (23, .aload_n 0, 1), (24, .iload 6, 2), (26, .iconst 2, 1), (27, .iadd, 1), (28, .iload_n 3, 1), (29, .iastore, 1), (30, .aload_n 0, 1), (31, .iload 6, 2), (33, .iconst 3, 1), (34, .iadd, 1), (35, .iload 4, 2), (37, .iastore, 1), (38, .aload_n 0, 1), (39, .iload 6, 2), (41, .iconst 4, 1), (42, .iadd, 1), (43, .iload 5, 2), (45, .iastore, 1), (46, .aload_n 0, 1), (47, .iload 6, 2), (49, .iconst 5, 1), (50, .iadd, 1), (51, .iconst 0, 1), (52, .iastore, 1), (53, .aload_n 0, 1), (54, .bipush 48, 2), (56, .dup2, 1), (57, .iaload, 1), (58, .iconst 1, 1), (59, .iadd, 1), (60, .iastore, 1), (61, .return_, 1)])
theorem T_X11_lay : zT M_X11_lay := zT_of (by decide +kernel)
theorem F_X11_lay : zMS M_X11_lay 6 := ⟨⟨zTT_in (i := 1575) (by decide +kernel) rfl, zTT_in (i := 147) (by decide +kernel) rfl, ⟨by decide, by decide, by decide +kernel⟩, by decide⟩, zTT_in (i := 1574) (by decide +kernel) rfl⟩
def M_X11_hiddenLine : zM := (⟨RX11, "hiddenLine", "()V"⟩, prog_13_method_42_code, 2, none, [(0, .aload_n 0, 1), (1, .getfield 103, 3), (4, .ifCond .eq 4, 3), (7, .return_, 1), (8, .aload_n 0, 1), (9, .invokevirtual 245, 3), (12, .istore_n 1, 1), (13, .aload_n 0, 1), (14, .getfield 103, 3), (17, .ifCond .eq 4, 3), (20, .return_, 1), (21, .aload_n 0, 1), (22, .getfield 23, 3), (25, .bipush 38, 2), (27, .aload_n 0, 1), (28, .getfield 23, 3), (31, .bipush 6, 2), (33, .iaload, 1), (34, .iadd, 1), (35, .iload_n 1, 1), (36, .iastore, 1), (37, .aload_n 0, 1), (38, .getfield 23, 3), (41, .bipush 6, 2), (43, .dup2, 1), (44, .iaload, 1), (45, .iconst 1, 1), (46, .iadd, 1), (47, .iastore, 1), (48, .return_, 1)])
theorem T_X11_hiddenLine : zT M_X11_hiddenLine := zT_of (by decide +kernel)
theorem F_X11_hiddenLine : zMV M_X11_hiddenLine 0 := ⟨⟨zTT_in (i := 1579) (by decide +kernel) rfl, zTT_in (i := 147) (by decide +kernel) rfl, ⟨by decide, by decide, by decide +kernel⟩, by decide⟩, zTT_in (i := 1578) (by decide +kernel) rfl, zTT_in (i := 82) (by decide +kernel) rfl⟩
def M_X11_doneLine : zM := (⟨RX11, "doneLine", "()V"⟩, prog_13_method_43_code, 3, none, [(0, .aload_n 0, 1), (1, .getfield 103, 3), (4, .ifCond .eq 4, 3), (7, .return_, 1), (8, .aload_n 0, 1), (9, .bipush 10, 2), (11, .bipush 13, 2), (13, .invokevirtual 161, 3), (16, .istore_n 1, 1), (17, .aload_n 0, 1), (18, .getfield 103, 3), (21, .ifCond .ne 24, 3), (24, .aload_n 0, 1), (25, .getfield 23, 3), (28, .bipush 41, 2), (30, .iload_n 1, 1), (31, .iadd, 1), (32, .iaload, 1), (33, .ifCond .le 12, 3), (36, .aload_n 0, 1), (37, .iconst 3, 1), (38, .aload_n 0, 1), (39, .getfield 84, 3), (42, .invokevirtual 130, 3), (45, .aload_n 0, 1), (46, .invokevirtual 165, 3), (49, .aload_n 0, 1), (50, .ldc_w 270, 3), (53, .invokevirtual 127, 3), (56, .ifCond .eq 8, 3), (59, .bipush (-2), 2), (61, .goto 7, 3), (64, .aload_n 0, 1), (65, .invokevirtual 257, 3), (68, .istore_n 2, 1), (69, .aload_n 0, 1), (70, .getfield 103, 3), (73, .ifCond .eq 4, 3), (76, .return_, 1), (77, .aload_n 0, 1), (78, .getfield 23, 3), (81, .bipush 41, 2), (83, .iload_n 1, 1), (84, .iadd, 1), (85, .iload_n 2, 1), (86, .iconst 3, 1), (87, .iadd, 1), (88, .iastore, 1), (89, .aload_n 0, 1), (90, .getfield 23, 3), (93, .bipush 7, 2), (95, .dup2, 1), (96, .iaload, 1), (97, .iconst 1, 1), (98, .iadd, 1), (99, .iastore, 1), (100, .return_, 1)])
theorem T_X11_doneLine : zT M_X11_doneLine := zT_of (by decide +kernel)
theorem F_X11_doneLine : zMV M_X11_doneLine 0 := ⟨⟨zTT_in (i := 1583) (by decide +kernel) rfl, zTT_in (i := 147) (by decide +kernel) rfl, ⟨by decide, by decide, by decide +kernel⟩, by decide⟩, zTT_in (i := 1582) (by decide +kernel) rfl, zTT_in (i := 83) (by decide +kernel) rfl⟩
def M_X11_bidLine : zM := (⟨RX11, "bidLine", "()V"⟩, prog_13_method_44_code, 2, none, [(0, .aload_n 0, 1), (1, .getfield 103, 3), (4, .ifCond .eq 4, 3), (7, .return_, 1), (8, .bipush 45, 2), (10, .iconst 4, 1), (11, .aload_n 0, 1), (12, .getfield 23, 3), (15, .bipush 8, 2), (17, .iaload, 1), (18, .imul, 1), (19, .iadd, 1), (20, .istore_n 1, 1), (21, .aload_n 0, 1), (22, .getfield 23, 3), (25, .iload_n 1, 1), (26, .aload_n 0, 1), (27, .invokevirtual 254, 3), (30, .iastore, 1), (31, .aload_n 0, 1), (32, .getfield 23, 3), (35, .iload_n 1, 1), (36, .iconst 1, 1), (37, .iadd, 1), (38, .aload_n 0, 1), (39, .invokevirtual 245, 3), (42, .iastore, 1), (43, .aload_n 0, 1), (44, .getfield 23, 3), (47, .iload_n 1, 1), (48, .iconst 2, 1), (49, .iadd, 1), (50, .aload_n 0, 1), (51, .ldc_w 260, 3), (54, .iconst 1, 1), (55, .bipush 9, 2), (57, .invokevirtual 233, 3), (60, .iastore, 1), (61, .aload_n 0, 1), (62, .getfield 23, 3), (65, .iload_n 1, 1), (66, .iconst 3, 1), (67, .iadd, 1), (68, .aload_n 0, 1), (69, .ldc_w 272, 3), (72, .iconst 0, 1), (73, .bipush 99, 2), (75, .invokevirtual 233, 3), (78, .iastore, 1), (79, .aload_n 0, 1), (80, .getfield 103, 3), (83, .ifCond .ne 14, 3), (86, .aload_n 0, 1), (87, .getfield 23, 3), (90, .bipush 8, 2), (92, .dup2, 1), (93, .iaload, 1), (94, .iconst 1, 1), (95, .iadd, 1), (96, .iastore, 1), (97, .return_, 1)])
theorem T_X11_bidLine : zT M_X11_bidLine := zT_of (by decide +kernel)
theorem F_X11_bidLine : zMV M_X11_bidLine 0 := ⟨⟨zTT_in (i := 1588) (by decide +kernel) rfl, zTT_in (i := 147) (by decide +kernel) rfl, ⟨by decide, by decide, by decide +kernel⟩, by decide⟩, zTT_in (i := 1587) (by decide +kernel) rfl, zTT_in (i := 84) (by decide +kernel) rfl⟩
def M_X11_fault : zM := (⟨RX11, "fault", "()I"⟩, prog_13_method_45_code, 1, (some .int), [(0, .aload_n 0, 1), (1, .iconst 0, 1), (2, .putfield 65, 3), (5, .aload_n 0, 1), (6, .getfield 107, 3), (9, .ireturn, 1)])
theorem T_X11_fault : zT M_X11_fault := zT_of (by decide +kernel)
theorem F_X11_fault : zMV M_X11_fault 0 := ⟨⟨zTT_in (i := 1596) (by decide +kernel) rfl, zTT_in (i := 147) (by decide +kernel) rfl, ⟨by decide, by decide, by decide +kernel⟩, by decide⟩, zTT_in (i := 1594) (by decide +kernel) rfl, zTT_in (i := 1595) (by decide +kernel) rfl⟩
def M_X11_where : zM := (⟨RX11, "where", "()I"⟩, prog_13_method_46_code, 1, (some .int), [(0, .aload_n 0, 1), (1, .iconst 0, 1), (2, .putfield 65, 3), (5, .aload_n 0, 1), (6, .getfield 68, 3), (9, .iconst 4, 1), (10, .if_icmp .ne 10, 3), (13, .aload_n 0, 1), (14, .getfield 13, 3), (17, .goto 4, 3), (20, .iconst (-1), 1), (21, .ireturn, 1)])
theorem T_X11_where : zT M_X11_where := zT_of (by decide +kernel)
theorem F_X11_where : zMV M_X11_where 0 := ⟨⟨zTT_in (i := 1600) (by decide +kernel) rfl, zTT_in (i := 147) (by decide +kernel) rfl, ⟨by decide, by decide, by decide +kernel⟩, by decide⟩, zTT_in (i := 1598) (by decide +kernel) rfl, zTT_in (i := 1599) (by decide +kernel) rfl⟩
def M_X11_isPlace : zM := (⟨RX11, "isPlace", "(I)Z"⟩, prog_13_method_47_code, 2, (some .boolean), [(0, .aload_n 0, 1), (1, .getfield 191, 3), (4, .ifCond .eq 23, 3), (7, .iload_n 1, 1), (8, .iconst 0, 1), (9, .aload_n 0, 1), (10, .getfield 20, 3), (13, .iconst 1, 1), (14, .iaload, 1), (15, .iconst 1, 1), (16, .isub, 1), (17, .invokestatic 157, 3), (20, .ifCond .eq 7, 3), (23, .iconst 1, 1), (24, .goto 4, 3), (27, .iconst 0, 1), (28, .ireturn, 1)])
theorem T_X11_isPlace : zT M_X11_isPlace := zT_of (by decide +kernel)
theorem F_X11_isPlace : zMV M_X11_isPlace 1 := ⟨⟨zTT_in (i := 1608) (by decide +kernel) rfl, zTT_in (i := 147) (by decide +kernel) rfl, ⟨by decide, by decide, by decide +kernel⟩, by decide⟩, zTT_in (i := 1607) (by decide +kernel) rfl, zTT_in (i := 85) (by decide +kernel) rfl⟩
def M_X11_isMatter : zM := (⟨RX11, "isMatte\x72", "(I)Z"⟩, prog_13_method_48_code, 2, (some .boolean), [(0, .aload_n 0, 1), (1, .getfield 191, 3), (4, .ifCond .eq 23, 3), (7, .iload_n 1, 1), (8, .iconst 0, 1), (9, .aload_n 0, 1), (10, .getfield 20, 3), (13, .iconst 4, 1), (14, .iaload, 1), (15, .iconst 1, 1), (16, .isub, 1), (17, .invokestatic 157, 3), (20, .ifCond .eq 7, 3), (23, .iconst 1, 1), (24, .goto 4, 3), (27, .iconst 0, 1), (28, .ireturn, 1)])
theorem T_X11_isMatter : zT M_X11_isMatter := zT_of (by decide +kernel)
theorem F_X11_isMatter : zMV M_X11_isMatter 1 := ⟨⟨zTT_in (i := 1678) (by decide +kernel) rfl, zTT_in (i := 147) (by decide +kernel) rfl, ⟨by decide, by decide, by decide +kernel⟩, by decide⟩, zTT_in (i := 1677) (by decide +kernel) rfl, zTT_in (i := 98) (by decide +kernel) rfl⟩
def M_X11_isLine : zM := (⟨RX11, "isLine", "(I)Z"⟩, prog_13_method_49_code, 2, (some .boolean), [(0, .aload_n 0, 1), (1, .getfield 191, 3), (4, .ifCond .eq 24, 3), (7, .iload_n 1, 1), (8, .iconst 0, 1), (9, .aload_n 0, 1), (10, .getfield 32, 3), (13, .bipush 48, 2), (15, .iaload, 1), (16, .iconst 1, 1), (17, .isub, 1), (18, .invokestatic 157, 3), (21, .ifCond .eq 7, 3), (24, .iconst 1, 1), (25, .goto 4, 3), (28, .iconst 0, 1), (29, .ireturn, 1)])
theorem T_X11_isLine : zT M_X11_isLine := zT_of (by decide +kernel)
theorem F_X11_isLine : zMV M_X11_isLine 1 := ⟨⟨zTT_in (i := 1666) (by decide +kernel) rfl, zTT_in (i := 147) (by decide +kernel) rfl, ⟨by decide, by decide, by decide +kernel⟩, by decide⟩, zTT_in (i := 1665) (by decide +kernel) rfl, zTT_in (i := 96) (by decide +kernel) rfl⟩
def M_X11_doesOutrank : zM := (⟨RX11, "doesOutrank", "(II)Z"⟩, prog_13_method_50_code, 4, (some .boolean), [(0, .iconst 0, 1), (1, .istore_n 3, 1), (2, .iload_n 3, 1), (3, .aload_n 0, 1), (4, .getfield 20, 3), (7, .iconst 2, 1), (8, .iaload, 1), (9, .if_icmp .ge 91, 3), (12, .aload_n 0, 1), (13, .getfield 274, 3), (16, .iload_n 3, 1), (17, .invokestatic 277, 3), (20, .ifCond .eq 6, 3), (23, .goto 71, 3), (26, .aload_n 0, 1), (27, .getfield 20, 3), (30, .bipush 22, 2), (32, .iconst 2, 1), (33, .iload_n 3, 1), (34, .imul, 1), (35, .iadd, 1), (36, .iaload, 1), (37, .iload_n 1, 1), (38, .if_icmp .ne 22, 3), (41, .aload_n 0, 1), (42, .getfield 20, 3), (45, .bipush 22, 2), (47, .iconst 2, 1), (48, .iload_n 3, 1), (49, .imul, 1), (50, .iadd, 1), (51, .iconst 1, 1), (52, .iadd, 1), (53, .iaload, 1), (54, .iload_n 2, 1), (55, .if_icmp .ne 5, 3), (58, .iconst 1, 1), (59, .ireturn, 1), (60, .aload_n 0, 1), (61, .getfield 20, 3), (64, .bipush 22, 2), (66, .iconst 2, 1), (67, .iload_n 3, 1), (68, .imul, 1), (69, .iadd, 1), (70, .iaload, 1), (71, .iload_n 2, 1), (72, .if_icmp .ne 22, 3), (75, .aload_n 0, 1), (76, .getfield 20, 3), (79, .bipush 22, 2), (81, .iconst 2, 1), (82, .iload_n 3, 1), (83, .imul, 1), (84, .iadd, 1), (85, .iconst 1, 1), (86, .iadd, 1), (87, .iaload, 1), (88, .iload_n 1, 1), (89, .if_icmp .ne 5, 3), (92, .iconst 0, 1), (93, .ireturn, 1), (94, .iinc 3 1, 3), (97, .goto (-95), 3), (100, .aload_n 0, 1), (101, .getfield 20, 3), (104, .bipush 10, 2), (106, .iconst 2, 1), (107, .iload_n 1, 1), (108, .imul, 1), (109, .iadd, 1), (110, .iaload, 1), (111, .aload_n 0, 1), (112, .getfield 20, 3), (115, .bipush 10, 2), (117, .iconst 2, 1), (118, .iload_n 2, 1), (119, .imul, 1), (120, .iadd, 1), (121, .iaload, 1), (122, .if_icmp .le 7, 3), (125, .iconst 1, 1), (126, .goto 4, 3), (129, .iconst 0, 1), (130, .ireturn, 1)])
theorem T_X11_doesOutrank : zT M_X11_doesOutrank := zT_of (by decide +kernel)
theorem F_X11_doesOutrank : zMV M_X11_doesOutrank 2 := ⟨⟨zTT_in (i := 1616) (by decide +kernel) rfl, zTT_in (i := 147) (by decide +kernel) rfl, ⟨by decide, by decide, by decide +kernel⟩, by decide⟩, zTT_in (i := 1615) (by decide +kernel) rfl, zTT_in (i := 87) (by decide +kernel) rfl⟩
def M_X11_add : zM := (⟨RX11, "add", "(III)V"⟩, prog_13_method_51_code, 4, none, [(0, .aload_n 0, 1), (1, .getfield 41, 3), (4, .aload_n 0, 1), (5, .getfield 281, 3), (8, .iload_n 1, 1), (9, .iastore, 1), (10, .aload_n 0, 1), (11, .getfield 44, 3), (14, .aload_n 0, 1), (15, .getfield 281, 3), (18, .iload_n 2, 1), (19, .iastore, 1), (20, .aload_n 0, 1), (21, .getfield 47, 3), (24, .aload_n 0, 1), (25, .getfield 281, 3), (28, .iload_n 3, 1), (29, .iastore, 1), (30, .aload_n 0, 1), (31, .dup, 1), (32, .getfield 281, 3), (35, .iconst 1, 1), (36, .iadd, 1), (37, .putfield 281, 3), (40, .return_, 1)])
theorem T_X11_add : zT M_X11_add := zT_of (by decide +kernel)
theorem F_X11_add : zMV M_X11_add 3 := ⟨⟨zTT_in (i := 1650) (by decide +kernel) rfl, zTT_in (i := 147) (by decide +kernel) rfl, ⟨by decide, by decide, by decide +kernel⟩, by decide⟩, zTT_in (i := 1649) (by decide +kernel) rfl, zTT_in (i := 93) (by decide +kernel) rfl⟩
def M_X11_isRead : zM := (⟨RX11, "isRead", "([II)Z"⟩, prog_13_method_52_code, 2, (some .boolean), [(0, .aload_n 0, 1), (1, .bipush 6, 2), (3, .iload_n 1, 1), (4, .imul, 1), (5, .iconst 5, 1), (6, .iadd, 1), (7, .iaload, 1), (8, .ifCond .ne 25, 3), (11, .aload_n 0, 1), (12, .bipush 49, 2), (14, .iaload, 1), (15, .aload_n 0, 1), (16, .bipush 6, 2), (18, .iload_n 1, 1), (19, .imul, 1), (20, .iconst 1, 1), (21, .iadd, 1), (22, .iaload, 1), (23, .invokestatic 277, 3), (26, .ifCond .ne 7, 3), (29, .iconst 1, 1), (30, .goto 4, 3), (33, .iconst 0, 1), (34, .ireturn, 1)])
theorem T_X11_isRead : zT M_X11_isRead := zT_of (by decide +kernel)
theorem F_X11_isRead : zMS M_X11_isRead 2 := ⟨⟨zTT_in (i := 1646) (by decide +kernel) rfl, zTT_in (i := 147) (by decide +kernel) rfl, ⟨by decide, by decide, by decide +kernel⟩, by decide⟩, zTT_in (i := 1645) (by decide +kernel) rfl⟩
def M_X11_layList : zM := (⟨RX11, "layList", "([IIII)V"⟩, prog_13_method_53_code, 6, none, [(0, .aload_n 0, 1), (1, .iconst 0, 1), (2, .putfield 281, 3), (5, .iconst 0, 1), (6, .istore 5, 2), (8, .iload 5, 2), (10, .iload_n 3, 1), (11, .if_icmp .ge 65, 3), (14, .aload_n 1, 1), (15, .bipush 6, 2), (17, .iload 5, 2), (19, .imul, 1), (20, .iconst 2, 1), (21, .iadd, 1), (22, .iaload, 1), (23, .iload_n 2, 1), (24, .if_icmp .ne 46, 3), (27, .aload_n 1, 1), (28, .iload 5, 2), (30, .invokestatic 284, 3), (33, .ifCond .eq 37, 3), (36, .iload 4, 2), (38, .iload 5, 2), (40, .invokestatic 277, 3), (43, .ifCond .ne 27, 3), (46, .aload_n 0, 1), (47, .aload_n 1, 1), (48, .bipush 6, 2), (50, .iload 5, 2), (52, .imul, 1), (53, .iconst 1, 1), (54, .iadd, 1), (55, .iaload, 1), (56, .aload_n 1, 1), (57, .bipush 6, 2), (59, .iload 5, 2), (61, .imul, 1), (62, .iconst 3, 1), (63, .iadd, 1), (64, .iaload, 1), (65, .iload 5, 2), (67, .invokevirtual 288, 3), (70, .iinc 5 1, 3), (73, .goto (-65), 3), (76, .return_, 1)])
theorem T_X11_layList : zT M_X11_layList := zT_of (by decide +kernel)
theorem F_X11_layList : zMV M_X11_layList 4 := ⟨⟨zTT_in (i := 1643) (by decide +kernel) rfl, zTT_in (i := 147) (by decide +kernel) rfl, ⟨by decide, by decide, by decide +kernel⟩, by decide⟩, zTT_in (i := 1642) (by decide +kernel) rfl, zTT_in (i := 92) (by decide +kernel) rfl⟩
def M_X11_doesBeat : zM := (⟨RX11, "doesBeat", "(II)Z"⟩, prog_13_method_54_code, 3, (some .boolean), [(0, .aload_n 0, 1), (1, .getfield 41, 3), (4, .iload_n 1, 1), (5, .iaload, 1), (6, .aload_n 0, 1), (7, .getfield 41, 3), (10, .iload_n 2, 1), (11, .iaload, 1), (12, .if_icmp .ne 16, 3), (15, .iload_n 1, 1), (16, .iload_n 2, 1), (17, .if_icmp .le 7, 3), (20, .iconst 1, 1), (21, .goto 23, 3), (24, .iconst 0, 1), (25, .goto 19, 3), (28, .aload_n 0, 1), (29, .aload_n 0, 1), (30, .getfield 41, 3), (33, .iload_n 1, 1), (34, .iaload, 1), (35, .aload_n 0, 1), (36, .getfield 41, 3), (39, .iload_n 2, 1), (40, .iaload, 1), (41, .invokevirtual 292, 3), (44, .ireturn, 1)])
theorem T_X11_doesBeat : zT M_X11_doesBeat := zT_of (by decide +kernel)
theorem F_X11_doesBeat : zMV M_X11_doesBeat 2 := ⟨⟨zTT_in (i := 1658) (by decide +kernel) rfl, zTT_in (i := 147) (by decide +kernel) rfl, ⟨by decide, by decide, by decide +kernel⟩, by decide⟩, zTT_in (i := 1657) (by decide +kernel) rfl, zTT_in (i := 95) (by decide +kernel) rfl⟩
def M_X11_unbeaten : zM := (⟨RX11, "unbeaten", "()I"⟩, prog_13_method_55_code, 4, (some .int), [(0, .iconst 0, 1), (1, .istore_n 1, 1), (2, .iload_n 1, 1), (3, .aload_n 0, 1), (4, .getfield 281, 3), (7, .if_icmp .ge 57, 3), (10, .iconst 1, 1), (11, .istore_n 2, 1), (12, .iconst 0, 1), (13, .istore_n 3, 1), (14, .iload_n 3, 1), (15, .aload_n 0, 1), (16, .getfield 281, 3), (19, .if_icmp .ge 33, 3), (22, .iload_n 2, 1), (23, .ifCond .eq 21, 3), (26, .iload_n 1, 1), (27, .iload_n 3, 1), (28, .if_icmp .eq 12, 3), (31, .aload_n 0, 1), (32, .iload_n 3, 1), (33, .iload_n 1, 1), (34, .invokevirtual 295, 3), (37, .ifCond .ne 7, 3), (40, .iconst 1, 1), (41, .goto 4, 3), (44, .iconst 0, 1), (45, .istore_n 2, 1), (46, .iinc 3 1, 3), (49, .goto (-35), 3), (52, .iload_n 2, 1), (53, .ifCond .eq 5, 3), (56, .iload_n 1, 1), (57, .ireturn, 1), (58, .iinc 1 1, 3), (61, .goto (-59), 3), (64, .bipush (-2), 2), (66, .ireturn, 1)])
theorem T_X11_unbeaten : zT M_X11_unbeaten := zT_of (by decide +kernel)
theorem F_X11_unbeaten : zMV M_X11_unbeaten 0 := ⟨⟨zTT_in (i := 1654) (by decide +kernel) rfl, zTT_in (i := 147) (by decide +kernel) rfl, ⟨by decide, by decide, by decide +kernel⟩, by decide⟩, zTT_in (i := 1653) (by decide +kernel) rfl, zTT_in (i := 94) (by decide +kernel) rfl⟩
def M_X11_listDone : zM := (⟨RX11, "listDone", "()I"⟩, prog_13_method_56_code, 2, (some .int), [(0, .aload_n 0, 1), (1, .invokevirtual 298, 3), (4, .istore_n 1, 1), (5, .iload_n 1, 1), (6, .ifCond .ge 8, 3), (9, .bipush (-2), 2), (11, .goto 9, 3), (14, .aload_n 0, 1), (15, .getfield 44, 3), (18, .iload_n 1, 1), (19, .iaload, 1), (20, .ireturn, 1)])
theorem T_X11_listDone : zT M_X11_listDone := zT_of (by decide +kernel)
theorem F_X11_listDone : zMV M_X11_listDone 0 := ⟨⟨zTT_in (i := 1690) (by decide +kernel) rfl, zTT_in (i := 147) (by decide +kernel) rfl, ⟨by decide, by decide, by decide +kernel⟩, by decide⟩, zTT_in (i := 1689) (by decide +kernel) rfl, zTT_in (i := 101) (by decide +kernel) rfl⟩
def M_X11_doneOf : zM := (⟨RX11, "doneOf", "([IIII)I"⟩, prog_13_method_57_code, 5, (some .int), [(0, .aload_n 0, 1), (1, .aload_n 1, 1), (2, .iload_n 2, 1), (3, .iload_n 3, 1), (4, .iload 4, 2), (6, .invokevirtual 301, 3), (9, .aload_n 0, 1), (10, .invokevirtual 305, 3), (13, .ireturn, 1)])
theorem T_X11_doneOf : zT M_X11_doneOf := zT_of (by decide +kernel)
theorem F_X11_doneOf : zMV M_X11_doneOf 4 := ⟨⟨zTT_in (i := 1686) (by decide +kernel) rfl, zTT_in (i := 147) (by decide +kernel) rfl, ⟨by decide, by decide, by decide +kernel⟩, by decide⟩, zTT_in (i := 1685) (by decide +kernel) rfl, zTT_in (i := 100) (by decide +kernel) rfl⟩
def M_X11_doneNow : zM := (⟨RX11, "doneNow", "(I)I"⟩, prog_13_method_58_code, 2, (some .int), [(0, .aload_n 0, 1), (1, .aload_n 0, 1), (2, .getfield 32, 3), (5, .iload_n 1, 1), (6, .aload_n 0, 1), (7, .getfield 32, 3), (10, .bipush 48, 2), (12, .iaload, 1), (13, .iconst 0, 1), (14, .invokevirtual 308, 3), (17, .ireturn, 1)])
theorem T_X11_doneNow : zT M_X11_doneNow := zT_of (by decide +kernel)
theorem F_X11_doneNow : zMV M_X11_doneNow 1 := ⟨⟨zTT_in (i := 1682) (by decide +kernel) rfl, zTT_in (i := 147) (by decide +kernel) rfl, ⟨by decide, by decide, by decide +kernel⟩, by decide⟩, zTT_in (i := 1681) (by decide +kernel) rfl, zTT_in (i := 99) (by decide +kernel) rfl⟩
def M_X11_standsOf : zM := (⟨RX11, "standsOf", "(II)I"⟩, prog_13_method_59_code, 4, (some .int), [(0, .aload_n 0, 1), (1, .aload_n 0, 1), (2, .getfield 32, 3), (5, .iload_n 1, 1), (6, .aload_n 0, 1), (7, .getfield 32, 3), (10, .bipush 48, 2), (12, .iaload, 1), (13, .iload_n 2, 1), (14, .invokevirtual 301, 3), (17, .aload_n 0, 1), (18, .invokevirtual 298, 3), (21, .istore_n 3, 1), (22, .iload_n 3, 1), (23, .ifCond .ge 8, 3), (26, .bipush (-2), 2), (28, .goto 9, 3), (31, .aload_n 0, 1), (32, .getfield 47, 3), (35, .iload_n 3, 1), (36, .iaload, 1), (37, .ireturn, 1)])
theorem T_X11_standsOf : zT M_X11_standsOf := zT_of (by decide +kernel)
theorem F_X11_standsOf : zMV M_X11_standsOf 2 := ⟨⟨zTT_in (i := 1639) (by decide +kernel) rfl, zTT_in (i := 147) (by decide +kernel) rfl, ⟨by decide, by decide, by decide +kernel⟩, by decide⟩, zTT_in (i := 1638) (by decide +kernel) rfl, zTT_in (i := 91) (by decide +kernel) rfl⟩
def M_X11_linesAt : zM := (⟨RX11, "linesAt", "(I)I"⟩, prog_13_method_60_code, 4, (some .int), [(0, .iconst 0, 1), (1, .istore_n 2, 1), (2, .iconst 0, 1), (3, .istore_n 3, 1), (4, .iload_n 3, 1), (5, .aload_n 0, 1), (6, .getfield 32, 3), (9, .bipush 48, 2), (11, .iaload, 1), (12, .if_icmp .ge 34, 3), (15, .iload_n 2, 1), (16, .aload_n 0, 1), (17, .getfield 32, 3), (20, .bipush 6, 2), (22, .iload_n 3, 1), (23, .imul, 1), (24, .iconst 1, 1), (25, .iadd, 1), (26, .iaload, 1), (27, .iload_n 1, 1), (28, .if_icmp .ne 9, 3), (31, .iconst 1, 1), (32, .iload_n 3, 1), (33, .ishl, 1), (34, .goto 4, 3), (37, .iconst 0, 1), (38, .ior, 1), (39, .istore_n 2, 1), (40, .iinc 3 1, 3), (43, .goto (-39), 3), (46, .iload_n 2, 1), (47, .ireturn, 1)])
theorem T_X11_linesAt : zT M_X11_linesAt := zT_of (by decide +kernel)
theorem F_X11_linesAt : zMV M_X11_linesAt 1 := ⟨⟨zTT_in (i := 1623) (by decide +kernel) rfl, zTT_in (i := 147) (by decide +kernel) rfl, ⟨by decide, by decide, by decide +kernel⟩, by decide⟩, zTT_in (i := 1622) (by decide +kernel) rfl, zTT_in (i := 88) (by decide +kernel) rfl⟩
def M_X11_outrankedBy : zM := (⟨RX11, "outrankedBy", "(I)I"⟩, prog_13_method_61_code, 4, (some .int), [(0, .iconst 0, 1), (1, .istore_n 2, 1), (2, .iconst 0, 1), (3, .istore_n 3, 1), (4, .iload_n 3, 1), (5, .aload_n 0, 1), (6, .getfield 20, 3), (9, .iconst 1, 1), (10, .iaload, 1), (11, .if_icmp .ge 33, 3), (14, .iload_n 2, 1), (15, .iload_n 3, 1), (16, .iload_n 1, 1), (17, .if_icmp .eq 18, 3), (20, .aload_n 0, 1), (21, .iload_n 1, 1), (22, .iload_n 3, 1), (23, .invokevirtual 292, 3), (26, .ifCond .eq 9, 3), (29, .iconst 1, 1), (30, .iload_n 3, 1), (31, .ishl, 1), (32, .goto 4, 3), (35, .iconst 0, 1), (36, .ior, 1), (37, .istore_n 2, 1), (38, .iinc 3 1, 3), (41, .goto (-37), 3), (44, .iload_n 2, 1), (45, .ireturn, 1)])
theorem T_X11_outrankedBy : zT M_X11_outrankedBy := zT_of (by decide +kernel)
theorem F_X11_outrankedBy : zMV M_X11_outrankedBy 1 := ⟨⟨zTT_in (i := 1612) (by decide +kernel) rfl, zTT_in (i := 147) (by decide +kernel) rfl, ⟨by decide, by decide, by decide +kernel⟩, by decide⟩, zTT_in (i := 1611) (by decide +kernel) rfl, zTT_in (i := 86) (by decide +kernel) rfl⟩
def M_X11_place : zM := (⟨RX11, "place", "(II)I"⟩, prog_13_method_62_code, 3, (some .int), [(0, .aload_n 0, 1), (1, .invokevirtual 178, 3), (4, .aload_n 0, 1), (5, .iconst 0, 1), (6, .putfield 274, 3), (9, .aload_n 0, 1), (10, .iload_n 1, 1), (11, .invokevirtual 312, 3), (14, .ifCond .eq 12, 3), (17, .iload_n 2, 1), (18, .iconst 0, 1), (19, .iconst 5, 1), (20, .invokestatic 157, 3), (23, .ifCond .ne 9, 3), (26, .aload_n 0, 1), (27, .iconst 1, 1), (28, .invokevirtual 181, 3), (31, .ireturn, 1), (32, .iload_n 2, 1), (33, .tableswitch 87 0 4 #[35, 47, 61, 75, 81], 35), (68, .aload_n 0, 1), (69, .getfield 20, 3), (72, .bipush 10, 2), (74, .iconst 2, 1), (75, .iload_n 1, 1), (76, .imul, 1), (77, .iadd, 1), (78, .iaload, 1), (79, .ireturn, 1), (80, .aload_n 0, 1), (81, .getfield 20, 3), (84, .bipush 10, 2), (86, .iconst 2, 1), (87, .iload_n 1, 1), (88, .imul, 1), (89, .iadd, 1), (90, .iconst 1, 1), (91, .iadd, 1), (92, .iaload, 1), (93, .ireturn, 1), (94, .aload_n 0, 1), (95, .aload_n 0, 1), (96, .getfield 20, 3), (99, .aload_n 0, 1), (100, .getfield 32, 3), (103, .iload_n 1, 1), (104, .invokevirtual 262, 3), (107, .ireturn, 1), (108, .aload_n 0, 1), (109, .iload_n 1, 1), (110, .invokevirtual 315, 3), (113, .ireturn, 1), (114, .aload_n 0, 1), (115, .iload_n 1, 1), (116, .invokevirtual 318, 3), (119, .ireturn, 1), (120, .aload_n 0, 1), (121, .getfield 32, 3), (124, .bipush 49, 2), (126, .iaload, 1), (127, .iload_n 1, 1), (128, .ishr, 1), (129, .iconst 1, 1), (130, .iand, 1), (131, .ireturn, 1)])
theorem T_X11_place : zT M_X11_place := zT_of (by decide +kernel)
theorem F_X11_place : zMV M_X11_place 2 := ⟨⟨zTT_in (i := 1604) (by decide +kernel) rfl, zTT_in (i := 147) (by decide +kernel) rfl, ⟨by decide, by decide, by decide +kernel⟩, by decide⟩, zTT_in (i := 1602) (by decide +kernel) rfl, zTT_in (i := 1603) (by decide +kernel) rfl⟩
def M_X11_linesOf : zM := (⟨RX11, "linesOf", "(I)I"⟩, prog_13_method_63_code, 4, (some .int), [(0, .iconst 0, 1), (1, .istore_n 2, 1), (2, .iconst 0, 1), (3, .istore_n 3, 1), (4, .iload_n 3, 1), (5, .aload_n 0, 1), (6, .getfield 32, 3), (9, .bipush 48, 2), (11, .iaload, 1), (12, .if_icmp .ge 34, 3), (15, .iload_n 2, 1), (16, .aload_n 0, 1), (17, .getfield 32, 3), (20, .bipush 6, 2), (22, .iload_n 3, 1), (23, .imul, 1), (24, .iconst 0, 1), (25, .iadd, 1), (26, .iaload, 1), (27, .iload_n 1, 1), (28, .if_icmp .ne 9, 3), (31, .iconst 1, 1), (32, .iload_n 3, 1), (33, .ishl, 1), (34, .goto 4, 3), (37, .iconst 0, 1), (38, .ior, 1), (39, .istore_n 2, 1), (40, .iinc 3 1, 3), (43, .goto (-39), 3), (46, .iload_n 2, 1), (47, .ireturn, 1)])
theorem T_X11_linesOf : zT M_X11_linesOf := zT_of (by decide +kernel)
theorem F_X11_linesOf : zMV M_X11_linesOf 1 := ⟨⟨zTT_in (i := 1631) (by decide +kernel) rfl, zTT_in (i := 147) (by decide +kernel) rfl, ⟨by decide, by decide, by decide +kernel⟩, by decide⟩, zTT_in (i := 1630) (by decide +kernel) rfl, zTT_in (i := 89) (by decide +kernel) rfl⟩
def M_X11_ruledBy : zM := (⟨RX11, "ruledBy", "(I)I"⟩, prog_13_method_64_code, 4, (some .int), [(0, .iconst 0, 1), (1, .istore_n 2, 1), (2, .iconst 0, 1), (3, .istore_n 3, 1), (4, .iload_n 3, 1), (5, .aload_n 0, 1), (6, .getfield 20, 3), (9, .iconst 4, 1), (10, .iaload, 1), (11, .if_icmp .ge 48, 3), (14, .iload_n 2, 1), (15, .aload_n 0, 1), (16, .iload_n 3, 1), (17, .iconst 0, 1), (18, .invokevirtual 321, 3), (21, .ifCond .lt 29, 3), (24, .aload_n 0, 1), (25, .getfield 32, 3), (28, .bipush 6, 2), (30, .aload_n 0, 1), (31, .iload_n 3, 1), (32, .iconst 0, 1), (33, .invokevirtual 321, 3), (36, .imul, 1), (37, .iconst 0, 1), (38, .iadd, 1), (39, .iaload, 1), (40, .iload_n 1, 1), (41, .if_icmp .ne 9, 3), (44, .iconst 1, 1), (45, .iload_n 3, 1), (46, .ishl, 1), (47, .goto 4, 3), (50, .iconst 0, 1), (51, .ior, 1), (52, .istore_n 2, 1), (53, .iinc 3 1, 3), (56, .goto (-52), 3), (59, .iload_n 2, 1), (60, .ireturn, 1)])
theorem T_X11_ruledBy : zT M_X11_ruledBy := zT_of (by decide +kernel)
theorem F_X11_ruledBy : zMV M_X11_ruledBy 1 := ⟨⟨zTT_in (i := 1635) (by decide +kernel) rfl, zTT_in (i := 147) (by decide +kernel) rfl, ⟨by decide, by decide, by decide +kernel⟩, by decide⟩, zTT_in (i := 1634) (by decide +kernel) rfl, zTT_in (i := 90) (by decide +kernel) rfl⟩
def M_X11_hand : zM := (⟨RX11, "hand", "(II)I"⟩, prog_13_method_65_code, 3, (some .int), [(0, .aload_n 0, 1), (1, .invokevirtual 178, 3), (4, .aload_n 0, 1), (5, .getfield 191, 3), (8, .ifCond .eq 28, 3), (11, .iload_n 1, 1), (12, .iconst 0, 1), (13, .aload_n 0, 1), (14, .getfield 20, 3), (17, .iconst 3, 1), (18, .iaload, 1), (19, .iconst 1, 1), (20, .isub, 1), (21, .invokestatic 157, 3), (24, .ifCond .eq 12, 3), (27, .iload_n 2, 1), (28, .iconst 0, 1), (29, .iconst 2, 1), (30, .invokestatic 157, 3), (33, .ifCond .ne 9, 3), (36, .aload_n 0, 1), (37, .iconst 1, 1), (38, .invokevirtual 181, 3), (41, .ireturn, 1), (42, .iload_n 2, 1), (43, .ifCond .ne 15, 3), (46, .aload_n 0, 1), (47, .getfield 20, 3), (50, .bipush 34, 2), (52, .iload_n 1, 1), (53, .iadd, 1), (54, .iaload, 1), (55, .goto 21, 3), (58, .iload_n 2, 1), (59, .iconst 1, 1), (60, .if_icmp .ne 11, 3), (63, .aload_n 0, 1), (64, .iload_n 1, 1), (65, .invokevirtual 324, 3), (68, .goto 8, 3), (71, .aload_n 0, 1), (72, .iload_n 1, 1), (73, .invokevirtual 327, 3), (76, .ireturn, 1)])
theorem T_X11_hand : zT M_X11_hand := zT_of (by decide +kernel)
theorem F_X11_hand : zMV M_X11_hand 2 := ⟨⟨zTT_in (i := 1627) (by decide +kernel) rfl, zTT_in (i := 147) (by decide +kernel) rfl, ⟨by decide, by decide, by decide +kernel⟩, by decide⟩, zTT_in (i := 1625) (by decide +kernel) rfl, zTT_in (i := 1626) (by decide +kernel) rfl⟩
def M_X11_beatersOf : zM := (⟨RX11, "beatersOf", "(I)I"⟩, prog_13_method_66_code, 5, (some .int), [(0, .iconst 0, 1), (1, .istore_n 2, 1), (2, .aload_n 0, 1), (3, .aload_n 0, 1), (4, .getfield 32, 3), (7, .aload_n 0, 1), (8, .getfield 32, 3), (11, .bipush 6, 2), (13, .iload_n 1, 1), (14, .imul, 1), (15, .iconst 2, 1), (16, .iadd, 1), (17, .iaload, 1), (18, .aload_n 0, 1), (19, .getfield 32, 3), (22, .bipush 48, 2), (24, .iaload, 1), (25, .iconst 0, 1), (26, .invokevirtual 301, 3), (29, .iconst 0, 1), (30, .istore_n 3, 1), (31, .iload_n 3, 1), (32, .aload_n 0, 1), (33, .getfield 281, 3), (36, .if_icmp .ge 69, 3), (39, .iconst 0, 1), (40, .istore 4, 2), (42, .iload 4, 2), (44, .aload_n 0, 1), (45, .getfield 281, 3), (48, .if_icmp .ge 51, 3), (51, .iload_n 2, 1), (52, .aload_n 0, 1), (53, .getfield 47, 3), (56, .iload_n 3, 1), (57, .iaload, 1), (58, .iload_n 1, 1), (59, .if_icmp .ne 31, 3), (62, .iload_n 3, 1), (63, .iload 4, 2), (65, .if_icmp .eq 25, 3), (68, .aload_n 0, 1), (69, .iload 4, 2), (71, .iload_n 3, 1), (72, .invokevirtual 295, 3), (75, .ifCond .eq 15, 3), (78, .iconst 1, 1), (79, .aload_n 0, 1), (80, .getfield 47, 3), (83, .iload 4, 2), (85, .iaload, 1), (86, .ishl, 1), (87, .goto 4, 3), (90, .iconst 0, 1), (91, .ior, 1), (92, .istore_n 2, 1), (93, .iinc 4 1, 3), (96, .goto (-54), 3), (99, .iinc 3 1, 3), (102, .goto (-71), 3), (105, .iload_n 2, 1), (106, .ireturn, 1)])
theorem T_X11_beatersOf : zT M_X11_beatersOf := zT_of (by decide +kernel)
theorem F_X11_beatersOf : zMV M_X11_beatersOf 1 := ⟨⟨zTT_in (i := 1670) (by decide +kernel) rfl, zTT_in (i := 147) (by decide +kernel) rfl, ⟨by decide, by decide, by decide +kernel⟩, by decide⟩, zTT_in (i := 1669) (by decide +kernel) rfl, zTT_in (i := 97) (by decide +kernel) rfl⟩
def M_X11_line : zM := (⟨RX11, "line", "(II)I"⟩, prog_13_method_67_code, 3, (some .int), [(0, .aload_n 0, 1), (1, .invokevirtual 178, 3), (4, .aload_n 0, 1), (5, .iload_n 1, 1), (6, .invokevirtual 330, 3), (9, .ifCond .eq 13, 3), (12, .iload_n 2, 1), (13, .iconst 0, 1), (14, .bipush 7, 2), (16, .invokestatic 157, 3), (19, .ifCond .ne 9, 3), (22, .aload_n 0, 1), (23, .iconst 1, 1), (24, .invokevirtual 181, 3), (27, .ireturn, 1), (28, .iload_n 2, 1), (29, .bipush 6, 2), (31, .if_icmp .ge 17, 3), (34, .aload_n 0, 1), (35, .getfield 32, 3), (38, .bipush 6, 2), (40, .iload_n 1, 1), (41, .imul, 1), (42, .iload_n 2, 1), (43, .iadd, 1), (44, .iaload, 1), (45, .goto 33, 3), (48, .iload_n 2, 1), (49, .bipush 6, 2), (51, .if_icmp .ne 22, 3), (54, .aload_n 0, 1), (55, .getfield 32, 3), (58, .iload_n 1, 1), (59, .invokestatic 284, 3), (62, .ifCond .eq 7, 3), (65, .iconst 1, 1), (66, .goto 12, 3), (69, .iconst 0, 1), (70, .goto 8, 3), (73, .aload_n 0, 1), (74, .iload_n 1, 1), (75, .invokevirtual 333, 3), (78, .ireturn, 1)])
theorem T_X11_line : zT M_X11_line := zT_of (by decide +kernel)
theorem F_X11_line : zMV M_X11_line 2 := ⟨⟨zTT_in (i := 1662) (by decide +kernel) rfl, zTT_in (i := 147) (by decide +kernel) rfl, ⟨by decide, by decide, by decide +kernel⟩, by decide⟩, zTT_in (i := 1660) (by decide +kernel) rfl, zTT_in (i := 1661) (by decide +kernel) rfl⟩
def M_X11_done : zM := (⟨RX11, "done", "(I)I"⟩, prog_13_method_68_code, 2, (some .int), [(0, .aload_n 0, 1), (1, .invokevirtual 178, 3), (4, .aload_n 0, 1), (5, .iload_n 1, 1), (6, .invokevirtual 336, 3), (9, .ifCond .eq 11, 3), (12, .aload_n 0, 1), (13, .iload_n 1, 1), (14, .invokevirtual 339, 3), (17, .goto 8, 3), (20, .aload_n 0, 1), (21, .iconst 1, 1), (22, .invokevirtual 181, 3), (25, .ireturn, 1)])
theorem T_X11_done : zT M_X11_done := zT_of (by decide +kernel)
theorem F_X11_done : zMV M_X11_done 1 := ⟨⟨zTT_in (i := 1674) (by decide +kernel) rfl, zTT_in (i := 147) (by decide +kernel) rfl, ⟨by decide, by decide, by decide +kernel⟩, by decide⟩, zTT_in (i := 1672) (by decide +kernel) rfl, zTT_in (i := 1673) (by decide +kernel) rfl⟩
def M_X11_stands : zM := (⟨RX11, "stands", "(I)I"⟩, prog_13_method_69_code, 2, (some .int), [(0, .aload_n 0, 1), (1, .invokevirtual 178, 3), (4, .aload_n 0, 1), (5, .iload_n 1, 1), (6, .invokevirtual 336, 3), (9, .ifCond .eq 12, 3), (12, .aload_n 0, 1), (13, .iload_n 1, 1), (14, .iconst 0, 1), (15, .invokevirtual 321, 3), (18, .goto 8, 3), (21, .aload_n 0, 1), (22, .iconst 1, 1), (23, .invokevirtual 181, 3), (26, .ireturn, 1)])
theorem T_X11_stands : zT M_X11_stands := zT_of (by decide +kernel)
theorem F_X11_stands : zMV M_X11_stands 1 := ⟨⟨zTT_in (i := 1694) (by decide +kernel) rfl, zTT_in (i := 147) (by decide +kernel) rfl, ⟨by decide, by decide, by decide +kernel⟩, by decide⟩, zTT_in (i := 1692) (by decide +kernel) rfl, zTT_in (i := 1693) (by decide +kernel) rfl⟩
def M_X11_allDone : zM := (⟨RX11, "allDone", "()I"⟩, prog_13_method_70_code, 3, (some .int), [(0, .aload_n 0, 1), (1, .invokevirtual 178, 3), (4, .aload_n 0, 1), (5, .getfield 191, 3), (8, .ifCond .ne 9, 3), (11, .aload_n 0, 1), (12, .iconst 1, 1), (13, .invokevirtual 181, 3), (16, .ireturn, 1), (17, .iconst 0, 1), (18, .istore_n 1, 1), (19, .iconst 0, 1), (20, .istore_n 2, 1), (21, .iload_n 2, 1), (22, .aload_n 0, 1), (23, .getfield 20, 3), (26, .iconst 4, 1), (27, .iaload, 1), (28, .if_icmp .ge 28, 3), (31, .iload_n 1, 1), (32, .aload_n 0, 1), (33, .iload_n 2, 1), (34, .invokevirtual 339, 3), (37, .iconst 1, 1), (38, .if_icmp .ne 9, 3), (41, .iconst 1, 1), (42, .iload_n 2, 1), (43, .ishl, 1), (44, .goto 4, 3), (47, .iconst 0, 1), (48, .ior, 1), (49, .istore_n 1, 1), (50, .iinc 2 1, 3), (53, .goto (-32), 3), (56, .iload_n 1, 1), (57, .ireturn, 1)])
theorem T_X11_allDone : zT M_X11_allDone := zT_of (by decide +kernel)
theorem F_X11_allDone : zMV M_X11_allDone 0 := ⟨⟨zTT_in (i := 1698) (by decide +kernel) rfl, zTT_in (i := 147) (by decide +kernel) rfl, ⟨by decide, by decide, by decide +kernel⟩, by decide⟩, zTT_in (i := 1696) (by decide +kernel) rfl, zTT_in (i := 1697) (by decide +kernel) rfl⟩
def M_X11_ruler : zM := (⟨RX11, "rule\x72", "()I"⟩, prog_13_method_71_code, 3, (some .int), [(0, .aload_n 0, 1), (1, .invokevirtual 178, 3), (4, .aload_n 0, 1), (5, .getfield 191, 3), (8, .ifCond .ne 9, 3), (11, .aload_n 0, 1), (12, .iconst 1, 1), (13, .invokevirtual 181, 3), (16, .ireturn, 1), (17, .bipush (-2), 2), (19, .istore_n 1, 1), (20, .iconst 0, 1), (21, .istore_n 2, 1), (22, .iload_n 2, 1), (23, .aload_n 0, 1), (24, .getfield 20, 3), (27, .iconst 3, 1), (28, .iaload, 1), (29, .if_icmp .ge 38, 3), (32, .aload_n 0, 1), (33, .iload_n 2, 1), (34, .invokevirtual 327, 3), (37, .invokestatic 342, 3), (40, .iload_n 1, 1), (41, .ifCond .ge 7, 3), (44, .iconst 0, 1), (45, .goto 11, 3), (48, .aload_n 0, 1), (49, .iload_n 1, 1), (50, .invokevirtual 327, 3), (53, .invokestatic 342, 3), (56, .if_icmp .le 5, 3), (59, .iload_n 2, 1), (60, .istore_n 1, 1), (61, .iinc 2 1, 3), (64, .goto (-42), 3), (67, .iload_n 1, 1), (68, .ireturn, 1)])
theorem T_X11_ruler : zT M_X11_ruler := zT_of (by decide +kernel)
theorem F_X11_ruler : zMV M_X11_ruler 0 := ⟨⟨zTT_in (i := 1702) (by decide +kernel) rfl, zTT_in (i := 147) (by decide +kernel) rfl, ⟨by decide, by decide, by decide +kernel⟩, by decide⟩, zTT_in (i := 1700) (by decide +kernel) rfl, zTT_in (i := 1701) (by decide +kernel) rfl⟩
def M_X11_changedWithout : zM := (⟨RX11, "changedWithout", "(I)I"⟩, prog_13_method_72_code, 4, (some .int), [(0, .iconst 0, 1), (1, .istore_n 2, 1), (2, .iconst 0, 1), (3, .istore_n 3, 1), (4, .iload_n 3, 1), (5, .aload_n 0, 1), (6, .getfield 20, 3), (9, .iconst 4, 1), (10, .iaload, 1), (11, .if_icmp .ge 42, 3), (14, .iload_n 2, 1), (15, .aload_n 0, 1), (16, .aload_n 0, 1), (17, .getfield 32, 3), (20, .iload_n 3, 1), (21, .aload_n 0, 1), (22, .getfield 32, 3), (25, .bipush 48, 2), (27, .iaload, 1), (28, .iload_n 1, 1), (29, .invokevirtual 308, 3), (32, .aload_n 0, 1), (33, .iload_n 3, 1), (34, .invokevirtual 339, 3), (37, .if_icmp .ne 7, 3), (40, .iconst 0, 1), (41, .goto 4, 3), (44, .iconst 1, 1), (45, .iadd, 1), (46, .istore_n 2, 1), (47, .iinc 3 1, 3), (50, .goto (-46), 3), (53, .iload_n 2, 1), (54, .ireturn, 1)])
theorem T_X11_changedWithout : zT M_X11_changedWithout := zT_of (by decide +kernel)
theorem F_X11_changedWithout : zMV M_X11_changedWithout 1 := ⟨⟨zTT_in (i := 1713) (by decide +kernel) rfl, zTT_in (i := 147) (by decide +kernel) rfl, ⟨by decide, by decide, by decide +kernel⟩, by decide⟩, zTT_in (i := 1712) (by decide +kernel) rfl, zTT_in (i := 102) (by decide +kernel) rfl⟩
def M_X11_power : zM := (⟨RX11, "powe\x72", "()I"⟩, prog_13_method_73_code, 5, (some .int), [(0, .aload_n 0, 1), (1, .invokevirtual 178, 3), (4, .aload_n 0, 1), (5, .getfield 191, 3), (8, .ifCond .ne 9, 3), (11, .aload_n 0, 1), (12, .iconst 1, 1), (13, .invokevirtual 181, 3), (16, .ireturn, 1), (17, .bipush (-2), 2), (19, .istore_n 1, 1), (20, .iconst 0, 1), (21, .istore_n 2, 1), (22, .iconst 0, 1), (23, .istore_n 3, 1), (24, .iload_n 3, 1), (25, .aload_n 0, 1), (26, .getfield 20, 3), (29, .iconst 3, 1), (30, .iaload, 1), (31, .if_icmp .ge 34, 3), (34, .aload_n 0, 1), (35, .aload_n 0, 1), (36, .iload_n 3, 1), (37, .invokevirtual 324, 3), (40, .invokevirtual 345, 3), (43, .istore 4, 2), (45, .iload 4, 2), (47, .iload_n 2, 1), (48, .if_icmp .gt 6, 3), (51, .goto 8, 3), (54, .iload_n 3, 1), (55, .istore_n 1, 1), (56, .iload 4, 2), (58, .istore_n 2, 1), (59, .iinc 3 1, 3), (62, .goto (-38), 3), (65, .iload_n 1, 1), (66, .ireturn, 1)])
theorem T_X11_power : zT M_X11_power := zT_of (by decide +kernel)
theorem F_X11_power : zMV M_X11_power 0 := ⟨⟨zTT_in (i := 1709) (by decide +kernel) rfl, zTT_in (i := 147) (by decide +kernel) rfl, ⟨by decide, by decide, by decide +kernel⟩, by decide⟩, zTT_in (i := 1707) (by decide +kernel) rfl, zTT_in (i := 1708) (by decide +kernel) rfl⟩
def M_X11_why : zM := (⟨RX11, "why", "(ZZ)I"⟩, prog_13_method_74_code, 3, (some .int), [(0, .iload_n 1, 1), (1, .ifCond .ne 7, 3), (4, .iconst 1, 1), (5, .goto 12, 3), (8, .iload_n 2, 1), (9, .ifCond .eq 7, 3), (12, .iconst 0, 1), (13, .goto 4, 3), (16, .iconst 2, 1), (17, .ireturn, 1)])
theorem T_X11_why : zT M_X11_why := zT_of (by decide +kernel)
theorem F_X11_why : zMV M_X11_why 2 := ⟨⟨zTT_in (i := 1721) (by decide +kernel) rfl, zTT_in (i := 147) (by decide +kernel) rfl, ⟨by decide, by decide, by decide +kernel⟩, by decide⟩, zTT_in (i := 1720) (by decide +kernel) rfl, zTT_in (i := 103) (by decide +kernel) rfl⟩
def M_X11_doneBy : zM := (⟨RX11, "doneBy", "(II)I"⟩, prog_13_method_75_code, 4, (some .int), [(0, .aload_n 0, 1), (1, .invokevirtual 178, 3), (4, .aload_n 0, 1), (5, .aload_n 0, 1), (6, .iload_n 1, 1), (7, .invokevirtual 336, 3), (10, .iload_n 2, 1), (11, .iconst 0, 1), (12, .aload_n 0, 1), (13, .getfield 32, 3), (16, .bipush 48, 2), (18, .iaload, 1), (19, .invokestatic 157, 3), (22, .invokevirtual 348, 3), (25, .istore_n 3, 1), (26, .iload_n 3, 1), (27, .ifCond .eq 11, 3), (30, .aload_n 0, 1), (31, .iload_n 3, 1), (32, .invokevirtual 181, 3), (35, .goto 14, 3), (38, .aload_n 0, 1), (39, .aload_n 0, 1), (40, .getfield 32, 3), (43, .iload_n 1, 1), (44, .iload_n 2, 1), (45, .iconst 0, 1), (46, .invokevirtual 308, 3), (49, .ireturn, 1)])
theorem T_X11_doneBy : zT M_X11_doneBy := zT_of (by decide +kernel)
theorem F_X11_doneBy : zMV M_X11_doneBy 2 := ⟨⟨zTT_in (i := 1717) (by decide +kernel) rfl, zTT_in (i := 147) (by decide +kernel) rfl, ⟨by decide, by decide, by decide +kernel⟩, by decide⟩, zTT_in (i := 1715) (by decide +kernel) rfl, zTT_in (i := 1716) (by decide +kernel) rfl⟩
def M_X11_changes : zM := (⟨RX11, "changes", "(I)I"⟩, prog_13_method_76_code, 4, (some .int), [(0, .aload_n 0, 1), (1, .invokevirtual 178, 3), (4, .aload_n 0, 1), (5, .iload_n 1, 1), (6, .invokevirtual 336, 3), (9, .ifCond .ne 9, 3), (12, .aload_n 0, 1), (13, .iconst 1, 1), (14, .invokevirtual 181, 3), (17, .ireturn, 1), (18, .iconst 0, 1), (19, .istore_n 2, 1), (20, .iconst 1, 1), (21, .istore_n 3, 1), (22, .iload_n 3, 1), (23, .aload_n 0, 1), (24, .getfield 32, 3), (27, .bipush 48, 2), (29, .iaload, 1), (30, .if_icmp .gt 44, 3), (33, .iload_n 2, 1), (34, .aload_n 0, 1), (35, .aload_n 0, 1), (36, .getfield 32, 3), (39, .iload_n 1, 1), (40, .iload_n 3, 1), (41, .iconst 0, 1), (42, .invokevirtual 308, 3), (45, .aload_n 0, 1), (46, .aload_n 0, 1), (47, .getfield 32, 3), (50, .iload_n 1, 1), (51, .iload_n 3, 1), (52, .iconst 1, 1), (53, .isub, 1), (54, .iconst 0, 1), (55, .invokevirtual 308, 3), (58, .if_icmp .ne 7, 3), (61, .iconst 0, 1), (62, .goto 4, 3), (65, .iconst 1, 1), (66, .iadd, 1), (67, .istore_n 2, 1), (68, .iinc 3 1, 3), (71, .goto (-49), 3), (74, .iload_n 2, 1), (75, .ireturn, 1)])
theorem T_X11_changes : zT M_X11_changes := zT_of (by decide +kernel)
theorem F_X11_changes : zMV M_X11_changes 1 := ⟨⟨zTT_in (i := 1725) (by decide +kernel) rfl, zTT_in (i := 147) (by decide +kernel) rfl, ⟨by decide, by decide, by decide +kernel⟩, by decide⟩, zTT_in (i := 1723) (by decide +kernel) rfl, zTT_in (i := 1724) (by decide +kernel) rfl⟩
def M_X11_since : zM := (⟨RX11, "since", "(I)I"⟩, prog_13_method_77_code, 3, (some .int), [(0, .aload_n 0, 1), (1, .invokevirtual 178, 3), (4, .aload_n 0, 1), (5, .iload_n 1, 1), (6, .invokevirtual 336, 3), (9, .ifCond .ne 9, 3), (12, .aload_n 0, 1), (13, .iconst 1, 1), (14, .invokevirtual 181, 3), (17, .ireturn, 1), (18, .aload_n 0, 1), (19, .getfield 32, 3), (22, .bipush 48, 2), (24, .iaload, 1), (25, .istore_n 2, 1), (26, .iload_n 2, 1), (27, .ifCond .le 30, 3), (30, .aload_n 0, 1), (31, .aload_n 0, 1), (32, .getfield 32, 3), (35, .iload_n 1, 1), (36, .iload_n 2, 1), (37, .iconst 1, 1), (38, .isub, 1), (39, .iconst 0, 1), (40, .invokevirtual 308, 3), (43, .aload_n 0, 1), (44, .iload_n 1, 1), (45, .invokevirtual 339, 3), (48, .if_icmp .ne 9, 3), (51, .iinc 2 (-1), 3), (54, .goto (-28), 3), (57, .iload_n 2, 1), (58, .ireturn, 1)])
theorem T_X11_since : zT M_X11_since := zT_of (by decide +kernel)
theorem F_X11_since : zMV M_X11_since 1 := ⟨⟨zTT_in (i := 1729) (by decide +kernel) rfl, zTT_in (i := 147) (by decide +kernel) rfl, ⟨by decide, by decide, by decide +kernel⟩, by decide⟩, zTT_in (i := 1727) (by decide +kernel) rfl, zTT_in (i := 1728) (by decide +kernel) rfl⟩
def M_X11_idle : zM := (⟨RX11, "idle", "()I"⟩, prog_13_method_78_code, 3, (some .int), [(0, .aload_n 0, 1), (1, .invokevirtual 178, 3), (4, .aload_n 0, 1), (5, .getfield 191, 3), (8, .ifCond .ne 9, 3), (11, .aload_n 0, 1), (12, .iconst 1, 1), (13, .invokevirtual 181, 3), (16, .ireturn, 1), (17, .iconst 0, 1), (18, .istore_n 1, 1), (19, .iconst 0, 1), (20, .istore_n 2, 1), (21, .iload_n 2, 1), (22, .aload_n 0, 1), (23, .getfield 32, 3), (26, .bipush 48, 2), (28, .iaload, 1), (29, .if_icmp .ge 40, 3), (32, .iload_n 1, 1), (33, .aload_n 0, 1), (34, .getfield 32, 3), (37, .iload_n 2, 1), (38, .invokestatic 284, 3), (41, .ifCond .eq 19, 3), (44, .aload_n 0, 1), (45, .iconst 1, 1), (46, .iload_n 2, 1), (47, .ishl, 1), (48, .invokevirtual 345, 3), (51, .ifCond .ne 9, 3), (54, .iconst 1, 1), (55, .iload_n 2, 1), (56, .ishl, 1), (57, .goto 4, 3), (60, .iconst 0, 1), (61, .ior, 1), (62, .istore_n 1, 1), (63, .iinc 2 1, 3), (66, .goto (-45), 3), (69, .iload_n 1, 1), (70, .ireturn, 1)])
theorem T_X11_idle : zT M_X11_idle := zT_of (by decide +kernel)
theorem F_X11_idle : zMV M_X11_idle 0 := ⟨⟨zTT_in (i := 1733) (by decide +kernel) rfl, zTT_in (i := 147) (by decide +kernel) rfl, ⟨by decide, by decide, by decide +kernel⟩, by decide⟩, zTT_in (i := 1731) (by decide +kernel) rfl, zTT_in (i := 1732) (by decide +kernel) rfl⟩
def M_X11_allRead : zM := (⟨RX11, "allRead", "()I"⟩, prog_13_method_79_code, 3, (some .int), [(0, .iconst 0, 1), (1, .istore_n 1, 1), (2, .iconst 0, 1), (3, .istore_n 2, 1), (4, .iload_n 2, 1), (5, .aload_n 0, 1), (6, .getfield 32, 3), (9, .bipush 48, 2), (11, .iaload, 1), (12, .if_icmp .ge 30, 3), (15, .iload_n 1, 1), (16, .aload_n 0, 1), (17, .getfield 32, 3), (20, .iload_n 2, 1), (21, .invokestatic 284, 3), (24, .ifCond .eq 9, 3), (27, .iconst 1, 1), (28, .iload_n 2, 1), (29, .ishl, 1), (30, .goto 4, 3), (33, .iconst 0, 1), (34, .ior, 1), (35, .istore_n 1, 1), (36, .iinc 2 1, 3), (39, .goto (-35), 3), (42, .iload_n 1, 1), (43, .ireturn, 1)])
theorem T_X11_allRead : zT M_X11_allRead := zT_of (by decide +kernel)
theorem F_X11_allRead : zMV M_X11_allRead 0 := ⟨⟨zTT_in (i := 1745) (by decide +kernel) rfl, zTT_in (i := 147) (by decide +kernel) rfl, ⟨by decide, by decide, by decide +kernel⟩, by decide⟩, zTT_in (i := 1744) (by decide +kernel) rfl, zTT_in (i := 105) (by decide +kernel) rfl⟩
def M_X11_turnOf : zM := (⟨RX11, "turnOf", "(I)I"⟩, prog_13_method_80_code, 4, (some .int), [(0, .bipush (-2), 2), (2, .istore_n 2, 1), (3, .iconst 1, 1), (4, .istore_n 3, 1), (5, .iload_n 3, 1), (6, .iconst 1, 1), (7, .aload_n 0, 1), (8, .getfield 32, 3), (11, .bipush 48, 2), (13, .iaload, 1), (14, .ishl, 1), (15, .if_icmp .ge 62, 3), (18, .iload_n 3, 1), (19, .aload_n 0, 1), (20, .invokevirtual 352, 3), (23, .iconst (-1), 1), (24, .ixor, 1), (25, .iand, 1), (26, .ifCond .ne 45, 3), (29, .iload_n 2, 1), (30, .ifCond .lt 14, 3), (33, .iload_n 3, 1), (34, .invokestatic 342, 3), (37, .iload_n 2, 1), (38, .invokestatic 342, 3), (41, .if_icmp .ge 30, 3), (44, .aload_n 0, 1), (45, .aload_n 0, 1), (46, .getfield 32, 3), (49, .iload_n 1, 1), (50, .aload_n 0, 1), (51, .getfield 32, 3), (54, .bipush 48, 2), (56, .iaload, 1), (57, .iload_n 3, 1), (58, .invokevirtual 308, 3), (61, .aload_n 0, 1), (62, .iload_n 1, 1), (63, .invokevirtual 339, 3), (66, .if_icmp .eq 5, 3), (69, .iload_n 3, 1), (70, .istore_n 2, 1), (71, .iinc 3 1, 3), (74, .goto (-69), 3), (77, .iload_n 2, 1), (78, .ireturn, 1)])
theorem T_X11_turnOf : zT M_X11_turnOf := zT_of (by decide +kernel)
theorem F_X11_turnOf : zMV M_X11_turnOf 1 := ⟨⟨zTT_in (i := 1741) (by decide +kernel) rfl, zTT_in (i := 147) (by decide +kernel) rfl, ⟨by decide, by decide, by decide +kernel⟩, by decide⟩, zTT_in (i := 1740) (by decide +kernel) rfl, zTT_in (i := 104) (by decide +kernel) rfl⟩
def M_X11_turn : zM := (⟨RX11, "turn", "(I)I"⟩, prog_13_method_81_code, 2, (some .int), [(0, .aload_n 0, 1), (1, .invokevirtual 178, 3), (4, .aload_n 0, 1), (5, .iload_n 1, 1), (6, .invokevirtual 336, 3), (9, .ifCond .eq 11, 3), (12, .aload_n 0, 1), (13, .iload_n 1, 1), (14, .invokevirtual 355, 3), (17, .goto 8, 3), (20, .aload_n 0, 1), (21, .iconst 1, 1), (22, .invokevirtual 181, 3), (25, .ireturn, 1)])
theorem T_X11_turn : zT M_X11_turn := zT_of (by decide +kernel)
theorem F_X11_turn : zMV M_X11_turn 1 := ⟨⟨zTT_in (i := 1737) (by decide +kernel) rfl, zTT_in (i := 147) (by decide +kernel) rfl, ⟨by decide, by decide, by decide +kernel⟩, by decide⟩, zTT_in (i := 1735) (by decide +kernel) rfl, zTT_in (i := 1736) (by decide +kernel) rfl⟩
def M_X11_weakest : zM := (⟨RX11, "weakest", "()I"⟩, prog_13_method_82_code, 3, (some .int), [(0, .aload_n 0, 1), (1, .invokevirtual 178, 3), (4, .aload_n 0, 1), (5, .getfield 191, 3), (8, .ifCond .ne 9, 3), (11, .aload_n 0, 1), (12, .iconst 1, 1), (13, .invokevirtual 181, 3), (16, .ireturn, 1), (17, .bipush (-2), 2), (19, .istore_n 1, 1), (20, .iconst 0, 1), (21, .istore_n 2, 1), (22, .iload_n 2, 1), (23, .aload_n 0, 1), (24, .getfield 20, 3), (27, .iconst 4, 1), (28, .iaload, 1), (29, .if_icmp .ge 42, 3), (32, .aload_n 0, 1), (33, .iload_n 2, 1), (34, .invokevirtual 355, 3), (37, .ifCond .lt 28, 3), (40, .iload_n 1, 1), (41, .ifCond .lt 22, 3), (44, .aload_n 0, 1), (45, .iload_n 2, 1), (46, .invokevirtual 355, 3), (49, .invokestatic 342, 3), (52, .aload_n 0, 1), (53, .iload_n 1, 1), (54, .invokevirtual 355, 3), (57, .invokestatic 342, 3), (60, .if_icmp .ge 5, 3), (63, .iload_n 2, 1), (64, .istore_n 1, 1), (65, .iinc 2 1, 3), (68, .goto (-46), 3), (71, .iload_n 1, 1), (72, .ireturn, 1)])
theorem T_X11_weakest : zT M_X11_weakest := zT_of (by decide +kernel)
theorem F_X11_weakest : zMV M_X11_weakest 0 := ⟨⟨zTT_in (i := 1749) (by decide +kernel) rfl, zTT_in (i := 147) (by decide +kernel) rfl, ⟨by decide, by decide, by decide +kernel⟩, by decide⟩, zTT_in (i := 1747) (by decide +kernel) rfl, zTT_in (i := 1748) (by decide +kernel) rfl⟩
def M_X11_roomNow : zM := (⟨RX11, "roomNow", "(I)I"⟩, prog_13_method_83_code, 4, (some .int), [(0, .aload_n 0, 1), (1, .aload_n 0, 1), (2, .getfield 20, 3), (5, .aload_n 0, 1), (6, .getfield 32, 3), (9, .iload_n 1, 1), (10, .invokevirtual 262, 3), (13, .istore_n 2, 1), (14, .iconst 0, 1), (15, .istore_n 3, 1), (16, .iload_n 3, 1), (17, .aload_n 0, 1), (18, .getfield 358, 3), (21, .if_icmp .ge 27, 3), (24, .iload_n 2, 1), (25, .aload_n 0, 1), (26, .getfield 50, 3), (29, .iload_n 3, 1), (30, .iaload, 1), (31, .iload_n 1, 1), (32, .if_icmp .ne 7, 3), (35, .iconst 1, 1), (36, .goto 4, 3), (39, .iconst 0, 1), (40, .isub, 1), (41, .istore_n 2, 1), (42, .iinc 3 1, 3), (45, .goto (-29), 3), (48, .iload_n 2, 1), (49, .ireturn, 1)])
theorem T_X11_roomNow : zT M_X11_roomNow := zT_of (by decide +kernel)
theorem F_X11_roomNow : zMV M_X11_roomNow 1 := ⟨⟨zTT_in (i := 1765) (by decide +kernel) rfl, zTT_in (i := 147) (by decide +kernel) rfl, ⟨by decide, by decide, by decide +kernel⟩, by decide⟩, zTT_in (i := 1764) (by decide +kernel) rfl, zTT_in (i := 108) (by decide +kernel) rfl⟩
def M_X11_canWrite : zM := (⟨RX11, "canWrite", "(I)Z"⟩, prog_13_method_84_code, 2, (some .boolean), [(0, .aload_n 0, 1), (1, .getfield 32, 3), (4, .bipush 49, 2), (6, .iaload, 1), (7, .iload_n 1, 1), (8, .invokestatic 277, 3), (11, .ifCond .ne 15, 3), (14, .aload_n 0, 1), (15, .iload_n 1, 1), (16, .invokevirtual 361, 3), (19, .ifCond .le 7, 3), (22, .iconst 1, 1), (23, .goto 4, 3), (26, .iconst 0, 1), (27, .ireturn, 1)])
theorem T_X11_canWrite : zT M_X11_canWrite := zT_of (by decide +kernel)
theorem F_X11_canWrite : zMV M_X11_canWrite 1 := ⟨⟨zTT_in (i := 1761) (by decide +kernel) rfl, zTT_in (i := 147) (by decide +kernel) rfl, ⟨by decide, by decide, by decide +kernel⟩, by decide⟩, zTT_in (i := 1760) (by decide +kernel) rfl, zTT_in (i := 107) (by decide +kernel) rfl⟩
def M_X11_more : zM := (⟨RX11, "more", "(II)V"⟩, prog_13_method_85_code, 3, none, [(0, .aload_n 0, 1), (1, .getfield 50, 3), (4, .aload_n 0, 1), (5, .getfield 358, 3), (8, .iload_n 1, 1), (9, .iastore, 1), (10, .aload_n 0, 1), (11, .getfield 53, 3), (14, .aload_n 0, 1), (15, .getfield 358, 3), (18, .iload_n 2, 1), (19, .iastore, 1), (20, .aload_n 0, 1), (21, .dup, 1), (22, .getfield 358, 3), (25, .iconst 1, 1), (26, .iadd, 1), (27, .putfield 358, 3), (30, .return_, 1)])
theorem T_X11_more : zT M_X11_more := zT_of (by decide +kernel)
theorem F_X11_more : zMV M_X11_more 2 := ⟨⟨zTT_in (i := 1769) (by decide +kernel) rfl, zTT_in (i := 147) (by decide +kernel) rfl, ⟨by decide, by decide, by decide +kernel⟩, by decide⟩, zTT_in (i := 1768) (by decide +kernel) rfl, zTT_in (i := 109) (by decide +kernel) rfl⟩
def M_X11_layMore : zM := (⟨RX11, "layMore", "(I)V"⟩, prog_13_method_86_code, 3, none, [(0, .aload_n 0, 1), (1, .aload_n 0, 1), (2, .getfield 32, 3), (5, .iload_n 1, 1), (6, .aload_n 0, 1), (7, .getfield 32, 3), (10, .bipush 48, 2), (12, .iaload, 1), (13, .iconst 0, 1), (14, .invokevirtual 301, 3), (17, .iconst 0, 1), (18, .istore_n 2, 1), (19, .iload_n 2, 1), (20, .aload_n 0, 1), (21, .getfield 358, 3), (24, .if_icmp .ge 29, 3), (27, .aload_n 0, 1), (28, .aload_n 0, 1), (29, .getfield 50, 3), (32, .iload_n 2, 1), (33, .iaload, 1), (34, .aload_n 0, 1), (35, .getfield 53, 3), (38, .iload_n 2, 1), (39, .iaload, 1), (40, .bipush 8, 2), (42, .iload_n 2, 1), (43, .iadd, 1), (44, .invokevirtual 288, 3), (47, .iinc 2 1, 3), (50, .goto (-31), 3), (53, .return_, 1)])
theorem T_X11_layMore : zT M_X11_layMore := zT_of (by decide +kernel)
theorem F_X11_layMore : zMV M_X11_layMore 1 := ⟨⟨zTT_in (i := 1773) (by decide +kernel) rfl, zTT_in (i := 147) (by decide +kernel) rfl, ⟨by decide, by decide, by decide +kernel⟩, by decide⟩, zTT_in (i := 1772) (by decide +kernel) rfl, zTT_in (i := 110) (by decide +kernel) rfl⟩
def M_X11_doesHold : zM := (⟨RX11, "doesHold", "(II)Z"⟩, prog_13_method_87_code, 4, (some .boolean), [(0, .aload_n 0, 1), (1, .iconst 0, 1), (2, .putfield 358, 3), (5, .aload_n 0, 1), (6, .iload_n 2, 1), (7, .invokevirtual 364, 3), (10, .ifCond .ne 5, 3), (13, .iconst 0, 1), (14, .ireturn, 1), (15, .aload_n 0, 1), (16, .iload_n 2, 1), (17, .iconst 1, 1), (18, .invokevirtual 367, 3), (21, .aload_n 0, 1), (22, .iload_n 1, 1), (23, .invokevirtual 370, 3), (26, .aload_n 0, 1), (27, .invokevirtual 298, 3), (30, .aload_n 0, 1), (31, .getfield 281, 3), (34, .iconst 1, 1), (35, .isub, 1), (36, .if_icmp .eq 5, 3), (39, .iconst 0, 1), (40, .ireturn, 1), (41, .iconst 0, 1), (42, .istore_n 3, 1), (43, .iload_n 3, 1), (44, .aload_n 0, 1), (45, .getfield 20, 3), (48, .iconst 1, 1), (49, .iaload, 1), (50, .if_icmp .ge 33, 3), (53, .aload_n 0, 1), (54, .iload_n 3, 1), (55, .invokevirtual 364, 3), (58, .ifCond .eq 19, 3), (61, .iload_n 3, 1), (62, .iload_n 2, 1), (63, .if_icmp .eq 12, 3), (66, .aload_n 0, 1), (67, .iload_n 3, 1), (68, .iload_n 2, 1), (69, .invokevirtual 292, 3), (72, .ifCond .eq 5, 3), (75, .iconst 0, 1), (76, .ireturn, 1), (77, .iinc 3 1, 3), (80, .goto (-37), 3), (83, .iconst 1, 1), (84, .ireturn, 1)])
theorem T_X11_doesHold : zT M_X11_doesHold := zT_of (by decide +kernel)
theorem F_X11_doesHold : zMV M_X11_doesHold 2 := ⟨⟨zTT_in (i := 1757) (by decide +kernel) rfl, zTT_in (i := 147) (by decide +kernel) rfl, ⟨by decide, by decide, by decide +kernel⟩, by decide⟩, zTT_in (i := 1756) (by decide +kernel) rfl, zTT_in (i := 106) (by decide +kernel) rfl⟩
def M_X11_holds : zM := (⟨RX11, "holds", "(IZ)I"⟩, prog_13_method_88_code, 5, (some .int), [(0, .aload_n 0, 1), (1, .invokevirtual 178, 3), (4, .aload_n 0, 1), (5, .iload_n 1, 1), (6, .invokevirtual 336, 3), (9, .ifCond .ne 9, 3), (12, .aload_n 0, 1), (13, .iconst 1, 1), (14, .invokevirtual 181, 3), (17, .ireturn, 1), (18, .iconst 0, 1), (19, .istore_n 3, 1), (20, .iconst 0, 1), (21, .istore 4, 2), (23, .iload 4, 2), (25, .aload_n 0, 1), (26, .getfield 20, 3), (29, .iconst 1, 1), (30, .iaload, 1), (31, .if_icmp .ge 30, 3), (34, .iload_n 3, 1), (35, .aload_n 0, 1), (36, .iload_n 1, 1), (37, .iload 4, 2), (39, .invokevirtual 373, 3), (42, .ifCond .eq 10, 3), (45, .iconst 1, 1), (46, .iload 4, 2), (48, .ishl, 1), (49, .goto 4, 3), (52, .iconst 0, 1), (53, .ior, 1), (54, .istore_n 3, 1), (55, .iinc 4 1, 3), (58, .goto (-35), 3), (61, .iload_n 3, 1), (62, .ireturn, 1)])
theorem T_X11_holds : zT M_X11_holds := zT_of (by decide +kernel)
theorem F_X11_holds : zMV M_X11_holds 2 := ⟨⟨zTT_in (i := 1753) (by decide +kernel) rfl, zTT_in (i := 147) (by decide +kernel) rfl, ⟨by decide, by decide, by decide +kernel⟩, by decide⟩, zTT_in (i := 1751) (by decide +kernel) rfl, zTT_in (i := 1752) (by decide +kernel) rfl⟩
def M_X11_doneIf : zM := (⟨RX11, "doneIf", "(IIZ)I"⟩, prog_13_method_89_code, 4, (some .int), [(0, .aload_n 0, 1), (1, .invokevirtual 178, 3), (4, .aload_n 0, 1), (5, .iload_n 1, 1), (6, .invokevirtual 336, 3), (9, .ifCond .eq 11, 3), (12, .aload_n 0, 1), (13, .iload_n 2, 1), (14, .invokevirtual 312, 3), (17, .ifCond .ne 9, 3), (20, .aload_n 0, 1), (21, .iconst 1, 1), (22, .invokevirtual 181, 3), (25, .ireturn, 1), (26, .aload_n 0, 1), (27, .getfield 32, 3), (30, .bipush 49, 2), (32, .iaload, 1), (33, .iload_n 2, 1), (34, .invokestatic 277, 3), (37, .ifCond .eq 9, 3), (40, .aload_n 0, 1), (41, .iconst 5, 1), (42, .invokevirtual 181, 3), (45, .ireturn, 1), (46, .aload_n 0, 1), (47, .iconst 0, 1), (48, .putfield 358, 3), (51, .aload_n 0, 1), (52, .iload_n 2, 1), (53, .invokevirtual 364, 3), (56, .ifCond .ne 9, 3), (59, .aload_n 0, 1), (60, .iconst 3, 1), (61, .invokevirtual 181, 3), (64, .ireturn, 1), (65, .aload_n 0, 1), (66, .iload_n 2, 1), (67, .iload_n 3, 1), (68, .ifCond .eq 7, 3), (71, .iconst 1, 1), (72, .goto 4, 3), (75, .iconst 0, 1), (76, .invokevirtual 367, 3), (79, .aload_n 0, 1), (80, .iload_n 1, 1), (81, .invokevirtual 370, 3), (84, .aload_n 0, 1), (85, .invokevirtual 305, 3), (88, .ireturn, 1)])
theorem T_X11_doneIf : zT M_X11_doneIf := zT_of (by decide +kernel)
theorem F_X11_doneIf : zMV M_X11_doneIf 3 := ⟨⟨zTT_in (i := 1777) (by decide +kernel) rfl, zTT_in (i := 147) (by decide +kernel) rfl, ⟨by decide, by decide, by decide +kernel⟩, by decide⟩, zTT_in (i := 1775) (by decide +kernel) rfl, zTT_in (i := 1776) (by decide +kernel) rfl⟩
def M_X11_doesWin : zM := (⟨RX11, "doesWin", "(III)Z"⟩, prog_13_method_90_code, 7, (some .boolean), [(0, .iload_n 2, 1), (1, .iload_n 3, 1), (2, .if_icmp .ne 22, 3), (5, .aload_n 0, 1), (6, .iload_n 1, 1), (7, .invokevirtual 370, 3), (10, .aload_n 0, 1), (11, .invokevirtual 305, 3), (14, .iconst 1, 1), (15, .if_icmp .ne 7, 3), (18, .iconst 1, 1), (19, .goto 4, 3), (22, .iconst 0, 1), (23, .ireturn, 1), (24, .iload_n 2, 1), (25, .iconst 2, 1), (26, .irem, 1), (27, .ifCond .ne 7, 3), (30, .iconst 1, 1), (31, .goto 4, 3), (34, .iconst 0, 1), (35, .istore 4, 2), (37, .aload_n 0, 1), (38, .iload_n 1, 1), (39, .iload_n 2, 1), (40, .iconst 1, 1), (41, .iadd, 1), (42, .iload_n 3, 1), (43, .invokevirtual 376, 3), (46, .iload 4, 2), (48, .if_icmp .ne 6, 3), (51, .iload 4, 2), (53, .ireturn, 1), (54, .iconst 0, 1), (55, .istore 5, 2), (57, .iload 5, 2), (59, .aload_n 0, 1), (60, .getfield 20, 3), (63, .iconst 1, 1), (64, .iaload, 1), (65, .if_icmp .ge 81, 3), (68, .aload_n 0, 1), (69, .iload 5, 2), (71, .invokevirtual 364, 3), (74, .ifCond .ne 6, 3), (77, .goto 63, 3), (80, .aload_n 0, 1), (81, .iload 5, 2), (83, .iload 4, 2), (85, .ifCond .eq 7, 3), (88, .iconst 1, 1), (89, .goto 4, 3), (92, .iconst 0, 1), (93, .invokevirtual 367, 3), (96, .aload_n 0, 1), (97, .iload_n 1, 1), (98, .iload_n 2, 1), (99, .iconst 1, 1), (100, .iadd, 1), (101, .iload_n 3, 1), (102, .invokevirtual 376, 3), (105, .istore 6, 2), (107, .aload_n 0, 1), (108, .dup, 1), (109, .getfield 358, 3), (112, .iconst 1, 1), (113, .isub, 1), (114, .putfield 358, 3), (117, .iload 6, 2), (119, .iload 4, 2), (121, .if_icmp .eq 6, 3), (124, .goto 16, 3), (127, .iload_n 2, 1), (128, .ifCond .ne 9, 3), (131, .aload_n 0, 1), (132, .iload 5, 2), (134, .putfield 379, 3), (137, .iload 4, 2), (139, .ireturn, 1), (140, .iinc 5 1, 3), (143, .goto (-86), 3), (146, .iload 4, 2), (148, .ifCond .ne 7, 3), (151, .iconst 1, 1), (152, .goto 4, 3), (155, .iconst 0, 1), (156, .ireturn, 1)])
theorem T_X11_doesWin : zT M_X11_doesWin := zT_of (by decide +kernel)
theorem F_X11_doesWin : zMV M_X11_doesWin 3 := ⟨⟨zTT_in (i := 1789) (by decide +kernel) rfl, zTT_in (i := 147) (by decide +kernel) rfl, ⟨by decide, by decide, by decide +kernel⟩, by decide⟩, zTT_in (i := 1788) (by decide +kernel) rfl, zTT_in (i := 112) (by decide +kernel) rfl⟩
def M_X11_playOf : zM := (⟨RX11, "playOf", "(II)Z"⟩, prog_13_method_91_code, 3, (some .boolean), [(0, .aload_n 0, 1), (1, .bipush (-2), 2), (3, .putfield 379, 3), (6, .aload_n 0, 1), (7, .iconst 0, 1), (8, .putfield 358, 3), (11, .aload_n 0, 1), (12, .iload_n 1, 1), (13, .iconst 0, 1), (14, .iload_n 2, 1), (15, .invokevirtual 376, 3), (18, .ireturn, 1)])
theorem T_X11_playOf : zT M_X11_playOf := zT_of (by decide +kernel)
theorem F_X11_playOf : zMV M_X11_playOf 2 := ⟨⟨zTT_in (i := 1785) (by decide +kernel) rfl, zTT_in (i := 147) (by decide +kernel) rfl, ⟨by decide, by decide, by decide +kernel⟩, by decide⟩, zTT_in (i := 1784) (by decide +kernel) rfl, zTT_in (i := 111) (by decide +kernel) rfl⟩
def M_X11_wins : zM := (⟨RX11, "wins", "(II)I"⟩, prog_13_method_92_code, 4, (some .int), [(0, .aload_n 0, 1), (1, .invokevirtual 178, 3), (4, .aload_n 0, 1), (5, .aload_n 0, 1), (6, .iload_n 1, 1), (7, .invokevirtual 336, 3), (10, .iload_n 2, 1), (11, .iconst 0, 1), (12, .iconst 4, 1), (13, .invokestatic 157, 3), (16, .invokevirtual 348, 3), (19, .istore_n 3, 1), (20, .iload_n 3, 1), (21, .ifCond .eq 9, 3), (24, .aload_n 0, 1), (25, .iload_n 3, 1), (26, .invokevirtual 181, 3), (29, .ireturn, 1), (30, .aload_n 0, 1), (31, .iload_n 1, 1), (32, .iload_n 2, 1), (33, .invokevirtual 382, 3), (36, .ifCond .eq 7, 3), (39, .iconst 1, 1), (40, .goto 4, 3), (43, .iconst 0, 1), (44, .ireturn, 1)])
theorem T_X11_wins : zT M_X11_wins := zT_of (by decide +kernel)
theorem F_X11_wins : zMV M_X11_wins 2 := ⟨⟨zTT_in (i := 1781) (by decide +kernel) rfl, zTT_in (i := 147) (by decide +kernel) rfl, ⟨by decide, by decide, by decide +kernel⟩, by decide⟩, zTT_in (i := 1779) (by decide +kernel) rfl, zTT_in (i := 1780) (by decide +kernel) rfl⟩
def M_X11_winsBy : zM := (⟨RX11, "winsBy", "(II)I"⟩, prog_13_method_93_code, 4, (some .int), [(0, .aload_n 0, 1), (1, .invokevirtual 178, 3), (4, .aload_n 0, 1), (5, .aload_n 0, 1), (6, .iload_n 1, 1), (7, .invokevirtual 336, 3), (10, .iload_n 2, 1), (11, .iconst 1, 1), (12, .iconst 4, 1), (13, .invokestatic 157, 3), (16, .invokevirtual 348, 3), (19, .istore_n 3, 1), (20, .iload_n 3, 1), (21, .ifCond .eq 9, 3), (24, .aload_n 0, 1), (25, .iload_n 3, 1), (26, .invokevirtual 181, 3), (29, .ireturn, 1), (30, .aload_n 0, 1), (31, .iload_n 1, 1), (32, .iload_n 2, 1), (33, .invokevirtual 382, 3), (36, .ifCond .eq 10, 3), (39, .aload_n 0, 1), (40, .getfield 379, 3), (43, .goto 5, 3), (46, .bipush (-2), 2), (48, .ireturn, 1)])
theorem T_X11_winsBy : zT M_X11_winsBy := zT_of (by decide +kernel)
theorem F_X11_winsBy : zMV M_X11_winsBy 2 := ⟨⟨zTT_in (i := 1793) (by decide +kernel) rfl, zTT_in (i := 147) (by decide +kernel) rfl, ⟨by decide, by decide, by decide +kernel⟩, by decide⟩, zTT_in (i := 1791) (by decide +kernel) rfl, zTT_in (i := 1792) (by decide +kernel) rfl⟩
def M_X11_outranks : zM := (⟨RX11, "outranks", "(II)I"⟩, prog_13_method_94_code, 3, (some .int), [(0, .aload_n 0, 1), (1, .invokevirtual 178, 3), (4, .aload_n 0, 1), (5, .iload_n 1, 1), (6, .invokevirtual 312, 3), (9, .ifCond .eq 16, 3), (12, .aload_n 0, 1), (13, .iload_n 2, 1), (14, .invokevirtual 312, 3), (17, .ifCond .eq 8, 3), (20, .iload_n 1, 1), (21, .iload_n 2, 1), (22, .if_icmp .ne 9, 3), (25, .aload_n 0, 1), (26, .iconst 1, 1), (27, .invokevirtual 181, 3), (30, .ireturn, 1), (31, .aload_n 0, 1), (32, .iload_n 1, 1), (33, .iload_n 2, 1), (34, .invokevirtual 292, 3), (37, .ifCond .eq 7, 3), (40, .iconst 1, 1), (41, .goto 4, 3), (44, .iconst 0, 1), (45, .ireturn, 1)])
theorem T_X11_outranks : zT M_X11_outranks := zT_of (by decide +kernel)
theorem F_X11_outranks : zMV M_X11_outranks 2 := ⟨⟨zTT_in (i := 1797) (by decide +kernel) rfl, zTT_in (i := 147) (by decide +kernel) rfl, ⟨by decide, by decide, by decide +kernel⟩, by decide⟩, zTT_in (i := 1795) (by decide +kernel) rfl, zTT_in (i := 1796) (by decide +kernel) rfl⟩
def M_X11_tryRing : zM := (⟨RX11, "tryRing", "(II)V"⟩, prog_13_method_95_code, 4, none, [(0, .iload_n 1, 1), (1, .aload_n 0, 1), (2, .getfield 385, 3), (5, .if_icmp .lt 4, 3), (8, .return_, 1), (9, .iload_n 1, 1), (10, .iconst 2, 1), (11, .if_icmp .le 45, 3), (14, .aload_n 0, 1), (15, .aload_n 0, 1), (16, .getfield 56, 3), (19, .iload_n 1, 1), (20, .iconst 1, 1), (21, .isub, 1), (22, .iaload, 1), (23, .aload_n 0, 1), (24, .getfield 56, 3), (27, .iconst 0, 1), (28, .iaload, 1), (29, .invokevirtual 292, 3), (32, .ifCond .eq 24, 3), (35, .aload_n 0, 1), (36, .iload_n 1, 1), (37, .putfield 385, 3), (40, .aload_n 0, 1), (41, .getfield 56, 3), (44, .iconst 0, 1), (45, .aload_n 0, 1), (46, .getfield 59, 3), (49, .iconst 0, 1), (50, .bipush 6, 2), (52, .invokestatic 187, 3), (55, .return_, 1), (56, .iconst 0, 1), (57, .istore_n 3, 1), (58, .iload_n 3, 1), (59, .aload_n 0, 1), (60, .getfield 20, 3), (63, .iconst 1, 1), (64, .iaload, 1), (65, .if_icmp .ge 55, 3), (68, .iload_n 2, 1), (69, .iload_n 3, 1), (70, .invokestatic 277, 3), (73, .ifCond .ne 41, 3), (76, .aload_n 0, 1), (77, .aload_n 0, 1), (78, .getfield 56, 3), (81, .iload_n 1, 1), (82, .iconst 1, 1), (83, .isub, 1), (84, .iaload, 1), (85, .iload_n 3, 1), (86, .invokevirtual 292, 3), (89, .ifCond .ne 6, 3), (92, .goto 22, 3), (95, .aload_n 0, 1), (96, .getfield 56, 3), (99, .iload_n 1, 1), (100, .iload_n 3, 1), (101, .iastore, 1), (102, .aload_n 0, 1), (103, .iload_n 1, 1), (104, .iconst 1, 1), (105, .iadd, 1), (106, .iload_n 2, 1), (107, .iconst 1, 1), (108, .iload_n 3, 1), (109, .ishl, 1), (110, .ior, 1), (111, .invokevirtual 388, 3), (114, .iinc 3 1, 3), (117, .goto (-59), 3), (120, .return_, 1)])
theorem T_X11_tryRing : zT M_X11_tryRing := zT_of (by decide +kernel)
theorem F_X11_tryRing : zMV M_X11_tryRing 2 := ⟨⟨zTT_in (i := 1810) (by decide +kernel) rfl, zTT_in (i := 147) (by decide +kernel) rfl, ⟨by decide, by decide, by decide +kernel⟩, by decide⟩, zTT_in (i := 1809) (by decide +kernel) rfl, zTT_in (i := 114) (by decide +kernel) rfl⟩
def M_X11_seekRing : zM := (⟨RX11, "seekRing", "(I)Z"⟩, prog_13_method_96_code, 2, (some .boolean), [(0, .aload_n 0, 1), (1, .ldc_w 391, 3), (4, .putfield 385, 3), (7, .aload_n 0, 1), (8, .getfield 56, 3), (11, .iconst 0, 1), (12, .iload_n 1, 1), (13, .iastore, 1), (14, .aload_n 0, 1), (15, .iconst 1, 1), (16, .iconst 1, 1), (17, .iload_n 1, 1), (18, .ishl, 1), (19, .invokevirtual 388, 3), (22, .aload_n 0, 1), (23, .getfield 385, 3), (26, .ldc_w 391, 3), (29, .if_icmp .ge 7, 3), (32, .iconst 1, 1), (33, .goto 4, 3), (36, .iconst 0, 1), (37, .ireturn, 1)])
theorem T_X11_seekRing : zT M_X11_seekRing := zT_of (by decide +kernel)
theorem F_X11_seekRing : zMV M_X11_seekRing 1 := ⟨⟨zTT_in (i := 1805) (by decide +kernel) rfl, zTT_in (i := 147) (by decide +kernel) rfl, ⟨by decide, by decide, by decide +kernel⟩, by decide⟩, zTT_in (i := 1804) (by decide +kernel) rfl, zTT_in (i := 113) (by decide +kernel) rfl⟩
def M_X11_ring : zM := (⟨RX11, "ring", "(I)I"⟩, prog_13_method_97_code, 2, (some .int), [(0, .aload_n 0, 1), (1, .invokevirtual 178, 3), (4, .aload_n 0, 1), (5, .iload_n 1, 1), (6, .invokevirtual 312, 3), (9, .ifCond .ne 9, 3), (12, .aload_n 0, 1), (13, .iconst 1, 1), (14, .invokevirtual 181, 3), (17, .ireturn, 1), (18, .aload_n 0, 1), (19, .iload_n 1, 1), (20, .invokevirtual 392, 3), (23, .ifCond .eq 10, 3), (26, .aload_n 0, 1), (27, .getfield 385, 3), (30, .goto 5, 3), (33, .bipush (-2), 2), (35, .ireturn, 1)])
theorem T_X11_ring : zT M_X11_ring := zT_of (by decide +kernel)
theorem F_X11_ring : zMV M_X11_ring 1 := ⟨⟨zTT_in (i := 1801) (by decide +kernel) rfl, zTT_in (i := 147) (by decide +kernel) rfl, ⟨by decide, by decide, by decide +kernel⟩, by decide⟩, zTT_in (i := 1799) (by decide +kernel) rfl, zTT_in (i := 1800) (by decide +kernel) rfl⟩
def M_X11_ringAt : zM := (⟨RX11, "ringAt", "(II)I"⟩, prog_13_method_98_code, 3, (some .int), [(0, .aload_n 0, 1), (1, .invokevirtual 178, 3), (4, .aload_n 0, 1), (5, .iload_n 1, 1), (6, .invokevirtual 312, 3), (9, .ifCond .eq 25, 3), (12, .aload_n 0, 1), (13, .iload_n 1, 1), (14, .invokevirtual 392, 3), (17, .ifCond .eq 17, 3), (20, .iload_n 2, 1), (21, .iconst 0, 1), (22, .aload_n 0, 1), (23, .getfield 385, 3), (26, .iconst 1, 1), (27, .isub, 1), (28, .invokestatic 157, 3), (31, .ifCond .ne 9, 3), (34, .aload_n 0, 1), (35, .iconst 1, 1), (36, .invokevirtual 181, 3), (39, .ireturn, 1), (40, .aload_n 0, 1), (41, .getfield 59, 3), (44, .iload_n 2, 1), (45, .iaload, 1), (46, .ireturn, 1)])
theorem T_X11_ringAt : zT M_X11_ringAt := zT_of (by decide +kernel)
theorem F_X11_ringAt : zMV M_X11_ringAt 2 := ⟨⟨zTT_in (i := 1814) (by decide +kernel) rfl, zTT_in (i := 147) (by decide +kernel) rfl, ⟨by decide, by decide, by decide +kernel⟩, by decide⟩, zTT_in (i := 1812) (by decide +kernel) rfl, zTT_in (i := 1813) (by decide +kernel) rfl⟩
def M_X11_hasRing : zM := (⟨RX11, "hasRing", "()Z"⟩, prog_13_method_99_code, 2, (some .boolean), [(0, .iconst 0, 1), (1, .istore_n 1, 1), (2, .iload_n 1, 1), (3, .aload_n 0, 1), (4, .getfield 20, 3), (7, .iconst 1, 1), (8, .iaload, 1), (9, .if_icmp .ge 19, 3), (12, .aload_n 0, 1), (13, .iload_n 1, 1), (14, .invokevirtual 392, 3), (17, .ifCond .eq 5, 3), (20, .iconst 1, 1), (21, .ireturn, 1), (22, .iinc 1 1, 3), (25, .goto (-23), 3), (28, .iconst 0, 1), (29, .ireturn, 1)])
theorem T_X11_hasRing : zT M_X11_hasRing := zT_of (by decide +kernel)
theorem F_X11_hasRing : zMV M_X11_hasRing 0 := ⟨⟨zTT_in (i := 1822) (by decide +kernel) rfl, zTT_in (i := 147) (by decide +kernel) rfl, ⟨by decide, by decide, by decide +kernel⟩, by decide⟩, zTT_in (i := 1821) (by decide +kernel) rfl, zTT_in (i := 115) (by decide +kernel) rfl⟩
def M_X11_free : zM := (⟨RX11, "free", "()I"⟩, prog_13_method_100_code, 3, (some .int), [(0, .aload_n 0, 1), (1, .invokevirtual 178, 3), (4, .aload_n 0, 1), (5, .getfield 191, 3), (8, .ifCond .ne 9, 3), (11, .aload_n 0, 1), (12, .iconst 1, 1), (13, .invokevirtual 181, 3), (16, .ireturn, 1), (17, .bipush (-2), 2), (19, .istore_n 1, 1), (20, .iconst 0, 1), (21, .istore_n 2, 1), (22, .iload_n 2, 1), (23, .iconst 1, 1), (24, .aload_n 0, 1), (25, .getfield 20, 3), (28, .iconst 2, 1), (29, .iaload, 1), (30, .ishl, 1), (31, .if_icmp .ge 41, 3), (34, .iload_n 1, 1), (35, .ifCond .lt 17, 3), (38, .iload_n 2, 1), (39, .invokestatic 342, 3), (42, .iload_n 1, 1), (43, .invokestatic 342, 3), (46, .if_icmp .lt 6, 3), (49, .goto 17, 3), (52, .aload_n 0, 1), (53, .iload_n 2, 1), (54, .putfield 274, 3), (57, .aload_n 0, 1), (58, .invokevirtual 395, 3), (61, .ifCond .ne 5, 3), (64, .iload_n 2, 1), (65, .istore_n 1, 1), (66, .iinc 2 1, 3), (69, .goto (-47), 3), (72, .aload_n 0, 1), (73, .iconst 0, 1), (74, .putfield 274, 3), (77, .iload_n 1, 1), (78, .ireturn, 1)])
theorem T_X11_free : zT M_X11_free := zT_of (by decide +kernel)
theorem F_X11_free : zMV M_X11_free 0 := ⟨⟨zTT_in (i := 1818) (by decide +kernel) rfl, zTT_in (i := 147) (by decide +kernel) rfl, ⟨by decide, by decide, by decide +kernel⟩, by decide⟩, zTT_in (i := 1816) (by decide +kernel) rfl, zTT_in (i := 1817) (by decide +kernel) rfl⟩
def M_X11_top : zM := (⟨RX11, "top", "()I"⟩, prog_13_method_101_code, 3, (some .int), [(0, .aload_n 0, 1), (1, .invokevirtual 178, 3), (4, .aload_n 0, 1), (5, .getfield 191, 3), (8, .ifCond .ne 9, 3), (11, .aload_n 0, 1), (12, .iconst 1, 1), (13, .invokevirtual 181, 3), (16, .ireturn, 1), (17, .iconst 0, 1), (18, .istore_n 1, 1), (19, .iconst 1, 1), (20, .istore_n 2, 1), (21, .iload_n 2, 1), (22, .aload_n 0, 1), (23, .getfield 20, 3), (26, .iconst 1, 1), (27, .iaload, 1), (28, .if_icmp .ge 30, 3), (31, .aload_n 0, 1), (32, .iload_n 2, 1), (33, .invokevirtual 315, 3), (36, .invokestatic 342, 3), (39, .aload_n 0, 1), (40, .iload_n 1, 1), (41, .invokevirtual 315, 3), (44, .invokestatic 342, 3), (47, .if_icmp .le 5, 3), (50, .iload_n 2, 1), (51, .istore_n 1, 1), (52, .iinc 2 1, 3), (55, .goto (-34), 3), (58, .iload_n 1, 1), (59, .ireturn, 1)])
theorem T_X11_top : zT M_X11_top := zT_of (by decide +kernel)
theorem F_X11_top : zMV M_X11_top 0 := ⟨⟨zTT_in (i := 1826) (by decide +kernel) rfl, zTT_in (i := 147) (by decide +kernel) rfl, ⟨by decide, by decide, by decide +kernel⟩, by decide⟩, zTT_in (i := 1824) (by decide +kernel) rfl, zTT_in (i := 1825) (by decide +kernel) rfl⟩
def M_X11_paysOf : zM := (⟨RX11, "paysOf", "(I)I"⟩, prog_13_method_102_code, 4, (some .int), [(0, .iconst 0, 1), (1, .istore_n 2, 1), (2, .iconst 0, 1), (3, .istore_n 3, 1), (4, .iload_n 3, 1), (5, .aload_n 0, 1), (6, .getfield 20, 3), (9, .bipush 8, 2), (11, .iaload, 1), (12, .if_icmp .ge 37, 3), (15, .iload_n 2, 1), (16, .iload_n 1, 1), (17, .iload_n 3, 1), (18, .invokestatic 277, 3), (21, .ifCond .eq 19, 3), (24, .aload_n 0, 1), (25, .getfield 20, 3), (28, .bipush 45, 2), (30, .iconst 4, 1), (31, .iload_n 3, 1), (32, .imul, 1), (33, .iadd, 1), (34, .iconst 3, 1), (35, .iadd, 1), (36, .iaload, 1), (37, .goto 4, 3), (40, .iconst 0, 1), (41, .iadd, 1), (42, .istore_n 2, 1), (43, .iinc 3 1, 3), (46, .goto (-42), 3), (49, .iload_n 2, 1), (50, .ireturn, 1)])
theorem T_X11_paysOf : zT M_X11_paysOf := zT_of (by decide +kernel)
theorem F_X11_paysOf : zMV M_X11_paysOf 1 := ⟨⟨zTT_in (i := 1838) (by decide +kernel) rfl, zTT_in (i := 147) (by decide +kernel) rfl, ⟨by decide, by decide, by decide +kernel⟩, by decide⟩, zTT_in (i := 1837) (by decide +kernel) rfl, zTT_in (i := 117) (by decide +kernel) rfl⟩
def M_X11_canTake : zM := (⟨RX11, "canTake", "(I)Z"⟩, prog_13_method_103_code, 6, (some .boolean), [(0, .iconst 0, 1), (1, .istore_n 2, 1), (2, .iload_n 2, 1), (3, .aload_n 0, 1), (4, .getfield 20, 3), (7, .bipush 8, 2), (9, .iaload, 1), (10, .if_icmp .ge 202, 3), (13, .iconst 0, 1), (14, .istore_n 3, 1), (15, .iconst 0, 1), (16, .istore 4, 2), (18, .iconst 0, 1), (19, .istore 5, 2), (21, .iload 5, 2), (23, .aload_n 0, 1), (24, .getfield 20, 3), (27, .bipush 8, 2), (29, .iaload, 1), (30, .if_icmp .ge 121, 3), (33, .iload_n 1, 1), (34, .iload 5, 2), (36, .invokestatic 277, 3), (39, .ifCond .ne 6, 3), (42, .goto 103, 3), (45, .iload_n 3, 1), (46, .aload_n 0, 1), (47, .getfield 20, 3), (50, .bipush 45, 2), (52, .iconst 4, 1), (53, .iload 5, 2), (55, .imul, 1), (56, .iadd, 1), (57, .iconst 1, 1), (58, .iadd, 1), (59, .iaload, 1), (60, .aload_n 0, 1), (61, .getfield 20, 3), (64, .bipush 45, 2), (66, .iconst 4, 1), (67, .iload_n 2, 1), (68, .imul, 1), (69, .iadd, 1), (70, .iconst 1, 1), (71, .iadd, 1), (72, .iaload, 1), (73, .if_icmp .ne 20, 3), (76, .aload_n 0, 1), (77, .getfield 20, 3), (80, .bipush 45, 2), (82, .iconst 4, 1), (83, .iload 5, 2), (85, .imul, 1), (86, .iadd, 1), (87, .iconst 2, 1), (88, .iadd, 1), (89, .iaload, 1), (90, .goto 4, 3), (93, .iconst 0, 1), (94, .iadd, 1), (95, .istore_n 3, 1), (96, .iload 4, 2), (98, .aload_n 0, 1), (99, .getfield 20, 3), (102, .bipush 45, 2), (104, .iconst 4, 1), (105, .iload 5, 2), (107, .imul, 1), (108, .iadd, 1), (109, .iaload, 1), (110, .aload_n 0, 1), (111, .getfield 20, 3), (114, .bipush 45, 2), (116, .iconst 4, 1), (117, .iload_n 2, 1), (118, .imul, 1), (119, .iadd, 1), (120, .iaload, 1), (121, .if_icmp .ne 20, 3), (124, .aload_n 0, 1), (125, .getfield 20, 3), (128, .bipush 45, 2), (130, .iconst 4, 1), (131, .iload 5, 2), (133, .imul, 1), (134, .iadd, 1), (135, .iconst 3, 1), (136, .iadd, 1), (137, .iaload, 1), (138, .goto 4, 3), (141, .iconst 0, 1), (142, .iadd, 1), (143, .istore 4, 2), (145, .iinc 5 1, 3), (148, .goto (-127), 3), (151, .iload_n 3, 1), (152, .aload_n 0, 1), (153, .aload_n 0, 1), (154, .getfield 20, 3), (157, .aload_n 0, 1), (158, .getfield 32, 3), (161, .aload_n 0, 1), (162, .getfield 20, 3), (165, .bipush 45, 2), (167, .iconst 4, 1), (168, .iload_n 2, 1), (169, .imul, 1), (170, .iadd, 1), (171, .iconst 1, 1), (172, .iadd, 1), (173, .iaload, 1), (174, .invokevirtual 262, 3), (177, .if_icmp .gt 27, 3), (180, .iload 4, 2), (182, .aload_n 0, 1), (183, .getfield 20, 3), (186, .bipush 34, 2), (188, .aload_n 0, 1), (189, .getfield 20, 3), (192, .bipush 45, 2), (194, .iconst 4, 1), (195, .iload_n 2, 1), (196, .imul, 1), (197, .iadd, 1), (198, .iaload, 1), (199, .iadd, 1), (200, .iaload, 1), (201, .if_icmp .le 5, 3), (204, .iconst 0, 1), (205, .ireturn, 1), (206, .iinc 2 1, 3), (209, .goto (-207), 3), (212, .iconst 1, 1), (213, .ireturn, 1)])
theorem T_X11_canTake : zT M_X11_canTake := zT_of (by decide +kernel)
theorem F_X11_canTake : zMV M_X11_canTake 1 := ⟨⟨zTT_in (i := 1842) (by decide +kernel) rfl, zTT_in (i := 147) (by decide +kernel) rfl, ⟨by decide, by decide, by decide +kernel⟩, by decide⟩, zTT_in (i := 1841) (by decide +kernel) rfl, zTT_in (i := 118) (by decide +kernel) rfl⟩
def M_X11_takenOf : zM := (⟨RX11, "takenOf", "(I)I"⟩, prog_13_method_104_code, 4, (some .int), [(0, .iconst 0, 1), (1, .istore_n 2, 1), (2, .iconst 1, 1), (3, .istore_n 3, 1), (4, .iload_n 3, 1), (5, .iconst 1, 1), (6, .aload_n 0, 1), (7, .getfield 20, 3), (10, .bipush 8, 2), (12, .iaload, 1), (13, .ishl, 1), (14, .if_icmp .ge 38, 3), (17, .iload_n 3, 1), (18, .iload_n 1, 1), (19, .iand, 1), (20, .ifCond .ne 26, 3), (23, .aload_n 0, 1), (24, .iload_n 3, 1), (25, .invokevirtual 399, 3), (28, .aload_n 0, 1), (29, .iload_n 2, 1), (30, .invokevirtual 399, 3), (33, .if_icmp .le 13, 3), (36, .aload_n 0, 1), (37, .iload_n 3, 1), (38, .invokevirtual 402, 3), (41, .ifCond .eq 5, 3), (44, .iload_n 3, 1), (45, .istore_n 2, 1), (46, .iinc 3 1, 3), (49, .goto (-45), 3), (52, .iload_n 2, 1), (53, .ireturn, 1)])
theorem T_X11_takenOf : zT M_X11_takenOf := zT_of (by decide +kernel)
theorem F_X11_takenOf : zMV M_X11_takenOf 1 := ⟨⟨zTT_in (i := 1834) (by decide +kernel) rfl, zTT_in (i := 147) (by decide +kernel) rfl, ⟨by decide, by decide, by decide +kernel⟩, by decide⟩, zTT_in (i := 1833) (by decide +kernel) rfl, zTT_in (i := 116) (by decide +kernel) rfl⟩
def M_X11_taken : zM := (⟨RX11, "taken", "()I"⟩, prog_13_method_105_code, 1, (some .int), [(0, .aload_n 0, 1), (1, .invokevirtual 178, 3), (4, .aload_n 0, 1), (5, .getfield 191, 3), (8, .ifCond .eq 11, 3), (11, .aload_n 0, 1), (12, .iconst 0, 1), (13, .invokevirtual 405, 3), (16, .goto 8, 3), (19, .aload_n 0, 1), (20, .iconst 1, 1), (21, .invokevirtual 181, 3), (24, .ireturn, 1)])
theorem T_X11_taken : zT M_X11_taken := zT_of (by decide +kernel)
theorem F_X11_taken : zMV M_X11_taken 0 := ⟨⟨zTT_in (i := 1830) (by decide +kernel) rfl, zTT_in (i := 147) (by decide +kernel) rfl, ⟨by decide, by decide, by decide +kernel⟩, by decide⟩, zTT_in (i := 1828) (by decide +kernel) rfl, zTT_in (i := 1829) (by decide +kernel) rfl⟩
def M_X11_paid : zM := (⟨RX11, "paid", "()I"⟩, prog_13_method_106_code, 1, (some .int), [(0, .aload_n 0, 1), (1, .invokevirtual 178, 3), (4, .aload_n 0, 1), (5, .getfield 191, 3), (8, .ifCond .eq 15, 3), (11, .aload_n 0, 1), (12, .aload_n 0, 1), (13, .iconst 0, 1), (14, .invokevirtual 405, 3), (17, .invokevirtual 399, 3), (20, .goto 8, 3), (23, .aload_n 0, 1), (24, .iconst 1, 1), (25, .invokevirtual 181, 3), (28, .ireturn, 1)])
theorem T_X11_paid : zT M_X11_paid := zT_of (by decide +kernel)
theorem F_X11_paid : zMV M_X11_paid 0 := ⟨⟨zTT_in (i := 1846) (by decide +kernel) rfl, zTT_in (i := 147) (by decide +kernel) rfl, ⟨by decide, by decide, by decide +kernel⟩, by decide⟩, zTT_in (i := 1844) (by decide +kernel) rfl, zTT_in (i := 1845) (by decide +kernel) rfl⟩
def M_X11_worthOf : zM := (⟨RX11, "worthOf", "(I)I"⟩, prog_13_method_107_code, 2, (some .int), [(0, .aload_n 0, 1), (1, .invokevirtual 178, 3), (4, .aload_n 0, 1), (5, .getfield 191, 3), (8, .ifCond .eq 20, 3), (11, .iload_n 1, 1), (12, .iconst 0, 1), (13, .aload_n 0, 1), (14, .getfield 20, 3), (17, .bipush 8, 2), (19, .iaload, 1), (20, .iconst 1, 1), (21, .isub, 1), (22, .invokestatic 157, 3), (25, .ifCond .ne 9, 3), (28, .aload_n 0, 1), (29, .iconst 1, 1), (30, .invokevirtual 181, 3), (33, .ireturn, 1), (34, .aload_n 0, 1), (35, .aload_n 0, 1), (36, .iconst 0, 1), (37, .invokevirtual 405, 3), (40, .invokevirtual 399, 3), (43, .aload_n 0, 1), (44, .aload_n 0, 1), (45, .iconst 1, 1), (46, .iload_n 1, 1), (47, .ishl, 1), (48, .invokevirtual 405, 3), (51, .invokevirtual 399, 3), (54, .isub, 1), (55, .ireturn, 1)])
theorem T_X11_worthOf : zT M_X11_worthOf := zT_of (by decide +kernel)
theorem F_X11_worthOf : zMV M_X11_worthOf 1 := ⟨⟨zTT_in (i := 1850) (by decide +kernel) rfl, zTT_in (i := 147) (by decide +kernel) rfl, ⟨by decide, by decide, by decide +kernel⟩, by decide⟩, zTT_in (i := 1848) (by decide +kernel) rfl, zTT_in (i := 1849) (by decide +kernel) rfl⟩
def M_X11_choicesOf : zM := (⟨RX11, "choicesOf", "()I"⟩, prog_13_method_108_code, 1, (some .int), [(0, .iconst 2, 1), (1, .aload_n 0, 1), (2, .getfield 20, 3), (5, .iconst 4, 1), (6, .iaload, 1), (7, .imul, 1), (8, .iconst 1, 1), (9, .iadd, 1), (10, .ireturn, 1)])
theorem T_X11_choicesOf : zT M_X11_choicesOf := zT_of (by decide +kernel)
theorem F_X11_choicesOf : zMV M_X11_choicesOf 0 := ⟨⟨zTT_in (i := 1866) (by decide +kernel) rfl, zTT_in (i := 147) (by decide +kernel) rfl, ⟨by decide, by decide, by decide +kernel⟩, by decide⟩, zTT_in (i := 1865) (by decide +kernel) rfl, zTT_in (i := 121) (by decide +kernel) rfl⟩
def M_X11_fillings : zM := (⟨RX11, "fillings", "()I"⟩, prog_13_method_109_code, 3, (some .int), [(0, .iconst 1, 1), (1, .istore_n 1, 1), (2, .iconst 0, 1), (3, .istore_n 2, 1), (4, .iload_n 2, 1), (5, .aload_n 0, 1), (6, .getfield 20, 3), (9, .bipush 6, 2), (11, .iaload, 1), (12, .if_icmp .ge 16, 3), (15, .iload_n 1, 1), (16, .aload_n 0, 1), (17, .invokevirtual 408, 3), (20, .imul, 1), (21, .istore_n 1, 1), (22, .iinc 2 1, 3), (25, .goto (-21), 3), (28, .iload_n 1, 1), (29, .ireturn, 1)])
theorem T_X11_fillings : zT M_X11_fillings := zT_of (by decide +kernel)
theorem F_X11_fillings : zMV M_X11_fillings 0 := ⟨⟨zTT_in (i := 1862) (by decide +kernel) rfl, zTT_in (i := 147) (by decide +kernel) rfl, ⟨by decide, by decide, by decide +kernel⟩, by decide⟩, zTT_in (i := 1861) (by decide +kernel) rfl, zTT_in (i := 120) (by decide +kernel) rfl⟩
def M_X11_choiceOf : zM := (⟨RX11, "choiceOf", "(II)I"⟩, prog_13_method_110_code, 5, (some .int), [(0, .iload_n 1, 1), (1, .istore_n 3, 1), (2, .aload_n 0, 1), (3, .getfield 20, 3), (6, .bipush 6, 2), (8, .iaload, 1), (9, .iconst 1, 1), (10, .isub, 1), (11, .istore 4, 2), (13, .iload 4, 2), (15, .iload_n 2, 1), (16, .if_icmp .le 16, 3), (19, .iload_n 3, 1), (20, .aload_n 0, 1), (21, .invokevirtual 408, 3), (24, .idiv, 1), (25, .istore_n 3, 1), (26, .iinc 4 (-1), 3), (29, .goto (-16), 3), (32, .iload_n 3, 1), (33, .aload_n 0, 1), (34, .invokevirtual 408, 3), (37, .irem, 1), (38, .ireturn, 1)])
theorem T_X11_choiceOf : zT M_X11_choiceOf := zT_of (by decide +kernel)
theorem F_X11_choiceOf : zMV M_X11_choiceOf 2 := ⟨⟨zTT_in (i := 1878) (by decide +kernel) rfl, zTT_in (i := 147) (by decide +kernel) rfl, ⟨by decide, by decide, by decide +kernel⟩, by decide⟩, zTT_in (i := 1877) (by decide +kernel) rfl, zTT_in (i := 124) (by decide +kernel) rfl⟩
def M_X11_doneFilled : zM := (⟨RX11, "doneFilled", "(II)I"⟩, prog_13_method_111_code, 5, (some .int), [(0, .aload_n 0, 1), (1, .aload_n 0, 1), (2, .getfield 26, 3), (5, .iload_n 1, 1), (6, .aload_n 0, 1), (7, .getfield 26, 3), (10, .bipush 48, 2), (12, .iaload, 1), (13, .iconst 0, 1), (14, .invokevirtual 301, 3), (17, .iconst 0, 1), (18, .istore_n 3, 1), (19, .iload_n 3, 1), (20, .aload_n 0, 1), (21, .getfield 20, 3), (24, .bipush 6, 2), (26, .iaload, 1), (27, .if_icmp .ge 63, 3), (30, .iload_n 2, 1), (31, .ifCond .lt 59, 3), (34, .aload_n 0, 1), (35, .iload_n 2, 1), (36, .iload_n 3, 1), (37, .invokevirtual 411, 3), (40, .istore 4, 2), (42, .iload 4, 2), (44, .iconst 2, 1), (45, .idiv, 1), (46, .iload_n 1, 1), (47, .if_icmp .ne 37, 3), (50, .iload 4, 2), (52, .iconst 2, 1), (53, .aload_n 0, 1), (54, .getfield 20, 3), (57, .iconst 4, 1), (58, .iaload, 1), (59, .imul, 1), (60, .if_icmp .ge 24, 3), (63, .aload_n 0, 1), (64, .aload_n 0, 1), (65, .getfield 20, 3), (68, .bipush 38, 2), (70, .iload_n 3, 1), (71, .iadd, 1), (72, .iaload, 1), (73, .iload 4, 2), (75, .iconst 2, 1), (76, .irem, 1), (77, .bipush 8, 2), (79, .iload_n 3, 1), (80, .iadd, 1), (81, .invokevirtual 288, 3), (84, .iinc 3 1, 3), (87, .goto (-68), 3), (90, .aload_n 0, 1), (91, .invokevirtual 305, 3), (94, .ireturn, 1)])
theorem T_X11_doneFilled : zT M_X11_doneFilled := zT_of (by decide +kernel)
theorem F_X11_doneFilled : zMV M_X11_doneFilled 2 := ⟨⟨zTT_in (i := 1874) (by decide +kernel) rfl, zTT_in (i := 147) (by decide +kernel) rfl, ⟨by decide, by decide, by decide +kernel⟩, by decide⟩, zTT_in (i := 1873) (by decide +kernel) rfl, zTT_in (i := 123) (by decide +kernel) rfl⟩
def M_X11_wrongBy : zM := (⟨RX11, "wrongBy", "(I)I"⟩, prog_13_method_112_code, 3, (some .int), [(0, .iconst 0, 1), (1, .istore_n 2, 1), (2, .iload_n 2, 1), (3, .aload_n 0, 1), (4, .getfield 20, 3), (7, .iconst 4, 1), (8, .iaload, 1), (9, .if_icmp .ge 43, 3), (12, .aload_n 0, 1), (13, .getfield 20, 3), (16, .bipush 41, 2), (18, .iload_n 2, 1), (19, .iadd, 1), (20, .iaload, 1), (21, .ifCond .le 25, 3), (24, .aload_n 0, 1), (25, .iload_n 2, 1), (26, .iload_n 1, 1), (27, .invokevirtual 414, 3), (30, .aload_n 0, 1), (31, .getfield 20, 3), (34, .bipush 41, 2), (36, .iload_n 2, 1), (37, .iadd, 1), (38, .iaload, 1), (39, .iconst 3, 1), (40, .isub, 1), (41, .if_icmp .eq 5, 3), (44, .iload_n 2, 1), (45, .ireturn, 1), (46, .iinc 2 1, 3), (49, .goto (-47), 3), (52, .bipush (-2), 2), (54, .ireturn, 1)])
theorem T_X11_wrongBy : zT M_X11_wrongBy := zT_of (by decide +kernel)
theorem F_X11_wrongBy : zMV M_X11_wrongBy 1 := ⟨⟨zTT_in (i := 1870) (by decide +kernel) rfl, zTT_in (i := 147) (by decide +kernel) rfl, ⟨by decide, by decide, by decide +kernel⟩, by decide⟩, zTT_in (i := 1869) (by decide +kernel) rfl, zTT_in (i := 122) (by decide +kernel) rfl⟩
def M_X11_seekFits : zM := (⟨RX11, "seekFits", "(I)I"⟩, prog_13_method_113_code, 5, (some .int), [(0, .iconst (-1), 1), (1, .istore_n 2, 1), (2, .aload_n 0, 1), (3, .iconst 0, 1), (4, .putfield 417, 3), (7, .iconst 0, 1), (8, .istore_n 3, 1), (9, .iload_n 3, 1), (10, .bipush 27, 2), (12, .if_icmp .ge 16, 3), (15, .aload_n 0, 1), (16, .getfield 62, 3), (19, .iload_n 3, 1), (20, .iconst 0, 1), (21, .iastore, 1), (22, .iinc 3 1, 3), (25, .goto (-16), 3), (28, .iconst 0, 1), (29, .istore_n 3, 1), (30, .iload_n 3, 1), (31, .aload_n 0, 1), (32, .invokevirtual 420, 3), (35, .if_icmp .ge 85, 3), (38, .aload_n 0, 1), (39, .iload_n 3, 1), (40, .invokevirtual 423, 3), (43, .bipush (-2), 2), (45, .if_icmp .eq 6, 3), (48, .goto 66, 3), (51, .aload_n 0, 1), (52, .getfield 417, 3), (55, .iload_n 1, 1), (56, .if_icmp .ne 5, 3), (59, .iload_n 3, 1), (60, .istore_n 2, 1), (61, .aload_n 0, 1), (62, .dup, 1), (63, .getfield 417, 3), (66, .iconst 1, 1), (67, .iadd, 1), (68, .putfield 417, 3), (71, .iconst 0, 1), (72, .istore 4, 2), (74, .iload 4, 2), (76, .aload_n 0, 1), (77, .getfield 20, 3), (80, .bipush 6, 2), (82, .iaload, 1), (83, .if_icmp .ge 31, 3), (86, .aload_n 0, 1), (87, .getfield 62, 3), (90, .bipush 9, 2), (92, .iload 4, 2), (94, .imul, 1), (95, .aload_n 0, 1), (96, .iload_n 3, 1), (97, .iload 4, 2), (99, .invokevirtual 411, 3), (102, .iadd, 1), (103, .dup2, 1), (104, .iaload, 1), (105, .iconst 1, 1), (106, .iadd, 1), (107, .iastore, 1), (108, .iinc 4 1, 3), (111, .goto (-37), 3), (114, .iinc 3 1, 3), (117, .goto (-87), 3), (120, .iload_n 2, 1), (121, .ireturn, 1)])
theorem T_X11_seekFits : zT M_X11_seekFits := zT_of (by decide +kernel)
theorem F_X11_seekFits : zMV M_X11_seekFits 1 := ⟨⟨zTT_in (i := 1858) (by decide +kernel) rfl, zTT_in (i := 147) (by decide +kernel) rfl, ⟨by decide, by decide, by decide +kernel⟩, by decide⟩, zTT_in (i := 1857) (by decide +kernel) rfl, zTT_in (i := 119) (by decide +kernel) rfl⟩
def M_X11_isHidden : zM := (⟨RX11, "isHidden", "(I)Z"⟩, prog_13_method_114_code, 2, (some .boolean), [(0, .aload_n 0, 1), (1, .getfield 191, 3), (4, .ifCond .eq 24, 3), (7, .iload_n 1, 1), (8, .iconst 0, 1), (9, .aload_n 0, 1), (10, .getfield 20, 3), (13, .bipush 6, 2), (15, .iaload, 1), (16, .iconst 1, 1), (17, .isub, 1), (18, .invokestatic 157, 3), (21, .ifCond .eq 7, 3), (24, .iconst 1, 1), (25, .goto 4, 3), (28, .iconst 0, 1), (29, .ireturn, 1)])
theorem T_X11_isHidden : zT M_X11_isHidden := zT_of (by decide +kernel)
theorem F_X11_isHidden : zMV M_X11_isHidden 1 := ⟨⟨zTT_in (i := 1886) (by decide +kernel) rfl, zTT_in (i := 147) (by decide +kernel) rfl, ⟨by decide, by decide, by decide +kernel⟩, by decide⟩, zTT_in (i := 1885) (by decide +kernel) rfl, zTT_in (i := 125) (by decide +kernel) rfl⟩
def M_X11_fits : zM := (⟨RX11, "fits", "()I"⟩, prog_13_method_115_code, 1, (some .int), [(0, .aload_n 0, 1), (1, .invokevirtual 178, 3), (4, .aload_n 0, 1), (5, .getfield 191, 3), (8, .ifCond .ne 9, 3), (11, .aload_n 0, 1), (12, .iconst 1, 1), (13, .invokevirtual 181, 3), (16, .ireturn, 1), (17, .aload_n 0, 1), (18, .iconst (-1), 1), (19, .invokevirtual 426, 3), (22, .pop, 1), (23, .aload_n 0, 1), (24, .getfield 417, 3), (27, .ireturn, 1)])
theorem T_X11_fits : zT M_X11_fits := zT_of (by decide +kernel)
theorem F_X11_fits : zMV M_X11_fits 0 := ⟨⟨zTT_in (i := 1854) (by decide +kernel) rfl, zTT_in (i := 147) (by decide +kernel) rfl, ⟨by decide, by decide, by decide +kernel⟩, by decide⟩, zTT_in (i := 1852) (by decide +kernel) rfl, zTT_in (i := 1853) (by decide +kernel) rfl⟩
def M_X11_fitAt : zM := (⟨RX11, "fitAt", "(II)I"⟩, prog_13_method_116_code, 4, (some .int), [(0, .aload_n 0, 1), (1, .invokevirtual 178, 3), (4, .aload_n 0, 1), (5, .iload_n 2, 1), (6, .invokevirtual 429, 3), (9, .ifCond .eq 7, 3), (12, .iload_n 1, 1), (13, .ifCond .ge 9, 3), (16, .aload_n 0, 1), (17, .iconst 1, 1), (18, .invokevirtual 181, 3), (21, .ireturn, 1), (22, .aload_n 0, 1), (23, .iload_n 1, 1), (24, .invokevirtual 426, 3), (27, .istore_n 3, 1), (28, .iload_n 3, 1), (29, .ifCond .ge 9, 3), (32, .aload_n 0, 1), (33, .iconst 1, 1), (34, .invokevirtual 181, 3), (37, .ireturn, 1), (38, .aload_n 0, 1), (39, .iload_n 3, 1), (40, .iload_n 2, 1), (41, .invokevirtual 411, 3), (44, .iconst 2, 1), (45, .aload_n 0, 1), (46, .getfield 20, 3), (49, .iconst 4, 1), (50, .iaload, 1), (51, .imul, 1), (52, .if_icmp .ne 8, 3), (55, .bipush (-2), 2), (57, .goto 9, 3), (60, .aload_n 0, 1), (61, .iload_n 3, 1), (62, .iload_n 2, 1), (63, .invokevirtual 411, 3), (66, .ireturn, 1)])
theorem T_X11_fitAt : zT M_X11_fitAt := zT_of (by decide +kernel)
theorem F_X11_fitAt : zMV M_X11_fitAt 2 := ⟨⟨zTT_in (i := 1882) (by decide +kernel) rfl, zTT_in (i := 147) (by decide +kernel) rfl, ⟨by decide, by decide, by decide +kernel⟩, by decide⟩, zTT_in (i := 1880) (by decide +kernel) rfl, zTT_in (i := 1881) (by decide +kernel) rfl⟩
def M_X11_says : zM := (⟨RX11, "says", "(II)I"⟩, prog_13_method_117_code, 3, (some .int), [(0, .aload_n 0, 1), (1, .invokevirtual 178, 3), (4, .aload_n 0, 1), (5, .iload_n 1, 1), (6, .invokevirtual 429, 3), (9, .ifCond .eq 11, 3), (12, .aload_n 0, 1), (13, .iload_n 2, 1), (14, .invokevirtual 336, 3), (17, .ifCond .ne 9, 3), (20, .aload_n 0, 1), (21, .iconst 1, 1), (22, .invokevirtual 181, 3), (25, .ireturn, 1), (26, .aload_n 0, 1), (27, .iconst (-1), 1), (28, .invokevirtual 426, 3), (31, .pop, 1), (32, .aload_n 0, 1), (33, .getfield 62, 3), (36, .bipush 9, 2), (38, .iload_n 1, 1), (39, .imul, 1), (40, .iconst 2, 1), (41, .iload_n 2, 1), (42, .imul, 1), (43, .iadd, 1), (44, .iaload, 1), (45, .aload_n 0, 1), (46, .getfield 62, 3), (49, .bipush 9, 2), (51, .iload_n 1, 1), (52, .imul, 1), (53, .iconst 2, 1), (54, .iload_n 2, 1), (55, .imul, 1), (56, .iadd, 1), (57, .iconst 1, 1), (58, .iadd, 1), (59, .iaload, 1), (60, .iadd, 1), (61, .ireturn, 1)])
theorem T_X11_says : zT M_X11_says := zT_of (by decide +kernel)
theorem F_X11_says : zMV M_X11_says 2 := ⟨⟨zTT_in (i := 1890) (by decide +kernel) rfl, zTT_in (i := 147) (by decide +kernel) rfl, ⟨by decide, by decide, by decide +kernel⟩, by decide⟩, zTT_in (i := 1888) (by decide +kernel) rfl, zTT_in (i := 1889) (by decide +kernel) rfl⟩
def M_X11_leavesOf : zM := (⟨RX11, "leavesOf", "(I)I"⟩, prog_13_method_118_code, 4, (some .int), [(0, .iconst 0, 1), (1, .istore_n 2, 1), (2, .iconst 0, 1), (3, .istore_n 3, 1), (4, .iload_n 3, 1), (5, .aload_n 0, 1), (6, .invokevirtual 408, 3), (9, .if_icmp .ge 40, 3), (12, .aload_n 0, 1), (13, .getfield 62, 3), (16, .bipush 9, 2), (18, .iload_n 1, 1), (19, .imul, 1), (20, .iload_n 3, 1), (21, .iadd, 1), (22, .iaload, 1), (23, .iload_n 2, 1), (24, .if_icmp .le 17, 3), (27, .aload_n 0, 1), (28, .getfield 62, 3), (31, .bipush 9, 2), (33, .iload_n 1, 1), (34, .imul, 1), (35, .iload_n 3, 1), (36, .iadd, 1), (37, .iaload, 1), (38, .goto 4, 3), (41, .iload_n 2, 1), (42, .istore_n 2, 1), (43, .iinc 3 1, 3), (46, .goto (-42), 3), (49, .iload_n 2, 1), (50, .ireturn, 1)])
theorem T_X11_leavesOf : zT M_X11_leavesOf := zT_of (by decide +kernel)
theorem F_X11_leavesOf : zMV M_X11_leavesOf 1 := ⟨⟨zTT_in (i := 1902) (by decide +kernel) rfl, zTT_in (i := 147) (by decide +kernel) rfl, ⟨by decide, by decide, by decide +kernel⟩, by decide⟩, zTT_in (i := 1901) (by decide +kernel) rfl, zTT_in (i := 127) (by decide +kernel) rfl⟩
def M_X11_askOf : zM := (⟨RX11, "askOf", "()I"⟩, prog_13_method_119_code, 3, (some .int), [(0, .aload_n 0, 1), (1, .iconst (-1), 1), (2, .invokevirtual 426, 3), (5, .pop, 1), (6, .bipush (-2), 2), (8, .istore_n 1, 1), (9, .iconst 0, 1), (10, .istore_n 2, 1), (11, .iload_n 2, 1), (12, .aload_n 0, 1), (13, .getfield 20, 3), (16, .bipush 6, 2), (18, .iaload, 1), (19, .if_icmp .ge 35, 3), (22, .aload_n 0, 1), (23, .getfield 417, 3), (26, .ifCond .le 28, 3), (29, .iload_n 1, 1), (30, .ifCond .lt 16, 3), (33, .aload_n 0, 1), (34, .iload_n 2, 1), (35, .invokevirtual 432, 3), (38, .aload_n 0, 1), (39, .iload_n 1, 1), (40, .invokevirtual 432, 3), (43, .if_icmp .ge 5, 3), (46, .iload_n 2, 1), (47, .istore_n 1, 1), (48, .iinc 2 1, 3), (51, .goto (-40), 3), (54, .iload_n 1, 1), (55, .ireturn, 1)])
theorem T_X11_askOf : zT M_X11_askOf := zT_of (by decide +kernel)
theorem F_X11_askOf : zMV M_X11_askOf 0 := ⟨⟨zTT_in (i := 1898) (by decide +kernel) rfl, zTT_in (i := 147) (by decide +kernel) rfl, ⟨by decide, by decide, by decide +kernel⟩, by decide⟩, zTT_in (i := 1897) (by decide +kernel) rfl, zTT_in (i := 126) (by decide +kernel) rfl⟩
def M_X11_ask : zM := (⟨RX11, "ask", "()I"⟩, prog_13_method_120_code, 1, (some .int), [(0, .aload_n 0, 1), (1, .invokevirtual 178, 3), (4, .aload_n 0, 1), (5, .getfield 191, 3), (8, .ifCond .eq 10, 3), (11, .aload_n 0, 1), (12, .invokevirtual 435, 3), (15, .goto 8, 3), (18, .aload_n 0, 1), (19, .iconst 1, 1), (20, .invokevirtual 181, 3), (23, .ireturn, 1)])
theorem T_X11_ask : zT M_X11_ask := zT_of (by decide +kernel)
theorem F_X11_ask : zMV M_X11_ask 0 := ⟨⟨zTT_in (i := 1894) (by decide +kernel) rfl, zTT_in (i := 147) (by decide +kernel) rfl, ⟨by decide, by decide, by decide +kernel⟩, by decide⟩, zTT_in (i := 1892) (by decide +kernel) rfl, zTT_in (i := 1893) (by decide +kernel) rfl⟩
def M_X11_askLeaves : zM := (⟨RX11, "askLeaves", "()I"⟩, prog_13_method_121_code, 2, (some .int), [(0, .aload_n 0, 1), (1, .invokevirtual 178, 3), (4, .aload_n 0, 1), (5, .getfield 191, 3), (8, .ifCond .ne 9, 3), (11, .aload_n 0, 1), (12, .iconst 1, 1), (13, .invokevirtual 181, 3), (16, .ireturn, 1), (17, .aload_n 0, 1), (18, .invokevirtual 435, 3), (21, .istore_n 1, 1), (22, .iload_n 1, 1), (23, .ifCond .ge 8, 3), (26, .bipush (-2), 2), (28, .goto 8, 3), (31, .aload_n 0, 1), (32, .iload_n 1, 1), (33, .invokevirtual 432, 3), (36, .ireturn, 1)])
theorem T_X11_askLeaves : zT M_X11_askLeaves := zT_of (by decide +kernel)
theorem F_X11_askLeaves : zMV M_X11_askLeaves 0 := ⟨⟨zTT_in (i := 1906) (by decide +kernel) rfl, zTT_in (i := 147) (by decide +kernel) rfl, ⟨by decide, by decide, by decide +kernel⟩, by decide⟩, zTT_in (i := 1904) (by decide +kernel) rfl, zTT_in (i := 1905) (by decide +kernel) rfl⟩
def M_X11_judge : zM := (⟨RX11, "judge", "()I"⟩, prog_13_method_122_code, 1, (some .int), [(0, .aload_n 0, 1), (1, .invokevirtual 178, 3), (4, .aload_n 0, 1), (5, .getfield 191, 3), (8, .ifCond .eq 11, 3), (11, .aload_n 0, 1), (12, .iconst (-1), 1), (13, .invokevirtual 423, 3), (16, .goto 8, 3), (19, .aload_n 0, 1), (20, .iconst 1, 1), (21, .invokevirtual 181, 3), (24, .ireturn, 1)])
theorem T_X11_judge : zT M_X11_judge := zT_of (by decide +kernel)
theorem F_X11_judge : zMV M_X11_judge 0 := ⟨⟨zTT_in (i := 1910) (by decide +kernel) rfl, zTT_in (i := 147) (by decide +kernel) rfl, ⟨by decide, by decide, by decide +kernel⟩, by decide⟩, zTT_in (i := 1908) (by decide +kernel) rfl, zTT_in (i := 1909) (by decide +kernel) rfl⟩
def M_X11_footOf : zM := (⟨RX11, "footOf", "(IZZ)I"⟩, prog_13_method_123_code, 3, (some .int), [(0, .iload_n 1, 1), (1, .ifCond .eq 17, 3), (4, .iload_n 2, 1), (5, .ifCond .eq 7, 3), (8, .iconst 1, 1), (9, .goto 18, 3), (12, .iconst 4, 1), (13, .iload_n 0, 1), (14, .isub, 1), (15, .goto 12, 3), (18, .iload_n 2, 1), (19, .ifCond .eq 7, 3), (22, .iconst 0, 1), (23, .goto 4, 3), (26, .iconst 3, 1), (27, .ireturn, 1)])
theorem T_X11_footOf : zT M_X11_footOf := zT_of (by decide +kernel)
theorem F_X11_footOf : zMS M_X11_footOf 3 := ⟨⟨zTT_in (i := 1917) (by decide +kernel) rfl, zTT_in (i := 147) (by decide +kernel) rfl, ⟨by decide, by decide, by decide +kernel⟩, by decide⟩, zTT_in (i := 1916) (by decide +kernel) rfl⟩
def M_X11_foot : zM := (⟨RX11, "foot", "(IZZZ)I"⟩, prog_13_method_124_code, 6, (some .int), [(0, .aload_n 0, 1), (1, .invokevirtual 178, 3), (4, .aload_n 0, 1), (5, .aload_n 0, 1), (6, .getfield 191, 3), (9, .iload_n 1, 1), (10, .iconst 0, 1), (11, .bipush 9, 2), (13, .invokestatic 157, 3), (16, .invokevirtual 348, 3), (19, .istore 5, 2), (21, .iload 5, 2), (23, .ifCond .ne 24, 3), (26, .iload 4, 2), (28, .ifCond .eq 12, 3), (31, .iload_n 1, 1), (32, .iload_n 3, 1), (33, .iload_n 2, 1), (34, .invokestatic 438, 3), (37, .goto 9, 3), (40, .iload_n 1, 1), (41, .iload_n 2, 1), (42, .iload_n 3, 1), (43, .invokestatic 438, 3), (46, .ireturn, 1), (47, .aload_n 0, 1), (48, .iload 5, 2), (50, .putfield 68, 3), (53, .bipush (-100), 2), (55, .ireturn, 1)])
theorem T_X11_foot : zT M_X11_foot := zT_of (by decide +kernel)
theorem F_X11_foot : zMV M_X11_foot 4 := ⟨⟨zTT_in (i := 1914) (by decide +kernel) rfl, zTT_in (i := 147) (by decide +kernel) rfl, ⟨by decide, by decide, by decide +kernel⟩, by decide⟩, zTT_in (i := 1912) (by decide +kernel) rfl, zTT_in (i := 1913) (by decide +kernel) rfl⟩
def M_X11_seekRests : zM := (⟨RX11, "seekRests", "(I)I"⟩, prog_13_method_125_code, 6, (some .int), [(0, .iconst 0, 1), (1, .istore_n 2, 1), (2, .aload_n 0, 1), (3, .bipush (-2), 2), (5, .putfield 442, 3), (8, .iconst 0, 1), (9, .istore_n 3, 1), (10, .iload_n 3, 1), (11, .iconst 4, 1), (12, .if_icmp .ge 113, 3), (15, .iload_n 3, 1), (16, .iconst 1, 1), (17, .if_icmp .le 7, 3), (20, .iconst 1, 1), (21, .goto 4, 3), (24, .iconst 0, 1), (25, .istore 4, 2), (27, .iload_n 3, 1), (28, .iconst 2, 1), (29, .irem, 1), (30, .iconst 1, 1), (31, .if_icmp .ne 7, 3), (34, .iconst 1, 1), (35, .goto 4, 3), (38, .iconst 0, 1), (39, .istore 5, 2), (41, .iload_n 1, 1), (42, .iload 4, 2), (44, .ifCond .ne 7, 3), (47, .iconst 1, 1), (48, .goto 4, 3), (51, .iconst 0, 1), (52, .iload 5, 2), (54, .invokestatic 438, 3), (57, .iload_n 1, 1), (58, .iload 4, 2), (60, .iload 5, 2), (62, .invokestatic 438, 3), (65, .if_icmp .gt 54, 3), (68, .iload_n 1, 1), (69, .iload 5, 2), (71, .ifCond .ne 7, 3), (74, .iconst 1, 1), (75, .goto 4, 3), (78, .iconst 0, 1), (79, .iload 4, 2), (81, .invokestatic 438, 3), (84, .iload_n 1, 1), (85, .iload 5, 2), (87, .iload 4, 2), (89, .invokestatic 438, 3), (92, .if_icmp .le 6, 3), (95, .goto 24, 3), (98, .iload_n 2, 1), (99, .ifCond .ne 17, 3), (102, .aload_n 0, 1), (103, .bipush 10, 2), (105, .iload_n 3, 1), (106, .iconst 2, 1), (107, .idiv, 1), (108, .imul, 1), (109, .iload_n 3, 1), (110, .iconst 2, 1), (111, .irem, 1), (112, .iadd, 1), (113, .putfield 442, 3), (116, .iinc 2 1, 3), (119, .iinc 3 1, 3), (122, .goto (-112), 3), (125, .iload_n 2, 1), (126, .ireturn, 1)])
theorem T_X11_seekRests : zT M_X11_seekRests := zT_of (by decide +kernel)
theorem F_X11_seekRests : zMV M_X11_seekRests 1 := ⟨⟨zTT_in (i := 1925) (by decide +kernel) rfl, zTT_in (i := 147) (by decide +kernel) rfl, ⟨by decide, by decide, by decide +kernel⟩, by decide⟩, zTT_in (i := 1924) (by decide +kernel) rfl, zTT_in (i := 128) (by decide +kernel) rfl⟩
def M_X11_rests : zM := (⟨RX11, "rests", "(I)I"⟩, prog_13_method_126_code, 3, (some .int), [(0, .aload_n 0, 1), (1, .invokevirtual 178, 3), (4, .aload_n 0, 1), (5, .aload_n 0, 1), (6, .getfield 191, 3), (9, .iload_n 1, 1), (10, .iconst 0, 1), (11, .bipush 9, 2), (13, .invokestatic 157, 3), (16, .invokevirtual 348, 3), (19, .istore_n 2, 1), (20, .iload_n 2, 1), (21, .ifCond .eq 11, 3), (24, .aload_n 0, 1), (25, .iload_n 2, 1), (26, .invokevirtual 181, 3), (29, .goto 8, 3), (32, .aload_n 0, 1), (33, .iload_n 1, 1), (34, .invokevirtual 445, 3), (37, .ireturn, 1)])
theorem T_X11_rests : zT M_X11_rests := zT_of (by decide +kernel)
theorem F_X11_rests : zMV M_X11_rests 1 := ⟨⟨zTT_in (i := 1921) (by decide +kernel) rfl, zTT_in (i := 147) (by decide +kernel) rfl, ⟨by decide, by decide, by decide +kernel⟩, by decide⟩, zTT_in (i := 1919) (by decide +kernel) rfl, zTT_in (i := 1920) (by decide +kernel) rfl⟩
def M_X11_rest : zM := (⟨RX11, "rest", "(I)I"⟩, prog_13_method_127_code, 3, (some .int), [(0, .aload_n 0, 1), (1, .invokevirtual 178, 3), (4, .aload_n 0, 1), (5, .aload_n 0, 1), (6, .getfield 191, 3), (9, .iload_n 1, 1), (10, .iconst 0, 1), (11, .bipush 9, 2), (13, .invokestatic 157, 3), (16, .invokevirtual 348, 3), (19, .istore_n 2, 1), (20, .iload_n 2, 1), (21, .ifCond .eq 9, 3), (24, .aload_n 0, 1), (25, .iload_n 2, 1), (26, .invokevirtual 181, 3), (29, .ireturn, 1), (30, .aload_n 0, 1), (31, .iload_n 1, 1), (32, .invokevirtual 445, 3), (35, .pop, 1), (36, .aload_n 0, 1), (37, .getfield 442, 3), (40, .ireturn, 1)])
theorem T_X11_rest : zT M_X11_rest := zT_of (by decide +kernel)
theorem F_X11_rest : zMV M_X11_rest 1 := ⟨⟨zTT_in (i := 1929) (by decide +kernel) rfl, zTT_in (i := 147) (by decide +kernel) rfl, ⟨by decide, by decide, by decide +kernel⟩, by decide⟩, zTT_in (i := 1927) (by decide +kernel) rfl, zTT_in (i := 1928) (by decide +kernel) rfl⟩
def M_X11_weightOf : zM := (⟨RX11, "weightOf", "(I)J"⟩, prog_13_method_128_code, 5, (some .long), [(0, .lconst 1, 1), (1, .lstore_n 2, 1), (2, .iconst 0, 1), (3, .istore 4, 2), (5, .iload 4, 2), (7, .aload_n 0, 1), (8, .getfield 32, 3), (11, .bipush 48, 2), (13, .iaload, 1), (14, .if_icmp .ge 53, 3), (17, .aload_n 0, 1), (18, .getfield 32, 3), (21, .iload 4, 2), (23, .invokestatic 284, 3), (26, .ifCond .eq 35, 3), (29, .lload_n 2, 1), (30, .iload_n 1, 1), (31, .iload 4, 2), (33, .invokestatic 277, 3), (36, .ifCond .eq 13, 3), (39, .aload_n 0, 1), (40, .getfield 20, 3), (43, .iconst 0, 1), (44, .iaload, 1), (45, .i2l, 1), (46, .goto 13, 3), (49, .bipush 100, 2), (51, .aload_n 0, 1), (52, .getfield 20, 3), (55, .iconst 0, 1), (56, .iaload, 1), (57, .isub, 1), (58, .i2l, 1), (59, .lmul, 1), (60, .lstore_n 2, 1), (61, .iinc 4 1, 3), (64, .goto (-59), 3), (67, .lload_n 2, 1), (68, .lreturn, 1)])
theorem T_X11_weightOf : zT M_X11_weightOf := zT_of (by decide +kernel)
theorem F_X11_weightOf : zMV M_X11_weightOf 1 := ⟨⟨zTT_in (i := 1941) (by decide +kernel) rfl, zTT_in (i := 147) (by decide +kernel) rfl, ⟨by decide, by decide, by decide +kernel⟩, by decide⟩, zTT_in (i := 1940) (by decide +kernel) rfl, zTT_in (i := 130) (by decide +kernel) rfl⟩
def M_X11_allWeight : zM := (⟨RX11, "allWeight", "()J"⟩, prog_13_method_129_code, 4, (some .long), [(0, .lconst 1, 1), (1, .lstore_n 1, 1), (2, .iconst 0, 1), (3, .istore_n 3, 1), (4, .iload_n 3, 1), (5, .aload_n 0, 1), (6, .getfield 32, 3), (9, .bipush 48, 2), (11, .iaload, 1), (12, .if_icmp .ge 26, 3), (15, .aload_n 0, 1), (16, .getfield 32, 3), (19, .iload_n 3, 1), (20, .invokestatic 284, 3), (23, .ifCond .eq 9, 3), (26, .lload_n 1, 1), (27, .ldc2_w 448, 3), (30, .lmul, 1), (31, .lstore_n 1, 1), (32, .iinc 3 1, 3), (35, .goto (-31), 3), (38, .lload_n 1, 1), (39, .lreturn, 1)])
theorem T_X11_allWeight : zT M_X11_allWeight := zT_of (by decide +kernel)
theorem F_X11_allWeight : zMV M_X11_allWeight 0 := ⟨⟨zTT_in (i := 1945) (by decide +kernel) rfl, zTT_in (i := 147) (by decide +kernel) rfl, ⟨by decide, by decide, by decide +kernel⟩, by decide⟩, zTT_in (i := 1944) (by decide +kernel) rfl, zTT_in (i := 131) (by decide +kernel) rfl⟩
def M_X11_doneWeight : zM := (⟨RX11, "doneWeight", "(I)J"⟩, prog_13_method_130_code, 5, (some .long), [(0, .lconst 0, 1), (1, .lstore_n 2, 1), (2, .iconst 0, 1), (3, .istore 4, 2), (5, .iload 4, 2), (7, .iconst 1, 1), (8, .aload_n 0, 1), (9, .getfield 32, 3), (12, .bipush 48, 2), (14, .iaload, 1), (15, .ishl, 1), (16, .if_icmp .ge 56, 3), (19, .lload_n 2, 1), (20, .iload 4, 2), (22, .aload_n 0, 1), (23, .invokevirtual 352, 3), (26, .iconst (-1), 1), (27, .ixor, 1), (28, .iand, 1), (29, .ifCond .ne 34, 3), (32, .aload_n 0, 1), (33, .aload_n 0, 1), (34, .getfield 32, 3), (37, .iload_n 1, 1), (38, .aload_n 0, 1), (39, .getfield 32, 3), (42, .bipush 48, 2), (44, .iaload, 1), (45, .iload 4, 2), (47, .invokevirtual 308, 3), (50, .iconst 1, 1), (51, .if_icmp .ne 12, 3), (54, .aload_n 0, 1), (55, .iload 4, 2), (57, .invokevirtual 450, 3), (60, .goto 4, 3), (63, .lconst 0, 1), (64, .ladd, 1), (65, .lstore_n 2, 1), (66, .iinc 4 1, 3), (69, .goto (-64), 3), (72, .lload_n 2, 1), (73, .lreturn, 1)])
theorem T_X11_doneWeight : zT M_X11_doneWeight := zT_of (by decide +kernel)
theorem F_X11_doneWeight : zMV M_X11_doneWeight 1 := ⟨⟨zTT_in (i := 1937) (by decide +kernel) rfl, zTT_in (i := 147) (by decide +kernel) rfl, ⟨by decide, by decide, by decide +kernel⟩, by decide⟩, zTT_in (i := 1936) (by decide +kernel) rfl, zTT_in (i := 129) (by decide +kernel) rfl⟩
def M_X11_odds : zM := (⟨RX11, "odds", "(IZ)J"⟩, prog_13_method_131_code, 3, (some .long), [(0, .aload_n 0, 1), (1, .invokevirtual 178, 3), (4, .aload_n 0, 1), (5, .iload_n 1, 1), (6, .invokevirtual 336, 3), (9, .ifCond .eq 19, 3), (12, .aload_n 0, 1), (13, .iload_n 1, 1), (14, .invokevirtual 454, 3), (17, .aload_n 0, 1), (18, .invokevirtual 457, 3), (21, .iload_n 2, 1), (22, .invokestatic 461, 3), (25, .goto 9, 3), (28, .aload_n 0, 1), (29, .iconst 1, 1), (30, .invokevirtual 181, 3), (33, .i2l, 1), (34, .lreturn, 1)])
theorem T_X11_odds : zT M_X11_odds := zT_of (by decide +kernel)
theorem F_X11_odds : zMV M_X11_odds 2 := ⟨⟨zTT_in (i := 1933) (by decide +kernel) rfl, zTT_in (i := 147) (by decide +kernel) rfl, ⟨by decide, by decide, by decide +kernel⟩, by decide⟩, zTT_in (i := 1931) (by decide +kernel) rfl, zTT_in (i := 1932) (by decide +kernel) rfl⟩
def M_X11_standOdds : zM := (⟨RX11, "standOdds", "(IZ)J"⟩, prog_13_method_132_code, 6, (some .long), [(0, .aload_n 0, 1), (1, .invokevirtual 178, 3), (4, .aload_n 0, 1), (5, .iload_n 1, 1), (6, .invokevirtual 330, 3), (9, .ifCond .ne 10, 3), (12, .aload_n 0, 1), (13, .iconst 1, 1), (14, .invokevirtual 181, 3), (17, .i2l, 1), (18, .lreturn, 1), (19, .lconst 0, 1), (20, .lstore_n 3, 1), (21, .iconst 0, 1), (22, .istore 5, 2), (24, .iload 5, 2), (26, .iconst 1, 1), (27, .aload_n 0, 1), (28, .getfield 32, 3), (31, .bipush 48, 2), (33, .iaload, 1), (34, .ishl, 1), (35, .if_icmp .ge 55, 3), (38, .lload_n 3, 1), (39, .iload 5, 2), (41, .aload_n 0, 1), (42, .invokevirtual 352, 3), (45, .iconst (-1), 1), (46, .ixor, 1), (47, .iand, 1), (48, .ifCond .ne 33, 3), (51, .aload_n 0, 1), (52, .aload_n 0, 1), (53, .getfield 32, 3), (56, .bipush 6, 2), (58, .iload_n 1, 1), (59, .imul, 1), (60, .iconst 2, 1), (61, .iadd, 1), (62, .iaload, 1), (63, .iload 5, 2), (65, .invokevirtual 321, 3), (68, .iload_n 1, 1), (69, .if_icmp .ne 12, 3), (72, .aload_n 0, 1), (73, .iload 5, 2), (75, .invokevirtual 450, 3), (78, .goto 4, 3), (81, .lconst 0, 1), (82, .ladd, 1), (83, .lstore_n 3, 1), (84, .iinc 5 1, 3), (87, .goto (-63), 3), (90, .lload_n 3, 1), (91, .aload_n 0, 1), (92, .invokevirtual 457, 3), (95, .iload_n 2, 1), (96, .invokestatic 461, 3), (99, .lreturn, 1)])
theorem T_X11_standOdds : zT M_X11_standOdds := zT_of (by decide +kernel)
theorem F_X11_standOdds : zMV M_X11_standOdds 2 := ⟨⟨zTT_in (i := 1953) (by decide +kernel) rfl, zTT_in (i := 147) (by decide +kernel) rfl, ⟨by decide, by decide, by decide +kernel⟩, by decide⟩, zTT_in (i := 1951) (by decide +kernel) rfl, zTT_in (i := 1952) (by decide +kernel) rfl⟩
def M_X11_mean : zM := (⟨RX11, "mean", "(Z)J"⟩, prog_13_method_133_code, 5, (some .long), [(0, .aload_n 0, 1), (1, .invokevirtual 178, 3), (4, .aload_n 0, 1), (5, .getfield 191, 3), (8, .ifCond .ne 10, 3), (11, .aload_n 0, 1), (12, .iconst 1, 1), (13, .invokevirtual 181, 3), (16, .i2l, 1), (17, .lreturn, 1), (18, .lconst 0, 1), (19, .lstore_n 2, 1), (20, .iconst 0, 1), (21, .istore 4, 2), (23, .iload 4, 2), (25, .aload_n 0, 1), (26, .getfield 20, 3), (29, .iconst 4, 1), (30, .iaload, 1), (31, .if_icmp .ge 18, 3), (34, .lload_n 2, 1), (35, .aload_n 0, 1), (36, .iload 4, 2), (38, .invokevirtual 454, 3), (41, .ladd, 1), (42, .lstore_n 2, 1), (43, .iinc 4 1, 3), (46, .goto (-23), 3), (49, .lload_n 2, 1), (50, .aload_n 0, 1), (51, .invokevirtual 457, 3), (54, .iload_n 1, 1), (55, .invokestatic 461, 3), (58, .lreturn, 1)])
theorem T_X11_mean : zT M_X11_mean := zT_of (by decide +kernel)
theorem F_X11_mean : zMV M_X11_mean 1 := ⟨⟨zTT_in (i := 1957) (by decide +kernel) rfl, zTT_in (i := 147) (by decide +kernel) rfl, ⟨by decide, by decide, by decide +kernel⟩, by decide⟩, zTT_in (i := 1955) (by decide +kernel) rfl, zTT_in (i := 1956) (by decide +kernel) rfl⟩
def M_X11_thumbWhy : zM := (⟨RX11, "thumbWhy", "(ZII)I"⟩, prog_13_method_134_code, 6, (some .int), [(0, .iload_n 1, 1), (1, .ifCond .ne 5, 3), (4, .iconst 1, 1), (5, .ireturn, 1), (6, .iload_n 2, 1), (7, .iconst 0, 1), (8, .ldc_w 465, 3), (11, .invokestatic 157, 3), (14, .ifCond .eq 13, 3), (17, .iload_n 3, 1), (18, .iconst 0, 1), (19, .bipush 60, 2), (21, .invokestatic 157, 3), (24, .ifCond .ne 5, 3), (27, .iconst 2, 1), (28, .ireturn, 1), (29, .aload_n 0, 1), (30, .iconst 0, 1), (31, .putfield 466, 3), (34, .iload_n 2, 1), (35, .istore 4, 2), (37, .iconst 0, 1), (38, .istore 5, 2), (40, .iload 5, 2), (42, .iload_n 3, 1), (43, .if_icmp .ge 85, 3), (46, .bipush 75, 2), (48, .iload 4, 2), (50, .imul, 1), (51, .bipush 74, 2), (53, .iadd, 1), (54, .ldc_w 469, 3), (57, .irem, 1), (58, .istore 4, 2), (60, .iload 4, 2), (62, .bipush 100, 2), (64, .irem, 1), (65, .aload_n 0, 1), (66, .getfield 20, 3), (69, .iconst 0, 1), (70, .iaload, 1), (71, .if_icmp .ge 51, 3), (74, .aload_n 0, 1), (75, .getfield 32, 3), (78, .bipush 48, 2), (80, .iaload, 1), (81, .ifCond .ne 6, 3), (84, .goto 38, 3), (87, .bipush 75, 2), (89, .iload 4, 2), (91, .imul, 1), (92, .bipush 74, 2), (94, .iadd, 1), (95, .ldc_w 469, 3), (98, .irem, 1), (99, .istore 4, 2), (101, .aload_n 0, 1), (102, .dup, 1), (103, .getfield 466, 3), (106, .iconst 1, 1), (107, .iload 4, 2), (109, .aload_n 0, 1), (110, .getfield 32, 3), (113, .bipush 48, 2), (115, .iaload, 1), (116, .irem, 1), (117, .ishl, 1), (118, .ior, 1), (119, .putfield 466, 3), (122, .iinc 5 1, 3), (125, .goto (-85), 3), (128, .iconst 0, 1), (129, .ireturn, 1)])
theorem T_X11_thumbWhy : zT M_X11_thumbWhy := zT_of (by decide +kernel)
theorem F_X11_thumbWhy : zMV M_X11_thumbWhy 3 := ⟨⟨zTT_in (i := 1965) (by decide +kernel) rfl, zTT_in (i := 147) (by decide +kernel) rfl, ⟨by decide, by decide, by decide +kernel⟩, by decide⟩, zTT_in (i := 1964) (by decide +kernel) rfl, zTT_in (i := 132) (by decide +kernel) rfl⟩
def M_X11_thumbs : zM := (⟨RX11, "thumbs", "(III)I"⟩, prog_13_method_135_code, 5, (some .int), [(0, .aload_n 0, 1), (1, .invokevirtual 178, 3), (4, .aload_n 0, 1), (5, .aload_n 0, 1), (6, .iload_n 1, 1), (7, .invokevirtual 336, 3), (10, .iload_n 2, 1), (11, .iload_n 3, 1), (12, .invokevirtual 470, 3), (15, .istore 4, 2), (17, .iload 4, 2), (19, .ifCond .eq 12, 3), (22, .aload_n 0, 1), (23, .iload 4, 2), (25, .invokevirtual 181, 3), (28, .goto 23, 3), (31, .aload_n 0, 1), (32, .aload_n 0, 1), (33, .getfield 32, 3), (36, .iload_n 1, 1), (37, .aload_n 0, 1), (38, .getfield 32, 3), (41, .bipush 48, 2), (43, .iaload, 1), (44, .aload_n 0, 1), (45, .getfield 466, 3), (48, .invokevirtual 308, 3), (51, .ireturn, 1)])
theorem T_X11_thumbs : zT M_X11_thumbs := zT_of (by decide +kernel)
theorem F_X11_thumbs : zMV M_X11_thumbs 3 := ⟨⟨zTT_in (i := 1961) (by decide +kernel) rfl, zTT_in (i := 147) (by decide +kernel) rfl, ⟨by decide, by decide, by decide +kernel⟩, by decide⟩, zTT_in (i := 1959) (by decide +kernel) rfl, zTT_in (i := 1960) (by decide +kernel) rfl⟩
def M_X11_smudged : zM := (⟨RX11, "smudged", "(II)I"⟩, prog_13_method_136_code, 4, (some .int), [(0, .aload_n 0, 1), (1, .invokevirtual 178, 3), (4, .aload_n 0, 1), (5, .aload_n 0, 1), (6, .getfield 191, 3), (9, .iload_n 1, 1), (10, .iload_n 2, 1), (11, .invokevirtual 470, 3), (14, .istore_n 3, 1), (15, .iload_n 3, 1), (16, .ifCond .eq 11, 3), (19, .aload_n 0, 1), (20, .iload_n 3, 1), (21, .invokevirtual 181, 3), (24, .goto 10, 3), (27, .aload_n 0, 1), (28, .getfield 466, 3), (31, .invokestatic 342, 3), (34, .ireturn, 1)])
theorem T_X11_smudged : zT M_X11_smudged := zT_of (by decide +kernel)
theorem F_X11_smudged : zMV M_X11_smudged 2 := ⟨⟨zTT_in (i := 1971) (by decide +kernel) rfl, zTT_in (i := 147) (by decide +kernel) rfl, ⟨by decide, by decide, by decide +kernel⟩, by decide⟩, zTT_in (i := 1969) (by decide +kernel) rfl, zTT_in (i := 1970) (by decide +kernel) rfl⟩
def M_X11_note : zM := (⟨RX11, "note", "()V"⟩, prog_13_method_137_code, 2, none, [(0, .aload_n 0, 1), (1, .getfield 194, 3), (4, .bipush 16, 2), (6, .if_icmp .ne 43, 3), (9, .iconst 0, 1), (10, .istore_n 1, 1), (11, .iload_n 1, 1), (12, .sipush 750, 3), (15, .if_icmp .ge 24, 3), (18, .aload_n 0, 1), (19, .getfield 35, 3), (22, .iload_n 1, 1), (23, .aload_n 0, 1), (24, .getfield 35, 3), (27, .iload_n 1, 1), (28, .bipush 50, 2), (30, .iadd, 1), (31, .iaload, 1), (32, .iastore, 1), (33, .iinc 1 1, 3), (36, .goto (-25), 3), (39, .aload_n 0, 1), (40, .dup, 1), (41, .getfield 194, 3), (44, .iconst 1, 1), (45, .isub, 1), (46, .putfield 194, 3), (49, .aload_n 0, 1), (50, .getfield 32, 3), (53, .iconst 0, 1), (54, .aload_n 0, 1), (55, .getfield 35, 3), (58, .bipush 50, 2), (60, .aload_n 0, 1), (61, .getfield 194, 3), (64, .imul, 1), (65, .bipush 50, 2), (67, .invokestatic 187, 3), (70, .aload_n 0, 1), (71, .dup, 1), (72, .getfield 194, 3), (75, .iconst 1, 1), (76, .iadd, 1), (77, .putfield 194, 3), (80, .return_, 1)])
theorem T_X11_note : zT M_X11_note := zT_of (by decide +kernel)
theorem F_X11_note : zMV M_X11_note 0 := ⟨⟨zTT_in (i := 1979) (by decide +kernel) rfl, zTT_in (i := 147) (by decide +kernel) rfl, ⟨by decide, by decide, by decide +kernel⟩, by decide⟩, zTT_in (i := 1978) (by decide +kernel) rfl, zTT_in (i := 133) (by decide +kernel) rfl⟩
def M_X11_write : zM := (⟨RX11, "write", "(IIIZI)I"⟩, prog_13_method_138_code, 6, (some .int), [(0, .aload_n 0, 1), (1, .invokevirtual 178, 3), (4, .aload_n 0, 1), (5, .iload_n 2, 1), (6, .invokevirtual 312, 3), (9, .ifCond .eq 27, 3), (12, .aload_n 0, 1), (13, .iload_n 3, 1), (14, .invokevirtual 336, 3), (17, .ifCond .eq 19, 3), (20, .iload_n 1, 1), (21, .iconst 0, 1), (22, .aload_n 0, 1), (23, .getfield 20, 3), (26, .iconst 3, 1), (27, .iaload, 1), (28, .iconst 1, 1), (29, .isub, 1), (30, .invokestatic 157, 3), (33, .ifCond .ne 9, 3), (36, .aload_n 0, 1), (37, .iconst 1, 1), (38, .invokevirtual 181, 3), (41, .ireturn, 1), (42, .iload 5, 2), (44, .iconst 1, 1), (45, .bipush 9, 2), (47, .invokestatic 157, 3), (50, .ifCond .ne 9, 3), (53, .aload_n 0, 1), (54, .iconst 2, 1), (55, .invokevirtual 181, 3), (58, .ireturn, 1), (59, .aload_n 0, 1), (60, .getfield 32, 3), (63, .bipush 49, 2), (65, .iaload, 1), (66, .iload_n 2, 1), (67, .invokestatic 277, 3), (70, .ifCond .eq 9, 3), (73, .aload_n 0, 1), (74, .iconst 5, 1), (75, .invokevirtual 181, 3), (78, .ireturn, 1), (79, .aload_n 0, 1), (80, .getfield 32, 3), (83, .bipush 48, 2), (85, .iaload, 1), (86, .bipush 8, 2), (88, .if_icmp .eq 21, 3), (91, .iload 5, 2), (93, .aload_n 0, 1), (94, .aload_n 0, 1), (95, .getfield 20, 3), (98, .aload_n 0, 1), (99, .getfield 32, 3), (102, .iload_n 2, 1), (103, .invokevirtual 262, 3), (106, .if_icmp .le 9, 3), (109, .aload_n 0, 1), (110, .iconst 3, 1), (111, .invokevirtual 181, 3), (114, .ireturn, 1), (115, .aload_n 0, 1), (116, .invokevirtual 474, 3), (119, .aload_n 0, 1), (120, .getfield 32, 3), (123, .iload_n 1, 1), (124, .iload_n 2, 1), (125, .iload_n 3, 1), (126, .iload 4, 2), (128, .ifCond .eq 7, 3), (131, .iconst 1, 1), (132, .goto 4, 3), (135, .iconst 0, 1), (136, .iload 5, 2), (138, .invokestatic 266, 3), (141, .aload_n 0, 1), (142, .getfield 32, 3), (145, .bipush 48, 2), (147, .iaload, 1), (148, .iconst 1, 1), (149, .isub, 1), (150, .ireturn, 1)])
theorem T_X11_write : zT M_X11_write := zT_of (by decide +kernel)
theorem F_X11_write : zMV M_X11_write 5 := ⟨⟨zTT_in (i := 1975) (by decide +kernel) rfl, zTT_in (i := 147) (by decide +kernel) rfl, ⟨by decide, by decide, by decide +kernel⟩, by decide⟩, zTT_in (i := 1973) (by decide +kernel) rfl, zTT_in (i := 1974) (by decide +kernel) rfl⟩
def M_X11_strike : zM := (⟨RX11, "strike", "(I)Z"⟩, prog_13_method_139_code, 2, (some .boolean), [(0, .aload_n 0, 1), (1, .invokevirtual 178, 3), (4, .aload_n 0, 1), (5, .iload_n 1, 1), (6, .invokevirtual 330, 3), (9, .ifCond .ne 9, 3), (12, .aload_n 0, 1), (13, .iconst 1, 1), (14, .invokevirtual 477, 3), (17, .ireturn, 1), (18, .aload_n 0, 1), (19, .getfield 32, 3), (22, .bipush 6, 2), (24, .iload_n 1, 1), (25, .imul, 1), (26, .iconst 5, 1), (27, .iadd, 1), (28, .iaload, 1), (29, .ifCond .le 9, 3), (32, .aload_n 0, 1), (33, .iconst 5, 1), (34, .invokevirtual 477, 3), (37, .ireturn, 1), (38, .aload_n 0, 1), (39, .invokevirtual 474, 3), (42, .aload_n 0, 1), (43, .getfield 32, 3), (46, .bipush 6, 2), (48, .iload_n 1, 1), (49, .imul, 1), (50, .iconst 5, 1), (51, .iadd, 1), (52, .iconst 1, 1), (53, .iastore, 1), (54, .iconst 1, 1), (55, .ireturn, 1)])
theorem T_X11_strike : zT M_X11_strike := zT_of (by decide +kernel)
theorem F_X11_strike : zMV M_X11_strike 1 := ⟨⟨zTT_in (i := 1983) (by decide +kernel) rfl, zTT_in (i := 147) (by decide +kernel) rfl, ⟨by decide, by decide, by decide +kernel⟩, by decide⟩, zTT_in (i := 1981) (by decide +kernel) rfl, zTT_in (i := 1982) (by decide +kernel) rfl⟩
def M_X11_fold : zM := (⟨RX11, "fold", "(I)I"⟩, prog_13_method_140_code, 2, (some .int), [(0, .aload_n 0, 1), (1, .invokevirtual 178, 3), (4, .aload_n 0, 1), (5, .iload_n 1, 1), (6, .invokevirtual 312, 3), (9, .ifCond .ne 9, 3), (12, .aload_n 0, 1), (13, .iconst 1, 1), (14, .invokevirtual 181, 3), (17, .ireturn, 1), (18, .aload_n 0, 1), (19, .invokevirtual 474, 3), (22, .aload_n 0, 1), (23, .getfield 32, 3), (26, .bipush 49, 2), (28, .dup2, 1), (29, .iaload, 1), (30, .iconst 1, 1), (31, .iload_n 1, 1), (32, .ishl, 1), (33, .ixor, 1), (34, .iastore, 1), (35, .aload_n 0, 1), (36, .getfield 32, 3), (39, .bipush 49, 2), (41, .iaload, 1), (42, .iload_n 1, 1), (43, .ishr, 1), (44, .iconst 1, 1), (45, .iand, 1), (46, .ireturn, 1)])
theorem T_X11_fold : zT M_X11_fold := zT_of (by decide +kernel)
theorem F_X11_fold : zMV M_X11_fold 1 := ⟨⟨zTT_in (i := 1991) (by decide +kernel) rfl, zTT_in (i := 147) (by decide +kernel) rfl, ⟨by decide, by decide, by decide +kernel⟩, by decide⟩, zTT_in (i := 1989) (by decide +kernel) rfl, zTT_in (i := 1990) (by decide +kernel) rfl⟩
def M_X11_undo : zM := (⟨RX11, "undo", "()Z"⟩, prog_13_method_141_code, 1, (some .boolean), [(0, .aload_n 0, 1), (1, .invokevirtual 178, 3), (4, .aload_n 0, 1), (5, .getfield 194, 3), (8, .ifCond .ne 10, 3), (11, .aload_n 0, 1), (12, .bipush 6, 2), (14, .invokevirtual 477, 3), (17, .ireturn, 1), (18, .aload_n 0, 1), (19, .dup, 1), (20, .getfield 194, 3), (23, .iconst 1, 1), (24, .isub, 1), (25, .putfield 194, 3), (28, .aload_n 0, 1), (29, .getfield 35, 3), (32, .bipush 50, 2), (34, .aload_n 0, 1), (35, .getfield 194, 3), (38, .imul, 1), (39, .aload_n 0, 1), (40, .getfield 32, 3), (43, .iconst 0, 1), (44, .bipush 50, 2), (46, .invokestatic 187, 3), (49, .iconst 1, 1), (50, .ireturn, 1)])
theorem T_X11_undo : zT M_X11_undo := zT_of (by decide +kernel)
theorem F_X11_undo : zMV M_X11_undo 0 := ⟨⟨zTT_in (i := 1995) (by decide +kernel) rfl, zTT_in (i := 147) (by decide +kernel) rfl, ⟨by decide, by decide, by decide +kernel⟩, by decide⟩, zTT_in (i := 1993) (by decide +kernel) rfl, zTT_in (i := 1994) (by decide +kernel) rfl⟩
def M_X11_image : zM := (⟨RX11, "image", "()I"⟩, prog_13_method_142_code, 1, (some .int), [(0, .aload_n 0, 1), (1, .invokevirtual 178, 3), (4, .aload_n 0, 1), (5, .getfield 191, 3), (8, .ifCond .ne 9, 3), (11, .aload_n 0, 1), (12, .iconst 1, 1), (13, .invokevirtual 181, 3), (16, .ireturn, 1), (17, .aload_n 0, 1), (18, .getfield 197, 3), (21, .iconst 3, 1), (22, .if_icmp .ne 9, 3), (25, .aload_n 0, 1), (26, .iconst 3, 1), (27, .invokevirtual 181, 3), (30, .ireturn, 1), (31, .aload_n 0, 1), (32, .getfield 32, 3), (35, .iconst 0, 1), (36, .aload_n 0, 1), (37, .getfield 38, 3), (40, .bipush 50, 2), (42, .aload_n 0, 1), (43, .getfield 197, 3), (46, .imul, 1), (47, .bipush 50, 2), (49, .invokestatic 187, 3), (52, .aload_n 0, 1), (53, .dup, 1), (54, .getfield 197, 3), (57, .iconst 1, 1), (58, .iadd, 1), (59, .putfield 197, 3), (62, .aload_n 0, 1), (63, .getfield 197, 3), (66, .iconst 1, 1), (67, .isub, 1), (68, .ireturn, 1)])
theorem T_X11_image : zT M_X11_image := zT_of (by decide +kernel)
theorem F_X11_image : zMV M_X11_image 0 := ⟨⟨zTT_in (i := 1999) (by decide +kernel) rfl, zTT_in (i := 147) (by decide +kernel) rfl, ⟨by decide, by decide, by decide +kernel⟩, by decide⟩, zTT_in (i := 1997) (by decide +kernel) rfl, zTT_in (i := 1998) (by decide +kernel) rfl⟩
def M_X11_back : zM := (⟨RX11, "back", "(I)Z"⟩, prog_13_method_143_code, 2, (some .boolean), [(0, .aload_n 0, 1), (1, .invokevirtual 178, 3), (4, .iload_n 1, 1), (5, .iconst 0, 1), (6, .aload_n 0, 1), (7, .getfield 197, 3), (10, .iconst 1, 1), (11, .isub, 1), (12, .invokestatic 157, 3), (15, .ifCond .ne 9, 3), (18, .aload_n 0, 1), (19, .iconst 1, 1), (20, .invokevirtual 477, 3), (23, .ireturn, 1), (24, .aload_n 0, 1), (25, .getfield 38, 3), (28, .bipush 50, 2), (30, .iload_n 1, 1), (31, .imul, 1), (32, .aload_n 0, 1), (33, .getfield 32, 3), (36, .iconst 0, 1), (37, .bipush 50, 2), (39, .invokestatic 187, 3), (42, .aload_n 0, 1), (43, .iconst 0, 1), (44, .putfield 194, 3), (47, .iconst 1, 1), (48, .ireturn, 1)])
theorem T_X11_back : zT M_X11_back := zT_of (by decide +kernel)
theorem F_X11_back : zMV M_X11_back 1 := ⟨⟨zTT_in (i := 2003) (by decide +kernel) rfl, zTT_in (i := 147) (by decide +kernel) rfl, ⟨by decide, by decide, by decide +kernel⟩, by decide⟩, zTT_in (i := 2001) (by decide +kernel) rfl, zTT_in (i := 2002) (by decide +kernel) rfl⟩
def M_X11_led : zM := (⟨RX11, "led", "(I)I"⟩, prog_13_method_144_code, 4, (some .int), [(0, .iconst 0, 1), (1, .istore_n 2, 1), (2, .iconst 0, 1), (3, .istore_n 3, 1), (4, .aload_n 0, 1), (5, .getfield 191, 3), (8, .ifCond .eq 47, 3), (11, .iload_n 3, 1), (12, .aload_n 0, 1), (13, .getfield 20, 3), (16, .iconst 4, 1), (17, .iaload, 1), (18, .if_icmp .ge 37, 3), (21, .aload_n 0, 1), (22, .iload_n 3, 1), (23, .invokevirtual 339, 3), (26, .bipush (-2), 2), (28, .if_icmp .eq 6, 3), (31, .goto 18, 3), (34, .iload_n 2, 1), (35, .iload_n 1, 1), (36, .if_icmp .ne 10, 3), (39, .aload_n 0, 1), (40, .iconst 0, 1), (41, .putfield 65, 3), (44, .iload_n 3, 1), (45, .ireturn, 1), (46, .iinc 2 1, 3), (49, .iinc 3 1, 3), (52, .goto (-48), 3), (55, .aload_n 0, 1), (56, .iconst 1, 1), (57, .putfield 65, 3), (60, .iconst 0, 1), (61, .ireturn, 1)])
theorem T_X11_led : zT M_X11_led := zT_of (by decide +kernel)
theorem F_X11_led : zMV M_X11_led 1 := ⟨⟨zTT_in (i := 2007) (by decide +kernel) rfl, zTT_in (i := 147) (by decide +kernel) rfl, ⟨by decide, by decide, by decide +kernel⟩, by decide⟩, zTT_in (i := 2005) (by decide +kernel) rfl, zTT_in (i := 2006) (by decide +kernel) rfl⟩
def M_X11_size : zM := (⟨RX11, "size", "(I)I"⟩, prog_13_method_145_code, 2, (some .int), [(0, .aload_n 0, 1), (1, .iconst 0, 1), (2, .putfield 65, 3), (5, .iload_n 1, 1), (6, .bipush 11, 2), (8, .if_icmp .ne 8, 3), (11, .aload_n 0, 1), (12, .getfield 71, 3), (15, .ireturn, 1), (16, .aload_n 0, 1), (17, .getfield 191, 3), (20, .ifCond .ne 19, 3), (23, .iload_n 1, 1), (24, .iconst 0, 1), (25, .bipush 10, 2), (27, .invokestatic 157, 3), (30, .ifCond .eq 7, 3), (33, .iconst 0, 1), (34, .goto 4, 3), (37, .iconst (-1), 1), (38, .ireturn, 1), (39, .iload_n 1, 1), (40, .iconst 5, 1), (41, .if_icmp .ne 11, 3), (44, .aload_n 0, 1), (45, .getfield 32, 3), (48, .bipush 48, 2), (50, .iaload, 1), (51, .ireturn, 1), (52, .iload_n 1, 1), (53, .iconst 0, 1), (54, .bipush 8, 2), (56, .invokestatic 157, 3), (59, .ifCond .eq 10, 3), (62, .aload_n 0, 1), (63, .getfield 20, 3), (66, .iload_n 1, 1), (67, .iaload, 1), (68, .ireturn, 1), (69, .iload_n 1, 1), (70, .bipush 9, 2), (72, .if_icmp .ne 10, 3), (75, .aload_n 0, 1), (76, .getfield 194, 3), (79, .goto 17, 3), (82, .iload_n 1, 1), (83, .bipush 10, 2), (85, .if_icmp .ne 10, 3), (88, .aload_n 0, 1), (89, .getfield 197, 3), (92, .goto 4, 3), (95, .iconst (-1), 1), (96, .ireturn, 1)])
theorem T_X11_size : zT M_X11_size := zT_of (by decide +kernel)
theorem F_X11_size : zMV M_X11_size 1 := ⟨⟨zTT_in (i := 2011) (by decide +kernel) rfl, zTT_in (i := 147) (by decide +kernel) rfl, ⟨by decide, by decide, by decide +kernel⟩, by decide⟩, zTT_in (i := 2009) (by decide +kernel) rfl, zTT_in (i := 2010) (by decide +kernel) rfl⟩
def M_X11_trouble : zM := (⟨RX11, "trouble", "()I"⟩, prog_13_method_146_code, 1, (some .int), [(0, .aload_n 0, 1), (1, .iconst 0, 1), (2, .putfield 65, 3), (5, .aload_n 0, 1), (6, .getfield 68, 3), (9, .ireturn, 1)])
theorem T_X11_trouble : zT M_X11_trouble := zT_of (by decide +kernel)
theorem F_X11_trouble : zMV M_X11_trouble 0 := ⟨⟨zTT_in (i := 2015) (by decide +kernel) rfl, zTT_in (i := 147) (by decide +kernel) rfl, ⟨by decide, by decide, by decide +kernel⟩, by decide⟩, zTT_in (i := 2013) (by decide +kernel) rfl, zTT_in (i := 2014) (by decide +kernel) rfl⟩
def M_J6_bitCount : zM := (⟨"java/lang/Intege\x72", "bitCount", "(I)I"⟩, prog_18_method_49_code, 1, (some .int), [(0, .iload_n 0, 1), (1, .iload_n 0, 1), (2, .iconst 1, 1), (3, .iushr, 1), (4, .ldc_w 265, 3), (7, .iand, 1), (8, .isub, 1), (9, .istore_n 0, 1), (10, .iload_n 0, 1), (11, .ldc_w 266, 3), (14, .iand, 1), (15, .iload_n 0, 1), (16, .iconst 2, 1), (17, .iushr, 1), (18, .ldc_w 266, 3), (21, .iand, 1), (22, .iadd, 1), (23, .istore_n 0, 1), (24, .iload_n 0, 1), (25, .iload_n 0, 1), (26, .iconst 4, 1), (27, .iushr, 1), (28, .iadd, 1), (29, .ldc_w 267, 3), (32, .iand, 1), (33, .istore_n 0, 1), (34, .iload_n 0, 1), (35, .iload_n 0, 1), (36, .bipush 8, 2), (38, .iushr, 1), (39, .iadd, 1), (40, .istore_n 0, 1), (41, .iload_n 0, 1), (42, .iload_n 0, 1), (43, .bipush 16, 2), (45, .iushr, 1), (46, .iadd, 1), (47, .istore_n 0, 1), (48, .iload_n 0, 1), (49, .bipush 63, 2), (51, .iand, 1), (52, .ireturn, 1)])
theorem T_J6_bitCount : zT M_J6_bitCount := zT_of (by decide +kernel)
theorem F_J6_bitCount : zMS M_J6_bitCount 1 := ⟨⟨zTT_in (i := 897) (by decide +kernel) rfl, zTT_in (i := 152) (by decide +kernel) rfl, ⟨by decide, by decide, by decide +kernel⟩, by decide⟩, zTT_in (i := 896) (by decide +kernel) rfl⟩
def M_J9_max : zM := (⟨"java/lang/Math", "max", "(II)I"⟩, prog_19_method_65_code, 2, (some .int), [(0, .iload_n 0, 1), (1, .iload_n 1, 1), (2, .if_icmp .lt 7, 3), (5, .iload_n 0, 1), (6, .goto 4, 3), (9, .iload_n 1, 1), (10, .ireturn, 1)])
theorem T_J9_max : zT M_J9_max := zT_of (by decide +kernel)
theorem F_J9_max : zMS M_J9_max 2 := ⟨⟨zTT_in (i := 1114) (by decide +kernel) rfl, zTT_in (i := 154) (by decide +kernel) rfl, ⟨by decide, by decide, by decide +kernel⟩, by decide⟩, zTT_in (i := 1113) (by decide +kernel) rfl⟩
def M_J7_fill : zM := (⟨"java/util/Arrays", "fill", "([II)V"⟩, prog_27_method_103_code, 4, none, [(0, .iconst 0, 1), (1, .istore_n 2, 1), (2, .aload_n 0, 1), (3, .arraylength, 1), (4, .istore_n 3, 1), (5, .iload_n 2, 1), (6, .iload_n 3, 1), (7, .if_icmp .ge 13, 3), (10, .aload_n 0, 1), (11, .iload_n 2, 1), (12, .iload_n 1, 1), (13, .iastore, 1), (14, .iinc 2 1, 3), (17, .goto (-12), 3), (20, .return_, 1)])
theorem T_J7_fill : zT M_J7_fill := zT_of (by decide +kernel)
theorem F_J7_fill : zMS M_J7_fill 2 := ⟨⟨zTT_in (i := 1059) (by decide +kernel) rfl, zTT_in (i := 153) (by decide +kernel) rfl, ⟨by decide, by decide, by decide +kernel⟩, by decide⟩, zTT_in (i := 1058) (by decide +kernel) rfl⟩
end
section
theorem zl_X10_78 : Cond.methodLink RX10 78 M_X9_append.1 ∈ zTT := zTT_in (i := 546) (by decide +kernel) rfl
theorem zl_X10_82 : Cond.methodLink RX10 82 M_X10_refuse.1 ∈ zTT := zTT_in (i := 554) (by decide +kernel) rfl
theorem zl_X10_86 : Cond.methodLink RX10 86 M_X8_readFirst.1 ∈ zTT := zTT_in (i := 558) (by decide +kernel) rfl
theorem zl_X10_100 : Cond.methodLink RX10 100 M_X6_copyFrom.1 ∈ zTT := zTT_in (i := 773) (by decide +kernel) rfl
theorem zl_X10_104 : Cond.methodLink RX10 104 M_X5_arrange.1 ∈ zTT := zTT_in (i := 777) (by decide +kernel) rfl
theorem zl_X10_121 : Cond.methodLink RX10 121 M_X10_grant.1 ∈ zTT := zTT_in (i := 781) (by decide +kernel) rfl
theorem zl_X10_127 : Cond.methodLink RX10 127 M_X10_isPlace.1 ∈ zTT := zTT_in (i := 797) (by decide +kernel) rfl
theorem zl_X10_138 : Cond.methodLink RX10 138 M_X10_roomAt.1 ∈ zTT := zTT_in (i := 801) (by decide +kernel) rfl
theorem zl_X10_144 : Cond.methodLink RX10 144 M_X6_linesAt.1 ∈ zTT := zTT_in (i := 806) (by decide +kernel) rfl
theorem zl_X10_150 : Cond.methodLink RX10 150 M_X10_isHand.1 ∈ zTT := zTT_in (i := 814) (by decide +kernel) rfl
theorem zl_X10_156 : Cond.methodLink RX10 156 M_X6_linesBy.1 ∈ zTT := zTT_in (i := 818) (by decide +kernel) rfl
theorem zl_X10_159 : Cond.methodLink RX10 159 M_X10_ruledBy.1 ∈ zTT := zTT_in (i := 822) (by decide +kernel) rfl
theorem zl_X10_162 : Cond.methodLink RX10 162 M_X10_isLine.1 ∈ zTT := zTT_in (i := 850) (by decide +kernel) rfl
theorem zl_X10_181 : Cond.methodLink RX10 181 M_X6_read.1 ∈ zTT := zTT_in (i := 826) (by decide +kernel) rfl
theorem zl_X10_185 : Cond.methodLink RX10 185 M_X10_beaters.1 ∈ zTT := zTT_in (i := 854) (by decide +kernel) rfl
theorem zl_X10_188 : Cond.methodLink RX10 188 M_X10_isMatter.1 ∈ zTT := zTT_in (i := 862) (by decide +kernel) rfl
theorem zl_X10_191 : Cond.methodLink RX10 191 M_X10_verdict.1 ∈ zTT := zTT_in (i := 866) (by decide +kernel) rfl
theorem zl_X10_195 : Cond.methodLink RX10 195 M_X10_standing.1 ∈ zTT := zTT_in (i := 830) (by decide +kernel) rfl
theorem zl_X10_198 : Cond.methodLink RX10 198 M_X10_noLetter.1 ∈ zTT := zTT_in (i := 887) (by decide +kernel) rfl
theorem zl_X10_208 : Cond.methodLink RX10 208 M_J6_bitCount.1 ∈ zTT := zTT_in (i := 895) (by decide +kernel) rfl
theorem zl_X10_213 : Cond.methodLink RX10 213 M_X10_turnedWithout.1 ∈ zTT := zTT_in (i := 905) (by decide +kernel) rfl
theorem zl_X10_217 : Cond.methodLink RX10 217 M_X10_verdictOfFirst.1 ∈ zTT := zTT_in (i := 913) (by decide +kernel) rfl
theorem zl_X10_220 : Cond.methodLink RX10 220 M_X10_leastTurn.1 ∈ zTT := zTT_in (i := 933) (by decide +kernel) rfl
theorem zl_X10_223 : Cond.methodLink RX10 223 M_X6_placesOf.1 ∈ zTT := zTT_in (i := 834) (by decide +kernel) rfl
theorem zl_X10_226 : Cond.methodLink RX10 226 M_X10_openPlaces.1 ∈ zTT := zTT_in (i := 949) (by decide +kernel) rfl
theorem zl_X10_229 : Cond.methodLink RX10 229 M_X5_unbeaten.1 ∈ zTT := zTT_in (i := 838) (by decide +kernel) rfl
theorem zl_X10_232 : Cond.methodLink RX10 232 M_X6_dosOf.1 ∈ zTT := zTT_in (i := 870) (by decide +kernel) rfl
theorem zl_X10_235 : Cond.methodLink RX10 235 M_X5_outcome.1 ∈ zTT := zTT_in (i := 874) (by decide +kernel) rfl
theorem zl_X10_238 : Cond.methodLink RX10 238 M_X10_setDuelRooms.1 ∈ zTT := zTT_in (i := 961) (by decide +kernel) rfl
theorem zl_X10_245 : Cond.methodLink RX10 245 M_X1_firstMove.1 ∈ zTT := zTT_in (i := 979) (by decide +kernel) rfl
theorem zl_X10_249 : Cond.methodLink RX10 249 M_X5_secondOfRing.1 ∈ zTT := zTT_in (i := 991) (by decide +kernel) rfl
theorem zl_X10_252 : Cond.methodLink RX10 252 M_X5_thirdOfRing.1 ∈ zTT := zTT_in (i := 1003) (by decide +kernel) rfl
theorem zl_X10_258 : Cond.methodLink RX10 258 M_X5_hasRing.1 ∈ zTT := zTT_in (i := 1008) (by decide +kernel) rfl
theorem zl_X10_261 : Cond.methodLink RX10 261 M_X10_bestBids.1 ∈ zTT := zTT_in (i := 1021) (by decide +kernel) rfl
theorem zl_X10_268 : Cond.methodLink RX10 268 M_X0_paysOf.1 ∈ zTT := zTT_in (i := 1025) (by decide +kernel) rfl
theorem zl_X10_274 : Cond.methodLink RX10 274 M_X2_find.1 ∈ zTT := zTT_in (i := 1053) (by decide +kernel) rfl
theorem zl_X10_279 : Cond.methodLink RX10 279 M_X10_isHidden.1 ∈ zTT := zTT_in (i := 1088) (by decide +kernel) rfl
theorem zl_X10_282 : Cond.methodLink RX10 282 M_X2_saying.1 ∈ zTT := zTT_in (i := 1092) (by decide +kernel) rfl
theorem zl_X10_288 : Cond.methodLink RX10 288 M_X2_lineToAsk.1 ∈ zTT := zTT_in (i := 1104) (by decide +kernel) rfl
theorem zl_X10_291 : Cond.methodLink RX10 291 M_X2_mostLeft.1 ∈ zTT := zTT_in (i := 1119) (by decide +kernel) rfl
theorem zl_X10_297 : Cond.methodLink RX10 297 M_X10_isInk.1 ∈ zTT := zTT_in (i := 1128) (by decide +kernel) rfl
theorem zl_X10_300 : Cond.methodLink RX10 300 M_X10_footOf.1 ∈ zTT := zTT_in (i := 1131) (by decide +kernel) rfl
theorem zl_X10_304 : Cond.methodLink RX10 304 M_X10_isRest.1 ∈ zTT := zTT_in (i := 1138) (by decide +kernel) rfl
theorem zl_X10_308 : Cond.methodLink RX10 308 M_X10_chance.1 ∈ zTT := zTT_in (i := 1149) (by decide +kernel) rfl
theorem zl_X10_314 : Cond.methodLink RX10 314 M_X10_countRead.1 ∈ zTT := zTT_in (i := 1157) (by decide +kernel) rfl
theorem zl_X10_317 : Cond.methodLink RX10 317 M_X10_raised.1 ∈ zTT := zTT_in (i := 1153) (by decide +kernel) rfl
theorem zl_X10_321 : Cond.methodLink RX10 321 M_X10_partOf.1 ∈ zTT := zTT_in (i := 1161) (by decide +kernel) rfl
theorem zl_X10_325 : Cond.methodLink RX10 325 M_X10_isThumbs.1 ∈ zTT := zTT_in (i := 1177) (by decide +kernel) rfl
theorem zl_X10_329 : Cond.methodLink RX10 329 M_X10_smudge.1 ∈ zTT := zTT_in (i := 1181) (by decide +kernel) rfl
theorem zl_X10_332 : Cond.methodLink RX10 332 M_X6_add.1 ∈ zTT := zTT_in (i := 1193) (by decide +kernel) rfl
theorem zl_X10_336 : Cond.methodLink RX10 336 M_X7_keep.1 ∈ zTT := zTT_in (i := 1194) (by decide +kernel) rfl
theorem zl_X10_359 : Cond.methodLink RX10 359 M_X6_inchesAt.1 ∈ zTT := zTT_in (i := 805) (by decide +kernel) rfl
theorem zl_X10_362 : Cond.methodLink RX10 362 M_X6_latestAt.1 ∈ zTT := zTT_in (i := 842) (by decide +kernel) rfl
theorem zl_X10_366 : Cond.methodLink RX10 366 M_X6_linesOf.1 ∈ zTT := zTT_in (i := 937) (by decide +kernel) rfl
theorem zl_X10_372 : Cond.methodLink RX10 372 M_X10_canTake.1 ∈ zTT := zTT_in (i := 1029) (by decide +kernel) rfl
theorem zl_X10_375 : Cond.methodLink RX10 375 M_X0_inchesAt.1 ∈ zTT := zTT_in (i := 1033) (by decide +kernel) rfl
theorem zl_X10_377 : Cond.methodLink RX10 377 M_X0_paysBy.1 ∈ zTT := zTT_in (i := 1037) (by decide +kernel) rfl
theorem zl_X1_15 : Cond.methodLink RX1 15 M_X5_outcome.1 ∈ zTT := zTT_in (i := 969) (by decide +kernel) rfl
theorem zl_X1_21 : Cond.methodLink RX1 21 M_X1_wonByOne.1 ∈ zTT := zTT_in (i := 970) (by decide +kernel) rfl
theorem zl_X1_25 : Cond.methodLink RX1 25 M_X1_wonBehind.1 ∈ zTT := zTT_in (i := 971) (by decide +kernel) rfl
theorem zl_X2_52 : Cond.methodLink RX2 52 M_J7_fill.1 ∈ zTT := zTT_in (i := 1057) (by decide +kernel) rfl
theorem zl_X2_62 : Cond.methodLink RX2 62 M_X6_read.1 ∈ zTT := zTT_in (i := 1060) (by decide +kernel) rfl
theorem zl_X2_68 : Cond.methodLink RX2 68 M_X6_placesOf.1 ∈ zTT := zTT_in (i := 1061) (by decide +kernel) rfl
theorem zl_X2_72 : Cond.methodLink RX2 72 M_X6_dosOf.1 ∈ zTT := zTT_in (i := 1062) (by decide +kernel) rfl
theorem zl_X2_75 : Cond.methodLink RX2 75 M_X2_stepOf.1 ∈ zTT := zTT_in (i := 1063) (by decide +kernel) rfl
theorem zl_X2_79 : Cond.methodLink RX2 79 M_X2_fill.1 ∈ zTT := zTT_in (i := 1067) (by decide +kernel) rfl
theorem zl_X2_82 : Cond.methodLink RX2 82 M_X2_isAsTold.1 ∈ zTT := zTT_in (i := 1075) (by decide +kernel) rfl
theorem zl_X2_86 : Cond.methodLink RX2 86 M_X2_keep.1 ∈ zTT := zTT_in (i := 1080) (by decide +kernel) rfl
theorem zl_X2_90 : Cond.methodLink RX2 90 M_X2_digit.1 ∈ zTT := zTT_in (i := 1071) (by decide +kernel) rfl
theorem zl_X2_99 : Cond.methodLink RX2 99 M_X5_outcome.1 ∈ zTT := zTT_in (i := 1079) (by decide +kernel) rfl
theorem zl_X2_104 : Cond.methodLink RX2 104 M_J9_max.1 ∈ zTT := zTT_in (i := 1112) (by decide +kernel) rfl
theorem zl_X2_109 : Cond.methodLink RX2 109 M_X2_mostLeft.1 ∈ zTT := zTT_in (i := 1108) (by decide +kernel) rfl
theorem zl_X3_47 : Cond.methodLink RX3 47 M_X6_empty.1 ∈ zTT := zTT_in (i := 566) (by decide +kernel) rfl
theorem zl_X4_28 : Cond.methodLink RX4 28 M_X9_isSame.1 ∈ zTT := zTT_in (i := 701) (by decide +kernel) rfl
theorem zl_X5_36 : Cond.methodLink RX5 36 M_X5_unbeaten.1 ∈ zTT := zTT_in (i := 878) (by decide +kernel) rfl
theorem zl_X5_40 : Cond.methodLink RX5 40 M_X5_thirdOfRing.1 ∈ zTT := zTT_in (i := 995) (by decide +kernel) rfl
theorem zl_X5_44 : Cond.methodLink RX5 44 M_X5_secondOfRing.1 ∈ zTT := zTT_in (i := 1012) (by decide +kernel) rfl
theorem zl_X8_32 : Cond.methodLink RX8 32 M_X3_empty.1 ∈ zTT := zTT_in (i := 562) (by decide +kernel) rfl
theorem zl_X8_45 : Cond.methodLink RX8 45 M_X9_start.1 ∈ zTT := zTT_in (i := 570) (by decide +kernel) rfl
theorem zl_X8_49 : Cond.methodLink RX8 49 M_X8_readHead.1 ∈ zTT := zTT_in (i := 594) (by decide +kernel) rfl
theorem zl_X8_56 : Cond.methodLink RX8 56 M_X9_next.1 ∈ zTT := zTT_in (i := 671) (by decide +kernel) rfl
theorem zl_X8_59 : Cond.methodLink RX8 59 M_X8_readLine.1 ∈ zTT := zTT_in (i := 685) (by decide +kernel) rfl
theorem zl_X8_62 : Cond.methodLink RX8 62 M_X8_blame.1 ∈ zTT := zTT_in (i := 663) (by decide +kernel) rfl
theorem zl_X8_72 : Cond.methodLink RX8 72 M_X8_blameAt.1 ∈ zTT := zTT_in (i := 667) (by decide +kernel) rfl
theorem zl_X8_78 : Cond.methodLink RX8 78 M_X9_isWord.1 ∈ zTT := zTT_in (i := 603) (by decide +kernel) rfl
theorem zl_X8_98 : Cond.methodLink RX8 98 M_X8_lineWord.1 ∈ zTT := zTT_in (i := 598) (by decide +kernel) rfl
theorem zl_X8_104 : Cond.methodLink RX8 104 M_X8_passWord.1 ∈ zTT := zTT_in (i := 673) (by decide +kernel) rfl
theorem zl_X8_107 : Cond.methodLink RX8 107 M_X8_isWhole.1 ∈ zTT := zTT_in (i := 677) (by decide +kernel) rfl
theorem zl_X8_110 : Cond.methodLink RX8 110 M_X8_passNumber.1 ∈ zTT := zTT_in (i := 681) (by decide +kernel) rfl
theorem zl_X8_115 : Cond.methodLink RX8 115 M_X8_readPlace.1 ∈ zTT := zTT_in (i := 689) (by decide +kernel) rfl
theorem zl_X8_118 : Cond.methodLink RX8 118 M_X8_readOver.1 ∈ zTT := zTT_in (i := 715) (by decide +kernel) rfl
theorem zl_X8_121 : Cond.methodLink RX8 121 M_X8_readHand.1 ∈ zTT := zTT_in (i := 727) (by decide +kernel) rfl
theorem zl_X8_124 : Cond.methodLink RX8 124 M_X8_readMatter.1 ∈ zTT := zTT_in (i := 732) (by decide +kernel) rfl
theorem zl_X8_127 : Cond.methodLink RX8 127 M_X8_readWrote.1 ∈ zTT := zTT_in (i := 736) (by decide +kernel) rfl
theorem zl_X8_130 : Cond.methodLink RX8 130 M_X8_readHidden.1 ∈ zTT := zTT_in (i := 755) (by decide +kernel) rfl
theorem zl_X8_133 : Cond.methodLink RX8 133 M_X8_readDone.1 ∈ zTT := zTT_in (i := 759) (by decide +kernel) rfl
theorem zl_X8_136 : Cond.methodLink RX8 136 M_X8_readBid.1 ∈ zTT := zTT_in (i := 764) (by decide +kernel) rfl
theorem zl_X8_139 : Cond.methodLink RX8 139 M_X8_passNewName.1 ∈ zTT := zTT_in (i := 693) (by decide +kernel) rfl
theorem zl_X8_147 : Cond.methodLink RX8 147 M_X3_hasRank.1 ∈ zTT := zTT_in (i := 710) (by decide +kernel) rfl
theorem zl_X8_161 : Cond.methodLink RX8 161 M_X8_passName.1 ∈ zTT := zTT_in (i := 719) (by decide +kernel) rfl
theorem zl_X8_165 : Cond.methodLink RX8 165 M_X3_hasOver.1 ∈ zTT := zTT_in (i := 723) (by decide +kernel) rfl
theorem zl_X8_194 : Cond.methodLink RX8 194 M_X8_sayAtHand.1 ∈ zTT := zTT_in (i := 740) (by decide +kernel) rfl
theorem zl_X8_198 : Cond.methodLink RX8 198 M_X6_inchesAt.1 ∈ zTT := zTT_in (i := 747) (by decide +kernel) rfl
theorem zl_X8_201 : Cond.methodLink RX8 201 M_X6_add.1 ∈ zTT := zTT_in (i := 751) (by decide +kernel) rfl
theorem zl_X8_224 : Cond.methodLink RX8 224 M_X0_add.1 ∈ zTT := zTT_in (i := 769) (by decide +kernel) rfl
theorem zl_X8_231 : Cond.methodLink RX8 231 M_X4_indexOf.1 ∈ zTT := zTT_in (i := 697) (by decide +kernel) rfl
theorem zl_X8_235 : Cond.methodLink RX8 235 M_X4_add.1 ∈ zTT := zTT_in (i := 705) (by decide +kernel) rfl
theorem zl_X9_25 : Cond.methodLink RX9 25 M_X9_next.1 ∈ zTT := zTT_in (i := 574) (by decide +kernel) rfl
theorem zl_X9_34 : Cond.methodLink RX9 34 M_X9_isSmall.1 ∈ zTT := zTT_in (i := 578) (by decide +kernel) rfl
theorem zl_X9_38 : Cond.methodLink RX9 38 M_X9_readWord.1 ∈ zTT := zTT_in (i := 582) (by decide +kernel) rfl
theorem zl_X9_41 : Cond.methodLink RX9 41 M_X9_isDigit.1 ∈ zTT := zTT_in (i := 586) (by decide +kernel) rfl
theorem zl_X9_44 : Cond.methodLink RX9 44 M_X9_readWhole.1 ∈ zTT := zTT_in (i := 590) (by decide +kernel) rfl
theorem zl_X11_80 : Cond.methodLink RX11 80 M_X11_see.1 ∈ zTT := zTT_in (i := 1449) (by decide +kernel) rfl
theorem zl_X11_96 : Cond.methodLink RX11 96 M_X11_isSmall.1 ∈ zTT := zTT_in (i := 1453) (by decide +kernel) rfl
theorem zl_X11_100 : Cond.methodLink RX11 100 M_X11_isDigit.1 ∈ zTT := zTT_in (i := 1456) (by decide +kernel) rfl
theorem zl_X11_120 : Cond.methodLink RX11 120 M_X11_isWord.1 ∈ zTT := zTT_in (i := 1464) (by decide +kernel) rfl
theorem zl_X11_124 : Cond.methodLink RX11 124 M_X11_next.1 ∈ zTT := zTT_in (i := 1445) (by decide +kernel) rfl
theorem zl_X11_127 : Cond.methodLink RX11 127 M_X11_takesWord.1 ∈ zTT := zTT_in (i := 1487) (by decide +kernel) rfl
theorem zl_X11_130 : Cond.methodLink RX11 130 M_X11_wrong.1 ∈ zTT := zTT_in (i := 1474) (by decide +kernel) rfl
theorem zl_X11_151 : Cond.methodLink RX11 151 M_X11_mustName.1 ∈ zTT := zTT_in (i := 1516) (by decide +kernel) rfl
theorem zl_X11_154 : Cond.methodLink RX11 154 M_X11_find.1 ∈ zTT := zTT_in (i := 1527) (by decide +kernel) rfl
theorem zl_X11_157 : Cond.methodLink RX11 157 M_X11_in.1 ∈ zTT := zTT_in (i := 1438) (by decide +kernel) rfl
theorem zl_X11_161 : Cond.methodLink RX11 161 M_X11_named.1 ∈ zTT := zTT_in (i := 1541) (by decide +kernel) rfl
theorem zl_X11_165 : Cond.methodLink RX11 165 M_X11_pass.1 ∈ zTT := zTT_in (i := 1499) (by decide +kernel) rfl
theorem zl_X11_168 : Cond.methodLink RX11 168 M_X11_numberHere.1 ∈ zTT := zTT_in (i := 1495) (by decide +kernel) rfl
theorem zl_X11_171 : Cond.methodLink RX11 171 M_X11_must.1 ∈ zTT := zTT_in (i := 1483) (by decide +kernel) rfl
theorem zl_X11_175 : Cond.methodLink RX11 175 M_X11_number.1 ∈ zTT := zTT_in (i := 1491) (by decide +kernel) rfl
theorem zl_X11_178 : Cond.methodLink RX11 178 M_X11_good.1 ∈ zTT := zTT_in (i := 1434) (by decide +kernel) rfl
theorem zl_X11_181 : Cond.methodLink RX11 181 M_X11_no.1 ∈ zTT := zTT_in (i := 1441) (by decide +kernel) rfl
theorem zl_X11_184 : Cond.methodLink RX11 184 M_X11_readLine.1 ∈ zTT := zTT_in (i := 1459) (by decide +kernel) rfl
theorem zl_X11_187 : Cond.methodLink RX11 187 M_X11_copy.1 ∈ zTT := zTT_in (i := 1590) (by decide +kernel) rfl
theorem zl_X11_200 : Cond.methodLink RX11 200 M_X11_letterLine.1 ∈ zTT := zTT_in (i := 1470) (by decide +kernel) rfl
theorem zl_X11_203 : Cond.methodLink RX11 203 M_X11_begins.1 ∈ zTT := zTT_in (i := 1504) (by decide +kernel) rfl
theorem zl_X11_207 : Cond.methodLink RX11 207 M_X11_placeLine.1 ∈ zTT := zTT_in (i := 1508) (by decide +kernel) rfl
theorem zl_X11_210 : Cond.methodLink RX11 210 M_X11_overLine.1 ∈ zTT := zTT_in (i := 1533) (by decide +kernel) rfl
theorem zl_X11_213 : Cond.methodLink RX11 213 M_X11_handLine.1 ∈ zTT := zTT_in (i := 1545) (by decide +kernel) rfl
theorem zl_X11_216 : Cond.methodLink RX11 216 M_X11_matterLine.1 ∈ zTT := zTT_in (i := 1550) (by decide +kernel) rfl
theorem zl_X11_219 : Cond.methodLink RX11 219 M_X11_wroteLine.1 ∈ zTT := zTT_in (i := 1554) (by decide +kernel) rfl
theorem zl_X11_222 : Cond.methodLink RX11 222 M_X11_hiddenLine.1 ∈ zTT := zTT_in (i := 1576) (by decide +kernel) rfl
theorem zl_X11_225 : Cond.methodLink RX11 225 M_X11_doneLine.1 ∈ zTT := zTT_in (i := 1580) (by decide +kernel) rfl
theorem zl_X11_228 : Cond.methodLink RX11 228 M_X11_bidLine.1 ∈ zTT := zTT_in (i := 1585) (by decide +kernel) rfl
theorem zl_X11_233 : Cond.methodLink RX11 233 M_X11_after.1 ∈ zTT := zTT_in (i := 1479) (by decide +kernel) rfl
theorem zl_X11_237 : Cond.methodLink RX11 237 M_X11_newName.1 ∈ zTT := zTT_in (i := 1512) (by decide +kernel) rfl
theorem zl_X11_245 : Cond.methodLink RX11 245 M_X11_placePassed.1 ∈ zTT := zTT_in (i := 1537) (by decide +kernel) rfl
theorem zl_X11_254 : Cond.methodLink RX11 254 M_X11_handPassed.1 ∈ zTT := zTT_in (i := 1558) (by decide +kernel) rfl
theorem zl_X11_257 : Cond.methodLink RX11 257 M_X11_say.1 ∈ zTT := zTT_in (i := 1562) (by decide +kernel) rfl
theorem zl_X11_262 : Cond.methodLink RX11 262 M_X11_roomOn.1 ∈ zTT := zTT_in (i := 1569) (by decide +kernel) rfl
theorem zl_X11_266 : Cond.methodLink RX11 266 M_X11_lay.1 ∈ zTT := zTT_in (i := 1573) (by decide +kernel) rfl
theorem zl_X11_277 : Cond.methodLink RX11 277 M_X11_hasBit.1 ∈ zTT := zTT_in (i := 1617) (by decide +kernel) rfl
theorem zl_X11_284 : Cond.methodLink RX11 284 M_X11_isRead.1 ∈ zTT := zTT_in (i := 1644) (by decide +kernel) rfl
theorem zl_X11_288 : Cond.methodLink RX11 288 M_X11_add.1 ∈ zTT := zTT_in (i := 1647) (by decide +kernel) rfl
theorem zl_X11_292 : Cond.methodLink RX11 292 M_X11_doesOutrank.1 ∈ zTT := zTT_in (i := 1613) (by decide +kernel) rfl
theorem zl_X11_295 : Cond.methodLink RX11 295 M_X11_doesBeat.1 ∈ zTT := zTT_in (i := 1655) (by decide +kernel) rfl
theorem zl_X11_298 : Cond.methodLink RX11 298 M_X11_unbeaten.1 ∈ zTT := zTT_in (i := 1651) (by decide +kernel) rfl
theorem zl_X11_301 : Cond.methodLink RX11 301 M_X11_layList.1 ∈ zTT := zTT_in (i := 1640) (by decide +kernel) rfl
theorem zl_X11_305 : Cond.methodLink RX11 305 M_X11_listDone.1 ∈ zTT := zTT_in (i := 1687) (by decide +kernel) rfl
theorem zl_X11_308 : Cond.methodLink RX11 308 M_X11_doneOf.1 ∈ zTT := zTT_in (i := 1683) (by decide +kernel) rfl
theorem zl_X11_312 : Cond.methodLink RX11 312 M_X11_isPlace.1 ∈ zTT := zTT_in (i := 1605) (by decide +kernel) rfl
theorem zl_X11_315 : Cond.methodLink RX11 315 M_X11_outrankedBy.1 ∈ zTT := zTT_in (i := 1609) (by decide +kernel) rfl
theorem zl_X11_318 : Cond.methodLink RX11 318 M_X11_linesAt.1 ∈ zTT := zTT_in (i := 1620) (by decide +kernel) rfl
theorem zl_X11_321 : Cond.methodLink RX11 321 M_X11_standsOf.1 ∈ zTT := zTT_in (i := 1636) (by decide +kernel) rfl
theorem zl_X11_324 : Cond.methodLink RX11 324 M_X11_linesOf.1 ∈ zTT := zTT_in (i := 1628) (by decide +kernel) rfl
theorem zl_X11_327 : Cond.methodLink RX11 327 M_X11_ruledBy.1 ∈ zTT := zTT_in (i := 1632) (by decide +kernel) rfl
theorem zl_X11_330 : Cond.methodLink RX11 330 M_X11_isLine.1 ∈ zTT := zTT_in (i := 1663) (by decide +kernel) rfl
theorem zl_X11_333 : Cond.methodLink RX11 333 M_X11_beatersOf.1 ∈ zTT := zTT_in (i := 1667) (by decide +kernel) rfl
theorem zl_X11_336 : Cond.methodLink RX11 336 M_X11_isMatter.1 ∈ zTT := zTT_in (i := 1675) (by decide +kernel) rfl
theorem zl_X11_339 : Cond.methodLink RX11 339 M_X11_doneNow.1 ∈ zTT := zTT_in (i := 1679) (by decide +kernel) rfl
theorem zl_X11_342 : Cond.methodLink RX11 342 M_X11_ones.1 ∈ zTT := zTT_in (i := 1703) (by decide +kernel) rfl
theorem zl_X11_345 : Cond.methodLink RX11 345 M_X11_changedWithout.1 ∈ zTT := zTT_in (i := 1710) (by decide +kernel) rfl
theorem zl_X11_348 : Cond.methodLink RX11 348 M_X11_why.1 ∈ zTT := zTT_in (i := 1718) (by decide +kernel) rfl
theorem zl_X11_352 : Cond.methodLink RX11 352 M_X11_allRead.1 ∈ zTT := zTT_in (i := 1742) (by decide +kernel) rfl
theorem zl_X11_355 : Cond.methodLink RX11 355 M_X11_turnOf.1 ∈ zTT := zTT_in (i := 1738) (by decide +kernel) rfl
theorem zl_X11_361 : Cond.methodLink RX11 361 M_X11_roomNow.1 ∈ zTT := zTT_in (i := 1762) (by decide +kernel) rfl
theorem zl_X11_364 : Cond.methodLink RX11 364 M_X11_canWrite.1 ∈ zTT := zTT_in (i := 1758) (by decide +kernel) rfl
theorem zl_X11_367 : Cond.methodLink RX11 367 M_X11_more.1 ∈ zTT := zTT_in (i := 1766) (by decide +kernel) rfl
theorem zl_X11_370 : Cond.methodLink RX11 370 M_X11_layMore.1 ∈ zTT := zTT_in (i := 1770) (by decide +kernel) rfl
theorem zl_X11_373 : Cond.methodLink RX11 373 M_X11_doesHold.1 ∈ zTT := zTT_in (i := 1754) (by decide +kernel) rfl
theorem zl_X11_376 : Cond.methodLink RX11 376 M_X11_doesWin.1 ∈ zTT := zTT_in (i := 1786) (by decide +kernel) rfl
theorem zl_X11_382 : Cond.methodLink RX11 382 M_X11_playOf.1 ∈ zTT := zTT_in (i := 1782) (by decide +kernel) rfl
theorem zl_X11_388 : Cond.methodLink RX11 388 M_X11_tryRing.1 ∈ zTT := zTT_in (i := 1807) (by decide +kernel) rfl
theorem zl_X11_392 : Cond.methodLink RX11 392 M_X11_seekRing.1 ∈ zTT := zTT_in (i := 1802) (by decide +kernel) rfl
theorem zl_X11_395 : Cond.methodLink RX11 395 M_X11_hasRing.1 ∈ zTT := zTT_in (i := 1819) (by decide +kernel) rfl
theorem zl_X11_399 : Cond.methodLink RX11 399 M_X11_paysOf.1 ∈ zTT := zTT_in (i := 1835) (by decide +kernel) rfl
theorem zl_X11_402 : Cond.methodLink RX11 402 M_X11_canTake.1 ∈ zTT := zTT_in (i := 1839) (by decide +kernel) rfl
theorem zl_X11_405 : Cond.methodLink RX11 405 M_X11_takenOf.1 ∈ zTT := zTT_in (i := 1831) (by decide +kernel) rfl
theorem zl_X11_408 : Cond.methodLink RX11 408 M_X11_choicesOf.1 ∈ zTT := zTT_in (i := 1863) (by decide +kernel) rfl
theorem zl_X11_411 : Cond.methodLink RX11 411 M_X11_choiceOf.1 ∈ zTT := zTT_in (i := 1875) (by decide +kernel) rfl
theorem zl_X11_414 : Cond.methodLink RX11 414 M_X11_doneFilled.1 ∈ zTT := zTT_in (i := 1871) (by decide +kernel) rfl
theorem zl_X11_420 : Cond.methodLink RX11 420 M_X11_fillings.1 ∈ zTT := zTT_in (i := 1859) (by decide +kernel) rfl
theorem zl_X11_423 : Cond.methodLink RX11 423 M_X11_wrongBy.1 ∈ zTT := zTT_in (i := 1867) (by decide +kernel) rfl
theorem zl_X11_426 : Cond.methodLink RX11 426 M_X11_seekFits.1 ∈ zTT := zTT_in (i := 1855) (by decide +kernel) rfl
theorem zl_X11_429 : Cond.methodLink RX11 429 M_X11_isHidden.1 ∈ zTT := zTT_in (i := 1883) (by decide +kernel) rfl
theorem zl_X11_432 : Cond.methodLink RX11 432 M_X11_leavesOf.1 ∈ zTT := zTT_in (i := 1899) (by decide +kernel) rfl
theorem zl_X11_435 : Cond.methodLink RX11 435 M_X11_askOf.1 ∈ zTT := zTT_in (i := 1895) (by decide +kernel) rfl
theorem zl_X11_438 : Cond.methodLink RX11 438 M_X11_footOf.1 ∈ zTT := zTT_in (i := 1915) (by decide +kernel) rfl
theorem zl_X11_445 : Cond.methodLink RX11 445 M_X11_seekRests.1 ∈ zTT := zTT_in (i := 1922) (by decide +kernel) rfl
theorem zl_X11_450 : Cond.methodLink RX11 450 M_X11_weightOf.1 ∈ zTT := zTT_in (i := 1938) (by decide +kernel) rfl
theorem zl_X11_454 : Cond.methodLink RX11 454 M_X11_doneWeight.1 ∈ zTT := zTT_in (i := 1934) (by decide +kernel) rfl
theorem zl_X11_457 : Cond.methodLink RX11 457 M_X11_allWeight.1 ∈ zTT := zTT_in (i := 1942) (by decide +kernel) rfl
theorem zl_X11_461 : Cond.methodLink RX11 461 M_X11_lowest.1 ∈ zTT := zTT_in (i := 1947) (by decide +kernel) rfl
theorem zl_X11_470 : Cond.methodLink RX11 470 M_X11_thumbWhy.1 ∈ zTT := zTT_in (i := 1962) (by decide +kernel) rfl
theorem zl_X11_474 : Cond.methodLink RX11 474 M_X11_note.1 ∈ zTT := zTT_in (i := 1976) (by decide +kernel) rfl
theorem zl_X11_477 : Cond.methodLink RX11 477 M_X11_isNot.1 ∈ zTT := zTT_in (i := 1984) (by decide +kernel) rfl
end
section
theorem cb_m100 : (Int8.ofInt (-100)).toInt32 = -100 := by decide
theorem cb_m2 : (Int8.ofInt (-2)).toInt32 = -2 := by decide
theorem cb_6 : (Int8.ofInt (6)).toInt32 = 6 := by decide
theorem cb_7 : (Int8.ofInt (7)).toInt32 = 7 := by decide
theorem cb_8 : (Int8.ofInt (8)).toInt32 = 8 := by decide
theorem cb_9 : (Int8.ofInt (9)).toInt32 = 9 := by decide
theorem cb_10 : (Int8.ofInt (10)).toInt32 = 10 := by decide
theorem cb_11 : (Int8.ofInt (11)).toInt32 = 11 := by decide
theorem cb_12 : (Int8.ofInt (12)).toInt32 = 12 := by decide
theorem cb_13 : (Int8.ofInt (13)).toInt32 = 13 := by decide
theorem cb_14 : (Int8.ofInt (14)).toInt32 = 14 := by decide
theorem cb_15 : (Int8.ofInt (15)).toInt32 = 15 := by decide
theorem cb_16 : (Int8.ofInt (16)).toInt32 = 16 := by decide
theorem cb_20 : (Int8.ofInt (20)).toInt32 = 20 := by decide
theorem cb_22 : (Int8.ofInt (22)).toInt32 = 22 := by decide
theorem cb_24 : (Int8.ofInt (24)).toInt32 = 24 := by decide
theorem cb_27 : (Int8.ofInt (27)).toInt32 = 27 := by decide
theorem cb_32 : (Int8.ofInt (32)).toInt32 = 32 := by decide
theorem cb_34 : (Int8.ofInt (34)).toInt32 = 34 := by decide
theorem cb_38 : (Int8.ofInt (38)).toInt32 = 38 := by decide
theorem cb_41 : (Int8.ofInt (41)).toInt32 = 41 := by decide
theorem cb_45 : (Int8.ofInt (45)).toInt32 = 45 := by decide
theorem cb_48 : (Int8.ofInt (48)).toInt32 = 48 := by decide
theorem cb_49 : (Int8.ofInt (49)).toInt32 = 49 := by decide
theorem cb_50 : (Int8.ofInt (50)).toInt32 = 50 := by decide
theorem cb_57 : (Int8.ofInt (57)).toInt32 = 57 := by decide
theorem cb_59 : (Int8.ofInt (59)).toInt32 = 59 := by decide
theorem cb_60 : (Int8.ofInt (60)).toInt32 = 60 := by decide
theorem cb_63 : (Int8.ofInt (63)).toInt32 = 63 := by decide
theorem cb_69 : (Int8.ofInt (69)).toInt32 = 69 := by decide
theorem cb_74 : (Int8.ofInt (74)).toInt32 = 74 := by decide
theorem cb_75 : (Int8.ofInt (75)).toInt32 = 75 := by decide
theorem cb_83 : (Int8.ofInt (83)).toInt32 = 83 := by decide
theorem cb_97 : (Int8.ofInt (97)).toInt32 = 97 := by decide
theorem cb_99 : (Int8.ofInt (99)).toInt32 = 99 := by decide
theorem cb_100 : (Int8.ofInt (100)).toInt32 = 100 := by decide
theorem cb_122 : (Int8.ofInt (122)).toInt32 = 122 := by decide
theorem ci_m8 : Int32.ofInt (-8) = -8 := by decide
theorem ci_m1 : Int32.ofInt (-1) = -1 := by decide
theorem ci_0 : Int32.ofInt (0) = 0 := by decide
theorem ci_1 : Int32.ofInt (1) = 1 := by decide
theorem ci_2 : Int32.ofInt (2) = 2 := by decide
theorem ci_3 : Int32.ofInt (3) = 3 := by decide
theorem ci_4 : Int32.ofInt (4) = 4 := by decide
theorem ci_5 : Int32.ofInt (5) = 5 := by decide
theorem cl_0 : Int64.ofNat ((0 : Fin 2) : Nat) = 0 := by decide
theorem cl_1 : Int64.ofNat ((1 : Fin 2) : Nat) = 1 := by decide
theorem cs_195 : (Int16.ofInt (195)).toInt32 = 195 := by decide
theorem cs_200 : (Int16.ofInt (200)).toInt32 = 200 := by decide
theorem cs_255 : (Int16.ofInt (255)).toInt32 = 255 := by decide
theorem cs_729 : (Int16.ofInt (729)).toInt32 = 729 := by decide
theorem cs_730 : (Int16.ofInt (730)).toInt32 = 730 := by decide
theorem cs_750 : (Int16.ofInt (750)).toInt32 = 750 := by decide
theorem cs_900 : (Int16.ofInt (900)).toInt32 = 900 := by decide
theorem ct_0 : (0 : Int32).toInt = 0 := by decide
theorem ct_1 : (1 : Int32).toInt = 1 := by decide
theorem ct_2 : (2 : Int32).toInt = 2 := by decide
theorem ct_3 : (3 : Int32).toInt = 3 := by decide
theorem ct_4 : (4 : Int32).toInt = 4 := by decide
theorem ct_5 : (5 : Int32).toInt = 5 := by decide
theorem ct_6 : (6 : Int32).toInt = 6 := by decide
theorem ct_7 : (7 : Int32).toInt = 7 := by decide
theorem ct_8 : (8 : Int32).toInt = 8 := by decide
theorem ct_9 : (9 : Int32).toInt = 9 := by decide
theorem ct_10 : (10 : Int32).toInt = 10 := by decide
theorem ct_11 : (11 : Int32).toInt = 11 := by decide
def FU : Nat := 2000
def FUR : Nat := 9
end
section
def zgC : List (Nat × Nat) := [(10, 0), (8, 0), (9, 0), (101, 900), (4, 0), (100, 14), (100, 14), (100, 14), (100, 14), (3, 0), (100, 6), (100, 6), (100, 6), (100, 6), (100, 4), (100, 4), (100, 3), (6, 0), (100, 8), (100, 8), (100, 8), (100, 8), (100, 8), (0, 0), (100, 6), (100, 6), (100, 6), (100, 6), (5, 0), (100, 6), (5, 0), (100, 6), (6, 0), (100, 8), (100, 8), (100, 8), (100, 8), (100, 8), (103, 3), (6, 0), (100, 8), (100, 8), (100, 8), (100, 8), (100, 8), (6, 0), (100, 8), (100, 8), (100, 8), (100, 8), (100, 8), (6, 0), (100, 8), (100, 8), (100, 8), (100, 8), (100, 8), (7, 0), (100, 16), (100, 16), (2, 0), (100, 729), (100, 27), (100, 4), (100, 4), (100, 4), (100, 4), (1, 0), (100, 6), (3, 0), (100, 6), (100, 6), (100, 6), (100, 6), (100, 4), (100, 4), (100, 3), (6, 0), (100, 8), (100, 8), (100, 8), (100, 8), (100, 8), (0, 0), (100, 6), (100, 6), (100, 6), (100, 6)]
def zgM : List (Nat × Nat) := [(11, 0), (100, 900), (100, 8), (100, 195), (100, 195), (100, 50), (100, 50), (100, 50), (100, 800), (100, 150), (100, 12), (100, 12), (100, 12), (100, 5), (100, 5), (100, 6), (100, 6), (100, 27)]
/-- the cells of a PostScripts, of a PostScriptsModel -/
def WC : zW := (88, fun a => zgC.getD a (999, 0))
def WM : zW := (18, fun a => zgM.getD a (999, 0))
def zslen (a : Nat) : Int32 := Int32.ofNat (zlen.getD (a - 1000) 0)
def zsch (a : Nat) (i : Int32) : Int32 := (zbyt.getD (a - 1000) []).getD i.toNatClampNeg 0
theorem z_out1 {x : Int32} (n : Nat) (h : ∀ j, j < n → ¬ x = nI (j + 1)) (hn : n < 2 ^ 31 - 1) (hi : Int) (hh : hi = (n : Int)) : x.toInt < 1 ∨ hi < x.toInt := by
  subst hh
  rcases Int.lt_or_le x.toInt 1 with q | q
  · exact Or.inl q
  · refine Or.inr ?_
    rcases Int.lt_or_le (n : Int) x.toInt with z | z
    · exact z
    · exfalso
      refine h (x.toInt.toNat - 1) (by omega) (Int32.toInt_inj.mp ?_)
      rw [nI_toInt (by omega)]
      omega
theorem zl_X9_50 : Cond.methodLink RX9 50 ⟨"java/lang/String", "length", "()I"⟩ ∈ zTT := zTT_in (i := 607) (by decide +kernel) rfl
theorem zl_X9_56 : Cond.methodLink RX9 56 ⟨"java/lang/String", "charAt", "(I)C"⟩ ∈ zTT := zTT_in (i := 617) (by decide +kernel) rfl
theorem zl_X11_110 : Cond.methodLink RX11 110 ⟨"java/lang/String", "length", "()I"⟩ ∈ zTT := zTT_in (i := 1468) (by decide +kernel) rfl
theorem zl_X11_116 : Cond.methodLink RX11 116 ⟨"java/lang/String", "charAt", "(I)C"⟩ ∈ zTT := zTT_in (i := 1469) (by decide +kernel) rfl
section ZSTR
variable {X : zX} {w : zW} {R : Room} {M : zM} {ρ : Type} {Z : ρ → zS → zZt} {pc : Nat} {L : List (Option Value)} {st : List Value} {σ : zS} {k : Option (ρ × zS)}
theorem z_ldcwS0 {p : Program} {l : Launch} {e : Env} {R : Room} {s : State} {m : MethodId} {args : Array Value} {below : List Frame} {meth : Method} {c : Code} {T : State} {locs : List Loc} {cells slots : Nat}
    (X : Stand p l e R s m args below meth c T locs cells slots) (hexec : p.tables.exec = Jvm.exec) {own text : String} {index : Nat} {a : Addr} (hown : s.vm.findClass own = some m.cls)
    (hconst : (Cond.stringRef own index text).before #[] s = true) (hev : (Term.string own index).eval #[] s none [] s = some (.ref a)) {g : JFrame} (hg : g.method = m) (hdg : decode c.code g.pc = .ok (.ldc_w index, 3)) :
    ∀ target, Steps p.tables e below (T.setTop { g with pc := g.pc + 3, stack := .ref a :: g.stack }) target → Steps p.tables e below (T.setTop g) target := by
  obtain ⟨k, cf, i, a', hk, hcf, hcp, -, hr, hev'⟩ := Cond.stringRef_spec hown hconst
  cases hev.symm.trans hev'
  obtain ⟨k', hk', he⟩ := X.warmed.alike.2.2 _ _ hk
  have hr' : k'.resolved[index]? = some (some (.string a)) := by
    rcases X.warmed.entry hk hk' index with h | ⟨h, -⟩
    · rw [h]; exact hr
    · rw [hr] at h; cases h
  intro target hrest
  subst hg
  jvm_step X.here [hexec, hdg, ldc_w.wp_string (e := e) (s := T) (f := g) X.here.top hk' (by rw [he]; exact hcf) hcp hr']
  exact hrest
theorem z_ldcwS (i n j : Nat) {a : Nat} {tx : String} (hd : M.2.2.2.2[i]? = some (pc, .ldc_w a, 3)) (hn : pc + 3 = n) (hv : (M.1.cls, a, tx, j) ∈ zstr) (h : zK X w R M Z n L (.ref (1000 + j) :: st) σ k) : zK X w R M Z pc L st σ k := by
  subst hn
  intro r σ' hk p e s m args below meth c C H locs ls hP hS hl
  have e1 : zv X (.ref (1000 + j)) = .ref (X.2.2.2.2.1 j) := by
    show Value.ref (za X (1000 + j)) = _
    unfold za
    rw [if_neg (by omega), Nat.add_sub_cancel_left]
  have h1 := h r σ' hk p e s m args below meth c C H locs ls hP hS hl
  rw [List.map_cons, e1] at h1
  have hZ := C.hV.2.1 _ hv
  intro T hT Xs
  obtain ⟨t, a1, b1⟩ := h1 T hT Xs
  exact ⟨t, z_ldcwS0 Xs C.hx C.hown (text := tx) hZ.1 hZ.2 (g := F0 m pc ls (st.map (zv X))) rfl (by rw [C.hb]; exact C.dec hd) t a1, b1⟩
theorem z_mmax (i n : Nat) {ix d : Nat} {x y : Int32} (hd : M.2.2.2.2[i]? = some (pc, .invokestatic ix, 3)) (hn : pc + 3 = n) (hlk : Cond.methodLink M.1.cls ix Lib.Math.max.name ∈ zTT) (hR : zR R d) (hLn : L.length = M.2.2.1) (hst : (st.map fun v => v.category).sum ≤ 8) (h : zK X w R M Z n L (.int (if x < y then y else x) :: st) σ k) : zK X w R M Z pc L (.int y :: .int x :: st) σ k := by
  subst hn
  intro r σ' hk p e s m args below meth c C H locs ls hP hS hl
  have h1 : Cond.static Lib.Math.max.name ∈ zTT := zTT_in (i := 1113) (by decide +kernel) rfl
  have h2 : Cond.initialized "java/lang/Math" ∈ zTT := zTT_in (i := 154) (by decide +kernel) rfl
  have h3 : Cond.code Lib.Math.max.name Lib.Math.max.code 2 (some .int) ∈ zTT := zTT_in (i := 1114) (by decide +kernel) rfl
  exact va_mmax C.hx C.hb (by rw [C.hml, hl.1, List.length_map, hLn]) C.hown (C.hts _ hlk) (C.hts _ h1) (C.hts _ h2) (C.hts _ h3) (Nat.le_trans (Nat.le_add_left 1 d) hR.1) (by rw [zcat_map]; have := hR.2; omega) (Nat.zero_le _) (Nat.zero_le _) (C.dec hd) (h r σ' hk p e s m args below meth c C H locs ls hP hS hl)
end ZSTR
end
section
def M_Slength : zM := (⟨"java/lang/String", "length", "()I"⟩, prog_21_method_54_code, 1, (some .int), [(0, .aload_n 0, 1), (1, .getfield 9, 3), (4, .arraylength, 1), (5, .aload_n 0, 1), (6, .invokevirtual 335, 3), (9, .ishr, 1), (10, .ireturn, 1)])
theorem T_Slength : zT M_Slength := zT_of (by decide +kernel)
theorem F_Slength : zMV M_Slength 0 := ⟨⟨zTT_in (i := 610) (by decide +kernel) rfl, zTT_in (i := 148) (by decide +kernel) rfl, ⟨by decide, by decide, by decide +kernel⟩, by decide⟩, zTT_in (i := 608) (by decide +kernel) rfl, zTT_in (i := 609) (by decide +kernel) rfl⟩
def M_Scoder : zM := (⟨"java/lang/String", "code\x72", "()B"⟩, prog_21_method_152_code, 1, (some .byte), [(0, .getstatic 38, 3), (3, .ifCond .eq 10, 3), (6, .aload_n 0, 1), (7, .getfield 15, 3), (10, .goto 4, 3), (13, .iconst 1, 1), (14, .ireturn, 1)])
theorem T_Scoder : zT M_Scoder := zT_of (by decide +kernel)
theorem F_Scoder : zMV M_Scoder 0 := ⟨⟨zTT_in (i := 614) (by decide +kernel) rfl, zTT_in (i := 148) (by decide +kernel) rfl, ⟨by decide, by decide, by decide +kernel⟩, by decide⟩, zTT_in (i := 612) (by decide +kernel) rfl, zTT_in (i := 613) (by decide +kernel) rfl⟩
def M_ScharAt : zM := (⟨"java/lang/String", "charAt", "(I)C"⟩, prog_21_method_56_code, 2, (some .char), [(0, .aload_n 0, 1), (1, .invokevirtual 492, 3), (4, .ifCond .eq 12, 3), (7, .aload_n 0, 1), (8, .getfield 9, 3), (11, .iload_n 1, 1), (12, .invokestatic 495, 3), (15, .ireturn, 1), (16, .aload_n 0, 1), (17, .getfield 9, 3), (20, .iload_n 1, 1), (21, .invokestatic 498, 3), (24, .ireturn, 1)])
theorem T_ScharAt : zT M_ScharAt := zT_of (by decide +kernel)
theorem F_ScharAt : zMV M_ScharAt 1 := ⟨⟨zTT_in (i := 620) (by decide +kernel) rfl, zTT_in (i := 148) (by decide +kernel) rfl, ⟨by decide, by decide, by decide +kernel⟩, by decide⟩, zTT_in (i := 618) (by decide +kernel) rfl, zTT_in (i := 619) (by decide +kernel) rfl⟩
def M_SisLatin1 : zM := (⟨"java/lang/String", "isLatin1", "()Z"⟩, prog_21_method_154_code, 1, (some .boolean), [(0, .getstatic 38, 3), (3, .ifCond .eq 14, 3), (6, .aload_n 0, 1), (7, .getfield 15, 3), (10, .ifCond .ne 7, 3), (13, .iconst 1, 1), (14, .goto 4, 3), (17, .iconst 0, 1), (18, .ireturn, 1)])
theorem T_SisLatin1 : zT M_SisLatin1 := zT_of (by decide +kernel)
theorem F_SisLatin1 : zMV M_SisLatin1 0 := ⟨⟨zTT_in (i := 624) (by decide +kernel) rfl, zTT_in (i := 148) (by decide +kernel) rfl, ⟨by decide, by decide, by decide +kernel⟩, by decide⟩, zTT_in (i := 622) (by decide +kernel) rfl, zTT_in (i := 623) (by decide +kernel) rfl⟩
def M_SLcharAt : zM := (⟨"java/lang/StringLatin1", "charAt", "([BI)C"⟩, prog_22_method_2_code, 2, (some .char), [(0, .iload_n 1, 1), (1, .aload_n 0, 1), (2, .arraylength, 1), (3, .invokestatic 9, 3), (6, .aload_n 0, 1), (7, .iload_n 1, 1), (8, .baload, 1), (9, .sipush 255, 3), (12, .iand, 1), (13, .i2c, 1), (14, .ireturn, 1)])
theorem T_SLcharAt : zT M_SLcharAt := zT_of (by decide +kernel)
theorem F_SLcharAt : zMS M_SLcharAt 2 := ⟨⟨zTT_in (i := 627) (by decide +kernel) rfl, zTT_in (i := 149) (by decide +kernel) rfl, ⟨by decide, by decide, by decide +kernel⟩, by decide⟩, zTT_in (i := 626) (by decide +kernel) rfl⟩
def M_ScheckIndex : zM := (⟨"java/lang/String", "checkIndex", "(II)V"⟩, prog_21_method_155_code, 2, none, [(0, .iload_n 0, 1), (1, .iload_n 1, 1), (2, .getstatic 1053, 3), (5, .invokestatic 1059, 3), (8, .pop, 1), (9, .return_, 1)])
theorem T_ScheckIndex : zT M_ScheckIndex := zT_of (by decide +kernel)
theorem F_ScheckIndex : zMS M_ScheckIndex 2 := ⟨⟨zTT_in (i := 630) (by decide +kernel) rfl, zTT_in (i := 148) (by decide +kernel) rfl, ⟨by decide, by decide, by decide +kernel⟩, by decide⟩, zTT_in (i := 629) (by decide +kernel) rfl⟩
def M_SPcheckIndex : zM := (⟨"jdk/internal/util/Preconditions", "checkIndex", "(IILjava/util/function/BiFunction;)I"⟩, prog_29_method_11_code, 3, (some .int), [(0, .iload_n 0, 1), (1, .ifCond .lt 8, 3), (4, .iload_n 0, 1), (5, .iload_n 1, 1), (6, .if_icmp .lt 10, 3), (9, .aload_n 2, 1), (10, .iload_n 0, 1), (11, .iload_n 1, 1), (12, .invokestatic 95, 3), (15, .athrow, 1), (16, .iload_n 0, 1), (17, .ireturn, 1)])
theorem T_SPcheckIndex : zT M_SPcheckIndex := zT_of (by decide +kernel)
theorem F_SPcheckIndex : zMS M_SPcheckIndex 3 := ⟨⟨zTT_in (i := 635) (by decide +kernel) rfl, zTT_in (i := 150) (by decide +kernel) rfl, ⟨by decide, by decide, by decide +kernel⟩, by decide⟩, zTT_in (i := 634) (by decide +kernel) rfl⟩
theorem zfl_S_9 : Cond.fieldLink "java/lang/String" 9 "java/lang/String" "value" "[B" ∈ zTT := zTT_in (i := 2033) (by decide +kernel) rfl
theorem zfl_S_15 : Cond.fieldLink "java/lang/String" 15 "java/lang/String" "code\x72" "B" ∈ zTT := zTT_in (i := 2034) (by decide +kernel) rfl
theorem zfl_S_38 : Cond.fieldLink "java/lang/String" 38 "java/lang/String" "COMPACT_STRINGS" "Z" ∈ zTT := zTT_in (i := 615) (by decide +kernel) rfl
theorem zfl_S_1053 : Cond.fieldLink "java/lang/String" 1053 "jdk/internal/util/Preconditions" "SIOOBE_FORMATTER" "Ljava/util/function/BiFunction;" ∈ zTT := zTT_in (i := 631) (by decide +kernel) rfl
theorem zml_Scoder : Cond.methodLink "java/lang/String" 335 M_Scoder.1 ∈ zTT := zTT_in (i := 611) (by decide +kernel) rfl
theorem zml_SisLatin1 : Cond.methodLink "java/lang/String" 492 M_SisLatin1.1 ∈ zTT := zTT_in (i := 621) (by decide +kernel) rfl
theorem zml_SLcharAt : Cond.methodLink "java/lang/String" 495 M_SLcharAt.1 ∈ zTT := zTT_in (i := 625) (by decide +kernel) rfl
theorem zml_ScheckIndex : Cond.methodLink "java/lang/StringLatin1" 9 M_ScheckIndex.1 ∈ zTT := zTT_in (i := 628) (by decide +kernel) rfl
theorem zml_SPcheckIndex : Cond.methodLink "java/lang/String" 1059 M_SPcheckIndex.1 ∈ zTT := zTT_in (i := 633) (by decide +kernel) rfl
/-! a call, over the machine's own judgement, in any room -/
def zPv (X : zX) (w : zW) (σ : zS) (vs : List Value) : Array Value → State → Prop := va_Pc vs (zB X w σ)
section ZWC
variable {X : zX} {w : zW} {p : Program} {e : Env} {R : Room} {s : State} {m : MethodId} {args : Array Value} {below : List Frame} {meth : Method} {c : Code} {H : Heap} {locs : List Loc} {cells slots : Nat} {Q : State → Prop} {pc : Nat} {ls : Array Slot} {rest : List Value} {own : String} {cc : ByteArray} {nL : Nat} {M' : zM} {ix na d : Nat} {σ : zS} {o : Option Value × zS}
theorem zW_run {st0 : List Value} {a : Array Value} (hr : va_Run p X.1 e R s m args below meth c H locs cells slots 0 0 (F0 m pc ls st0) rest (zQc X w o a) (zA X w))
    (kk : ∀ (H1 : Heap) (L : List Loc), va_P X.2.1 vwCl (zw X w o.2) H1 → H.size ≤ H1.size → (∀ q : Nat, q < H.size → ¬ zA X w q → H1[q]? = H[q]?) → (∀ l ∈ L, zA X w l.base) → W p X.1 e R s m args below meth c H1 (locs ++ L) cells slots Q (F0 m (pc + 3) ls ((o.1.map (zv X)).toList ++ rest))) : W p X.1 e R s m args below meth c H locs cells slots Q (F0 m pc ls st0) := by
  intro T hT Xs
  obtain ⟨v, st₀, t, T', L, h0, X', hL, e1, e2, ⟨⟨hv, hB⟩, hz, hk⟩, stp⟩ := hr T hT Xs
  cases hv
  rw [h0] at hz hk
  obtain ⟨t2, a1, b1⟩ := kk T'.heap L (by rw [e1]; exact hB.1) (by rw [e1]; exact hz) (fun q h1 h2 => by rw [e1]; exact hk q h1 h2) (fun l hl => hL l hl) T' rfl X'
  exact ⟨t2, stp t2 a1, b1⟩
theorem zW_callV {a : Nat} {As : List Value} (hx : p.tables.exec = Jvm.exec) (hb : c.code = cc) (hml : c.maxLocals = nL) (hown : s.vm.findClass own = some m.cls) (hts : ∀ w ∈ zTT, w.before args s = true) (hdg : decode cc pc = .ok (.invokevirtual ix, 3)) (hlk : Cond.methodLink own ix M'.1 ∈ zTT) (hm : zMV M' na) (hR : zR R d)
    (hC : zCN X w d M' (.ref a :: As) σ o) (hrec : ∃ cell : Cell, H[za X a]? = some cell ∧ cell.vm.isStatics = false ∧ s.vm.findClass M'.1.cls = some cell.cls) (hBU : ∀ U : State, U.heap = H → s.WarmedH U.vm → zB X w σ U) (hlen : As.length = na) (hsz : ls.size = nL) (hst : (rest.map fun v => v.category).sum ≤ 8) (hf : cells ≤ R.cells ∧ slots ≤ R.slots)
    (kk : ∀ (H1 : Heap) (L : List Loc), va_P X.2.1 vwCl (zw X w o.2) H1 → H.size ≤ H1.size → (∀ q : Nat, q < H.size → ¬ zA X w q → H1[q]? = H[q]?) → (∀ l ∈ L, zA X w l.base) → W p X.1 e R s m args below meth c H1 (locs ++ L) cells slots Q (F0 m (pc + 3) ls ((o.1.map (zv X)).toList ++ rest))) : W p X.1 e R s m args below meth c H locs cells slots Q (F0 m pc ls ((As.map (zv X)).reverse ++ .ref (za X a) :: rest)) := by
  obtain ⟨⟨m1, m2, m3, m4⟩, m5, m6⟩ := hm
  have hG : GoodIn zTT (wsV own ix M'.1.cls M'.1 (Cond.code M'.1 M'.2.1 M'.2.2.1 M'.2.2.2.1 :: zTT)) := by
    intro v hv
    unfold wsV at hv
    rcases List.mem_append.mp hv with hv | hv
    · have : v ∈ zTT := by
        simp only [List.mem_cons, List.not_mem_nil, or_false] at hv
        rcases hv with rfl | rfl | rfl | rfl
        · exact hlk
        · exact m5
        · exact m6
        · exact m2
      exact ⟨this, zTT_good this⟩
    · exact zGood m1 v hv
  have hR2 : (zrm d).frames + 1 ≤ R.frames ∧ 8 + (M'.2.2.1 + 11) + (zrm d).locals ≤ R.locals := ⟨hR.1, by have := hR.2; show 8 + (M'.2.2.1 + 11) + 40 * d ≤ R.locals; omega⟩
  have hrun := va_runV (p := p) (e := e) (below := below) (meth := meth) (H := H) (locs := locs) (cells := cells) (slots := slots) (As := As.map (zv X)) (rest := rest) (b := za X a) (g := F0 m pc ls ((As.map (zv X)).reverse ++ .ref (za X a) :: rest)) ⟨hx, hb, hml, hown, hts⟩ hC (cwV na hts hG rfl rfl rfl ⟨rfl, m3⟩ hR2)
    ⟨zB_blind _, hrec, fun U hU hW => ⟨rfl, hBU U hU hW⟩⟩ rfl (by simpa using hlen) hsz rfl (by show 2 * 0 + _ ≤ 8; omega) hdg ⟨by omega, by omega⟩
  exact zW_run hrun kk
theorem zW_callS (hx : p.tables.exec = Jvm.exec) (hb : c.code = cc) (hml : c.maxLocals = nL) (hown : s.vm.findClass own = some m.cls) (hts : ∀ w ∈ zTT, w.before args s = true) (hdg : decode cc pc = .ok (.invokestatic ix, 3)) (hlk : Cond.methodLink own ix M'.1 ∈ zTT) (hm : zMS M' na) (hR : zR R d) {Av : List Value}
    (hC : Met X.1 M'.1 (Cond.code M'.1 M'.2.1 M'.2.2.1 M'.2.2.2.1 :: zTT) (zrm d) (va_Pc Av (zB X w σ)) (zQc X w o) 0 0 (zA X w)) (hBU : ∀ U : State, U.heap = H → s.WarmedH U.vm → zB X w σ U) (hlen : Av.length = na) (hsz : ls.size = nL) (hst : (rest.map fun v => v.category).sum ≤ 8) (hf : cells ≤ R.cells ∧ slots ≤ R.slots)
    (kk : ∀ (H1 : Heap) (L : List Loc), va_P X.2.1 vwCl (zw X w o.2) H1 → H.size ≤ H1.size → (∀ q : Nat, q < H.size → ¬ zA X w q → H1[q]? = H[q]?) → (∀ l ∈ L, zA X w l.base) → W p X.1 e R s m args below meth c H1 (locs ++ L) cells slots Q (F0 m (pc + 3) ls ((o.1.map (zv X)).toList ++ rest))) : W p X.1 e R s m args below meth c H locs cells slots Q (F0 m pc ls (Av.reverse ++ rest)) := by
  obtain ⟨⟨m1, m2, m3, m4⟩, m5⟩ := hm
  have hG : GoodIn zTT (va_wsS own ix M'.1 (Cond.code M'.1 M'.2.1 M'.2.2.1 M'.2.2.2.1 :: zTT)) := by
    intro v hv
    unfold va_wsS at hv
    rcases List.mem_append.mp hv with hv | hv
    · have : v ∈ zTT := by
        simp only [List.mem_cons, List.not_mem_nil, or_false] at hv
        rcases hv with rfl | rfl | rfl
        · exact hlk
        · exact m5
        · exact m2
      exact ⟨this, zTT_good this⟩
    · exact zGood m1 v hv
  have hR2 : (zrm d).frames + 1 ≤ R.frames ∧ 8 + (M'.2.2.1 + 11) + (zrm d).locals ≤ R.locals := ⟨hR.1, by have := hR.2; show 8 + (M'.2.2.1 + 11) + 40 * d ≤ R.locals; omega⟩
  have hrun := va_runS (p := p) (e := e) (below := below) (meth := meth) (H := H) (locs := locs) (cells := cells) (slots := slots) (As := Av) (rest := rest) (g := F0 m pc ls (Av.reverse ++ rest)) ⟨hx, hb, hml, hown, hts⟩ hC (va_cwS na hts hG rfl rfl rfl m3 hR2)
    ⟨zB_blind _, fun U hU hW => ⟨rfl, hBU U hU hW⟩⟩ rfl hlen hsz rfl (by show 2 * 0 + _ ≤ 8; omega) hdg ⟨by omega, by omega⟩
  exact zW_run hrun kk
end ZWC
theorem zS_ext {A : Nat → Prop} {H0 H H1 : Heap} {locs L : List Loc} (hS : va_S A H0 H locs) (h1 : H.size ≤ H1.size) (h2 : ∀ q : Nat, q < H.size → ¬ A q → H1[q]? = H[q]?) (h3 : ∀ l ∈ L, A l.base) : va_S A H0 H1 (locs ++ L) :=
  ⟨Nat.le_trans hS.1 h1, fun q g1 g2 => (h2 q (Nat.lt_of_lt_of_le g1 hS.1) g2).trans (hS.2.1 q g1 g2), fun l hl => (List.mem_append.mp hl).elim (hS.2.2 l) (h3 l)⟩
/-- a method over the machine's judgement, with any arguments -/
theorem zW_entry {X : zX} {w : zW} {d : Nat} {M : zM} {σ : zS} {o : Option Value × zS} (av : List Value) (hy : plainName M.1.cls = true) (hT : zT M) (hn : (lg_sl av).length ≤ M.2.2.1)
    (h : ∀ (p : Program) (e : Env) (s : State) (m : MethodId) (args : Array Value) (below : List Frame) (meth : Method) (c : Code), zC X w M p s m args meth c → va_P X.2.1 vwCl (zw X w σ) s.heap → ∀ ls : Array Slot, lv_has ls M.2.2.1 (lv_args 0 av) → W p X.1 e (zrm d) s m args below meth c s.heap [] 0 0 (MQ below (zQc X w o) args s 0 0 (zA X w)) (F0 m 0 ls [])) :
    Met X.1 M.1 (Cond.code M.1 M.2.1 M.2.2.1 M.2.2.2.1 :: zTT) (zrm d) (va_Pc av (zB X w σ)) (zQc X w o) 0 0 (zA X w) := by
  refine Met.ofW (cc := M.2.1) (maxL := M.2.2.1) (ret := M.2.2.2.1) hy rfl ?_
  intro p e s m args below meth c s₁ B hml hv
  obtain ⟨rfl, hP, hK, hok, hV⟩ := hv
  have hts := atoms_spec (ws := Cond.code M.1 M.2.1 M.2.2.1 M.2.2.2.1 :: zTT) B.pre
  have C : zC X w M p s m av.toArray meth c := ⟨B.exec, B.bytes, hml, B.returns, B.notSynchronized, findClass_of_methodNamed B.named, fun w hw => hts w (List.mem_cons_of_mem _ hw), hK, hok, hV, hT⟩
  rw [lg_entry_eq]
  exact h p e s m _ below meth c C hP _ (lv_entry av hn)
theorem zadK (X : zX) (j : Nat) : za X (1000 + j) = X.2.2.2.2.1 j := by
  unfold za
  rw [if_neg (by omega), Nat.add_sub_cancel_left]
section ZSTRS
variable {X : zX} {w : zW} {σ : zS}
theorem c_Scoder (d j : Nat) (hj : j < 18) : zCN X w d M_Scoder [.ref (1000 + j)] σ (some (.int 0), σ) := by
  show Met X.1 M_Scoder.1 _ _ (va_Pc [.ref (za X (1000 + j))] _) _ _ _ _
  rw [zadK]
  refine zW_entry [.ref (X.2.2.2.2.1 j)] (by decide +kernel) T_Scoder (Nat.le_of_ble_eq_true rfl) ?_
  intro p e s m args below meth c C hP ls hl
  have hS : va_S (zA X w) s.heap s.heap [] := va_S.rf
  refine va_gets C.hx C.hb C.hV.2.2.1 hS C.hown (C.hts _ zfl_S_38) (fun _ h => h) (C.dec (i := 0) rfl) ?_
  refine lv_if_eq (tgt := 13) C.hx C.hb (C.dec (i := 1) rfl) (by decide) (fun q => absurd q (by decide)) (fun _ => ?_)
  refine lv_aload_n C.hx C.hb (C.dec (i := 2) rfl) rfl (lv_at hl 0 rfl) ?_
  refine vk_getf C.hx C.hb (C.hV.1.1 j hj).2.1 hS C.hown (C.hts _ zfl_S_15) (fun _ h => h) (C.dec (i := 3) rfl) ?_
  refine lv_goto (tgt := 14) C.hx C.hb (C.dec (i := 4) rfl) (by decide) ?_
  exact W.zret (v := 0) (ty := .byte) C.hx C.hb C.hr rfl (fun t ht hW => ⟨⟨rfl, zB_end C hP hS t ht hW⟩, hS.F ht⟩) hS.2.2 (C.dec (i := 6) rfl) C.hlk
theorem c_SisLatin1 (d j : Nat) (hj : j < 18) : zCN X w d M_SisLatin1 [.ref (1000 + j)] σ (some (.int 1), σ) := by
  show Met X.1 M_SisLatin1.1 _ _ (va_Pc [.ref (za X (1000 + j))] _) _ _ _ _
  rw [zadK]
  refine zW_entry [.ref (X.2.2.2.2.1 j)] (by decide +kernel) T_SisLatin1 (Nat.le_of_ble_eq_true rfl) ?_
  intro p e s m args below meth c C hP ls hl
  have hS : va_S (zA X w) s.heap s.heap [] := va_S.rf
  refine va_gets C.hx C.hb C.hV.2.2.1 hS C.hown (C.hts _ zfl_S_38) (fun _ h => h) (C.dec (i := 0) rfl) ?_
  refine lv_if_eq (tgt := 17) C.hx C.hb (C.dec (i := 1) rfl) (by decide) (fun q => absurd q (by decide)) (fun _ => ?_)
  refine lv_aload_n C.hx C.hb (C.dec (i := 2) rfl) rfl (lv_at hl 0 rfl) ?_
  refine vk_getf C.hx C.hb (C.hV.1.1 j hj).2.1 hS C.hown (C.hts _ zfl_S_15) (fun _ h => h) (C.dec (i := 3) rfl) ?_
  refine lv_if_ne (tgt := 17) C.hx C.hb (C.dec (i := 4) rfl) (by decide) (fun q => absurd rfl q) (fun _ => ?_)
  refine lv_iconst (v := 1) C.hx C.hb (C.dec (i := 5) rfl) (by decide) ?_
  refine lv_goto (tgt := 18) C.hx C.hb (C.dec (i := 6) rfl) (by decide) ?_
  exact W.zret (v := 1) (ty := .boolean) C.hx C.hb C.hr rfl (fun t ht hW => ⟨⟨rfl, zB_end C hP hS t ht hW⟩, hS.F ht⟩) hS.2.2 (C.dec (i := 8) rfl) C.hlk
theorem c_Slength (d j : Nat) (hj : j < 18) : zCN X w (d + 1) M_Slength [.ref (1000 + j)] σ (some (.int (zslen (1000 + j))), σ) := by
  show Met X.1 M_Slength.1 _ _ (va_Pc [.ref (za X (1000 + j))] _) _ _ _ _
  rw [zadK]
  refine zW_entry [.ref (X.2.2.2.2.1 j)] (by decide +kernel) T_Slength (Nat.le_of_ble_eq_true rfl) ?_
  intro p e s m args below meth c C hP ls hl
  have hS : va_S (zA X w) s.heap s.heap [] := va_S.rf
  refine lv_aload_n C.hx C.hb (C.dec (i := 0) rfl) rfl (lv_at hl 0 rfl) ?_
  refine vk_getf C.hx C.hb (C.hV.1.1 j hj).2.2.1 hS C.hown (C.hts _ zfl_S_9) (fun _ h => h) (C.dec (i := 1) rfl) ?_
  refine va_tlen C.hx C.hb (C.hV.1.1 j hj).2.2.2 hS rfl (C.dec (i := 2) rfl) ?_
  refine lv_aload_n C.hx C.hb (C.dec (i := 3) rfl) rfl (lv_at hl 0 rfl) ?_
  have hC := c_Scoder (X := X) (w := w) (σ := σ) d j hj
  have hrec := vk_recv C.hV.1 hj hS
  rw [← zadK] at hrec ⊢
  refine zW_callV (As := []) (a := 1000 + j) C.hx C.hb C.hml C.hown C.hts (C.dec (i := 4) rfl) zml_Scoder F_Scoder (zR_rm (Nat.le_refl _)) hC hrec (fun U hU hW => zB_end C hP hS U hU hW) rfl hl.1 (Nat.le_of_ble_eq_true rfl) ⟨Nat.zero_le _, Nat.zero_le _⟩ (fun H1 L hP1 z1 k1 l1 => ?_)
  have hS1 := zS_ext hS z1 k1 l1
  refine lv_ishr C.hx C.hb (C.dec (i := 5) rfl) ?_
  have e1 : Int32.ofNat (zlen.getD j 0) >>> ((0 : Int32) &&& 31) = zslen (1000 + j) := by
    rw [sb_shr0]
    unfold zslen
    rw [Nat.add_sub_cancel_left]
  rw [e1]
  exact W.iret (v := zslen (1000 + j)) C.hx C.hb C.hr (fun t ht hW => ⟨⟨rfl, zB_end C hP1 hS1 t ht hW⟩, hS1.F ht⟩) hS1.2.2 (C.dec (i := 6) rfl) C.hlk
theorem c_SPcheckIndex (d : Nat) (x n : Int32) (v : Value) (hv : v.isRef = true ∧ v.category = 1) (h0 : 0 ≤ x.toInt) (h1 : x.toInt < n.toInt) : Met X.1 M_SPcheckIndex.1 (Cond.code M_SPcheckIndex.1 M_SPcheckIndex.2.1 M_SPcheckIndex.2.2.1 M_SPcheckIndex.2.2.2.1 :: zTT) (zrm d) (va_Pc [.int x, .int n, v] (zB X w σ)) (zQc X w (some (.int x), σ)) 0 0 (zA X w) := by
  have e3 : (lg_sl [Value.int x, Value.int n, v]).length = 3 := by simp [lg_sl, hv.2, show (Value.int x).category = 1 from rfl, show (Value.int n).category = 1 from rfl]
  refine zW_entry [.int x, .int n, v] (by decide +kernel) T_SPcheckIndex (by rw [e3]; decide) ?_
  intro p e s m args below meth c C hP ls hl
  have hS : va_S (zA X w) s.heap s.heap [] := va_S.rf
  have e0 : ls[0]? = some (.val (.int x)) := lv_at hl 0 rfl
  have e1 : ls[1]? = some (.val (.int n)) := lv_at hl 1 rfl
  refine lv_iload_n C.hx C.hb (C.dec (i := 0) rfl) rfl e0 ?_
  refine lv_if_lt (tgt := 9) C.hx C.hb (C.dec (i := 1) rfl) (by decide) (fun q => absurd (Int32.lt_iff_toInt_lt.mp q) (by simpa using h0)) (fun _ => ?_)
  refine lv_iload_n C.hx C.hb (C.dec (i := 2) rfl) rfl e0 ?_
  refine lv_iload_n C.hx C.hb (C.dec (i := 3) rfl) rfl e1 ?_
  refine lv_icmp_lt (tgt := 16) C.hx C.hb (C.dec (i := 4) rfl) (by decide) (fun _ => ?_) (fun q => absurd (Int32.lt_iff_toInt_lt.mpr h1) q)
  refine lv_iload_n C.hx C.hb (C.dec (i := 10) rfl) rfl e0 ?_
  exact W.iret (v := x) C.hx C.hb C.hr (fun t ht hW => ⟨⟨rfl, zB_end C hP hS t ht hW⟩, hS.F ht⟩) hS.2.2 (C.dec (i := 11) rfl) C.hlk
theorem c_ScheckIndex (d : Nat) (x n : Int32) (h0 : 0 ≤ x.toInt) (h1 : x.toInt < n.toInt) : Met X.1 M_ScheckIndex.1 (Cond.code M_ScheckIndex.1 M_ScheckIndex.2.1 M_ScheckIndex.2.2.1 M_ScheckIndex.2.2.2.1 :: zTT) (zrm (d + 1)) (va_Pc [.int x, .int n] (zB X w σ)) (zQc X w (none, σ)) 0 0 (zA X w) := by
  refine zW_entry [.int x, .int n] (by decide +kernel) T_ScheckIndex (Nat.le_of_ble_eq_true rfl) ?_
  intro p e s m args below meth c C hP ls hl
  have hS : va_S (zA X w) s.heap s.heap [] := va_S.rf
  refine lv_iload_n C.hx C.hb (C.dec (i := 0) rfl) rfl (lv_at hl 0 rfl) ?_
  refine lv_iload_n C.hx C.hb (C.dec (i := 1) rfl) rfl (lv_at hl 1 rfl) ?_
  have key : ∀ v : Value, v.isRef = true ∧ v.category = 1 → W p X.1 e (zrm (d + 1)) s m args below meth c s.heap [] 0 0 (MQ below (zQc X w (none, σ)) args s 0 0 (zA X w)) (F0 m 5 ls [v, .int n, .int x]) := by
    intro v hv
    refine zW_callS (Av := [.int x, .int n, v]) C.hx C.hb C.hml C.hown C.hts (C.dec (i := 3) rfl) zml_SPcheckIndex F_SPcheckIndex (zR_rm (Nat.le_refl _)) (c_SPcheckIndex d x n v hv h0 h1) (fun U hU hW => zB_end C hP hS U hU hW) rfl hl.1 (Nat.le_of_ble_eq_true rfl) ⟨Nat.zero_le _, Nat.zero_le _⟩ (fun H1 L hP1 z1 k1 l1 => ?_)
    have hS1 := zS_ext hS z1 k1 l1
    refine lv_pop C.hx C.hb (C.dec (i := 4) rfl) rfl ?_
    exact W.vret C.hx C.hb C.hr (fun t ht hW => ⟨⟨rfl, zB_end C hP1 hS1 t ht hW⟩, hS1.F ht⟩) hS1.2.2 (C.dec (i := 5) rfl) C.hlk
  rcases C.hV.2.2.2.1 with hz | ⟨t, hz⟩
  · exact va_gets C.hx C.hb hz hS C.hown (C.hts _ zfl_S_1053) (fun _ h => h) (C.dec (i := 2) rfl) (key .null ⟨rfl, rfl⟩)
  · exact va_gets C.hx C.hb hz hS C.hown (C.hts _ zfl_S_1053) (fun _ h => h) (C.dec (i := 2) rfl) (key (.ref t) ⟨rfl, rfl⟩)
theorem zbyt_ok : ∀ i, i < 18 → ∀ j, j < zlen.getD i 0 → ((((zbyt.getD i []).getD j 0) &&& 255).toUInt32 % 65536).toInt32 = (zbyt.getD i []).getD j 0 := by decide +kernel
theorem zlen_ok : ∀ i, i < 18 → zlen.getD i 0 < 100 := by decide +kernel
theorem c_SLcharAt (d j : Nat) (hj : j < 18) (x : Int32) (h0 : 0 ≤ x.toInt) (h1 : x.toInt < zlen.getD j 0) : Met X.1 M_SLcharAt.1 (Cond.code M_SLcharAt.1 M_SLcharAt.2.1 M_SLcharAt.2.2.1 M_SLcharAt.2.2.2.1 :: zTT) (zrm (d + 2)) (va_Pc [.ref (X.2.2.2.2.2 j), .int x] (zB X w σ)) (zQc X w (some (.int (zsch (1000 + j) x)), σ)) 0 0 (zA X w) := by
  have hl9 := zlen_ok j hj
  have hn : x.toInt < (Int32.ofNat (zlen.getD j 0)).toInt := by
    rw [show (Int32.ofNat (zlen.getD j 0)).toInt = ((zlen.getD j 0 : Nat) : Int) from nI_toInt (by omega)]
    exact h1
  refine zW_entry [.ref (X.2.2.2.2.2 j), .int x] (by decide +kernel) T_SLcharAt (Nat.le_of_ble_eq_true rfl) ?_
  intro p e s m args below meth c C hP ls hl
  have hS : va_S (zA X w) s.heap s.heap [] := va_S.rf
  refine lv_iload_n C.hx C.hb (C.dec (i := 0) rfl) rfl (lv_at hl 1 rfl) ?_
  refine lv_aload_n C.hx C.hb (C.dec (i := 1) rfl) rfl (lv_at hl 0 rfl) ?_
  refine va_tlen C.hx C.hb (C.hV.1.1 j hj).2.2.2 hS rfl (C.dec (i := 2) rfl) ?_
  refine zW_callS (Av := [.int x, .int (Int32.ofNat (zlen.getD j 0))]) C.hx C.hb C.hml C.hown C.hts (C.dec (i := 3) rfl) zml_ScheckIndex F_ScheckIndex (zR_rm (Nat.le_refl _)) (c_ScheckIndex d x _ h0 hn) (fun U hU hW => zB_end C hP hS U hU hW) rfl hl.1 (Nat.le_of_ble_eq_true rfl) ⟨Nat.zero_le _, Nat.zero_le _⟩ (fun H1 L hP1 z1 k1 l1 => ?_)
  have hS1 := zS_ext hS z1 k1 l1
  refine lv_aload_n C.hx C.hb (C.dec (i := 4) rfl) rfl (lv_at hl 0 rfl) ?_
  refine lv_iload_n C.hx C.hb (C.dec (i := 5) rfl) rfl (lv_at hl 1 rfl) ?_
  refine va_tb C.hx C.hb (C.hV.1.1 j hj).2.2.2 hS1 (vp_in_iff.mpr ⟨h0, h1⟩) rfl (C.dec (i := 6) rfl) ?_
  refine lv_sipush (v := 255) C.hx C.hb (C.dec (i := 7) rfl) (by decide) ?_
  refine lv_iand C.hx C.hb (C.dec (i := 8) rfl) ?_
  refine lv_i2c C.hx C.hb (C.dec (i := 9) rfl) rfl ?_
  have e1 : ((((zbyt.getD j []).getD x.toNatClampNeg 0) &&& 255).toUInt32 % 65536).toInt32 = zsch (1000 + j) x := by
    have e2 : x.toNatClampNeg < zlen.getD j 0 := by
      have : (x.toNatClampNeg : Int) = x.toInt := by
        show ((x.toInt.toNat : Nat) : Int) = _
        omega
      omega
    rw [zbyt_ok j hj _ e2]
    unfold zsch
    rw [Nat.add_sub_cancel_left]
  rw [e1]
  have e3 : narrow .char (.int (zsch (1000 + j) x)) = .int (zsch (1000 + j) x) := by
    rw [← e1]
    exact pk_nc _
  exact W.zret (v := zsch (1000 + j) x) (ty := .char) C.hx C.hb C.hr e3 (fun t ht hW => ⟨⟨rfl, zB_end C hP1 hS1 t ht hW⟩, hS1.F ht⟩) hS1.2.2 (C.dec (i := 10) rfl) C.hlk
theorem c_ScharAt (d j : Nat) (hj : j < 18) (x : Int32) (h0 : 0 ≤ x.toInt) (h1 : x.toInt < zlen.getD j 0) : zCN X w (d + 3) M_ScharAt [.ref (1000 + j), .int x] σ (some (.int (zsch (1000 + j) x)), σ) := by
  show Met X.1 M_ScharAt.1 _ _ (va_Pc [.ref (za X (1000 + j)), .int x] _) _ _ _ _
  rw [zadK]
  refine zW_entry [.ref (X.2.2.2.2.1 j), .int x] (by decide +kernel) T_ScharAt (Nat.le_of_ble_eq_true rfl) ?_
  intro p e s m args below meth c C hP ls hl
  have hS : va_S (zA X w) s.heap s.heap [] := va_S.rf
  refine lv_aload_n C.hx C.hb (C.dec (i := 0) rfl) rfl (lv_at hl 0 rfl) ?_
  have hrec := vk_recv C.hV.1 hj hS
  rw [← zadK] at hrec ⊢
  refine zW_callV (As := []) (a := 1000 + j) C.hx C.hb C.hml C.hown C.hts (C.dec (i := 1) rfl) zml_SisLatin1 F_SisLatin1 (zR_rm (Nat.le_refl _)) (c_SisLatin1 (d + 2) j hj) hrec (fun U hU hW => zB_end C hP hS U hU hW) rfl hl.1 (Nat.le_of_ble_eq_true rfl) ⟨Nat.zero_le _, Nat.zero_le _⟩ (fun H1 L hP1 z1 k1 l1 => ?_)
  have hS1 := zS_ext hS z1 k1 l1
  refine lv_if_eq (tgt := 16) C.hx C.hb (C.dec (i := 2) rfl) (by decide) (fun q => absurd q (by decide)) (fun _ => ?_)
  refine lv_aload_n C.hx C.hb (C.dec (i := 3) rfl) rfl (lv_at hl 0 rfl) ?_
  refine vk_getf C.hx C.hb (C.hV.1.1 j hj).2.2.1 hS1 C.hown (C.hts _ zfl_S_9) (fun _ h => h) (C.dec (i := 4) rfl) ?_
  refine lv_iload_n C.hx C.hb (C.dec (i := 5) rfl) rfl (lv_at hl 1 rfl) ?_
  refine zW_callS (Av := [.ref (X.2.2.2.2.2 j), .int x]) C.hx C.hb C.hml C.hown C.hts (C.dec (i := 6) rfl) zml_SLcharAt F_SLcharAt (zR_rm (Nat.le_refl _)) (c_SLcharAt d j hj x h0 h1) (fun U hU hW => zB_end C hP1 hS1 U hU hW) rfl hl.1 (Nat.le_of_ble_eq_true rfl) ⟨Nat.zero_le _, Nat.zero_le _⟩ (fun H2 L2 hP2 z2 k2 l2 => ?_)
  have hS2 := zS_ext hS1 z2 k2 l2
  have e3 : narrow .char (.int (zsch (1000 + j) x)) = .int (zsch (1000 + j) x) := by
    have e2 : x.toNatClampNeg < zlen.getD j 0 := by
      have : (x.toNatClampNeg : Int) = x.toInt := by
        show ((x.toInt.toNat : Nat) : Int) = _
        omega
      omega
    have e4 : zsch (1000 + j) x = ((((zbyt.getD j []).getD x.toNatClampNeg 0) &&& 255).toUInt32 % 65536).toInt32 := by
      rw [zbyt_ok j hj _ e2]
      unfold zsch
      rw [Nat.add_sub_cancel_left]
    rw [e4]
    exact pk_nc _
  exact W.zret (v := zsch (1000 + j) x) (ty := .char) C.hx C.hb C.hr e3 (fun t ht hW => ⟨⟨rfl, zB_end C hP2 hS2 t ht hW⟩, hS2.F ht⟩) hS2.2.2 (C.dec (i := 7) rfl) C.hlk
end ZSTRS
section ZSTR2
variable {X : zX} {w : zW} {R : Room} {M : zM} {ρ : Type} {Z : ρ → zS → zZt} {pc : Nat} {L : List (Option Value)} {st : List Value} {σ : zS} {k : Option (ρ × zS)}
theorem z_strlen (i n : Nat) {a ix d : Nat} (hd : M.2.2.2.2[i]? = some (pc, .invokevirtual ix, 3)) (hn : pc + 3 = n) (hlk : Cond.methodLink M.1.cls ix ⟨"java/lang/String", "length", "()I"⟩ ∈ zTT) (hR : zR R (d + 7)) (ha : 1000 ≤ a ∧ a < 1018) (hLn : L.length = M.2.2.1) (hst : (st.map fun v => v.category).sum ≤ 8) (h : zK X w R M Z n L (.int (zslen a) :: st) σ k) : zK X w R M Z pc L (.ref a :: st) σ k := by
  obtain ⟨j, rfl⟩ : ∃ j, a = 1000 + j := ⟨a - 1000, by omega⟩
  subst hn
  intro r σ' hk p e s m args below meth c C H locs ls hP hS hl
  have hrec := vk_recv C.hV.1 (show j < 18 by omega) hS
  rw [← zadK] at hrec
  refine zW_callV (As := []) (a := 1000 + j) C.hx C.hb C.hml C.hown C.hts (C.dec hd) hlk F_Slength hR (c_Slength (d + 6) j (by omega)) hrec (fun U hU hW => zB_end C hP hS U hU hW) rfl (by rw [hl.1]; simpa using hLn) (by rw [zcat_map]; exact hst) ⟨Nat.zero_le _, Nat.zero_le _⟩ (fun H1 L1 hP1 z1 k1 l1 => ?_)
  exact h r σ' hk p e s m args below meth c C H1 (locs ++ L1) ls hP1 (zS_ext hS z1 k1 l1) hl
theorem z_charAt (i n : Nat) {a ix d : Nat} {x : Int32} (hd : M.2.2.2.2[i]? = some (pc, .invokevirtual ix, 3)) (hn : pc + 3 = n) (hlk : Cond.methodLink M.1.cls ix ⟨"java/lang/String", "charAt", "(I)C"⟩ ∈ zTT) (hR : zR R (d + 7)) (ha : (1000 ≤ a ∧ a < 1018) ∧ 0 ≤ x.toInt ∧ x.toInt < zlen.getD (a - 1000) 0) (hLn : L.length = M.2.2.1) (hst : (st.map fun v => v.category).sum ≤ 8) (h : zK X w R M Z n L (.int (zsch a x) :: st) σ k) : zK X w R M Z pc L (.int x :: .ref a :: st) σ k := by
  obtain ⟨ha, h0, h1⟩ := ha
  obtain ⟨j, rfl⟩ : ∃ j, a = 1000 + j := ⟨a - 1000, by omega⟩
  rw [Nat.add_sub_cancel_left] at h1
  subst hn
  intro r σ' hk p e s m args below meth c C H locs ls hP hS hl
  have hrec := vk_recv C.hV.1 (show j < 18 by omega) hS
  rw [← zadK] at hrec
  refine zW_callV (As := [.int x]) (a := 1000 + j) C.hx C.hb C.hml C.hown C.hts (C.dec hd) hlk F_ScharAt hR (c_ScharAt (d + 4) j (by omega) x h0 h1) hrec (fun U hU hW => zB_end C hP hS U hU hW) rfl (by rw [hl.1]; simpa using hLn) (by rw [zcat_map]; exact hst) ⟨Nat.zero_le _, Nat.zero_le _⟩ (fun H1 L1 hP1 z1 k1 l1 => ?_)
  exact h r σ' hk p e s m args below meth c C H1 (locs ++ L1) ls hP1 (zS_ext hS z1 k1 l1) hl
end ZSTR2
end
