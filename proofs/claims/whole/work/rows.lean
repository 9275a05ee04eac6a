section
-- ===== PART A: goes FIRST, ahead of the names: the tables' words, and 'selects' of the private methods out of them =====
/-- a private method of a class that the tables say can be made, by its rows of tables_1 -/
def lw_okq (q : MethodName × Nat) : Prop := (q.1.cls ≠ "java/lang/invoke/MethodHandle" ∧ q.1.cls ≠ "java/lang/invoke/VarHandle") ∧ Cond.instantiable q.1.cls q.2 ∈ tables_1 ∧ Cond.privateMethod q.1 ∈ tables_1 ∧ Cond.instanceMethod q.1 ∈ tables_1
theorem lw_p0 : lw_okq (⟨"PostScripts", "refuse", "(I)I"⟩, 13) := ⟨⟨by decide +kernel, by decide +kernel⟩, List.mem_of_getElem? (i := 25) (by decide +kernel), List.mem_of_getElem? (i := 420) (by decide +kernel), List.mem_of_getElem? (i := 421) (by decide +kernel)⟩
theorem lw_p1 : lw_okq (⟨"PostScripts$Tape", "isSmall", "(I)Z"⟩, 7) := ⟨⟨by decide +kernel, by decide +kernel⟩, List.mem_of_getElem? (i := 39) (by decide +kernel), List.mem_of_getElem? (i := 444) (by decide +kernel), List.mem_of_getElem? (i := 445) (by decide +kernel)⟩
theorem lw_p2 : lw_okq (⟨"PostScripts$Tape", "readWord", "()V"⟩, 7) := ⟨⟨by decide +kernel, by decide +kernel⟩, List.mem_of_getElem? (i := 39) (by decide +kernel), List.mem_of_getElem? (i := 448) (by decide +kernel), List.mem_of_getElem? (i := 449) (by decide +kernel)⟩
theorem lw_p3 : lw_okq (⟨"PostScripts$Tape", "isDigit", "(I)Z"⟩, 7) := ⟨⟨by decide +kernel, by decide +kernel⟩, List.mem_of_getElem? (i := 39) (by decide +kernel), List.mem_of_getElem? (i := 452) (by decide +kernel), List.mem_of_getElem? (i := 453) (by decide +kernel)⟩
theorem lw_p4 : lw_okq (⟨"PostScripts$Tape", "readWhole", "()V"⟩, 7) := ⟨⟨by decide +kernel, by decide +kernel⟩, List.mem_of_getElem? (i := 39) (by decide +kernel), List.mem_of_getElem? (i := 456) (by decide +kernel), List.mem_of_getElem? (i := 457) (by decide +kernel)⟩
theorem lw_p5 : lw_okq (⟨"PostScripts$Reade\x72", "readHead", "()Z"⟩, 5) := ⟨⟨by decide +kernel, by decide +kernel⟩, List.mem_of_getElem? (i := 33) (by decide +kernel), List.mem_of_getElem? (i := 460) (by decide +kernel), List.mem_of_getElem? (i := 461) (by decide +kernel)⟩
theorem lw_p6 : lw_okq (⟨"PostScripts$Reade\x72", "lineWord", "()I"⟩, 5) := ⟨⟨by decide +kernel, by decide +kernel⟩, List.mem_of_getElem? (i := 33) (by decide +kernel), List.mem_of_getElem? (i := 464) (by decide +kernel), List.mem_of_getElem? (i := 465) (by decide +kernel)⟩
theorem lw_p7 : lw_okq (⟨"PostScripts$Reade\x72", "blame", "(I)Z"⟩, 5) := ⟨⟨by decide +kernel, by decide +kernel⟩, List.mem_of_getElem? (i := 33) (by decide +kernel), List.mem_of_getElem? (i := 529) (by decide +kernel), List.mem_of_getElem? (i := 530) (by decide +kernel)⟩
theorem lw_p8 : lw_okq (⟨"PostScripts$Reade\x72", "blameAt", "(II)Z"⟩, 5) := ⟨⟨by decide +kernel, by decide +kernel⟩, List.mem_of_getElem? (i := 33) (by decide +kernel), List.mem_of_getElem? (i := 533) (by decide +kernel), List.mem_of_getElem? (i := 534) (by decide +kernel)⟩
theorem lw_p9 : lw_okq (⟨"PostScripts$Reade\x72", "passWord", "(Ljava/lang/String;)Z"⟩, 5) := ⟨⟨by decide +kernel, by decide +kernel⟩, List.mem_of_getElem? (i := 33) (by decide +kernel), List.mem_of_getElem? (i := 539) (by decide +kernel), List.mem_of_getElem? (i := 540) (by decide +kernel)⟩
theorem lw_p10 : lw_okq (⟨"PostScripts$Reade\x72", "isWhole", "(II)Z"⟩, 5) := ⟨⟨by decide +kernel, by decide +kernel⟩, List.mem_of_getElem? (i := 33) (by decide +kernel), List.mem_of_getElem? (i := 543) (by decide +kernel), List.mem_of_getElem? (i := 544) (by decide +kernel)⟩
theorem lw_p11 : lw_okq (⟨"PostScripts$Reade\x72", "passNumbe\x72", "()I"⟩, 5) := ⟨⟨by decide +kernel, by decide +kernel⟩, List.mem_of_getElem? (i := 33) (by decide +kernel), List.mem_of_getElem? (i := 547) (by decide +kernel), List.mem_of_getElem? (i := 548) (by decide +kernel)⟩
theorem lw_p12 : lw_okq (⟨"PostScripts$Reade\x72", "readLine", "()Z"⟩, 5) := ⟨⟨by decide +kernel, by decide +kernel⟩, List.mem_of_getElem? (i := 33) (by decide +kernel), List.mem_of_getElem? (i := 551) (by decide +kernel), List.mem_of_getElem? (i := 552) (by decide +kernel)⟩
theorem lw_p13 : lw_okq (⟨"PostScripts$Reade\x72", "readPlace", "()Z"⟩, 5) := ⟨⟨by decide +kernel, by decide +kernel⟩, List.mem_of_getElem? (i := 33) (by decide +kernel), List.mem_of_getElem? (i := 555) (by decide +kernel), List.mem_of_getElem? (i := 556) (by decide +kernel)⟩
theorem lw_p14 : lw_okq (⟨"PostScripts$Reade\x72", "passNewName", "(II)Z"⟩, 5) := ⟨⟨by decide +kernel, by decide +kernel⟩, List.mem_of_getElem? (i := 33) (by decide +kernel), List.mem_of_getElem? (i := 559) (by decide +kernel), List.mem_of_getElem? (i := 560) (by decide +kernel)⟩
theorem lw_p15 : lw_okq (⟨"PostScripts$Reade\x72", "readOve\x72", "()Z"⟩, 5) := ⟨⟨by decide +kernel, by decide +kernel⟩, List.mem_of_getElem? (i := 33) (by decide +kernel), List.mem_of_getElem? (i := 581) (by decide +kernel), List.mem_of_getElem? (i := 582) (by decide +kernel)⟩
def lw_privs_1 : List (MethodName × Nat) := [(⟨"PostScripts", "refuse", "(I)I"⟩, 13), (⟨"PostScripts$Tape", "isSmall", "(I)Z"⟩, 7), (⟨"PostScripts$Tape", "readWord", "()V"⟩, 7), (⟨"PostScripts$Tape", "isDigit", "(I)Z"⟩, 7), (⟨"PostScripts$Tape", "readWhole", "()V"⟩, 7), (⟨"PostScripts$Reade\x72", "readHead", "()Z"⟩, 5), (⟨"PostScripts$Reade\x72", "lineWord", "()I"⟩, 5), (⟨"PostScripts$Reade\x72", "blame", "(I)Z"⟩, 5), (⟨"PostScripts$Reade\x72", "blameAt", "(II)Z"⟩, 5), (⟨"PostScripts$Reade\x72", "passWord", "(Ljava/lang/String;)Z"⟩, 5), (⟨"PostScripts$Reade\x72", "isWhole", "(II)Z"⟩, 5), (⟨"PostScripts$Reade\x72", "passNumbe\x72", "()I"⟩, 5), (⟨"PostScripts$Reade\x72", "readLine", "()Z"⟩, 5), (⟨"PostScripts$Reade\x72", "readPlace", "()Z"⟩, 5), (⟨"PostScripts$Reade\x72", "passNewName", "(II)Z"⟩, 5), (⟨"PostScripts$Reade\x72", "readOve\x72", "()Z"⟩, 5)]
theorem lw_r1 : ∀ q ∈ lw_privs_1, lw_okq q := List.forall_mem_cons.mpr ⟨lw_p0, List.forall_mem_cons.mpr ⟨lw_p1, List.forall_mem_cons.mpr ⟨lw_p2, List.forall_mem_cons.mpr ⟨lw_p3, List.forall_mem_cons.mpr ⟨lw_p4, List.forall_mem_cons.mpr ⟨lw_p5, List.forall_mem_cons.mpr ⟨lw_p6, List.forall_mem_cons.mpr ⟨lw_p7, List.forall_mem_cons.mpr ⟨lw_p8, List.forall_mem_cons.mpr ⟨lw_p9, List.forall_mem_cons.mpr ⟨lw_p10, List.forall_mem_cons.mpr ⟨lw_p11, List.forall_mem_cons.mpr ⟨lw_p12, List.forall_mem_cons.mpr ⟨lw_p13, List.forall_mem_cons.mpr ⟨lw_p14, List.forall_mem_cons.mpr ⟨lw_p15, fun _ h => absurd h List.not_mem_nil⟩⟩⟩⟩⟩⟩⟩⟩⟩⟩⟩⟩⟩⟩⟩⟩
theorem lw_p16 : lw_okq (⟨"PostScripts$Reade\x72", "passName", "(I)I"⟩, 5) := ⟨⟨by decide +kernel, by decide +kernel⟩, List.mem_of_getElem? (i := 33) (by decide +kernel), List.mem_of_getElem? (i := 585) (by decide +kernel), List.mem_of_getElem? (i := 586) (by decide +kernel)⟩
theorem lw_p17 : lw_okq (⟨"PostScripts$Reade\x72", "readHand", "()Z"⟩, 5) := ⟨⟨by decide +kernel, by decide +kernel⟩, List.mem_of_getElem? (i := 33) (by decide +kernel), List.mem_of_getElem? (i := 593) (by decide +kernel), List.mem_of_getElem? (i := 594) (by decide +kernel)⟩
theorem lw_p18 : lw_okq (⟨"PostScripts$Reade\x72", "readMatte\x72", "()Z"⟩, 5) := ⟨⟨by decide +kernel, by decide +kernel⟩, List.mem_of_getElem? (i := 33) (by decide +kernel), List.mem_of_getElem? (i := 598) (by decide +kernel), List.mem_of_getElem? (i := 599) (by decide +kernel)⟩
theorem lw_p19 : lw_okq (⟨"PostScripts$Reade\x72", "readWrote", "()Z"⟩, 5) := ⟨⟨by decide +kernel, by decide +kernel⟩, List.mem_of_getElem? (i := 33) (by decide +kernel), List.mem_of_getElem? (i := 602) (by decide +kernel), List.mem_of_getElem? (i := 603) (by decide +kernel)⟩
theorem lw_p20 : lw_okq (⟨"PostScripts$Reade\x72", "sayAtHand", "()I"⟩, 5) := ⟨⟨by decide +kernel, by decide +kernel⟩, List.mem_of_getElem? (i := 33) (by decide +kernel), List.mem_of_getElem? (i := 606) (by decide +kernel), List.mem_of_getElem? (i := 607) (by decide +kernel)⟩
theorem lw_p21 : lw_okq (⟨"PostScripts$Reade\x72", "readHidden", "()Z"⟩, 5) := ⟨⟨by decide +kernel, by decide +kernel⟩, List.mem_of_getElem? (i := 33) (by decide +kernel), List.mem_of_getElem? (i := 621) (by decide +kernel), List.mem_of_getElem? (i := 622) (by decide +kernel)⟩
theorem lw_p22 : lw_okq (⟨"PostScripts$Reade\x72", "readDone", "()Z"⟩, 5) := ⟨⟨by decide +kernel, by decide +kernel⟩, List.mem_of_getElem? (i := 33) (by decide +kernel), List.mem_of_getElem? (i := 625) (by decide +kernel), List.mem_of_getElem? (i := 626) (by decide +kernel)⟩
theorem lw_p23 : lw_okq (⟨"PostScripts$Reade\x72", "readBid", "()Z"⟩, 5) := ⟨⟨by decide +kernel, by decide +kernel⟩, List.mem_of_getElem? (i := 33) (by decide +kernel), List.mem_of_getElem? (i := 630) (by decide +kernel), List.mem_of_getElem? (i := 631) (by decide +kernel)⟩
theorem lw_p24 : lw_okq (⟨"PostScripts", "grant", "(I)I"⟩, 13) := ⟨⟨by decide +kernel, by decide +kernel⟩, List.mem_of_getElem? (i := 25) (by decide +kernel), List.mem_of_getElem? (i := 647) (by decide +kernel), List.mem_of_getElem? (i := 648) (by decide +kernel)⟩
theorem lw_p25 : lw_okq (⟨"PostScripts", "isPlace", "(I)Z"⟩, 13) := ⟨⟨by decide +kernel, by decide +kernel⟩, List.mem_of_getElem? (i := 25) (by decide +kernel), List.mem_of_getElem? (i := 663) (by decide +kernel), List.mem_of_getElem? (i := 664) (by decide +kernel)⟩
theorem lw_p26 : lw_okq (⟨"PostScripts", "roomAt", "(I)I"⟩, 13) := ⟨⟨by decide +kernel, by decide +kernel⟩, List.mem_of_getElem? (i := 25) (by decide +kernel), List.mem_of_getElem? (i := 667) (by decide +kernel), List.mem_of_getElem? (i := 668) (by decide +kernel)⟩
theorem lw_p27 : lw_okq (⟨"PostScripts", "isHand", "(I)Z"⟩, 13) := ⟨⟨by decide +kernel, by decide +kernel⟩, List.mem_of_getElem? (i := 25) (by decide +kernel), List.mem_of_getElem? (i := 680) (by decide +kernel), List.mem_of_getElem? (i := 681) (by decide +kernel)⟩
theorem lw_p28 : lw_okq (⟨"PostScripts", "ruledBy", "(I)I"⟩, 13) := ⟨⟨by decide +kernel, by decide +kernel⟩, List.mem_of_getElem? (i := 25) (by decide +kernel), List.mem_of_getElem? (i := 688) (by decide +kernel), List.mem_of_getElem? (i := 689) (by decide +kernel)⟩
theorem lw_p29 : lw_okq (⟨"PostScripts", "standing", "(II)I"⟩, 13) := ⟨⟨by decide +kernel, by decide +kernel⟩, List.mem_of_getElem? (i := 25) (by decide +kernel), List.mem_of_getElem? (i := 696) (by decide +kernel), List.mem_of_getElem? (i := 697) (by decide +kernel)⟩
theorem lw_p30 : lw_okq (⟨"PostScripts", "isLine", "(I)Z"⟩, 13) := ⟨⟨by decide +kernel, by decide +kernel⟩, List.mem_of_getElem? (i := 25) (by decide +kernel), List.mem_of_getElem? (i := 716) (by decide +kernel), List.mem_of_getElem? (i := 717) (by decide +kernel)⟩
theorem lw_p31 : lw_okq (⟨"PostScripts", "beaters", "(I)I"⟩, 13) := ⟨⟨by decide +kernel, by decide +kernel⟩, List.mem_of_getElem? (i := 25) (by decide +kernel), List.mem_of_getElem? (i := 720) (by decide +kernel), List.mem_of_getElem? (i := 721) (by decide +kernel)⟩
def lw_privs_2 : List (MethodName × Nat) := [(⟨"PostScripts$Reade\x72", "passName", "(I)I"⟩, 5), (⟨"PostScripts$Reade\x72", "readHand", "()Z"⟩, 5), (⟨"PostScripts$Reade\x72", "readMatte\x72", "()Z"⟩, 5), (⟨"PostScripts$Reade\x72", "readWrote", "()Z"⟩, 5), (⟨"PostScripts$Reade\x72", "sayAtHand", "()I"⟩, 5), (⟨"PostScripts$Reade\x72", "readHidden", "()Z"⟩, 5), (⟨"PostScripts$Reade\x72", "readDone", "()Z"⟩, 5), (⟨"PostScripts$Reade\x72", "readBid", "()Z"⟩, 5), (⟨"PostScripts", "grant", "(I)I"⟩, 13), (⟨"PostScripts", "isPlace", "(I)Z"⟩, 13), (⟨"PostScripts", "roomAt", "(I)I"⟩, 13), (⟨"PostScripts", "isHand", "(I)Z"⟩, 13), (⟨"PostScripts", "ruledBy", "(I)I"⟩, 13), (⟨"PostScripts", "standing", "(II)I"⟩, 13), (⟨"PostScripts", "isLine", "(I)Z"⟩, 13), (⟨"PostScripts", "beaters", "(I)I"⟩, 13)]
theorem lw_r2 : ∀ q ∈ lw_privs_2, lw_okq q := List.forall_mem_cons.mpr ⟨lw_p16, List.forall_mem_cons.mpr ⟨lw_p17, List.forall_mem_cons.mpr ⟨lw_p18, List.forall_mem_cons.mpr ⟨lw_p19, List.forall_mem_cons.mpr ⟨lw_p20, List.forall_mem_cons.mpr ⟨lw_p21, List.forall_mem_cons.mpr ⟨lw_p22, List.forall_mem_cons.mpr ⟨lw_p23, List.forall_mem_cons.mpr ⟨lw_p24, List.forall_mem_cons.mpr ⟨lw_p25, List.forall_mem_cons.mpr ⟨lw_p26, List.forall_mem_cons.mpr ⟨lw_p27, List.forall_mem_cons.mpr ⟨lw_p28, List.forall_mem_cons.mpr ⟨lw_p29, List.forall_mem_cons.mpr ⟨lw_p30, List.forall_mem_cons.mpr ⟨lw_p31, fun _ h => absurd h List.not_mem_nil⟩⟩⟩⟩⟩⟩⟩⟩⟩⟩⟩⟩⟩⟩⟩⟩
theorem lw_p32 : lw_okq (⟨"PostScripts", "isMatte\x72", "(I)Z"⟩, 13) := ⟨⟨by decide +kernel, by decide +kernel⟩, List.mem_of_getElem? (i := 25) (by decide +kernel), List.mem_of_getElem? (i := 728) (by decide +kernel), List.mem_of_getElem? (i := 729) (by decide +kernel)⟩
theorem lw_p33 : lw_okq (⟨"PostScripts", "verdict", "(II)I"⟩, 13) := ⟨⟨by decide +kernel, by decide +kernel⟩, List.mem_of_getElem? (i := 25) (by decide +kernel), List.mem_of_getElem? (i := 732) (by decide +kernel), List.mem_of_getElem? (i := 733) (by decide +kernel)⟩
theorem lw_p34 : lw_okq (⟨"PostScripts", "noLette\x72", "()Z"⟩, 13) := ⟨⟨by decide +kernel, by decide +kernel⟩, List.mem_of_getElem? (i := 25) (by decide +kernel), List.mem_of_getElem? (i := 753) (by decide +kernel), List.mem_of_getElem? (i := 754) (by decide +kernel)⟩
theorem lw_p35 : lw_okq (⟨"PostScripts", "turnedWithout", "(I)I"⟩, 13) := ⟨⟨by decide +kernel, by decide +kernel⟩, List.mem_of_getElem? (i := 25) (by decide +kernel), List.mem_of_getElem? (i := 771) (by decide +kernel), List.mem_of_getElem? (i := 772) (by decide +kernel)⟩
theorem lw_p36 : lw_okq (⟨"PostScripts", "verdictOfFirst", "(II)I"⟩, 13) := ⟨⟨by decide +kernel, by decide +kernel⟩, List.mem_of_getElem? (i := 25) (by decide +kernel), List.mem_of_getElem? (i := 779) (by decide +kernel), List.mem_of_getElem? (i := 780) (by decide +kernel)⟩
theorem lw_p37 : lw_okq (⟨"PostScripts", "leastTurn", "(I)I"⟩, 13) := ⟨⟨by decide +kernel, by decide +kernel⟩, List.mem_of_getElem? (i := 25) (by decide +kernel), List.mem_of_getElem? (i := 799) (by decide +kernel), List.mem_of_getElem? (i := 800) (by decide +kernel)⟩
theorem lw_p38 : lw_okq (⟨"PostScripts", "openPlaces", "()I"⟩, 13) := ⟨⟨by decide +kernel, by decide +kernel⟩, List.mem_of_getElem? (i := 25) (by decide +kernel), List.mem_of_getElem? (i := 815) (by decide +kernel), List.mem_of_getElem? (i := 816) (by decide +kernel)⟩
theorem lw_p39 : lw_okq (⟨"PostScripts", "setDuelRooms", "()V"⟩, 13) := ⟨⟨by decide +kernel, by decide +kernel⟩, List.mem_of_getElem? (i := 25) (by decide +kernel), List.mem_of_getElem? (i := 827) (by decide +kernel), List.mem_of_getElem? (i := 828) (by decide +kernel)⟩
theorem lw_p40 : lw_okq (⟨"PostScripts$Duel", "wonByOne", "(LPostScripts$Order;IIIZ)Z"⟩, 1) := ⟨⟨by decide +kernel, by decide +kernel⟩, List.mem_of_getElem? (i := 355) (by decide +kernel), List.mem_of_getElem? (i := 831) (by decide +kernel), List.mem_of_getElem? (i := 832) (by decide +kernel)⟩
theorem lw_p41 : lw_okq (⟨"PostScripts$Duel", "wonBehind", "(LPostScripts$Order;IIIZI)Z"⟩, 1) := ⟨⟨by decide +kernel, by decide +kernel⟩, List.mem_of_getElem? (i := 355) (by decide +kernel), List.mem_of_getElem? (i := 837) (by decide +kernel), List.mem_of_getElem? (i := 838) (by decide +kernel)⟩
theorem lw_p42 : lw_okq (⟨"PostScripts", "bestBids", "(I)I"⟩, 13) := ⟨⟨by decide +kernel, by decide +kernel⟩, List.mem_of_getElem? (i := 25) (by decide +kernel), List.mem_of_getElem? (i := 887) (by decide +kernel), List.mem_of_getElem? (i := 888) (by decide +kernel)⟩
theorem lw_p43 : lw_okq (⟨"PostScripts", "canTake", "(I)Z"⟩, 13) := ⟨⟨by decide +kernel, by decide +kernel⟩, List.mem_of_getElem? (i := 25) (by decide +kernel), List.mem_of_getElem? (i := 895) (by decide +kernel), List.mem_of_getElem? (i := 896) (by decide +kernel)⟩
theorem lw_p44 : lw_okq (⟨"PostScripts$Fillings", "stepOf", "(I)I"⟩, 10) := ⟨⟨by decide +kernel, by decide +kernel⟩, List.mem_of_getElem? (i := 315) (by decide +kernel), List.mem_of_getElem? (i := 929) (by decide +kernel), List.mem_of_getElem? (i := 930) (by decide +kernel)⟩
theorem lw_p45 : lw_okq (⟨"PostScripts$Fillings", "fill", "(LPostScripts$Letter;I)V"⟩, 10) := ⟨⟨by decide +kernel, by decide +kernel⟩, List.mem_of_getElem? (i := 315) (by decide +kernel), List.mem_of_getElem? (i := 933) (by decide +kernel), List.mem_of_getElem? (i := 934) (by decide +kernel)⟩
theorem lw_p46 : lw_okq (⟨"PostScripts$Fillings", "digit", "(II)I"⟩, 10) := ⟨⟨by decide +kernel, by decide +kernel⟩, List.mem_of_getElem? (i := 315) (by decide +kernel), List.mem_of_getElem? (i := 937) (by decide +kernel), List.mem_of_getElem? (i := 938) (by decide +kernel)⟩
theorem lw_p47 : lw_okq (⟨"PostScripts$Fillings", "isAsTold", "(LPostScripts$Letter;LPostScripts$Order;)Z"⟩, 10) := ⟨⟨by decide +kernel, by decide +kernel⟩, List.mem_of_getElem? (i := 315) (by decide +kernel), List.mem_of_getElem? (i := 941) (by decide +kernel), List.mem_of_getElem? (i := 942) (by decide +kernel)⟩
def lw_privs_3 : List (MethodName × Nat) := [(⟨"PostScripts", "isMatte\x72", "(I)Z"⟩, 13), (⟨"PostScripts", "verdict", "(II)I"⟩, 13), (⟨"PostScripts", "noLette\x72", "()Z"⟩, 13), (⟨"PostScripts", "turnedWithout", "(I)I"⟩, 13), (⟨"PostScripts", "verdictOfFirst", "(II)I"⟩, 13), (⟨"PostScripts", "leastTurn", "(I)I"⟩, 13), (⟨"PostScripts", "openPlaces", "()I"⟩, 13), (⟨"PostScripts", "setDuelRooms", "()V"⟩, 13), (⟨"PostScripts$Duel", "wonByOne", "(LPostScripts$Order;IIIZ)Z"⟩, 1), (⟨"PostScripts$Duel", "wonBehind", "(LPostScripts$Order;IIIZI)Z"⟩, 1), (⟨"PostScripts", "bestBids", "(I)I"⟩, 13), (⟨"PostScripts", "canTake", "(I)Z"⟩, 13), (⟨"PostScripts$Fillings", "stepOf", "(I)I"⟩, 10), (⟨"PostScripts$Fillings", "fill", "(LPostScripts$Letter;I)V"⟩, 10), (⟨"PostScripts$Fillings", "digit", "(II)I"⟩, 10), (⟨"PostScripts$Fillings", "isAsTold", "(LPostScripts$Letter;LPostScripts$Order;)Z"⟩, 10)]
theorem lw_r3 : ∀ q ∈ lw_privs_3, lw_okq q := List.forall_mem_cons.mpr ⟨lw_p32, List.forall_mem_cons.mpr ⟨lw_p33, List.forall_mem_cons.mpr ⟨lw_p34, List.forall_mem_cons.mpr ⟨lw_p35, List.forall_mem_cons.mpr ⟨lw_p36, List.forall_mem_cons.mpr ⟨lw_p37, List.forall_mem_cons.mpr ⟨lw_p38, List.forall_mem_cons.mpr ⟨lw_p39, List.forall_mem_cons.mpr ⟨lw_p40, List.forall_mem_cons.mpr ⟨lw_p41, List.forall_mem_cons.mpr ⟨lw_p42, List.forall_mem_cons.mpr ⟨lw_p43, List.forall_mem_cons.mpr ⟨lw_p44, List.forall_mem_cons.mpr ⟨lw_p45, List.forall_mem_cons.mpr ⟨lw_p46, List.forall_mem_cons.mpr ⟨lw_p47, fun _ h => absurd h List.not_mem_nil⟩⟩⟩⟩⟩⟩⟩⟩⟩⟩⟩⟩⟩⟩⟩⟩
theorem lw_p48 : lw_okq (⟨"PostScripts$Fillings", "keep", "(I)V"⟩, 10) := ⟨⟨by decide +kernel, by decide +kernel⟩, List.mem_of_getElem? (i := 315) (by decide +kernel), List.mem_of_getElem? (i := 946) (by decide +kernel), List.mem_of_getElem? (i := 947) (by decide +kernel)⟩
theorem lw_p49 : lw_okq (⟨"PostScripts", "isHidden", "(I)Z"⟩, 13) := ⟨⟨by decide +kernel, by decide +kernel⟩, List.mem_of_getElem? (i := 25) (by decide +kernel), List.mem_of_getElem? (i := 954) (by decide +kernel), List.mem_of_getElem? (i := 955) (by decide +kernel)⟩
theorem lw_p50 : lw_okq (⟨"PostScripts", "chance", "(II)J"⟩, 13) := ⟨⟨by decide +kernel, by decide +kernel⟩, List.mem_of_getElem? (i := 25) (by decide +kernel), List.mem_of_getElem? (i := 1015) (by decide +kernel), List.mem_of_getElem? (i := 1016) (by decide +kernel)⟩
theorem lw_p51 : lw_okq (⟨"PostScripts", "countRead", "(I)I"⟩, 13) := ⟨⟨by decide +kernel, by decide +kernel⟩, List.mem_of_getElem? (i := 25) (by decide +kernel), List.mem_of_getElem? (i := 1023) (by decide +kernel), List.mem_of_getElem? (i := 1024) (by decide +kernel)⟩
theorem lw_p52 : lw_okq (⟨"PostScripts", "smudge", "(II)I"⟩, 13) := ⟨⟨by decide +kernel, by decide +kernel⟩, List.mem_of_getElem? (i := 25) (by decide +kernel), List.mem_of_getElem? (i := 1047) (by decide +kernel), List.mem_of_getElem? (i := 1048) (by decide +kernel)⟩
theorem lw_p53 : lw_okq (⟨"java/lang/Throwable", "fillInStackTrace", "(I)Ljava/lang/Throwable;"⟩, 6) := ⟨⟨by decide +kernel, by decide +kernel⟩, List.mem_of_getElem? (i := 1136) (by decide +kernel), List.mem_of_getElem? (i := 1134) (by decide +kernel), List.mem_of_getElem? (i := 1135) (by decide +kernel)⟩
theorem lw_p54 : lw_okq (⟨"PostScriptsModel", "good", "()V"⟩, 40) := ⟨⟨by decide +kernel, by decide +kernel⟩, List.mem_of_getElem? (i := 1161) (by decide +kernel), List.mem_of_getElem? (i := 1300) (by decide +kernel), List.mem_of_getElem? (i := 1301) (by decide +kernel)⟩
theorem lw_p55 : lw_okq (⟨"PostScriptsModel", "no", "(I)I"⟩, 40) := ⟨⟨by decide +kernel, by decide +kernel⟩, List.mem_of_getElem? (i := 1161) (by decide +kernel), List.mem_of_getElem? (i := 1307) (by decide +kernel), List.mem_of_getElem? (i := 1308) (by decide +kernel)⟩
theorem lw_p56 : lw_okq (⟨"PostScriptsModel", "next", "()V"⟩, 40) := ⟨⟨by decide +kernel, by decide +kernel⟩, List.mem_of_getElem? (i := 1161) (by decide +kernel), List.mem_of_getElem? (i := 1311) (by decide +kernel), List.mem_of_getElem? (i := 1312) (by decide +kernel)⟩
theorem lw_p57 : lw_okq (⟨"PostScriptsModel", "see", "(I)I"⟩, 40) := ⟨⟨by decide +kernel, by decide +kernel⟩, List.mem_of_getElem? (i := 1161) (by decide +kernel), List.mem_of_getElem? (i := 1315) (by decide +kernel), List.mem_of_getElem? (i := 1316) (by decide +kernel)⟩
theorem lw_p58 : lw_okq (⟨"PostScriptsModel", "readLine", "()V"⟩, 40) := ⟨⟨by decide +kernel, by decide +kernel⟩, List.mem_of_getElem? (i := 1161) (by decide +kernel), List.mem_of_getElem? (i := 1325) (by decide +kernel), List.mem_of_getElem? (i := 1326) (by decide +kernel)⟩
theorem lw_p59 : lw_okq (⟨"PostScriptsModel", "isWord", "(Ljava/lang/String;)Z"⟩, 40) := ⟨⟨by decide +kernel, by decide +kernel⟩, List.mem_of_getElem? (i := 1161) (by decide +kernel), List.mem_of_getElem? (i := 1330) (by decide +kernel), List.mem_of_getElem? (i := 1331) (by decide +kernel)⟩
theorem lw_p60 : lw_okq (⟨"PostScriptsModel", "letterLine", "()V"⟩, 40) := ⟨⟨by decide +kernel, by decide +kernel⟩, List.mem_of_getElem? (i := 1161) (by decide +kernel), List.mem_of_getElem? (i := 1336) (by decide +kernel), List.mem_of_getElem? (i := 1337) (by decide +kernel)⟩
theorem lw_p61 : lw_okq (⟨"PostScriptsModel", "wrong", "(II)V"⟩, 40) := ⟨⟨by decide +kernel, by decide +kernel⟩, List.mem_of_getElem? (i := 1161) (by decide +kernel), List.mem_of_getElem? (i := 1340) (by decide +kernel), List.mem_of_getElem? (i := 1341) (by decide +kernel)⟩
theorem lw_p62 : lw_okq (⟨"PostScriptsModel", "afte\x72", "(Ljava/lang/String;II)I"⟩, 40) := ⟨⟨by decide +kernel, by decide +kernel⟩, List.mem_of_getElem? (i := 1161) (by decide +kernel), List.mem_of_getElem? (i := 1345) (by decide +kernel), List.mem_of_getElem? (i := 1346) (by decide +kernel)⟩
theorem lw_p63 : lw_okq (⟨"PostScriptsModel", "must", "(Ljava/lang/String;)V"⟩, 40) := ⟨⟨by decide +kernel, by decide +kernel⟩, List.mem_of_getElem? (i := 1161) (by decide +kernel), List.mem_of_getElem? (i := 1349) (by decide +kernel), List.mem_of_getElem? (i := 1350) (by decide +kernel)⟩
def lw_privs_4 : List (MethodName × Nat) := [(⟨"PostScripts$Fillings", "keep", "(I)V"⟩, 10), (⟨"PostScripts", "isHidden", "(I)Z"⟩, 13), (⟨"PostScripts", "chance", "(II)J"⟩, 13), (⟨"PostScripts", "countRead", "(I)I"⟩, 13), (⟨"PostScripts", "smudge", "(II)I"⟩, 13), (⟨"java/lang/Throwable", "fillInStackTrace", "(I)Ljava/lang/Throwable;"⟩, 6), (⟨"PostScriptsModel", "good", "()V"⟩, 40), (⟨"PostScriptsModel", "no", "(I)I"⟩, 40), (⟨"PostScriptsModel", "next", "()V"⟩, 40), (⟨"PostScriptsModel", "see", "(I)I"⟩, 40), (⟨"PostScriptsModel", "readLine", "()V"⟩, 40), (⟨"PostScriptsModel", "isWord", "(Ljava/lang/String;)Z"⟩, 40), (⟨"PostScriptsModel", "letterLine", "()V"⟩, 40), (⟨"PostScriptsModel", "wrong", "(II)V"⟩, 40), (⟨"PostScriptsModel", "afte\x72", "(Ljava/lang/String;II)I"⟩, 40), (⟨"PostScriptsModel", "must", "(Ljava/lang/String;)V"⟩, 40)]
theorem lw_r4 : ∀ q ∈ lw_privs_4, lw_okq q := List.forall_mem_cons.mpr ⟨lw_p48, List.forall_mem_cons.mpr ⟨lw_p49, List.forall_mem_cons.mpr ⟨lw_p50, List.forall_mem_cons.mpr ⟨lw_p51, List.forall_mem_cons.mpr ⟨lw_p52, List.forall_mem_cons.mpr ⟨lw_p53, List.forall_mem_cons.mpr ⟨lw_p54, List.forall_mem_cons.mpr ⟨lw_p55, List.forall_mem_cons.mpr ⟨lw_p56, List.forall_mem_cons.mpr ⟨lw_p57, List.forall_mem_cons.mpr ⟨lw_p58, List.forall_mem_cons.mpr ⟨lw_p59, List.forall_mem_cons.mpr ⟨lw_p60, List.forall_mem_cons.mpr ⟨lw_p61, List.forall_mem_cons.mpr ⟨lw_p62, List.forall_mem_cons.mpr ⟨lw_p63, fun _ h => absurd h List.not_mem_nil⟩⟩⟩⟩⟩⟩⟩⟩⟩⟩⟩⟩⟩⟩⟩⟩
theorem lw_p64 : lw_okq (⟨"PostScriptsModel", "takesWord", "(Ljava/lang/String;)Z"⟩, 40) := ⟨⟨by decide +kernel, by decide +kernel⟩, List.mem_of_getElem? (i := 1161) (by decide +kernel), List.mem_of_getElem? (i := 1353) (by decide +kernel), List.mem_of_getElem? (i := 1354) (by decide +kernel)⟩
theorem lw_p65 : lw_okq (⟨"PostScriptsModel", "numbe\x72", "(II)I"⟩, 40) := ⟨⟨by decide +kernel, by decide +kernel⟩, List.mem_of_getElem? (i := 1161) (by decide +kernel), List.mem_of_getElem? (i := 1357) (by decide +kernel), List.mem_of_getElem? (i := 1358) (by decide +kernel)⟩
theorem lw_p66 : lw_okq (⟨"PostScriptsModel", "numberHere", "(II)I"⟩, 40) := ⟨⟨by decide +kernel, by decide +kernel⟩, List.mem_of_getElem? (i := 1161) (by decide +kernel), List.mem_of_getElem? (i := 1361) (by decide +kernel), List.mem_of_getElem? (i := 1362) (by decide +kernel)⟩
theorem lw_p67 : lw_okq (⟨"PostScriptsModel", "pass", "()V"⟩, 40) := ⟨⟨by decide +kernel, by decide +kernel⟩, List.mem_of_getElem? (i := 1161) (by decide +kernel), List.mem_of_getElem? (i := 1365) (by decide +kernel), List.mem_of_getElem? (i := 1366) (by decide +kernel)⟩
theorem lw_p68 : lw_okq (⟨"PostScriptsModel", "begins", "(Ljava/lang/String;Z)Z"⟩, 40) := ⟨⟨by decide +kernel, by decide +kernel⟩, List.mem_of_getElem? (i := 1161) (by decide +kernel), List.mem_of_getElem? (i := 1370) (by decide +kernel), List.mem_of_getElem? (i := 1371) (by decide +kernel)⟩
theorem lw_p69 : lw_okq (⟨"PostScriptsModel", "placeLine", "()V"⟩, 40) := ⟨⟨by decide +kernel, by decide +kernel⟩, List.mem_of_getElem? (i := 1161) (by decide +kernel), List.mem_of_getElem? (i := 1374) (by decide +kernel), List.mem_of_getElem? (i := 1375) (by decide +kernel)⟩
theorem lw_p70 : lw_okq (⟨"PostScriptsModel", "newName", "(I)V"⟩, 40) := ⟨⟨by decide +kernel, by decide +kernel⟩, List.mem_of_getElem? (i := 1161) (by decide +kernel), List.mem_of_getElem? (i := 1378) (by decide +kernel), List.mem_of_getElem? (i := 1379) (by decide +kernel)⟩
theorem lw_p71 : lw_okq (⟨"PostScriptsModel", "mustName", "()V"⟩, 40) := ⟨⟨by decide +kernel, by decide +kernel⟩, List.mem_of_getElem? (i := 1161) (by decide +kernel), List.mem_of_getElem? (i := 1382) (by decide +kernel), List.mem_of_getElem? (i := 1383) (by decide +kernel)⟩
theorem lw_p72 : lw_okq (⟨"PostScriptsModel", "find", "()I"⟩, 40) := ⟨⟨by decide +kernel, by decide +kernel⟩, List.mem_of_getElem? (i := 1161) (by decide +kernel), List.mem_of_getElem? (i := 1393) (by decide +kernel), List.mem_of_getElem? (i := 1394) (by decide +kernel)⟩
theorem lw_p73 : lw_okq (⟨"PostScriptsModel", "overLine", "()V"⟩, 40) := ⟨⟨by decide +kernel, by decide +kernel⟩, List.mem_of_getElem? (i := 1161) (by decide +kernel), List.mem_of_getElem? (i := 1399) (by decide +kernel), List.mem_of_getElem? (i := 1400) (by decide +kernel)⟩
theorem lw_p74 : lw_okq (⟨"PostScriptsModel", "placePassed", "()I"⟩, 40) := ⟨⟨by decide +kernel, by decide +kernel⟩, List.mem_of_getElem? (i := 1161) (by decide +kernel), List.mem_of_getElem? (i := 1403) (by decide +kernel), List.mem_of_getElem? (i := 1404) (by decide +kernel)⟩
theorem lw_p75 : lw_okq (⟨"PostScriptsModel", "named", "(II)I"⟩, 40) := ⟨⟨by decide +kernel, by decide +kernel⟩, List.mem_of_getElem? (i := 1161) (by decide +kernel), List.mem_of_getElem? (i := 1407) (by decide +kernel), List.mem_of_getElem? (i := 1408) (by decide +kernel)⟩
theorem lw_p76 : lw_okq (⟨"PostScriptsModel", "handLine", "()V"⟩, 40) := ⟨⟨by decide +kernel, by decide +kernel⟩, List.mem_of_getElem? (i := 1161) (by decide +kernel), List.mem_of_getElem? (i := 1411) (by decide +kernel), List.mem_of_getElem? (i := 1412) (by decide +kernel)⟩
theorem lw_p77 : lw_okq (⟨"PostScriptsModel", "matterLine", "()V"⟩, 40) := ⟨⟨by decide +kernel, by decide +kernel⟩, List.mem_of_getElem? (i := 1161) (by decide +kernel), List.mem_of_getElem? (i := 1416) (by decide +kernel), List.mem_of_getElem? (i := 1417) (by decide +kernel)⟩
theorem lw_p78 : lw_okq (⟨"PostScriptsModel", "wroteLine", "()V"⟩, 40) := ⟨⟨by decide +kernel, by decide +kernel⟩, List.mem_of_getElem? (i := 1161) (by decide +kernel), List.mem_of_getElem? (i := 1420) (by decide +kernel), List.mem_of_getElem? (i := 1421) (by decide +kernel)⟩
theorem lw_p79 : lw_okq (⟨"PostScriptsModel", "handPassed", "()I"⟩, 40) := ⟨⟨by decide +kernel, by decide +kernel⟩, List.mem_of_getElem? (i := 1161) (by decide +kernel), List.mem_of_getElem? (i := 1424) (by decide +kernel), List.mem_of_getElem? (i := 1425) (by decide +kernel)⟩
def lw_privs_5 : List (MethodName × Nat) := [(⟨"PostScriptsModel", "takesWord", "(Ljava/lang/String;)Z"⟩, 40), (⟨"PostScriptsModel", "numbe\x72", "(II)I"⟩, 40), (⟨"PostScriptsModel", "numberHere", "(II)I"⟩, 40), (⟨"PostScriptsModel", "pass", "()V"⟩, 40), (⟨"PostScriptsModel", "begins", "(Ljava/lang/String;Z)Z"⟩, 40), (⟨"PostScriptsModel", "placeLine", "()V"⟩, 40), (⟨"PostScriptsModel", "newName", "(I)V"⟩, 40), (⟨"PostScriptsModel", "mustName", "()V"⟩, 40), (⟨"PostScriptsModel", "find", "()I"⟩, 40), (⟨"PostScriptsModel", "overLine", "()V"⟩, 40), (⟨"PostScriptsModel", "placePassed", "()I"⟩, 40), (⟨"PostScriptsModel", "named", "(II)I"⟩, 40), (⟨"PostScriptsModel", "handLine", "()V"⟩, 40), (⟨"PostScriptsModel", "matterLine", "()V"⟩, 40), (⟨"PostScriptsModel", "wroteLine", "()V"⟩, 40), (⟨"PostScriptsModel", "handPassed", "()I"⟩, 40)]
theorem lw_r5 : ∀ q ∈ lw_privs_5, lw_okq q := List.forall_mem_cons.mpr ⟨lw_p64, List.forall_mem_cons.mpr ⟨lw_p65, List.forall_mem_cons.mpr ⟨lw_p66, List.forall_mem_cons.mpr ⟨lw_p67, List.forall_mem_cons.mpr ⟨lw_p68, List.forall_mem_cons.mpr ⟨lw_p69, List.forall_mem_cons.mpr ⟨lw_p70, List.forall_mem_cons.mpr ⟨lw_p71, List.forall_mem_cons.mpr ⟨lw_p72, List.forall_mem_cons.mpr ⟨lw_p73, List.forall_mem_cons.mpr ⟨lw_p74, List.forall_mem_cons.mpr ⟨lw_p75, List.forall_mem_cons.mpr ⟨lw_p76, List.forall_mem_cons.mpr ⟨lw_p77, List.forall_mem_cons.mpr ⟨lw_p78, List.forall_mem_cons.mpr ⟨lw_p79, fun _ h => absurd h List.not_mem_nil⟩⟩⟩⟩⟩⟩⟩⟩⟩⟩⟩⟩⟩⟩⟩⟩
theorem lw_p80 : lw_okq (⟨"PostScriptsModel", "say", "()I"⟩, 40) := ⟨⟨by decide +kernel, by decide +kernel⟩, List.mem_of_getElem? (i := 1161) (by decide +kernel), List.mem_of_getElem? (i := 1428) (by decide +kernel), List.mem_of_getElem? (i := 1429) (by decide +kernel)⟩
theorem lw_p81 : lw_okq (⟨"PostScriptsModel", "roomOn", "([I[II)I"⟩, 40) := ⟨⟨by decide +kernel, by decide +kernel⟩, List.mem_of_getElem? (i := 1161) (by decide +kernel), List.mem_of_getElem? (i := 1435) (by decide +kernel), List.mem_of_getElem? (i := 1436) (by decide +kernel)⟩
theorem lw_p82 : lw_okq (⟨"PostScriptsModel", "hiddenLine", "()V"⟩, 40) := ⟨⟨by decide +kernel, by decide +kernel⟩, List.mem_of_getElem? (i := 1161) (by decide +kernel), List.mem_of_getElem? (i := 1442) (by decide +kernel), List.mem_of_getElem? (i := 1443) (by decide +kernel)⟩
theorem lw_p83 : lw_okq (⟨"PostScriptsModel", "doneLine", "()V"⟩, 40) := ⟨⟨by decide +kernel, by decide +kernel⟩, List.mem_of_getElem? (i := 1161) (by decide +kernel), List.mem_of_getElem? (i := 1446) (by decide +kernel), List.mem_of_getElem? (i := 1447) (by decide +kernel)⟩
theorem lw_p84 : lw_okq (⟨"PostScriptsModel", "bidLine", "()V"⟩, 40) := ⟨⟨by decide +kernel, by decide +kernel⟩, List.mem_of_getElem? (i := 1161) (by decide +kernel), List.mem_of_getElem? (i := 1451) (by decide +kernel), List.mem_of_getElem? (i := 1452) (by decide +kernel)⟩
theorem lw_p85 : lw_okq (⟨"PostScriptsModel", "isPlace", "(I)Z"⟩, 40) := ⟨⟨by decide +kernel, by decide +kernel⟩, List.mem_of_getElem? (i := 1161) (by decide +kernel), List.mem_of_getElem? (i := 1471) (by decide +kernel), List.mem_of_getElem? (i := 1472) (by decide +kernel)⟩
theorem lw_p86 : lw_okq (⟨"PostScriptsModel", "outrankedBy", "(I)I"⟩, 40) := ⟨⟨by decide +kernel, by decide +kernel⟩, List.mem_of_getElem? (i := 1161) (by decide +kernel), List.mem_of_getElem? (i := 1475) (by decide +kernel), List.mem_of_getElem? (i := 1476) (by decide +kernel)⟩
theorem lw_p87 : lw_okq (⟨"PostScriptsModel", "doesOutrank", "(II)Z"⟩, 40) := ⟨⟨by decide +kernel, by decide +kernel⟩, List.mem_of_getElem? (i := 1161) (by decide +kernel), List.mem_of_getElem? (i := 1479) (by decide +kernel), List.mem_of_getElem? (i := 1480) (by decide +kernel)⟩
theorem lw_p88 : lw_okq (⟨"PostScriptsModel", "linesAt", "(I)I"⟩, 40) := ⟨⟨by decide +kernel, by decide +kernel⟩, List.mem_of_getElem? (i := 1161) (by decide +kernel), List.mem_of_getElem? (i := 1486) (by decide +kernel), List.mem_of_getElem? (i := 1487) (by decide +kernel)⟩
theorem lw_p89 : lw_okq (⟨"PostScriptsModel", "linesOf", "(I)I"⟩, 40) := ⟨⟨by decide +kernel, by decide +kernel⟩, List.mem_of_getElem? (i := 1161) (by decide +kernel), List.mem_of_getElem? (i := 1494) (by decide +kernel), List.mem_of_getElem? (i := 1495) (by decide +kernel)⟩
theorem lw_p90 : lw_okq (⟨"PostScriptsModel", "ruledBy", "(I)I"⟩, 40) := ⟨⟨by decide +kernel, by decide +kernel⟩, List.mem_of_getElem? (i := 1161) (by decide +kernel), List.mem_of_getElem? (i := 1498) (by decide +kernel), List.mem_of_getElem? (i := 1499) (by decide +kernel)⟩
theorem lw_p91 : lw_okq (⟨"PostScriptsModel", "standsOf", "(II)I"⟩, 40) := ⟨⟨by decide +kernel, by decide +kernel⟩, List.mem_of_getElem? (i := 1161) (by decide +kernel), List.mem_of_getElem? (i := 1502) (by decide +kernel), List.mem_of_getElem? (i := 1503) (by decide +kernel)⟩
theorem lw_p92 : lw_okq (⟨"PostScriptsModel", "layList", "([IIII)V"⟩, 40) := ⟨⟨by decide +kernel, by decide +kernel⟩, List.mem_of_getElem? (i := 1161) (by decide +kernel), List.mem_of_getElem? (i := 1506) (by decide +kernel), List.mem_of_getElem? (i := 1507) (by decide +kernel)⟩
theorem lw_p93 : lw_okq (⟨"PostScriptsModel", "add", "(III)V"⟩, 40) := ⟨⟨by decide +kernel, by decide +kernel⟩, List.mem_of_getElem? (i := 1161) (by decide +kernel), List.mem_of_getElem? (i := 1513) (by decide +kernel), List.mem_of_getElem? (i := 1514) (by decide +kernel)⟩
theorem lw_p94 : lw_okq (⟨"PostScriptsModel", "unbeaten", "()I"⟩, 40) := ⟨⟨by decide +kernel, by decide +kernel⟩, List.mem_of_getElem? (i := 1161) (by decide +kernel), List.mem_of_getElem? (i := 1517) (by decide +kernel), List.mem_of_getElem? (i := 1518) (by decide +kernel)⟩
theorem lw_p95 : lw_okq (⟨"PostScriptsModel", "doesBeat", "(II)Z"⟩, 40) := ⟨⟨by decide +kernel, by decide +kernel⟩, List.mem_of_getElem? (i := 1161) (by decide +kernel), List.mem_of_getElem? (i := 1521) (by decide +kernel), List.mem_of_getElem? (i := 1522) (by decide +kernel)⟩
def lw_privs_6 : List (MethodName × Nat) := [(⟨"PostScriptsModel", "say", "()I"⟩, 40), (⟨"PostScriptsModel", "roomOn", "([I[II)I"⟩, 40), (⟨"PostScriptsModel", "hiddenLine", "()V"⟩, 40), (⟨"PostScriptsModel", "doneLine", "()V"⟩, 40), (⟨"PostScriptsModel", "bidLine", "()V"⟩, 40), (⟨"PostScriptsModel", "isPlace", "(I)Z"⟩, 40), (⟨"PostScriptsModel", "outrankedBy", "(I)I"⟩, 40), (⟨"PostScriptsModel", "doesOutrank", "(II)Z"⟩, 40), (⟨"PostScriptsModel", "linesAt", "(I)I"⟩, 40), (⟨"PostScriptsModel", "linesOf", "(I)I"⟩, 40), (⟨"PostScriptsModel", "ruledBy", "(I)I"⟩, 40), (⟨"PostScriptsModel", "standsOf", "(II)I"⟩, 40), (⟨"PostScriptsModel", "layList", "([IIII)V"⟩, 40), (⟨"PostScriptsModel", "add", "(III)V"⟩, 40), (⟨"PostScriptsModel", "unbeaten", "()I"⟩, 40), (⟨"PostScriptsModel", "doesBeat", "(II)Z"⟩, 40)]
theorem lw_r6 : ∀ q ∈ lw_privs_6, lw_okq q := List.forall_mem_cons.mpr ⟨lw_p80, List.forall_mem_cons.mpr ⟨lw_p81, List.forall_mem_cons.mpr ⟨lw_p82, List.forall_mem_cons.mpr ⟨lw_p83, List.forall_mem_cons.mpr ⟨lw_p84, List.forall_mem_cons.mpr ⟨lw_p85, List.forall_mem_cons.mpr ⟨lw_p86, List.forall_mem_cons.mpr ⟨lw_p87, List.forall_mem_cons.mpr ⟨lw_p88, List.forall_mem_cons.mpr ⟨lw_p89, List.forall_mem_cons.mpr ⟨lw_p90, List.forall_mem_cons.mpr ⟨lw_p91, List.forall_mem_cons.mpr ⟨lw_p92, List.forall_mem_cons.mpr ⟨lw_p93, List.forall_mem_cons.mpr ⟨lw_p94, List.forall_mem_cons.mpr ⟨lw_p95, fun _ h => absurd h List.not_mem_nil⟩⟩⟩⟩⟩⟩⟩⟩⟩⟩⟩⟩⟩⟩⟩⟩
theorem lw_p96 : lw_okq (⟨"PostScriptsModel", "isLine", "(I)Z"⟩, 40) := ⟨⟨by decide +kernel, by decide +kernel⟩, List.mem_of_getElem? (i := 1161) (by decide +kernel), List.mem_of_getElem? (i := 1529) (by decide +kernel), List.mem_of_getElem? (i := 1530) (by decide +kernel)⟩
theorem lw_p97 : lw_okq (⟨"PostScriptsModel", "beatersOf", "(I)I"⟩, 40) := ⟨⟨by decide +kernel, by decide +kernel⟩, List.mem_of_getElem? (i := 1161) (by decide +kernel), List.mem_of_getElem? (i := 1533) (by decide +kernel), List.mem_of_getElem? (i := 1534) (by decide +kernel)⟩
theorem lw_p98 : lw_okq (⟨"PostScriptsModel", "isMatte\x72", "(I)Z"⟩, 40) := ⟨⟨by decide +kernel, by decide +kernel⟩, List.mem_of_getElem? (i := 1161) (by decide +kernel), List.mem_of_getElem? (i := 1541) (by decide +kernel), List.mem_of_getElem? (i := 1542) (by decide +kernel)⟩
theorem lw_p99 : lw_okq (⟨"PostScriptsModel", "doneNow", "(I)I"⟩, 40) := ⟨⟨by decide +kernel, by decide +kernel⟩, List.mem_of_getElem? (i := 1161) (by decide +kernel), List.mem_of_getElem? (i := 1545) (by decide +kernel), List.mem_of_getElem? (i := 1546) (by decide +kernel)⟩
theorem lw_p100 : lw_okq (⟨"PostScriptsModel", "doneOf", "([IIII)I"⟩, 40) := ⟨⟨by decide +kernel, by decide +kernel⟩, List.mem_of_getElem? (i := 1161) (by decide +kernel), List.mem_of_getElem? (i := 1549) (by decide +kernel), List.mem_of_getElem? (i := 1550) (by decide +kernel)⟩
theorem lw_p101 : lw_okq (⟨"PostScriptsModel", "listDone", "()I"⟩, 40) := ⟨⟨by decide +kernel, by decide +kernel⟩, List.mem_of_getElem? (i := 1161) (by decide +kernel), List.mem_of_getElem? (i := 1553) (by decide +kernel), List.mem_of_getElem? (i := 1554) (by decide +kernel)⟩
theorem lw_p102 : lw_okq (⟨"PostScriptsModel", "changedWithout", "(I)I"⟩, 40) := ⟨⟨by decide +kernel, by decide +kernel⟩, List.mem_of_getElem? (i := 1161) (by decide +kernel), List.mem_of_getElem? (i := 1576) (by decide +kernel), List.mem_of_getElem? (i := 1577) (by decide +kernel)⟩
theorem lw_p103 : lw_okq (⟨"PostScriptsModel", "why", "(ZZ)I"⟩, 40) := ⟨⟨by decide +kernel, by decide +kernel⟩, List.mem_of_getElem? (i := 1161) (by decide +kernel), List.mem_of_getElem? (i := 1584) (by decide +kernel), List.mem_of_getElem? (i := 1585) (by decide +kernel)⟩
theorem lw_p104 : lw_okq (⟨"PostScriptsModel", "turnOf", "(I)I"⟩, 40) := ⟨⟨by decide +kernel, by decide +kernel⟩, List.mem_of_getElem? (i := 1161) (by decide +kernel), List.mem_of_getElem? (i := 1604) (by decide +kernel), List.mem_of_getElem? (i := 1605) (by decide +kernel)⟩
theorem lw_p105 : lw_okq (⟨"PostScriptsModel", "allRead", "()I"⟩, 40) := ⟨⟨by decide +kernel, by decide +kernel⟩, List.mem_of_getElem? (i := 1161) (by decide +kernel), List.mem_of_getElem? (i := 1608) (by decide +kernel), List.mem_of_getElem? (i := 1609) (by decide +kernel)⟩
theorem lw_p106 : lw_okq (⟨"PostScriptsModel", "doesHold", "(II)Z"⟩, 40) := ⟨⟨by decide +kernel, by decide +kernel⟩, List.mem_of_getElem? (i := 1161) (by decide +kernel), List.mem_of_getElem? (i := 1620) (by decide +kernel), List.mem_of_getElem? (i := 1621) (by decide +kernel)⟩
theorem lw_p107 : lw_okq (⟨"PostScriptsModel", "canWrite", "(I)Z"⟩, 40) := ⟨⟨by decide +kernel, by decide +kernel⟩, List.mem_of_getElem? (i := 1161) (by decide +kernel), List.mem_of_getElem? (i := 1624) (by decide +kernel), List.mem_of_getElem? (i := 1625) (by decide +kernel)⟩
theorem lw_p108 : lw_okq (⟨"PostScriptsModel", "roomNow", "(I)I"⟩, 40) := ⟨⟨by decide +kernel, by decide +kernel⟩, List.mem_of_getElem? (i := 1161) (by decide +kernel), List.mem_of_getElem? (i := 1628) (by decide +kernel), List.mem_of_getElem? (i := 1629) (by decide +kernel)⟩
theorem lw_p109 : lw_okq (⟨"PostScriptsModel", "more", "(II)V"⟩, 40) := ⟨⟨by decide +kernel, by decide +kernel⟩, List.mem_of_getElem? (i := 1161) (by decide +kernel), List.mem_of_getElem? (i := 1632) (by decide +kernel), List.mem_of_getElem? (i := 1633) (by decide +kernel)⟩
theorem lw_p110 : lw_okq (⟨"PostScriptsModel", "layMore", "(I)V"⟩, 40) := ⟨⟨by decide +kernel, by decide +kernel⟩, List.mem_of_getElem? (i := 1161) (by decide +kernel), List.mem_of_getElem? (i := 1636) (by decide +kernel), List.mem_of_getElem? (i := 1637) (by decide +kernel)⟩
theorem lw_p111 : lw_okq (⟨"PostScriptsModel", "playOf", "(II)Z"⟩, 40) := ⟨⟨by decide +kernel, by decide +kernel⟩, List.mem_of_getElem? (i := 1161) (by decide +kernel), List.mem_of_getElem? (i := 1648) (by decide +kernel), List.mem_of_getElem? (i := 1649) (by decide +kernel)⟩
def lw_privs_7 : List (MethodName × Nat) := [(⟨"PostScriptsModel", "isLine", "(I)Z"⟩, 40), (⟨"PostScriptsModel", "beatersOf", "(I)I"⟩, 40), (⟨"PostScriptsModel", "isMatte\x72", "(I)Z"⟩, 40), (⟨"PostScriptsModel", "doneNow", "(I)I"⟩, 40), (⟨"PostScriptsModel", "doneOf", "([IIII)I"⟩, 40), (⟨"PostScriptsModel", "listDone", "()I"⟩, 40), (⟨"PostScriptsModel", "changedWithout", "(I)I"⟩, 40), (⟨"PostScriptsModel", "why", "(ZZ)I"⟩, 40), (⟨"PostScriptsModel", "turnOf", "(I)I"⟩, 40), (⟨"PostScriptsModel", "allRead", "()I"⟩, 40), (⟨"PostScriptsModel", "doesHold", "(II)Z"⟩, 40), (⟨"PostScriptsModel", "canWrite", "(I)Z"⟩, 40), (⟨"PostScriptsModel", "roomNow", "(I)I"⟩, 40), (⟨"PostScriptsModel", "more", "(II)V"⟩, 40), (⟨"PostScriptsModel", "layMore", "(I)V"⟩, 40), (⟨"PostScriptsModel", "playOf", "(II)Z"⟩, 40)]
theorem lw_r7 : ∀ q ∈ lw_privs_7, lw_okq q := List.forall_mem_cons.mpr ⟨lw_p96, List.forall_mem_cons.mpr ⟨lw_p97, List.forall_mem_cons.mpr ⟨lw_p98, List.forall_mem_cons.mpr ⟨lw_p99, List.forall_mem_cons.mpr ⟨lw_p100, List.forall_mem_cons.mpr ⟨lw_p101, List.forall_mem_cons.mpr ⟨lw_p102, List.forall_mem_cons.mpr ⟨lw_p103, List.forall_mem_cons.mpr ⟨lw_p104, List.forall_mem_cons.mpr ⟨lw_p105, List.forall_mem_cons.mpr ⟨lw_p106, List.forall_mem_cons.mpr ⟨lw_p107, List.forall_mem_cons.mpr ⟨lw_p108, List.forall_mem_cons.mpr ⟨lw_p109, List.forall_mem_cons.mpr ⟨lw_p110, List.forall_mem_cons.mpr ⟨lw_p111, fun _ h => absurd h List.not_mem_nil⟩⟩⟩⟩⟩⟩⟩⟩⟩⟩⟩⟩⟩⟩⟩⟩
theorem lw_p112 : lw_okq (⟨"PostScriptsModel", "doesWin", "(III)Z"⟩, 40) := ⟨⟨by decide +kernel, by decide +kernel⟩, List.mem_of_getElem? (i := 1161) (by decide +kernel), List.mem_of_getElem? (i := 1652) (by decide +kernel), List.mem_of_getElem? (i := 1653) (by decide +kernel)⟩
theorem lw_p113 : lw_okq (⟨"PostScriptsModel", "seekRing", "(I)Z"⟩, 40) := ⟨⟨by decide +kernel, by decide +kernel⟩, List.mem_of_getElem? (i := 1161) (by decide +kernel), List.mem_of_getElem? (i := 1668) (by decide +kernel), List.mem_of_getElem? (i := 1669) (by decide +kernel)⟩
theorem lw_p114 : lw_okq (⟨"PostScriptsModel", "tryRing", "(II)V"⟩, 40) := ⟨⟨by decide +kernel, by decide +kernel⟩, List.mem_of_getElem? (i := 1161) (by decide +kernel), List.mem_of_getElem? (i := 1673) (by decide +kernel), List.mem_of_getElem? (i := 1674) (by decide +kernel)⟩
theorem lw_p115 : lw_okq (⟨"PostScriptsModel", "hasRing", "()Z"⟩, 40) := ⟨⟨by decide +kernel, by decide +kernel⟩, List.mem_of_getElem? (i := 1161) (by decide +kernel), List.mem_of_getElem? (i := 1685) (by decide +kernel), List.mem_of_getElem? (i := 1686) (by decide +kernel)⟩
theorem lw_p116 : lw_okq (⟨"PostScriptsModel", "takenOf", "(I)I"⟩, 40) := ⟨⟨by decide +kernel, by decide +kernel⟩, List.mem_of_getElem? (i := 1161) (by decide +kernel), List.mem_of_getElem? (i := 1697) (by decide +kernel), List.mem_of_getElem? (i := 1698) (by decide +kernel)⟩
theorem lw_p117 : lw_okq (⟨"PostScriptsModel", "paysOf", "(I)I"⟩, 40) := ⟨⟨by decide +kernel, by decide +kernel⟩, List.mem_of_getElem? (i := 1161) (by decide +kernel), List.mem_of_getElem? (i := 1701) (by decide +kernel), List.mem_of_getElem? (i := 1702) (by decide +kernel)⟩
theorem lw_p118 : lw_okq (⟨"PostScriptsModel", "canTake", "(I)Z"⟩, 40) := ⟨⟨by decide +kernel, by decide +kernel⟩, List.mem_of_getElem? (i := 1161) (by decide +kernel), List.mem_of_getElem? (i := 1705) (by decide +kernel), List.mem_of_getElem? (i := 1706) (by decide +kernel)⟩
theorem lw_p119 : lw_okq (⟨"PostScriptsModel", "seekFits", "(I)I"⟩, 40) := ⟨⟨by decide +kernel, by decide +kernel⟩, List.mem_of_getElem? (i := 1161) (by decide +kernel), List.mem_of_getElem? (i := 1721) (by decide +kernel), List.mem_of_getElem? (i := 1722) (by decide +kernel)⟩
theorem lw_p120 : lw_okq (⟨"PostScriptsModel", "fillings", "()I"⟩, 40) := ⟨⟨by decide +kernel, by decide +kernel⟩, List.mem_of_getElem? (i := 1161) (by decide +kernel), List.mem_of_getElem? (i := 1725) (by decide +kernel), List.mem_of_getElem? (i := 1726) (by decide +kernel)⟩
theorem lw_p121 : lw_okq (⟨"PostScriptsModel", "choicesOf", "()I"⟩, 40) := ⟨⟨by decide +kernel, by decide +kernel⟩, List.mem_of_getElem? (i := 1161) (by decide +kernel), List.mem_of_getElem? (i := 1729) (by decide +kernel), List.mem_of_getElem? (i := 1730) (by decide +kernel)⟩
theorem lw_p122 : lw_okq (⟨"PostScriptsModel", "wrongBy", "(I)I"⟩, 40) := ⟨⟨by decide +kernel, by decide +kernel⟩, List.mem_of_getElem? (i := 1161) (by decide +kernel), List.mem_of_getElem? (i := 1733) (by decide +kernel), List.mem_of_getElem? (i := 1734) (by decide +kernel)⟩
theorem lw_p123 : lw_okq (⟨"PostScriptsModel", "doneFilled", "(II)I"⟩, 40) := ⟨⟨by decide +kernel, by decide +kernel⟩, List.mem_of_getElem? (i := 1161) (by decide +kernel), List.mem_of_getElem? (i := 1737) (by decide +kernel), List.mem_of_getElem? (i := 1738) (by decide +kernel)⟩
theorem lw_p124 : lw_okq (⟨"PostScriptsModel", "choiceOf", "(II)I"⟩, 40) := ⟨⟨by decide +kernel, by decide +kernel⟩, List.mem_of_getElem? (i := 1161) (by decide +kernel), List.mem_of_getElem? (i := 1741) (by decide +kernel), List.mem_of_getElem? (i := 1742) (by decide +kernel)⟩
theorem lw_p125 : lw_okq (⟨"PostScriptsModel", "isHidden", "(I)Z"⟩, 40) := ⟨⟨by decide +kernel, by decide +kernel⟩, List.mem_of_getElem? (i := 1161) (by decide +kernel), List.mem_of_getElem? (i := 1749) (by decide +kernel), List.mem_of_getElem? (i := 1750) (by decide +kernel)⟩
theorem lw_p126 : lw_okq (⟨"PostScriptsModel", "askOf", "()I"⟩, 40) := ⟨⟨by decide +kernel, by decide +kernel⟩, List.mem_of_getElem? (i := 1161) (by decide +kernel), List.mem_of_getElem? (i := 1761) (by decide +kernel), List.mem_of_getElem? (i := 1762) (by decide +kernel)⟩
theorem lw_p127 : lw_okq (⟨"PostScriptsModel", "leavesOf", "(I)I"⟩, 40) := ⟨⟨by decide +kernel, by decide +kernel⟩, List.mem_of_getElem? (i := 1161) (by decide +kernel), List.mem_of_getElem? (i := 1765) (by decide +kernel), List.mem_of_getElem? (i := 1766) (by decide +kernel)⟩
def lw_privs_8 : List (MethodName × Nat) := [(⟨"PostScriptsModel", "doesWin", "(III)Z"⟩, 40), (⟨"PostScriptsModel", "seekRing", "(I)Z"⟩, 40), (⟨"PostScriptsModel", "tryRing", "(II)V"⟩, 40), (⟨"PostScriptsModel", "hasRing", "()Z"⟩, 40), (⟨"PostScriptsModel", "takenOf", "(I)I"⟩, 40), (⟨"PostScriptsModel", "paysOf", "(I)I"⟩, 40), (⟨"PostScriptsModel", "canTake", "(I)Z"⟩, 40), (⟨"PostScriptsModel", "seekFits", "(I)I"⟩, 40), (⟨"PostScriptsModel", "fillings", "()I"⟩, 40), (⟨"PostScriptsModel", "choicesOf", "()I"⟩, 40), (⟨"PostScriptsModel", "wrongBy", "(I)I"⟩, 40), (⟨"PostScriptsModel", "doneFilled", "(II)I"⟩, 40), (⟨"PostScriptsModel", "choiceOf", "(II)I"⟩, 40), (⟨"PostScriptsModel", "isHidden", "(I)Z"⟩, 40), (⟨"PostScriptsModel", "askOf", "()I"⟩, 40), (⟨"PostScriptsModel", "leavesOf", "(I)I"⟩, 40)]
theorem lw_r8 : ∀ q ∈ lw_privs_8, lw_okq q := List.forall_mem_cons.mpr ⟨lw_p112, List.forall_mem_cons.mpr ⟨lw_p113, List.forall_mem_cons.mpr ⟨lw_p114, List.forall_mem_cons.mpr ⟨lw_p115, List.forall_mem_cons.mpr ⟨lw_p116, List.forall_mem_cons.mpr ⟨lw_p117, List.forall_mem_cons.mpr ⟨lw_p118, List.forall_mem_cons.mpr ⟨lw_p119, List.forall_mem_cons.mpr ⟨lw_p120, List.forall_mem_cons.mpr ⟨lw_p121, List.forall_mem_cons.mpr ⟨lw_p122, List.forall_mem_cons.mpr ⟨lw_p123, List.forall_mem_cons.mpr ⟨lw_p124, List.forall_mem_cons.mpr ⟨lw_p125, List.forall_mem_cons.mpr ⟨lw_p126, List.forall_mem_cons.mpr ⟨lw_p127, fun _ h => absurd h List.not_mem_nil⟩⟩⟩⟩⟩⟩⟩⟩⟩⟩⟩⟩⟩⟩⟩⟩
theorem lw_p128 : lw_okq (⟨"PostScriptsModel", "seekRests", "(I)I"⟩, 40) := ⟨⟨by decide +kernel, by decide +kernel⟩, List.mem_of_getElem? (i := 1161) (by decide +kernel), List.mem_of_getElem? (i := 1788) (by decide +kernel), List.mem_of_getElem? (i := 1789) (by decide +kernel)⟩
theorem lw_p129 : lw_okq (⟨"PostScriptsModel", "doneWeight", "(I)J"⟩, 40) := ⟨⟨by decide +kernel, by decide +kernel⟩, List.mem_of_getElem? (i := 1161) (by decide +kernel), List.mem_of_getElem? (i := 1800) (by decide +kernel), List.mem_of_getElem? (i := 1801) (by decide +kernel)⟩
theorem lw_p130 : lw_okq (⟨"PostScriptsModel", "weightOf", "(I)J"⟩, 40) := ⟨⟨by decide +kernel, by decide +kernel⟩, List.mem_of_getElem? (i := 1161) (by decide +kernel), List.mem_of_getElem? (i := 1804) (by decide +kernel), List.mem_of_getElem? (i := 1805) (by decide +kernel)⟩
theorem lw_p131 : lw_okq (⟨"PostScriptsModel", "allWeight", "()J"⟩, 40) := ⟨⟨by decide +kernel, by decide +kernel⟩, List.mem_of_getElem? (i := 1161) (by decide +kernel), List.mem_of_getElem? (i := 1808) (by decide +kernel), List.mem_of_getElem? (i := 1809) (by decide +kernel)⟩
theorem lw_p132 : lw_okq (⟨"PostScriptsModel", "thumbWhy", "(ZII)I"⟩, 40) := ⟨⟨by decide +kernel, by decide +kernel⟩, List.mem_of_getElem? (i := 1161) (by decide +kernel), List.mem_of_getElem? (i := 1828) (by decide +kernel), List.mem_of_getElem? (i := 1829) (by decide +kernel)⟩
theorem lw_p133 : lw_okq (⟨"PostScriptsModel", "note", "()V"⟩, 40) := ⟨⟨by decide +kernel, by decide +kernel⟩, List.mem_of_getElem? (i := 1161) (by decide +kernel), List.mem_of_getElem? (i := 1842) (by decide +kernel), List.mem_of_getElem? (i := 1843) (by decide +kernel)⟩
theorem lw_p134 : lw_okq (⟨"PostScriptsModel", "isNot", "(I)Z"⟩, 40) := ⟨⟨by decide +kernel, by decide +kernel⟩, List.mem_of_getElem? (i := 1161) (by decide +kernel), List.mem_of_getElem? (i := 1850) (by decide +kernel), List.mem_of_getElem? (i := 1851) (by decide +kernel)⟩
def lw_privs_9 : List (MethodName × Nat) := [(⟨"PostScriptsModel", "seekRests", "(I)I"⟩, 40), (⟨"PostScriptsModel", "doneWeight", "(I)J"⟩, 40), (⟨"PostScriptsModel", "weightOf", "(I)J"⟩, 40), (⟨"PostScriptsModel", "allWeight", "()J"⟩, 40), (⟨"PostScriptsModel", "thumbWhy", "(ZII)I"⟩, 40), (⟨"PostScriptsModel", "note", "()V"⟩, 40), (⟨"PostScriptsModel", "isNot", "(I)Z"⟩, 40)]
theorem lw_r9 : ∀ q ∈ lw_privs_9, lw_okq q := List.forall_mem_cons.mpr ⟨lw_p128, List.forall_mem_cons.mpr ⟨lw_p129, List.forall_mem_cons.mpr ⟨lw_p130, List.forall_mem_cons.mpr ⟨lw_p131, List.forall_mem_cons.mpr ⟨lw_p132, List.forall_mem_cons.mpr ⟨lw_p133, List.forall_mem_cons.mpr ⟨lw_p134, fun _ h => absurd h List.not_mem_nil⟩⟩⟩⟩⟩⟩⟩
def lw_privs : List (MethodName × Nat) := lw_privs_1 ++ (lw_privs_2 ++ (lw_privs_3 ++ (lw_privs_4 ++ (lw_privs_5 ++ (lw_privs_6 ++ (lw_privs_7 ++ (lw_privs_8 ++ (lw_privs_9))))))))
def lw_tbl : List Cond := k2_sels lw_privs ++ tables_1
theorem lw_privs_ok : ∀ q ∈ lw_privs, lw_okq q := by
  show ∀ q ∈ lw_privs_1 ++ (lw_privs_2 ++ (lw_privs_3 ++ (lw_privs_4 ++ (lw_privs_5 ++ (lw_privs_6 ++ (lw_privs_7 ++ (lw_privs_8 ++ (lw_privs_9)))))))), lw_okq q
  exact List.forall_mem_append.mpr ⟨lw_r1, List.forall_mem_append.mpr ⟨lw_r2, List.forall_mem_append.mpr ⟨lw_r3, List.forall_mem_append.mpr ⟨lw_r4, List.forall_mem_append.mpr ⟨lw_r5, List.forall_mem_append.mpr ⟨lw_r6, List.forall_mem_append.mpr ⟨lw_r7, List.forall_mem_append.mpr ⟨lw_r8, lw_r9⟩⟩⟩⟩⟩⟩⟩⟩
end
section
def RX0 : String := "PostScripts$Bids"
def TX0 : u_T := fun k => match k with
  | 0 => ("PostScripts$Bids", "hand", "[I", true)
  | 1 => ("PostScripts$Bids", "place", "[I", true)
  | 2 => ("PostScripts$Bids", "inches", "[I", true)
  | 3 => ("PostScripts$Bids", "pays", "[I", true)
  | _ => ("PostScripts$Bids", "count", "I", false)
def tyX0 : Nat → FieldType := fun k => match k with
  | 0 => .array .int
  | 1 => .array .int
  | 2 => .array .int
  | 3 => .array .int
  | _ => .int
abbrev wsX00 : List Cond := u_ws RX0 TX0 5
theorem nmX0 : ∀ a, a < 5 → ∀ b, b < 5 → a ≠ b → (TX0 a).2.1 ≠ (TX0 b).2.1 := by decide +kernel
theorem tyX0_ok : ∀ k, k < 5 → parseFieldDescriptor (TX0 k).2.2.1 = some (tyX0 k) := by decide +kernel
def RX1 : String := "PostScripts$Duel"
def TX1 : u_T := fun k => match k with
  | _ => ("PostScripts$Duel", "room", "[I", true)
def tyX1 : Nat → FieldType := fun k => match k with
  | _ => .array .int
abbrev wsX10 : List Cond := u_ws RX1 TX1 1
theorem nmX1 : ∀ a, a < 1 → ∀ b, b < 1 → a ≠ b → (TX1 a).2.1 ≠ (TX1 b).2.1 := by decide +kernel
theorem tyX1_ok : ∀ k, k < 1 → parseFieldDescriptor (TX1 k).2.2.1 = some (tyX1 k) := by decide +kernel
def RX2 : String := "PostScripts$Fillings"
def TX2 : u_T := fun k => match k with
  | 0 => ("PostScripts$Fillings", "fit", "[I", true)
  | 1 => ("PostScripts$Fillings", "often", "[I", true)
  | 2 => ("PostScripts$Fillings", "toldPlaces", "[I", true)
  | 3 => ("PostScripts$Fillings", "toldDos", "[I", true)
  | 4 => ("PostScripts$Fillings", "places", "[I", true)
  | 5 => ("PostScripts$Fillings", "dos", "[I", true)
  | 6 => ("PostScripts$Fillings", "known", "Z", false)
  | 7 => ("PostScripts$Fillings", "count", "I", false)
  | 8 => ("PostScripts$Fillings", "lines", "I", false)
  | _ => ("PostScripts$Fillings", "sayings", "I", false)
def tyX2 : Nat → FieldType := fun k => match k with
  | 0 => .array .int
  | 1 => .array .int
  | 2 => .array .int
  | 3 => .array .int
  | 4 => .array .int
  | 5 => .array .int
  | 6 => .boolean
  | 7 => .int
  | 8 => .int
  | _ => .int
abbrev wsX20 : List Cond := u_ws RX2 TX2 10
theorem nmX2 : ∀ a, a < 10 → ∀ b, b < 10 → a ≠ b → (TX2 a).2.1 ≠ (TX2 b).2.1 := by decide +kernel
theorem tyX2_ok : ∀ k, k < 10 → parseFieldDescriptor (TX2 k).2.2.1 = some (tyX2 k) := by decide +kernel
def RX3 : String := "PostScripts$Lette\x72"
def TX3 : u_T := fun k => match k with
  | 0 => ("PostScripts$Lette\x72", "rank", "[I", true)
  | 1 => ("PostScripts$Lette\x72", "inches", "[I", true)
  | 2 => ("PostScripts$Lette\x72", "uppe\x72", "[I", true)
  | 3 => ("PostScripts$Lette\x72", "lowe\x72", "[I", true)
  | 4 => ("PostScripts$Lette\x72", "purse", "[I", true)
  | 5 => ("PostScripts$Lette\x72", "told", "[I", true)
  | 6 => ("PostScripts$Lette\x72", "hiddenAt", "[I", true)
  | 7 => ("PostScripts$Lette\x72", "page", "LPostScripts$Page;", true)
  | 8 => ("PostScripts$Lette\x72", "bids", "LPostScripts$Bids;", true)
  | 9 => ("PostScripts$Lette\x72", "wet", "I", false)
  | 10 => ("PostScripts$Lette\x72", "places", "I", false)
  | 11 => ("PostScripts$Lette\x72", "overs", "I", false)
  | 12 => ("PostScripts$Lette\x72", "hands", "I", false)
  | 13 => ("PostScripts$Lette\x72", "matters", "I", false)
  | 14 => ("PostScripts$Lette\x72", "hidden", "I", false)
  | _ => ("PostScripts$Lette\x72", "dones", "I", false)
def tyX3 : Nat → FieldType := fun k => match k with
  | 0 => .array .int
  | 1 => .array .int
  | 2 => .array .int
  | 3 => .array .int
  | 4 => .array .int
  | 5 => .array .int
  | 6 => .array .int
  | 7 => .object "PostScripts$Page"
  | 8 => .object "PostScripts$Bids"
  | 9 => .int
  | 10 => .int
  | 11 => .int
  | 12 => .int
  | 13 => .int
  | 14 => .int
  | _ => .int
abbrev wsX30 : List Cond := u_ws RX3 TX3 16
theorem nmX3 : ∀ a, a < 16 → ∀ b, b < 16 → a ≠ b → (TX3 a).2.1 ≠ (TX3 b).2.1 := by decide +kernel
theorem tyX3_ok : ∀ k, k < 16 → parseFieldDescriptor (TX3 k).2.2.1 = some (tyX3 k) := by decide +kernel
def RX4 : String := "PostScripts$Names"
def TX4 : u_T := fun k => match k with
  | 0 => ("PostScripts$Names", "from", "[I", true)
  | 1 => ("PostScripts$Names", "length", "[I", true)
  | 2 => ("PostScripts$Names", "sort", "[I", true)
  | 3 => ("PostScripts$Names", "numbe\x72", "[I", true)
  | _ => ("PostScripts$Names", "count", "I", false)
def tyX4 : Nat → FieldType := fun k => match k with
  | 0 => .array .int
  | 1 => .array .int
  | 2 => .array .int
  | 3 => .array .int
  | _ => .int
abbrev wsX40 : List Cond := u_ws RX4 TX4 5
theorem nmX4 : ∀ a, a < 5 → ∀ b, b < 5 → a ≠ b → (TX4 a).2.1 ≠ (TX4 b).2.1 := by decide +kernel
theorem tyX4_ok : ∀ k, k < 5 → parseFieldDescriptor (TX4 k).2.2.1 = some (tyX4 k) := by decide +kernel
def RX5 : String := "PostScripts$Orde\x72"
def TX5 : u_T := fun k => match k with
  | 0 => ("PostScripts$Orde\x72", "below", "[I", true)
  | _ => ("PostScripts$Orde\x72", "count", "I", false)
def tyX5 : Nat → FieldType := fun k => match k with
  | 0 => .array .int
  | _ => .int
abbrev wsX50 : List Cond := u_ws RX5 TX5 2
theorem nmX5 : ∀ a, a < 2 → ∀ b, b < 2 → a ≠ b → (TX5 a).2.1 ≠ (TX5 b).2.1 := by decide +kernel
theorem tyX5_ok : ∀ k, k < 2 → parseFieldDescriptor (TX5 k).2.2.1 = some (tyX5 k) := by decide +kernel
def RX6 : String := "PostScripts$Page"
def TX6 : u_T := fun k => match k with
  | 0 => ("PostScripts$Page", "hand", "[I", true)
  | 1 => ("PostScripts$Page", "place", "[I", true)
  | 2 => ("PostScripts$Page", "matte\x72", "[I", true)
  | 3 => ("PostScripts$Page", "say", "[I", true)
  | 4 => ("PostScripts$Page", "inches", "[I", true)
  | 5 => ("PostScripts$Page", "count", "I", false)
  | 6 => ("PostScripts$Page", "struck", "I", false)
  | _ => ("PostScripts$Page", "folded", "I", false)
def tyX6 : Nat → FieldType := fun k => match k with
  | 0 => .array .int
  | 1 => .array .int
  | 2 => .array .int
  | 3 => .array .int
  | 4 => .array .int
  | 5 => .int
  | 6 => .int
  | _ => .int
abbrev wsX60 : List Cond := u_ws RX6 TX6 8
theorem nmX6 : ∀ a, a < 8 → ∀ b, b < 8 → a ≠ b → (TX6 a).2.1 ≠ (TX6 b).2.1 := by decide +kernel
theorem tyX6_ok : ∀ k, k < 8 → parseFieldDescriptor (TX6 k).2.2.1 = some (tyX6 k) := by decide +kernel
def RX7 : String := "PostScripts$Past"
def TX7 : u_T := fun k => match k with
  | 0 => ("PostScripts$Past", "kind", "[I", true)
  | 1 => ("PostScripts$Past", "of", "[I", true)
  | _ => ("PostScripts$Past", "count", "I", false)
def tyX7 : Nat → FieldType := fun k => match k with
  | 0 => .array .int
  | 1 => .array .int
  | _ => .int
abbrev wsX70 : List Cond := u_ws RX7 TX7 3
theorem nmX7 : ∀ a, a < 3 → ∀ b, b < 3 → a ≠ b → (TX7 a).2.1 ≠ (TX7 b).2.1 := by decide +kernel
theorem tyX7_ok : ∀ k, k < 3 → parseFieldDescriptor (TX7 k).2.2.1 = some (tyX7 k) := by decide +kernel
def RX8 : String := "PostScripts$Reade\x72"
def TX8 : u_T := fun k => match k with
  | 0 => ("PostScripts$Reade\x72", "tape", "LPostScripts$Tape;", true)
  | 1 => ("PostScripts$Reade\x72", "names", "LPostScripts$Names;", true)
  | 2 => ("PostScripts$Reade\x72", "draft", "LPostScripts$Letter;", false)
  | 3 => ("PostScripts$Reade\x72", "fault", "I", false)
  | _ => ("PostScripts$Reade\x72", "faultAt", "I", false)
def tyX8 : Nat → FieldType := fun k => match k with
  | 0 => .object "PostScripts$Tape"
  | 1 => .object "PostScripts$Names"
  | 2 => .object "PostScripts$Lette\x72"
  | 3 => .int
  | _ => .int
abbrev wsX80 : List Cond := u_ws RX8 TX8 5
theorem nmX8 : ∀ a, a < 5 → ∀ b, b < 5 → a ≠ b → (TX8 a).2.1 ≠ (TX8 b).2.1 := by decide +kernel
theorem tyX8_ok : ∀ k, k < 5 → parseFieldDescriptor (TX8 k).2.2.1 = some (tyX8 k) := by decide +kernel
def RX9 : String := "PostScripts$Tape"
def TX9 : u_T := fun k => match k with
  | 0 => ("PostScripts$Tape", "bytes", "[B", true)
  | 1 => ("PostScripts$Tape", "size", "I", false)
  | 2 => ("PostScripts$Tape", "end", "I", false)
  | 3 => ("PostScripts$Tape", "from", "I", false)
  | 4 => ("PostScripts$Tape", "to", "I", false)
  | 5 => ("PostScripts$Tape", "kind", "I", false)
  | _ => ("PostScripts$Tape", "numbe\x72", "I", false)
def tyX9 : Nat → FieldType := fun k => match k with
  | 0 => .array .byte
  | 1 => .int
  | 2 => .int
  | 3 => .int
  | 4 => .int
  | 5 => .int
  | _ => .int
abbrev wsX90 : List Cond := u_ws RX9 TX9 7
theorem nmX9 : ∀ a, a < 7 → ∀ b, b < 7 → a ≠ b → (TX9 a).2.1 ≠ (TX9 b).2.1 := by decide +kernel
theorem tyX9_ok : ∀ k, k < 7 → parseFieldDescriptor (TX9 k).2.2.1 = some (tyX9 k) := by decide +kernel
def RX10 : String := "PostScripts"
def TX10 : u_T := fun k => match k with
  | 0 => ("PostScripts", "reade\x72", "LPostScripts$Reader;", true)
  | 1 => ("PostScripts", "orde\x72", "LPostScripts$Order;", true)
  | 2 => ("PostScripts", "trial", "LPostScripts$Order;", true)
  | 3 => ("PostScripts", "now", "LPostScripts$Page;", true)
  | 4 => ("PostScripts", "images", "[LPostScripts$Page;", true)
  | 5 => ("PostScripts", "past", "LPostScripts$Past;", true)
  | 6 => ("PostScripts", "fillings", "LPostScripts$Fillings;", true)
  | 7 => ("PostScripts", "duel", "LPostScripts$Duel;", true)
  | 8 => ("PostScripts", "current", "LPostScripts$Letter;", false)
  | 9 => ("PostScripts", "imageCount", "I", false)
  | 10 => ("PostScripts", "trouble", "I", false)
  | 11 => ("PostScripts", "fault", "I", false)
  | _ => ("PostScripts", "faultAt", "I", false)
def tyX10 : Nat → FieldType := fun k => match k with
  | 0 => .object "PostScripts$Reade\x72"
  | 1 => .object "PostScripts$Orde\x72"
  | 2 => .object "PostScripts$Orde\x72"
  | 3 => .object "PostScripts$Page"
  | 4 => .array (.object "PostScripts$Page")
  | 5 => .object "PostScripts$Past"
  | 6 => .object "PostScripts$Fillings"
  | 7 => .object "PostScripts$Duel"
  | 8 => .object "PostScripts$Lette\x72"
  | 9 => .int
  | 10 => .int
  | 11 => .int
  | _ => .int
abbrev wsX100 : List Cond := u_ws RX10 TX10 13
theorem nmX10 : ∀ a, a < 13 → ∀ b, b < 13 → a ≠ b → (TX10 a).2.1 ≠ (TX10 b).2.1 := by decide +kernel
theorem tyX10_ok : ∀ k, k < 13 → parseFieldDescriptor (TX10 k).2.2.1 = some (tyX10 k) := by decide +kernel
def RX11 : String := "PostScriptsModel"
def TX11 : u_T := fun k => match k with
  | 0 => ("PostScriptsModel", "thrown", "I", false)
  | 1 => ("PostScriptsModel", "tape", "[I", true)
  | 2 => ("PostScriptsModel", "taped", "I", false)
  | 3 => ("PostScriptsModel", "size", "I", false)
  | 4 => ("PostScriptsModel", "at", "I", false)
  | 5 => ("PostScriptsModel", "end", "I", false)
  | 6 => ("PostScriptsModel", "token", "I", false)
  | 7 => ("PostScriptsModel", "whole", "I", false)
  | 8 => ("PostScriptsModel", "nameSize", "I", false)
  | 9 => ("PostScriptsModel", "fault", "I", false)
  | 10 => ("PostScriptsModel", "place", "I", false)
  | 11 => ("PostScriptsModel", "trouble", "I", false)
  | 12 => ("PostScriptsModel", "letters", "[I", true)
  | 13 => ("PostScriptsModel", "failed", "Z", false)
  | 14 => ("PostScriptsModel", "hasLette\x72", "Z", false)
  | 15 => ("PostScriptsModel", "\x72", "[I", true)
  | 16 => ("PostScriptsModel", "fresh", "[I", true)
  | 17 => ("PostScriptsModel", "told", "[I", true)
  | 18 => ("PostScriptsModel", "read", "[I", true)
  | 19 => ("PostScriptsModel", "st", "[I", true)
  | 20 => ("PostScriptsModel", "undone", "[I", true)
  | 21 => ("PostScriptsModel", "kept", "[I", true)
  | 22 => ("PostScriptsModel", "undos", "I", false)
  | 23 => ("PostScriptsModel", "images", "I", false)
  | 24 => ("PostScriptsModel", "dropped", "I", false)
  | 25 => ("PostScriptsModel", "listAt", "[I", true)
  | 26 => ("PostScriptsModel", "listSays", "[I", true)
  | 27 => ("PostScriptsModel", "listLine", "[I", true)
  | 28 => ("PostScriptsModel", "listMany", "I", false)
  | 29 => ("PostScriptsModel", "moreAt", "[I", true)
  | 30 => ("PostScriptsModel", "moreSays", "[I", true)
  | 31 => ("PostScriptsModel", "moreMany", "I", false)
  | 32 => ("PostScriptsModel", "winsFirst", "I", false)
  | 33 => ("PostScriptsModel", "way", "[I", true)
  | 34 => ("PostScriptsModel", "ring", "[I", true)
  | 35 => ("PostScriptsModel", "ringMany", "I", false)
  | 36 => ("PostScriptsModel", "often", "[I", true)
  | 37 => ("PostScriptsModel", "fitMany", "I", false)
  | 38 => ("PostScriptsModel", "firstRest", "I", false)
  | _ => ("PostScriptsModel", "smudges", "I", false)
def tyX11 : Nat → FieldType := fun k => match k with
  | 0 => .int
  | 1 => .array .int
  | 2 => .int
  | 3 => .int
  | 4 => .int
  | 5 => .int
  | 6 => .int
  | 7 => .int
  | 8 => .int
  | 9 => .int
  | 10 => .int
  | 11 => .int
  | 12 => .array .int
  | 13 => .boolean
  | 14 => .boolean
  | 15 => .array .int
  | 16 => .array .int
  | 17 => .array .int
  | 18 => .array .int
  | 19 => .array .int
  | 20 => .array .int
  | 21 => .array .int
  | 22 => .int
  | 23 => .int
  | 24 => .int
  | 25 => .array .int
  | 26 => .array .int
  | 27 => .array .int
  | 28 => .int
  | 29 => .array .int
  | 30 => .array .int
  | 31 => .int
  | 32 => .int
  | 33 => .array .int
  | 34 => .array .int
  | 35 => .int
  | 36 => .array .int
  | 37 => .int
  | 38 => .int
  | _ => .int
abbrev wsX110 : List Cond := u_ws RX11 TX11 40
theorem nmX11 : ∀ a, a < 40 → ∀ b, b < 40 → a ≠ b → (TX11 a).2.1 ≠ (TX11 b).2.1 := by decide +kernel
theorem tyX11_ok : ∀ k, k < 40 → parseFieldDescriptor (TX11 k).2.2.1 = some (tyX11 k) := by decide +kernel
abbrev vwCl : List vw_C := [(RX0, TX0, 5), (RX1, TX1, 1), (RX2, TX2, 10), (RX3, TX3, 16), (RX4, TX4, 5), (RX5, TX5, 2), (RX6, TX6, 8), (RX7, TX7, 3), (RX8, TX8, 5), (RX9, TX9, 7), (RX10, TX10, 13), (RX11, TX11, 40)]

/-- of each class, in the order of its slots: is the field a reference -/
def zf : Nat → List Bool := fun c => match c with
  | 0 => [true, true, true, true, false]
  | 1 => [true]
  | 2 => [true, true, true, true, true, true, false, false, false, false]
  | 3 => [true, true, true, true, true, true, true, true, true, false, false, false, false, false, false, false]
  | 4 => [true, true, true, true, false]
  | 5 => [true, false]
  | 6 => [true, true, true, true, true, false, false, false]
  | 7 => [true, true, false]
  | 8 => [true, true, true, false, false]
  | 9 => [true, false, false, false, false, false, false]
  | 10 => [true, true, true, true, true, true, true, true, true, false, false, false, false]
  | 11 => [false, true, false, false, false, false, false, false, false, false, false, false, true, false, false, true, true, true, true, true, true, true, false, false, false, true, true, true, false, true, true, false, false, true, true, false, true, false, false, false]
  | _ => []
end
section
/-! A SIMPLE MACHINE over the kit's rows: the world of one object and all that it holds as two functions
(ints and references by cell and place), one judgement zK a method's instruction, whose last argument is a pure
Lean term that says what comes out. The rows here are proved once; each method is walked by them. -/
def zTT : List Cond := lw_tbl.filter goodWord
theorem zTT_in {i : Nat} {w : Cond} (h : lw_tbl[i]? = some w) (hg : goodWord w = true) : w ∈ zTT := List.mem_filter.mpr ⟨List.mem_of_getElem? h, hg⟩
theorem zTT_good {w : Cond} (h : w ∈ zTT) : (w.onTables && w.keeps) = true ∨ ∃ ty, w = .arrayClass ty := good_of_word (List.mem_filter.mp h).2
theorem zGood {w : Cond} (h : w ∈ zTT) : GoodIn zTT (w :: zTT) := fun v hv => by
  rcases List.mem_cons.mp hv with rfl | hv
  · exact ⟨h, zTT_good h⟩
  · exact ⟨hv, zTT_good hv⟩
/-- ints and references: by cell, by place -/
abbrev zS : Type := (Nat → Nat → Int32) × (Nat → Nat → Nat)
/-- a method: its name, its bytes, its locals, what it returns, its instructions -/
abbrev zM : Type := MethodName × ByteArray × Nat × Option FieldType × List (Nat × Instr × Nat)
/-- launch; classes; addresses of the cells; array classes; String constants and their bytes -/
abbrev zX : Type := Launch × va_G × (Nat → Nat) × (Nat → ClassId) × (Nat → Nat) × (Nat → Nat)
/-- how many cells; of each its kind: (class, 0), or (100 ints, 101 bytes, 103 pages; length) -/
abbrev zW : Type := Nat × (Nat → Nat × Nat)
def za (X : zX) (k : Nat) : Nat := if k < 1000 then X.2.2.1 k else X.2.2.2.2.1 (k - 1000)
def zv (X : zX) : Value → Value
  | .ref k => .ref (za X k)
  | v => v
theorem zv_cat (X : zX) (v : Value) : (zv X v).category = v.category := by cases v <;> rfl
def zfs (X : zX) (σ : zS) (a ci : Nat) : List Value := (zf ci).mapIdx (fun k b => if b = true then Value.ref (za X (σ.2 a k)) else .int (σ.1 a k))
def zE (X : zX) (σ : zS) (a : Nat) (g : Nat × Nat) : va_E :=
  if g.1 < 100 then .inr (g.1, zfs X σ a g.1)
  else if g.1 = 103 then .inl (X.2.2.2.1 3, g.2, .inr (.inr (.inr (.inr (fun j => some (za X (σ.2 a j)))))))
  else .inl (X.2.2.2.1 (g.1 - 100), g.2, .inl (fun j => σ.1 a j))
def zw (X : zX) (w : zW) (σ : zS) : va_W := (List.range w.1).map (fun a => (za X a, zE X σ a (w.2 a)))
def zt (X : zX) : List (ClassId × FieldType) := [(X.2.2.2.1 0, .int), (X.2.2.2.1 1, .byte), (X.2.2.2.1 3, .object "PostScripts$Page")]
def zA (X : zX) (w : zW) : Nat → Prop := fun q => ∃ a, a < w.1 ∧ q = za X a
def zOK (X : zX) (w : zW) : Prop := (∀ a b, a < w.1 → b < w.1 → za X a = za X b → a = b) ∧ (∀ a, w.1 ≤ a → w.2 a = (999, 0)) ∧ w.1 ≤ 1000
/-- an int, a reference put -/
def zpi (σ : zS) (a k : Nat) (v : Int32) : zS := (fun b j => if b = a ∧ j = k then v else σ.1 b j, σ.2)
def zpr (σ : zS) (a k : Nat) (v : Nat) : zS := (σ.1, fun b j => if b = a ∧ j = k then v else σ.2 b j)
theorem zw_get {X : zX} {w : zW} {σ : zS} {a : Nat} (h : a < w.1) : (zw X w σ)[a]? = some (za X a, zE X σ a (w.2 a)) := by
  simp [zw, h]
theorem zOK.lt {X : zX} {w : zW} (h : zOK X w) {a c n : Nat} (hg : w.2 a = (c, n)) (hc : c ≠ 999) : a < w.1 := by
  rcases Nat.lt_or_ge a w.1 with q | q
  · exact q
  · rw [h.2.1 a q] at hg
    cases hg
    exact absurd rfl hc
theorem zw_D {X : zX} {w : zW} {σ : zS} (h : zOK X w) : va_D (zA X w) (zw X w σ) := by
  have key : ∀ (i : Nat) (p : Nat × va_E), (zw X w σ)[i]? = some p → i < w.1 ∧ p.1 = za X i := by
    intro i p hp
    have hi : i < w.1 := by
      have := (List.getElem?_eq_some_iff.mp hp).1
      simpa [zw] using this
    rw [zw_get hi] at hp
    cases hp
    exact ⟨hi, rfl⟩
  refine ⟨fun i j p q hp hq e => ?_, fun k q hq => ?_⟩
  · obtain ⟨h1, h2⟩ := key i p hp
    obtain ⟨h3, h4⟩ := key j q hq
    exact h.1 i j h1 h3 (by rw [← h2, ← h4, e])
  · obtain ⟨h1, h2⟩ := key k q hq
    exact ⟨k, h1, h2⟩
theorem zE_ne {X : zX} {σ τ : zS} {b : Nat} {g : Nat × Nat} (h1 : ∀ j, σ.1 b j = τ.1 b j) (h2 : ∀ j, σ.2 b j = τ.2 b j) : zE X σ b g = zE X τ b g := by
  simp only [zE, zfs, h1, h2]
theorem zw_set {X : zX} {w : zW} {σ τ : zS} {a : Nat} {e : va_E} (ha : a < w.1) (he : e = zE X τ a (w.2 a)) (h1 : ∀ b, b ≠ a → ∀ j, τ.1 b j = σ.1 b j) (h2 : ∀ b, b ≠ a → ∀ j, τ.2 b j = σ.2 b j) : (zw X w σ).set a (za X a, e) = zw X w τ := by
  apply List.ext_getElem?
  intro i
  rw [List.getElem?_set]
  by_cases hi : a = i
  · subst hi
    have : a < (zw X w σ).length := by simpa [zw] using ha
    rw [if_pos rfl, if_pos this, zw_get ha, he]
  · rw [if_neg hi]
    by_cases hl : i < w.1
    · rw [zw_get hl, zw_get hl, zE_ne (fun j => h1 i (fun e => hi e.symm) j) (fun j => h2 i (fun e => hi e.symm) j)]
    · have e1 : ∀ τ' : zS, (zw X w τ')[i]? = none := fun τ' => by simp [zw]; omega
      rw [e1, e1]
theorem zfs_get {X : zX} {σ : zS} {a ci k : Nat} {b : Bool} (h : (zf ci)[k]? = some b) : (zfs X σ a ci)[k]? = some (if b = true then Value.ref (za X (σ.2 a k)) else .int (σ.1 a k)) := by
  simp [zfs, h]
theorem zfs_setI {X : zX} {σ : zS} {a ci k : Nat} {v : Int32} (h : (zf ci)[k]? = some false) : (zfs X σ a ci).set k (.int v) = zfs X (zpi σ a k v) a ci := by
  apply List.ext_getElem?
  intro i
  rw [List.getElem?_set]
  have hk : k < (zf ci).length := (List.getElem?_eq_some_iff.mp h).1
  by_cases hi : k = i
  · subst hi
    have : k < (zfs X σ a ci).length := by simpa [zfs] using hk
    rw [if_pos rfl, if_pos this, zfs_get h]
    simp [zpi]
  · rw [if_neg hi]
    simp only [zfs, List.getElem?_mapIdx, zpi]
    congr 1
    funext b
    have : ¬ (i = k) := fun e => hi e.symm
    simp [this]
theorem zfs_setR {X : zX} {σ : zS} {a ci k : Nat} {v : Nat} (h : (zf ci)[k]? = some true) : (zfs X σ a ci).set k (.ref (za X v)) = zfs X (zpr σ a k v) a ci := by
  apply List.ext_getElem?
  intro i
  rw [List.getElem?_set]
  have hk : k < (zf ci).length := (List.getElem?_eq_some_iff.mp h).1
  by_cases hi : k = i
  · subst hi
    have : k < (zfs X σ a ci).length := by simpa [zfs] using hk
    rw [if_pos rfl, if_pos this, zfs_get h]
    simp [zpr]
  · rw [if_neg hi]
    simp only [zfs, List.getElem?_mapIdx, zpr]
    congr 1
    funext b
    have : ¬ (i = k) := fun e => hi e.symm
    simp [this]
end
section
/-- the String constants: how long, their bytes; and where each class has them -/
def zlen : List Nat := [6, 5, 4, 4, 6, 5, 6, 4, 3, 3, 4, 4, 5, 2, 3, 6, 5, 4]
def zbyt : List (List Int32) := [[108, 101, 116, 116, 101, 114], [112, 108, 97, 99, 101], [111, 118, 101, 114], [104, 97, 110, 100], [109, 97, 116, 116, 101, 114], [119, 114, 111, 116, 101], [104, 105, 100, 100, 101, 110], [100, 111, 110, 101], [98, 105, 100], [119, 101, 116], [114, 97, 110, 107], [114, 111, 111, 109], [112, 117, 114, 115, 101], [100, 111], [110, 111, 116], [105, 110, 99, 104, 101, 115], [100, 111, 117, 98, 116], [112, 97, 121, 115]]
def zstr : List (String × Nat × String × Nat) := [("PostScripts$Reade\x72", 76, "lette\x72", 0), ("PostScripts$Reade\x72", 82, "place", 1), ("PostScripts$Reade\x72", 84, "ove\x72", 2), ("PostScripts$Reade\x72", 86, "hand", 3), ("PostScripts$Reade\x72", 88, "matte\x72", 4), ("PostScripts$Reade\x72", 90, "wrote", 5), ("PostScripts$Reade\x72", 92, "hidden", 6), ("PostScripts$Reade\x72", 94, "done", 7), ("PostScripts$Reade\x72", 96, "bid", 8), ("PostScripts$Reade\x72", 102, "wet", 9), ("PostScripts$Reade\x72", 142, "rank", 10), ("PostScripts$Reade\x72", 153, "room", 11), ("PostScripts$Reade\x72", 177, "purse", 12), ("PostScripts$Reade\x72", 227, "do", 13), ("PostScripts$Reade\x72", 229, "not", 14), ("PostScripts$Reade\x72", 197, "inches", 15), ("PostScripts$Reade\x72", 210, "doubt", 16), ("PostScripts$Reade\x72", 222, "pays", 17), ("PostScriptsModel", 134, "lette\x72", 0), ("PostScriptsModel", 231, "wet", 9), ("PostScriptsModel", 136, "place", 1), ("PostScriptsModel", 137, "ove\x72", 2), ("PostScriptsModel", 139, "hand", 3), ("PostScriptsModel", 141, "matte\x72", 4), ("PostScriptsModel", 143, "wrote", 5), ("PostScriptsModel", 145, "hidden", 6), ("PostScriptsModel", 147, "done", 7), ("PostScriptsModel", 149, "bid", 8), ("PostScriptsModel", 241, "rank", 10), ("PostScriptsModel", 243, "room", 11), ("PostScriptsModel", 248, "purse", 12), ("PostScriptsModel", 250, "do", 13), ("PostScriptsModel", 252, "not", 14), ("PostScriptsModel", 260, "inches", 15), ("PostScriptsModel", 270, "doubt", 16), ("PostScriptsModel", 272, "pays", 17)]
def znest : Cond := .methodLinkNest "PostScripts" 241 ⟨"PostScripts$Duel", "wonByOne", "(LPostScripts$Order;IIIZ)Z"⟩ "PostScripts"

/-- what else holds around every call: String constants, two statics of the JDK, the one nest mate's link -/
def zV (X : zX) (A : Nat → Prop) (U : State) (H : Heap) : Prop :=
  vk_S 18 zlen zbyt X.2.2.2.2.1 X.2.2.2.2.2 A U H ∧ (∀ q ∈ zstr, vk_R q.1 q.2.1 q.2.2.1 (X.2.2.2.2.1 q.2.2.2) U) ∧
  va_Z "java/lang/String" "COMPACT_STRINGS" "Z" (.int 1) A U H ∧ va_Zq "jdk/internal/util/Preconditions" "SIOOBE_FORMATTER" "Ljava/util/function/BiFunction;" A U H ∧ va_Nw znest U
theorem zV.warm {X : zX} {A : Nat → Prop} {s U : State} {H : Heap} (hW : s.WarmedH U.vm) (h : zV X A s H) : zV X A U H :=
  ⟨h.1.moved hW.alike, fun q hq => (h.2.1 q hq).warm hW, h.2.2.1.moved hW.alike, h.2.2.2.1.moved hW.alike, va_Nw.warmM hW h.2.2.2.2⟩
theorem zV.kept {X : zX} {A : Nat → Prop} {U : State} {H H1 : Heap} (h : zV X A U H) (hq : ∀ a : Nat, a < H.size → ¬ A a → H1[a]? = H[a]?) : zV X A U H1 :=
  ⟨h.1.kept hq, h.2.1, h.2.2.1.kept hq, h.2.2.2.1.kept hq, h.2.2.2.2⟩
/-- the world before and behind a call -/
def zB (X : zX) (w : zW) (σ : zS) (U : State) : Prop := va_P X.2.1 vwCl (zw X w σ) U.heap ∧ va_K X.2.1 vwCl (zt X) U ∧ zOK X w ∧ zV X (zA X w) U U.heap
def zQc (X : zX) (w : zW) (o : Option Value × zS) : Array Value → State → Outcome → State → Prop := fun _ st oc t => (oc = .returned (o.1.map (zv X)) ∧ zB X w o.2 t) ∧ va_F (zA X w) st t
def zrm (d : Nat) : Room := { frames := d, cells := 0, slots := 0, locals := 40 * d }
/-- a method's contract: called with vs in the world σ it comes back with o -/
def zCN (X : zX) (w : zW) (d : Nat) (M : zM) (vs : List Value) (σ : zS) (o : Option Value × zS) : Prop :=
  Met X.1 M.1 (Cond.code M.1 M.2.1 M.2.2.1 M.2.2.2.1 :: zTT) (zrm d) (va_Pc (vs.map (zv X)) (zB X w σ)) (zQc X w o) 0 0 (zA X w)
def zT (M : zM) : Prop := ∀ (i : Nat) (q : Nat × Instr × Nat), M.2.2.2.2[i]? = some q → decode M.2.1 q.1 = .ok q.2
def zC (X : zX) (w : zW) (M : zM) (p : Program) (s : State) (m : MethodId) (args : Array Value) (meth : Method) (c : Code) : Prop :=
  p.tables.exec = Jvm.exec ∧ c.code = M.2.1 ∧ c.maxLocals = M.2.2.1 ∧ meth.sig.returnType = M.2.2.2.1 ∧ meth.locks = false ∧ s.vm.findClass M.1.cls = some m.cls ∧
  (∀ w ∈ zTT, w.before args s = true) ∧ va_K X.2.1 vwCl (zt X) s ∧ zOK X w ∧ zV X (zA X w) s s.heap ∧ zT M
theorem zC.hx {X : zX} {w : zW} {M : zM} {p : Program} {s : State} {m : MethodId} {args : Array Value} {meth : Method} {c : Code} (C : zC X w M p s m args meth c) : p.tables.exec = Jvm.exec := C.1
theorem zC.hb {X : zX} {w : zW} {M : zM} {p : Program} {s : State} {m : MethodId} {args : Array Value} {meth : Method} {c : Code} (C : zC X w M p s m args meth c) : c.code = M.2.1 := C.2.1
theorem zC.hml {X : zX} {w : zW} {M : zM} {p : Program} {s : State} {m : MethodId} {args : Array Value} {meth : Method} {c : Code} (C : zC X w M p s m args meth c) : c.maxLocals = M.2.2.1 := C.2.2.1
theorem zC.hr {X : zX} {w : zW} {M : zM} {p : Program} {s : State} {m : MethodId} {args : Array Value} {meth : Method} {c : Code} (C : zC X w M p s m args meth c) : meth.sig.returnType = M.2.2.2.1 := C.2.2.2.1
theorem zC.hlk {X : zX} {w : zW} {M : zM} {p : Program} {s : State} {m : MethodId} {args : Array Value} {meth : Method} {c : Code} (C : zC X w M p s m args meth c) : meth.locks = false := C.2.2.2.2.1
theorem zC.hown {X : zX} {w : zW} {M : zM} {p : Program} {s : State} {m : MethodId} {args : Array Value} {meth : Method} {c : Code} (C : zC X w M p s m args meth c) : s.vm.findClass M.1.cls = some m.cls := C.2.2.2.2.2.1
theorem zC.hts {X : zX} {w : zW} {M : zM} {p : Program} {s : State} {m : MethodId} {args : Array Value} {meth : Method} {c : Code} (C : zC X w M p s m args meth c) : ∀ w ∈ zTT, w.before args s = true := C.2.2.2.2.2.2.1
theorem zC.hK {X : zX} {w : zW} {M : zM} {p : Program} {s : State} {m : MethodId} {args : Array Value} {meth : Method} {c : Code} (C : zC X w M p s m args meth c) : va_K X.2.1 vwCl (zt X) s := C.2.2.2.2.2.2.2.1
theorem zC.ok {X : zX} {w : zW} {M : zM} {p : Program} {s : State} {m : MethodId} {args : Array Value} {meth : Method} {c : Code} (C : zC X w M p s m args meth c) : zOK X w := C.2.2.2.2.2.2.2.2.1
theorem zC.hV {X : zX} {w : zW} {M : zM} {p : Program} {s : State} {m : MethodId} {args : Array Value} {meth : Method} {c : Code} (C : zC X w M p s m args meth c) : zV X (zA X w) s s.heap := C.2.2.2.2.2.2.2.2.2.1
theorem zC.dec {X : zX} {w : zW} {M : zM} {p : Program} {s : State} {m : MethodId} {args : Array Value} {meth : Method} {c : Code} (C : zC X w M p s m args meth c) {i pc n : Nat} {g : Instr} (h : M.2.2.2.2[i]? = some (pc, g, n)) : decode M.2.1 pc = .ok (g, n) := C.2.2.2.2.2.2.2.2.2.2 i (pc, g, n) h
/-- the locals -/
def zl (ls : Array Slot) (L : List (Option Value)) : Prop := ls.size = L.length ∧ lv_wf ls ∧ ∀ (i : Nat) (v : Value), L[i]? = some (some v) → ls[i]? = some (.val v)
abbrev zZt : Type := List Frame → Array Value → State → State → Prop
/-- the machine stands at pc, with these locals and this stack, in the world σ: it comes to Z -/
def zG (X : zX) (w : zW) (R : Room) (M : zM) (Z : zZt) (pc : Nat) (L : List (Option Value)) (st : List Value) (σ : zS) : Prop :=
  ∀ (p : Program) (e : Env) (s : State) (m : MethodId) (args : Array Value) (below : List Frame) (meth : Method) (c : Code), zC X w M p s m args meth c →
  ∀ (H : Heap) (locs : List Loc) (ls : Array Slot), va_P X.2.1 vwCl (zw X w σ) H → va_S (zA X w) s.heap H locs → zl ls (L.map (Option.map (zv X))) →
  W p X.1 e R s m args below meth c H locs 0 0 (Z below args s) (F0 m pc ls (st.map (zv X)))
/-- .. if k comes to something, then to that -/
def zK {ρ : Type} (X : zX) (w : zW) (R : Room) (M : zM) (Z : ρ → zS → zZt) (pc : Nat) (L : List (Option Value)) (st : List Value) (σ : zS) (k : Option (ρ × zS)) : Prop :=
  ∀ (r : ρ) (σ' : zS), k = some (r, σ') → zG X w R M (Z r σ') pc L st σ
/-- the pieces of the pure terms -/
def zck {α : Type} (c : Prop) [Decidable c] (k : Option α) : Option α := if c then k else none
def zbr {α : Type} (c : Prop) [Decidable c] (k1 k2 : Option α) : Option α := if c then k1 else k2
def zlt {α β : Type} (v : β) (k : β → Option α) : Option α := k v
def zbd {α β : Type} (f : Option (β × zS)) (k : β → zS → Option α) : Option α := match f with
  | none => none
  | some q => k q.1 q.2
abbrev zb (v : Int32) : Prop := v = 0 ∨ v = 1
/-- the place is in the row, and the row is of that sort -/
abbrev zok (s : Nat) (g : Nat × Nat) (i : Int32) : Prop := g.1 = s ∧ 0 ≤ i.toInt ∧ i.toInt < g.2
def zZ {ρ : Type} (X : zX) (w : zW) (em : ρ → Option Value) : ρ → zS → zZt := fun r σ' below args s => MQ below (zQc X w (em r, σ')) args s 0 0 (zA X w)
def zeI (r : Int32) : Option Value := some (.int r)
def zeL (r : Int64) : Option Value := some (.long r)
def zeV (_ : Unit) : Option Value := none
end
section
section ZR
variable {X : zX} {w : zW} {R : Room} {M : zM} {ρ : Type} {Z : ρ → zS → zZt} {pc : Nat} {L : List (Option Value)} {st : List Value} {σ : zS} {k : Option (ρ × zS)}
theorem z_ck {c : Prop} [Decidable c] (h : c → zK X w R M Z pc L st σ k) : zK X w R M Z pc L st σ (zck c k) := by
  intro r σ' hk
  unfold zck at hk
  by_cases hc : c
  · rw [if_pos hc] at hk
    exact h hc r σ' hk
  · rw [if_neg hc] at hk
    cases hk
theorem z_br {c : Prop} [Decidable c] {k1 k2 : Option (ρ × zS)} (h1 : c → zK X w R M Z pc L st σ k1) (h2 : ¬ c → zK X w R M Z pc L st σ k2) : zK X w R M Z pc L st σ (zbr c k1 k2) := by
  intro r σ' hk
  unfold zbr at hk
  by_cases hc : c
  · rw [if_pos hc] at hk
    exact h1 hc r σ' hk
  · rw [if_neg hc] at hk
    exact h2 hc r σ' hk
theorem z_none : zK X w R M Z pc L st σ none := fun r σ' hk => by cases hk
/-- fewer locals -/
def zle (L' L : List (Option Value)) : Prop := L'.length = L.length ∧ ∀ (i : Nat) (v : Value), L'[i]? = some (some v) → L[i]? = some (some v)
theorem zle_0 : zle [] [] := ⟨rfl, fun i v h => by simp at h⟩
theorem zle_n {l : Option Value} {L' L : List (Option Value)} (h : zle L' L) : zle (none :: L') (l :: L) := ⟨by simp [h.1], fun i v hi => by
  cases i with
  | zero => simp at hi
  | succ i => exact h.2 i v (by simpa using hi)⟩
theorem zle_e {l : Option Value} {L' L : List (Option Value)} (h : zle L' L) : zle (l :: L') (l :: L) := ⟨by simp [h.1], fun i v hi => by
  cases i with
  | zero => simpa using hi
  | succ i => exact h.2 i v (by simpa using hi)⟩
theorem zl_map {L : List (Option Value)} {i : Nat} {v : Value} (h : (L.map (Option.map (zv X)))[i]? = some (some v)) : ∃ u, L[i]? = some (some u) ∧ v = zv X u := by
  rw [List.getElem?_map] at h
  cases hL : L[i]? with
  | none => rw [hL] at h; cases h
  | some l =>
    cases l with
    | none => rw [hL] at h; cases h
    | some u => rw [hL] at h; cases h; exact ⟨u, rfl, rfl⟩
theorem zl_map' {L : List (Option Value)} {i : Nat} {u : Value} (h : L[i]? = some (some u)) : (L.map (Option.map (zv X)))[i]? = some (some (zv X u)) := by
  rw [List.getElem?_map, h]; rfl
theorem z_wk {L' : List (Option Value)} (hL : zle L' L) (h : zK X w R M Z pc L' st σ k) : zK X w R M Z pc L st σ k := by
  intro r σ' hk p e s m args below meth c C H locs ls hP hS hl
  refine h r σ' hk p e s m args below meth c C H locs ls hP hS ⟨by rw [hl.1]; simp [hL.1], hl.2.1, fun i v hi => ?_⟩
  obtain ⟨u, h1, rfl⟩ := zl_map hi
  exact hl.2.2 i _ (zl_map' (hL.2 i u h1))
theorem zl_at {ls : Array Slot} (hl : zl ls (L.map (Option.map (zv X)))) {i : Nat} {v : Value} (h : L[i]? = some (some v)) : ls[i]? = some (.val (zv X v)) := hl.2.2 i _ (zl_map' h)
def zprs (L : List (Option Value)) : List (Nat × Value) := (List.range L.length).filterMap (fun i => match L[i]? with | some (some v) => some (i, v) | _ => none)
theorem zprs_mem {L : List (Option Value)} {i : Nat} {v : Value} : (i, v) ∈ zprs L ↔ L[i]? = some (some v) := by
  unfold zprs
  rw [List.mem_filterMap]
  constructor
  · rintro ⟨j, hj, h⟩
    split at h
    · next u hu => cases h; exact hu
    · cases h
  · intro h
    refine ⟨i, List.mem_range.mpr (List.getElem?_eq_some_iff.mp h).1, ?_⟩
    rw [h]
theorem zl_has {ls : Array Slot} {L : List (Option Value)} (h : zl ls L) : lv_has ls L.length (zprs L) := ⟨h.1, h.2.1, fun q hq => h.2.2 q.1 q.2 (zprs_mem.mp hq)⟩
theorem zl_of {ls : Array Slot} {L : List (Option Value)} {n : Nat} {l : List (Nat × Value)} (h : lv_has ls n l) (hn : n = L.length) (hm : ∀ i v, L[i]? = some (some v) → (i, v) ∈ l) : zl ls L := ⟨by rw [← hn]; exact h.1, h.2.1, fun i v hi => h.2.2 (i, v) (hm i v hi)⟩
/-- not a long -/
def zn : Option Value → Bool
  | some (.long _) => false
  | some (.double _) => false
  | _ => true
theorem zn_cat {v : Value} (h : zn (some v) = true) : (v.category == 2) = false := by cases v <;> first | rfl | (cases h)
def zn1 (L : List (Option Value)) (j : Nat) : Bool := match j with
  | 0 => true
  | i + 1 => zn (L.getD i none)
theorem zset1 {ls : Array Slot} {j : Nat} {v : Value} (hp : zn1 L j = true) (h : lv_has ls (L.map (Option.map (zv X))).length ((j, zv X v) :: (zprs (L.map (Option.map (zv X)))).filter (fun q => !(q.1 == j) && !(q.1 + 1 == j && q.2.category == 2)))) : zl ls ((L.set j (some v)).map (Option.map (zv X))) := by
  refine zl_of h (by simp) (fun i u hi => ?_)
  obtain ⟨u, h1, rfl⟩ := zl_map hi
  rw [List.getElem?_set] at h1
  by_cases hj : j = i
  · subst hj
    rw [if_pos rfl] at h1
    split at h1
    · cases h1; exact List.mem_cons_self
    · cases h1
  · rw [if_neg hj] at h1
    refine List.mem_cons_of_mem _ (List.mem_filter.mpr ⟨zprs_mem.mpr (zl_map' h1), ?_⟩)
    have e1 : (i == j) = false := by simpa using fun e => hj e.symm
    by_cases hi2 : i + 1 = j
    · subst hi2
      have : zn (some u) = true := by
        have h2 : zn1 L (i + 1) = zn (L.getD i none) := rfl
        rw [h2] at hp
        rw [List.getD_eq_getElem?_getD, h1] at hp
        exact hp
      simp only [zv_cat, zn_cat this]
      simp [e1]
    · have e2 : (i + 1 == j) = false := by simpa using hi2
      simp [e1, e2]
theorem zset2 {ls : Array Slot} {j : Nat} {v : Value} (hp : zn1 L j = true) (h : lv_has ls (L.map (Option.map (zv X))).length ((j, zv X v) :: (zprs (L.map (Option.map (zv X)))).filter (fun q => !(q.1 == j) && (!(q.1 == j + 1) && !(q.1 + 1 == j && q.2.category == 2))))) : zl ls (((L.set j (some v)).set (j + 1) none).map (Option.map (zv X))) := by
  refine zl_of h (by simp) (fun i u hi => ?_)
  obtain ⟨u, h1, rfl⟩ := zl_map hi
  rw [List.getElem?_set] at h1
  by_cases hj1 : j + 1 = i
  · rw [if_pos hj1] at h1
    split at h1 <;> cases h1
  · rw [if_neg hj1, List.getElem?_set] at h1
    by_cases hj : j = i
    · subst hj
      rw [if_pos rfl] at h1
      split at h1
      · cases h1; exact List.mem_cons_self
      · cases h1
    · rw [if_neg hj] at h1
      refine List.mem_cons_of_mem _ (List.mem_filter.mpr ⟨zprs_mem.mpr (zl_map' h1), ?_⟩)
      have e1 : (i == j) = false := by simpa using fun e => hj e.symm
      have e3 : (i == j + 1) = false := by simpa using fun e => hj1 e.symm
      by_cases hi2 : i + 1 = j
      · subst hi2
        have : zn (some u) = true := by
          have h2 : zn1 L (i + 1) = zn (L.getD i none) := rfl
          rw [h2] at hp
          rw [List.getD_eq_getElem?_getD, h1] at hp
          exact hp
        simp only [zv_cat, zn_cat this]
        simp [e1]
        first | done | omega
      · have e2 : (i + 1 == j) = false := by simpa using hi2
        simp [e1, e2, e3]

theorem z_iconst (i n : Nat) {a : Int} {v : Int32} (hd : M.2.2.2.2[i]? = some (pc, .iconst a, 1)) (hn : pc + 1 = n) (hv : Int32.ofInt a = v) (h : zK X w R M Z n L (.int v :: st) σ k) : zK X w R M Z pc L st σ k := by
  subst hn
  intro r σ' hk p e s m args below meth c C H locs ls hP hS hl
  exact lv_iconst C.hx C.hb (C.dec hd) hv (h r σ' hk p e s m args below meth c C H locs ls hP hS hl)
theorem z_bipush (i n : Nat) {a : Int} {v : Int32} (hd : M.2.2.2.2[i]? = some (pc, .bipush a, 2)) (hn : pc + 2 = n) (hv : (Int8.ofInt a).toInt32 = v) (h : zK X w R M Z n L (.int v :: st) σ k) : zK X w R M Z pc L st σ k := by
  subst hn
  intro r σ' hk p e s m args below meth c C H locs ls hP hS hl
  exact lv_bipush C.hx C.hb (C.dec hd) hv (h r σ' hk p e s m args below meth c C H locs ls hP hS hl)
theorem z_sipush (i n : Nat) {a : Int} {v : Int32} (hd : M.2.2.2.2[i]? = some (pc, .sipush a, 3)) (hn : pc + 3 = n) (hv : (Int16.ofInt a).toInt32 = v) (h : zK X w R M Z n L (.int v :: st) σ k) : zK X w R M Z pc L st σ k := by
  subst hn
  intro r σ' hk p e s m args below meth c C H locs ls hP hS hl
  exact lv_sipush C.hx C.hb (C.dec hd) hv (h r σ' hk p e s m args below meth c C H locs ls hP hS hl)
theorem z_lconst (i n : Nat) {a : Fin 2} {v : Int64} (hd : M.2.2.2.2[i]? = some (pc, .lconst a, 1)) (hn : pc + 1 = n) (hv : Int64.ofNat (a : Nat) = v) (h : zK X w R M Z n L (.long v :: st) σ k) : zK X w R M Z pc L st σ k := by
  subst hn
  intro r σ' hk p e s m args below meth c C H locs ls hP hS hl
  exact lv_lconst C.hx C.hb (C.dec hd) hv (h r σ' hk p e s m args below meth c C H locs ls hP hS hl)
theorem z_ldcI (i n : Nat) {a : Nat} {v : Int32} (hd : M.2.2.2.2[i]? = some (pc, .ldc a, 2)) (hn : pc + 2 = n) (hv : Cond.constant M.1.cls a v ∈ zTT) (h : zK X w R M Z n L (.int v :: st) σ k) : zK X w R M Z pc L st σ k := by
  subst hn
  intro r σ' hk p e s m args below meth c C H locs ls hP hS hl
  exact lv_ldc C.hx C.hb C.hown (C.hts _ hv) (C.dec hd) (h r σ' hk p e s m args below meth c C H locs ls hP hS hl)
theorem z_ldcwI (i n : Nat) {a : Nat} {v : Int32} (hd : M.2.2.2.2[i]? = some (pc, .ldc_w a, 3)) (hn : pc + 3 = n) (hv : Cond.constant M.1.cls a v ∈ zTT) (h : zK X w R M Z n L (.int v :: st) σ k) : zK X w R M Z pc L st σ k := by
  subst hn
  intro r σ' hk p e s m args below meth c C H locs ls hP hS hl
  exact lv_ldcw C.hx C.hb C.hown (C.hts _ hv) (C.dec hd) (h r σ' hk p e s m args below meth c C H locs ls hP hS hl)
theorem z_ldc2 (i n : Nat) {a : Nat} {v : Int64} (hd : M.2.2.2.2[i]? = some (pc, .ldc2_w a, 3)) (hn : pc + 3 = n) (hv : Cond.constantLong M.1.cls a v ∈ zTT) (h : zK X w R M Z n L (.long v :: st) σ k) : zK X w R M Z pc L st σ k := by
  subst hn
  intro r σ' hk p e s m args below meth c C H locs ls hP hS hl
  exact lv_ldc2 C.hx C.hb C.hown (C.hts _ hv) (C.dec hd) (h r σ' hk p e s m args below meth c C H locs ls hP hS hl)
theorem z_ldcS (i n j : Nat) {a : Nat} {tx : String} (hd : M.2.2.2.2[i]? = some (pc, .ldc a, 2)) (hn : pc + 2 = n) (hv : (M.1.cls, a, tx, j) ∈ zstr) (h : zK X w R M Z n L (.ref (1000 + j) :: st) σ k) : zK X w R M Z pc L st σ k := by
  subst hn
  intro r σ' hk p e s m args below meth c C H locs ls hP hS hl
  have e1 : zv X (.ref (1000 + j)) = .ref (X.2.2.2.2.1 j) := by
    show Value.ref (za X (1000 + j)) = _
    unfold za
    rw [if_neg (by omega), Nat.add_sub_cancel_left]
  have h1 := h r σ' hk p e s m args below meth c C H locs ls hP hS hl
  rw [List.map_cons, e1] at h1
  exact va_ldcS C.hx C.hb C.hown (C.hV.2.1 _ hv) (C.dec hd) h1
theorem z_iadd (i n : Nat) {x y : Int32} (hd : M.2.2.2.2[i]? = some (pc, .iadd, 1)) (hn : pc + 1 = n) (h : zK X w R M Z n L (.int (x + y) :: st) σ k) : zK X w R M Z pc L (.int y :: .int x :: st) σ k := by
  subst hn
  intro r σ' hk p e s m args below meth c C H locs ls hP hS hl
  exact lv_iadd C.hx C.hb (C.dec hd) (h r σ' hk p e s m args below meth c C H locs ls hP hS hl)
theorem z_isub (i n : Nat) {x y : Int32} (hd : M.2.2.2.2[i]? = some (pc, .isub, 1)) (hn : pc + 1 = n) (h : zK X w R M Z n L (.int (x - y) :: st) σ k) : zK X w R M Z pc L (.int y :: .int x :: st) σ k := by
  subst hn
  intro r σ' hk p e s m args below meth c C H locs ls hP hS hl
  exact lv_isub C.hx C.hb (C.dec hd) (h r σ' hk p e s m args below meth c C H locs ls hP hS hl)
theorem z_imul (i n : Nat) {x y : Int32} (hd : M.2.2.2.2[i]? = some (pc, .imul, 1)) (hn : pc + 1 = n) (h : zK X w R M Z n L (.int (x * y) :: st) σ k) : zK X w R M Z pc L (.int y :: .int x :: st) σ k := by
  subst hn
  intro r σ' hk p e s m args below meth c C H locs ls hP hS hl
  exact lv_imul C.hx C.hb (C.dec hd) (h r σ' hk p e s m args below meth c C H locs ls hP hS hl)
theorem z_iand (i n : Nat) {x y : Int32} (hd : M.2.2.2.2[i]? = some (pc, .iand, 1)) (hn : pc + 1 = n) (h : zK X w R M Z n L (.int (x &&& y) :: st) σ k) : zK X w R M Z pc L (.int y :: .int x :: st) σ k := by
  subst hn
  intro r σ' hk p e s m args below meth c C H locs ls hP hS hl
  exact lv_iand C.hx C.hb (C.dec hd) (h r σ' hk p e s m args below meth c C H locs ls hP hS hl)
theorem z_ior (i n : Nat) {x y : Int32} (hd : M.2.2.2.2[i]? = some (pc, .ior, 1)) (hn : pc + 1 = n) (h : zK X w R M Z n L (.int (x ||| y) :: st) σ k) : zK X w R M Z pc L (.int y :: .int x :: st) σ k := by
  subst hn
  intro r σ' hk p e s m args below meth c C H locs ls hP hS hl
  exact lv_ior C.hx C.hb (C.dec hd) (h r σ' hk p e s m args below meth c C H locs ls hP hS hl)
theorem z_ixor (i n : Nat) {x y : Int32} (hd : M.2.2.2.2[i]? = some (pc, .ixor, 1)) (hn : pc + 1 = n) (h : zK X w R M Z n L (.int (x ^^^ y) :: st) σ k) : zK X w R M Z pc L (.int y :: .int x :: st) σ k := by
  subst hn
  intro r σ' hk p e s m args below meth c C H locs ls hP hS hl
  exact lv_ixor C.hx C.hb (C.dec hd) (h r σ' hk p e s m args below meth c C H locs ls hP hS hl)
theorem z_ishl (i n : Nat) {x y : Int32} (hd : M.2.2.2.2[i]? = some (pc, .ishl, 1)) (hn : pc + 1 = n) (h : zK X w R M Z n L (.int (x <<< (y &&& 31)) :: st) σ k) : zK X w R M Z pc L (.int y :: .int x :: st) σ k := by
  subst hn
  intro r σ' hk p e s m args below meth c C H locs ls hP hS hl
  exact lv_ishl C.hx C.hb (C.dec hd) (h r σ' hk p e s m args below meth c C H locs ls hP hS hl)
theorem z_ishr (i n : Nat) {x y : Int32} (hd : M.2.2.2.2[i]? = some (pc, .ishr, 1)) (hn : pc + 1 = n) (h : zK X w R M Z n L (.int (x >>> (y &&& 31)) :: st) σ k) : zK X w R M Z pc L (.int y :: .int x :: st) σ k := by
  subst hn
  intro r σ' hk p e s m args below meth c C H locs ls hP hS hl
  exact lv_ishr C.hx C.hb (C.dec hd) (h r σ' hk p e s m args below meth c C H locs ls hP hS hl)
theorem z_iushr (i n : Nat) {x y : Int32} (hd : M.2.2.2.2[i]? = some (pc, .iushr, 1)) (hn : pc + 1 = n) (h : zK X w R M Z n L (.int ((x.toUInt32 >>> (y.toUInt32 &&& Int32.toUInt32 31)).toInt32) :: st) σ k) : zK X w R M Z pc L (.int y :: .int x :: st) σ k := by
  subst hn
  intro r σ' hk p e s m args below meth c C H locs ls hP hS hl
  exact lv_iushr C.hx C.hb (C.dec hd) rfl (h r σ' hk p e s m args below meth c C H locs ls hP hS hl)
theorem z_idiv (i n : Nat) {x y : Int32} (hd : M.2.2.2.2[i]? = some (pc, .idiv, 1)) (hn : pc + 1 = n) (h0 : ¬ y = 0) (h : zK X w R M Z n L (.int (x / y) :: st) σ k) : zK X w R M Z pc L (.int y :: .int x :: st) σ k := by
  subst hn
  intro r σ' hk p e s m args below meth c C H locs ls hP hS hl
  exact lv_idiv C.hx C.hb (C.dec hd) h0 (h r σ' hk p e s m args below meth c C H locs ls hP hS hl)
theorem z_irem (i n : Nat) {x y : Int32} (hd : M.2.2.2.2[i]? = some (pc, .irem, 1)) (hn : pc + 1 = n) (h0 : ¬ y = 0) (h : zK X w R M Z n L (.int (x - x / y * y) :: st) σ k) : zK X w R M Z pc L (.int y :: .int x :: st) σ k := by
  subst hn
  intro r σ' hk p e s m args below meth c C H locs ls hP hS hl
  exact lv_irem C.hx C.hb (C.dec hd) h0 (h r σ' hk p e s m args below meth c C H locs ls hP hS hl)
theorem z_ladd (i n : Nat) {x y : Int64} (hd : M.2.2.2.2[i]? = some (pc, .ladd, 1)) (hn : pc + 1 = n) (h : zK X w R M Z n L (.long (x + y) :: st) σ k) : zK X w R M Z pc L (.long y :: .long x :: st) σ k := by
  subst hn
  intro r σ' hk p e s m args below meth c C H locs ls hP hS hl
  exact lv_ladd C.hx C.hb (C.dec hd) (h r σ' hk p e s m args below meth c C H locs ls hP hS hl)
theorem z_lmul (i n : Nat) {x y : Int64} (hd : M.2.2.2.2[i]? = some (pc, .lmul, 1)) (hn : pc + 1 = n) (h : zK X w R M Z n L (.long (x * y) :: st) σ k) : zK X w R M Z pc L (.long y :: .long x :: st) σ k := by
  subst hn
  intro r σ' hk p e s m args below meth c C H locs ls hP hS hl
  exact lv_lmul C.hx C.hb (C.dec hd) (h r σ' hk p e s m args below meth c C H locs ls hP hS hl)
theorem z_ldiv (i n : Nat) {x y : Int64} (hd : M.2.2.2.2[i]? = some (pc, .ldiv, 1)) (hn : pc + 1 = n) (h0 : ¬ y = 0) (h : zK X w R M Z n L (.long (x / y) :: st) σ k) : zK X w R M Z pc L (.long y :: .long x :: st) σ k := by
  subst hn
  intro r σ' hk p e s m args below meth c C H locs ls hP hS hl
  exact lv_ldiv C.hx C.hb (C.dec hd) h0 (h r σ' hk p e s m args below meth c C H locs ls hP hS hl)
theorem z_lrem (i n : Nat) {x y : Int64} (hd : M.2.2.2.2[i]? = some (pc, .lrem, 1)) (hn : pc + 1 = n) (h0 : ¬ y = 0) (h : zK X w R M Z n L (.long (x - x / y * y) :: st) σ k) : zK X w R M Z pc L (.long y :: .long x :: st) σ k := by
  subst hn
  intro r σ' hk p e s m args below meth c C H locs ls hP hS hl
  exact lv_lrem C.hx C.hb (C.dec hd) h0 (h r σ' hk p e s m args below meth c C H locs ls hP hS hl)
theorem z_lcmp (i n : Nat) {x y : Int64} (hd : M.2.2.2.2[i]? = some (pc, .lcmp, 1)) (hn : pc + 1 = n) (h : zK X w R M Z n L (.int (lg_cmp x y) :: st) σ k) : zK X w R M Z pc L (.long y :: .long x :: st) σ k := by
  subst hn
  intro r σ' hk p e s m args below meth c C H locs ls hP hS hl
  exact W.lcmp C.hx C.hb (C.dec hd) (h r σ' hk p e s m args below meth c C H locs ls hP hS hl)
theorem z_i2l (i n : Nat) {x : Int32} (hd : M.2.2.2.2[i]? = some (pc, .i2l, 1)) (hn : pc + 1 = n) (h : zK X w R M Z n L (.long x.toInt64 :: st) σ k) : zK X w R M Z pc L (.int x :: st) σ k := by
  subst hn
  intro r σ' hk p e s m args below meth c C H locs ls hP hS hl
  exact lv_i2l C.hx C.hb (C.dec hd) rfl (h r σ' hk p e s m args below meth c C H locs ls hP hS hl)
theorem z_i2b (i n : Nat) {x : Int32} (hd : M.2.2.2.2[i]? = some (pc, .i2b, 1)) (hn : pc + 1 = n) (h : zK X w R M Z n L (.int x.toInt8.toInt32 :: st) σ k) : zK X w R M Z pc L (.int x :: st) σ k := by
  subst hn
  intro r σ' hk p e s m args below meth c C H locs ls hP hS hl
  exact lv_i2b C.hx C.hb (C.dec hd) rfl (h r σ' hk p e s m args below meth c C H locs ls hP hS hl)
theorem z_dup (i n : Nat) {v : Value} (hd : M.2.2.2.2[i]? = some (pc, .dup, 1)) (hn : pc + 1 = n) (hv : v.category = 1) (h : zK X w R M Z n L (v :: v :: st) σ k) : zK X w R M Z pc L (v :: st) σ k := by
  subst hn
  intro r σ' hk p e s m args below meth c C H locs ls hP hS hl
  exact lv_dup C.hx C.hb (C.dec hd) ((zv_cat X v).trans hv) (h r σ' hk p e s m args below meth c C H locs ls hP hS hl)
theorem z_pop (i n : Nat) {v : Value} (hd : M.2.2.2.2[i]? = some (pc, .pop, 1)) (hn : pc + 1 = n) (hv : v.category = 1) (h : zK X w R M Z n L st σ k) : zK X w R M Z pc L (v :: st) σ k := by
  subst hn
  intro r σ' hk p e s m args below meth c C H locs ls hP hS hl
  exact lv_pop C.hx C.hb (C.dec hd) ((zv_cat X v).trans hv) (h r σ' hk p e s m args below meth c C H locs ls hP hS hl)
theorem z_dup2 (i n : Nat) {v u : Value} (hd : M.2.2.2.2[i]? = some (pc, .dup2, 1)) (hn : pc + 1 = n) (hv : v.category = 1) (hu : u.category = 1) (h : zK X w R M Z n L (v :: u :: v :: u :: st) σ k) : zK X w R M Z pc L (v :: u :: st) σ k := by
  subst hn
  intro r σ' hk p e s m args below meth c C H locs ls hP hS hl
  exact lv_dup2_11 C.hx C.hb (C.dec hd) ((zv_cat X v).trans hv) ((zv_cat X u).trans hu) (h r σ' hk p e s m args below meth c C H locs ls hP hS hl)
theorem z_goto (i n : Nat) {a : Int} (hd : M.2.2.2.2[i]? = some (pc, .goto a, 3)) (hn : (pc : Int) + a = (n : Int)) (h : zK X w R M Z n L st σ k) : zK X w R M Z pc L st σ k := by
  intro r σ' hk p e s m args below meth c C H locs ls hP hS hl
  exact lv_goto C.hx C.hb (C.dec hd) hn (h r σ' hk p e s m args below meth c C H locs ls hP hS hl)
theorem z_if_eq (i n t : Nat) {x : Int32} {a : Int} {k1 k2 : Option (ρ × zS)} (hd : M.2.2.2.2[i]? = some (pc, .ifCond .eq a, 3)) (hn : pc + 3 = n) (ht : (pc : Int) + a = (t : Int)) (h1 : zK X w R M Z t L st σ k1) (h2 : zK X w R M Z n L st σ k2) : zK X w R M Z pc L (.int x :: st) σ (zbr (x = 0) k1 k2) := by
  subst hn
  intro r σ' hk p e s m args below meth c C H locs ls hP hS hl
  unfold zbr at hk
  refine lv_if_eq C.hx C.hb (C.dec hd) ht (fun hc => ?_) (fun hc => ?_)
  · rw [if_pos hc] at hk
    exact h1 r σ' hk p e s m args below meth c C H locs ls hP hS hl
  · rw [if_neg hc] at hk
    exact h2 r σ' hk p e s m args below meth c C H locs ls hP hS hl
theorem z_if_ne (i n t : Nat) {x : Int32} {a : Int} {k1 k2 : Option (ρ × zS)} (hd : M.2.2.2.2[i]? = some (pc, .ifCond .ne a, 3)) (hn : pc + 3 = n) (ht : (pc : Int) + a = (t : Int)) (h1 : zK X w R M Z n L st σ k1) (h2 : zK X w R M Z t L st σ k2) : zK X w R M Z pc L (.int x :: st) σ (zbr (x = 0) k1 k2) := by
  subst hn
  intro r σ' hk p e s m args below meth c C H locs ls hP hS hl
  unfold zbr at hk
  refine lv_if_ne C.hx C.hb (C.dec hd) ht (fun hc => ?_) (fun hc => ?_)
  · rw [if_neg hc] at hk
    exact h2 r σ' hk p e s m args below meth c C H locs ls hP hS hl
  · rw [if_pos hc] at hk
    exact h1 r σ' hk p e s m args below meth c C H locs ls hP hS hl
theorem z_if_lt (i n t : Nat) {x : Int32} {a : Int} {k1 k2 : Option (ρ × zS)} (hd : M.2.2.2.2[i]? = some (pc, .ifCond .lt a, 3)) (hn : pc + 3 = n) (ht : (pc : Int) + a = (t : Int)) (h1 : zK X w R M Z t L st σ k1) (h2 : zK X w R M Z n L st σ k2) : zK X w R M Z pc L (.int x :: st) σ (zbr (x < 0) k1 k2) := by
  subst hn
  intro r σ' hk p e s m args below meth c C H locs ls hP hS hl
  unfold zbr at hk
  refine lv_if_lt C.hx C.hb (C.dec hd) ht (fun hc => ?_) (fun hc => ?_)
  · rw [if_pos hc] at hk
    exact h1 r σ' hk p e s m args below meth c C H locs ls hP hS hl
  · rw [if_neg hc] at hk
    exact h2 r σ' hk p e s m args below meth c C H locs ls hP hS hl
theorem z_if_ge (i n t : Nat) {x : Int32} {a : Int} {k1 k2 : Option (ρ × zS)} (hd : M.2.2.2.2[i]? = some (pc, .ifCond .ge a, 3)) (hn : pc + 3 = n) (ht : (pc : Int) + a = (t : Int)) (h1 : zK X w R M Z t L st σ k1) (h2 : zK X w R M Z n L st σ k2) : zK X w R M Z pc L (.int x :: st) σ (zbr (0 ≤ x) k1 k2) := by
  subst hn
  intro r σ' hk p e s m args below meth c C H locs ls hP hS hl
  unfold zbr at hk
  refine lv_if_ge C.hx C.hb (C.dec hd) ht (fun hc => ?_) (fun hc => ?_)
  · rw [if_pos hc] at hk
    exact h1 r σ' hk p e s m args below meth c C H locs ls hP hS hl
  · rw [if_neg hc] at hk
    exact h2 r σ' hk p e s m args below meth c C H locs ls hP hS hl
theorem z_if_gt (i n t : Nat) {x : Int32} {a : Int} {k1 k2 : Option (ρ × zS)} (hd : M.2.2.2.2[i]? = some (pc, .ifCond .gt a, 3)) (hn : pc + 3 = n) (ht : (pc : Int) + a = (t : Int)) (h1 : zK X w R M Z t L st σ k1) (h2 : zK X w R M Z n L st σ k2) : zK X w R M Z pc L (.int x :: st) σ (zbr (0 < x) k1 k2) := by
  subst hn
  intro r σ' hk p e s m args below meth c C H locs ls hP hS hl
  unfold zbr at hk
  refine lv_if_gt C.hx C.hb (C.dec hd) ht (fun hc => ?_) (fun hc => ?_)
  · rw [if_pos hc] at hk
    exact h1 r σ' hk p e s m args below meth c C H locs ls hP hS hl
  · rw [if_neg hc] at hk
    exact h2 r σ' hk p e s m args below meth c C H locs ls hP hS hl
theorem z_if_le (i n t : Nat) {x : Int32} {a : Int} {k1 k2 : Option (ρ × zS)} (hd : M.2.2.2.2[i]? = some (pc, .ifCond .le a, 3)) (hn : pc + 3 = n) (ht : (pc : Int) + a = (t : Int)) (h1 : zK X w R M Z t L st σ k1) (h2 : zK X w R M Z n L st σ k2) : zK X w R M Z pc L (.int x :: st) σ (zbr (x ≤ 0) k1 k2) := by
  subst hn
  intro r σ' hk p e s m args below meth c C H locs ls hP hS hl
  unfold zbr at hk
  refine lv_if_le C.hx C.hb (C.dec hd) ht (fun hc => ?_) (fun hc => ?_)
  · rw [if_pos hc] at hk
    exact h1 r σ' hk p e s m args below meth c C H locs ls hP hS hl
  · rw [if_neg hc] at hk
    exact h2 r σ' hk p e s m args below meth c C H locs ls hP hS hl
theorem z_icmp_eq (i n t : Nat) {x y : Int32} {a : Int} {k1 k2 : Option (ρ × zS)} (hd : M.2.2.2.2[i]? = some (pc, .if_icmp .eq a, 3)) (hn : pc + 3 = n) (ht : (pc : Int) + a = (t : Int)) (h1 : zK X w R M Z t L st σ k1) (h2 : zK X w R M Z n L st σ k2) : zK X w R M Z pc L (.int y :: .int x :: st) σ (zbr (x = y) k1 k2) := by
  subst hn
  intro r σ' hk p e s m args below meth c C H locs ls hP hS hl
  unfold zbr at hk
  refine lv_icmp_eq C.hx C.hb (C.dec hd) ht (fun hc => ?_) (fun hc => ?_)
  · rw [if_pos hc] at hk
    exact h1 r σ' hk p e s m args below meth c C H locs ls hP hS hl
  · rw [if_neg hc] at hk
    exact h2 r σ' hk p e s m args below meth c C H locs ls hP hS hl
theorem z_icmp_ne (i n t : Nat) {x y : Int32} {a : Int} {k1 k2 : Option (ρ × zS)} (hd : M.2.2.2.2[i]? = some (pc, .if_icmp .ne a, 3)) (hn : pc + 3 = n) (ht : (pc : Int) + a = (t : Int)) (h1 : zK X w R M Z n L st σ k1) (h2 : zK X w R M Z t L st σ k2) : zK X w R M Z pc L (.int y :: .int x :: st) σ (zbr (x = y) k1 k2) := by
  subst hn
  intro r σ' hk p e s m args below meth c C H locs ls hP hS hl
  unfold zbr at hk
  refine lv_icmp_ne C.hx C.hb (C.dec hd) ht (fun hc => ?_) (fun hc => ?_)
  · rw [if_neg hc] at hk
    exact h2 r σ' hk p e s m args below meth c C H locs ls hP hS hl
  · rw [if_pos hc] at hk
    exact h1 r σ' hk p e s m args below meth c C H locs ls hP hS hl
theorem z_icmp_lt (i n t : Nat) {x y : Int32} {a : Int} {k1 k2 : Option (ρ × zS)} (hd : M.2.2.2.2[i]? = some (pc, .if_icmp .lt a, 3)) (hn : pc + 3 = n) (ht : (pc : Int) + a = (t : Int)) (h1 : zK X w R M Z t L st σ k1) (h2 : zK X w R M Z n L st σ k2) : zK X w R M Z pc L (.int y :: .int x :: st) σ (zbr (x < y) k1 k2) := by
  subst hn
  intro r σ' hk p e s m args below meth c C H locs ls hP hS hl
  unfold zbr at hk
  refine lv_icmp_lt C.hx C.hb (C.dec hd) ht (fun hc => ?_) (fun hc => ?_)
  · rw [if_pos hc] at hk
    exact h1 r σ' hk p e s m args below meth c C H locs ls hP hS hl
  · rw [if_neg hc] at hk
    exact h2 r σ' hk p e s m args below meth c C H locs ls hP hS hl
theorem z_icmp_ge (i n t : Nat) {x y : Int32} {a : Int} {k1 k2 : Option (ρ × zS)} (hd : M.2.2.2.2[i]? = some (pc, .if_icmp .ge a, 3)) (hn : pc + 3 = n) (ht : (pc : Int) + a = (t : Int)) (h1 : zK X w R M Z t L st σ k1) (h2 : zK X w R M Z n L st σ k2) : zK X w R M Z pc L (.int y :: .int x :: st) σ (zbr (y ≤ x) k1 k2) := by
  subst hn
  intro r σ' hk p e s m args below meth c C H locs ls hP hS hl
  unfold zbr at hk
  refine lv_icmp_ge C.hx C.hb (C.dec hd) ht (fun hc => ?_) (fun hc => ?_)
  · rw [if_pos hc] at hk
    exact h1 r σ' hk p e s m args below meth c C H locs ls hP hS hl
  · rw [if_neg hc] at hk
    exact h2 r σ' hk p e s m args below meth c C H locs ls hP hS hl
theorem z_icmp_gt (i n t : Nat) {x y : Int32} {a : Int} {k1 k2 : Option (ρ × zS)} (hd : M.2.2.2.2[i]? = some (pc, .if_icmp .gt a, 3)) (hn : pc + 3 = n) (ht : (pc : Int) + a = (t : Int)) (h1 : zK X w R M Z t L st σ k1) (h2 : zK X w R M Z n L st σ k2) : zK X w R M Z pc L (.int y :: .int x :: st) σ (zbr (y < x) k1 k2) := by
  subst hn
  intro r σ' hk p e s m args below meth c C H locs ls hP hS hl
  unfold zbr at hk
  refine lv_icmp_gt C.hx C.hb (C.dec hd) ht (fun hc => ?_) (fun hc => ?_)
  · rw [if_pos hc] at hk
    exact h1 r σ' hk p e s m args below meth c C H locs ls hP hS hl
  · rw [if_neg hc] at hk
    exact h2 r σ' hk p e s m args below meth c C H locs ls hP hS hl
theorem z_icmp_le (i n t : Nat) {x y : Int32} {a : Int} {k1 k2 : Option (ρ × zS)} (hd : M.2.2.2.2[i]? = some (pc, .if_icmp .le a, 3)) (hn : pc + 3 = n) (ht : (pc : Int) + a = (t : Int)) (h1 : zK X w R M Z t L st σ k1) (h2 : zK X w R M Z n L st σ k2) : zK X w R M Z pc L (.int y :: .int x :: st) σ (zbr (x ≤ y) k1 k2) := by
  subst hn
  intro r σ' hk p e s m args below meth c C H locs ls hP hS hl
  unfold zbr at hk
  refine lv_icmp_le C.hx C.hb (C.dec hd) ht (fun hc => ?_) (fun hc => ?_)
  · rw [if_pos hc] at hk
    exact h1 r σ' hk p e s m args below meth c C H locs ls hP hS hl
  · rw [if_neg hc] at hk
    exact h2 r σ' hk p e s m args below meth c C H locs ls hP hS hl
theorem z_tabIn (i t : Nat) {x : Int32} {a lo hi : Int} {offs : Array Int} {ln : Nat} {off : Int} (hd : M.2.2.2.2[i]? = some (pc, .tableswitch a lo hi offs, ln)) {v : Int32} (hx : x = v) {z : Int} (hv : v.toInt = z) (h1 : ¬ z < lo) (h2 : ¬ hi < z) (ho : offs[(z - lo).toNat]? = some off) (ht : (pc : Int) + off = (t : Int)) (h : zK X w R M Z t L st σ k) : zK X w R M Z pc L (.int x :: st) σ k := by
  subst hx; subst hv
  intro r σ' hk p e s m args below meth c C H locs ls hP hS hl
  exact lv_tableIn C.hx C.hb (C.dec hd) h1 h2 ho ht (h r σ' hk p e s m args below meth c C H locs ls hP hS hl)
theorem z_tabOut (i t : Nat) {x : Int32} {a lo hi : Int} {offs : Array Int} {ln : Nat} (hd : M.2.2.2.2[i]? = some (pc, .tableswitch a lo hi offs, ln)) (hx : x.toInt < lo ∨ hi < x.toInt) (ht : (pc : Int) + a = (t : Int)) (h : zK X w R M Z t L st σ k) : zK X w R M Z pc L (.int x :: st) σ k := by
  intro r σ' hk p e s m args below meth c C H locs ls hP hS hl
  exact lv_tableOut C.hx C.hb (C.dec hd) hx ht (h r σ' hk p e s m args below meth c C H locs ls hP hS hl)
/-- an int that is none of 0 .. n-1 is outside -/
theorem z_out {x : Int32} (n : Nat) (h : ∀ j, j < n → ¬ x = nI j) (hn : n < 2 ^ 31) (hi : Int) (hh : hi = (n : Int) - 1) : x.toInt < 0 ∨ hi < x.toInt := by
  subst hh
  rcases Int.lt_or_le x.toInt 0 with q | q
  · exact Or.inl q
  · refine Or.inr ?_
    rcases Int.lt_or_le ((n : Int) - 1) x.toInt with z | z
    · exact z
    · exfalso
      refine h x.toInt.toNat (by omega) (Int32.toInt_inj.mp ?_)
      rw [nI_toInt (by omega)]
      omega
theorem z_iload0 (i n : Nat) {x : Int32} {Lr : List (Option Value)} (hd : M.2.2.2.2[i]? = some (pc, .iload_n 0, 1)) (hn : pc + 1 = n) (h : zK X w R M Z n (some (.int x) :: Lr) (.int x :: st) σ k) : zK X w R M Z pc (some (.int x) :: Lr) st σ k := by
  subst hn
  intro r σ' hk p e s m args below meth c C H locs ls hP hS hl
  exact lv_iload_n C.hx C.hb (C.dec hd) rfl (zl_at hl (i := 0) rfl) (h r σ' hk p e s m args below meth c C H locs ls hP hS hl)
theorem z_aload0 (i n : Nat) {x : Nat} {Lr : List (Option Value)} (hd : M.2.2.2.2[i]? = some (pc, .aload_n 0, 1)) (hn : pc + 1 = n) (h : zK X w R M Z n (some (.ref x) :: Lr) (.ref x :: st) σ k) : zK X w R M Z pc (some (.ref x) :: Lr) st σ k := by
  subst hn
  intro r σ' hk p e s m args below meth c C H locs ls hP hS hl
  exact lv_aload_n C.hx C.hb (C.dec hd) rfl (zl_at hl (i := 0) rfl) (h r σ' hk p e s m args below meth c C H locs ls hP hS hl)
theorem z_lload0 (i n : Nat) {x : Int64} {Lr : List (Option Value)} (hd : M.2.2.2.2[i]? = some (pc, .lload_n 0, 1)) (hn : pc + 1 = n) (h : zK X w R M Z n (some (.long x) :: Lr) (.long x :: st) σ k) : zK X w R M Z pc (some (.long x) :: Lr) st σ k := by
  subst hn
  intro r σ' hk p e s m args below meth c C H locs ls hP hS hl
  exact lv_lload_n C.hx C.hb (C.dec hd) rfl (zl_at hl (i := 0) rfl) (h r σ' hk p e s m args below meth c C H locs ls hP hS hl)
theorem z_istore0 (i n : Nat) {v : Int32} {kf : Int32 → Option (ρ × zS)} {l0 : Option Value} {Lr : List (Option Value)} (hd : M.2.2.2.2[i]? = some (pc, .istore_n 0, 1)) (hn : pc + 1 = n) (h : ∀ x, zK X w R M Z n (some (.int x) :: Lr) st σ (kf x)) : zK X w R M Z pc (l0 :: Lr) (.int v :: st) σ (zlt v kf) := by
  subst hn
  intro r σ' hk p e s m args below meth c C H locs ls hP hS hl
  exact lv_istore_n (i := 0) C.hx C.hb (C.dec hd) rfl (zl_has hl) (by simp only [List.map_cons, List.length_cons]; omega) rfl (fun ls' hl' => h v r σ' hk p e s m args below meth c C H locs ls' hP hS (zset1 (L := l0 :: Lr) (j := 0) (v := .int v) rfl hl'))
theorem z_astore0 (i n : Nat) {v : Nat} {kf : Nat → Option (ρ × zS)} {l0 : Option Value} {Lr : List (Option Value)} (hd : M.2.2.2.2[i]? = some (pc, .astore_n 0, 1)) (hn : pc + 1 = n) (h : ∀ x, zK X w R M Z n (some (.ref x) :: Lr) st σ (kf x)) : zK X w R M Z pc (l0 :: Lr) (.ref v :: st) σ (zlt v kf) := by
  subst hn
  intro r σ' hk p e s m args below meth c C H locs ls hP hS hl
  exact lv_astore_n (i := 0) C.hx C.hb (C.dec hd) rfl (zl_has hl) (by simp only [List.map_cons, List.length_cons]; omega) rfl (fun ls' hl' => h v r σ' hk p e s m args below meth c C H locs ls' hP hS (zset1 (L := l0 :: Lr) (j := 0) (v := .ref v) rfl hl'))
theorem z_lstore0 (i n : Nat) {v : Int64} {kf : Int64 → Option (ρ × zS)} {l0 l1 : Option Value} {Lr : List (Option Value)} (hd : M.2.2.2.2[i]? = some (pc, .lstore_n 0, 1)) (hn : pc + 1 = n) (h : ∀ x, zK X w R M Z n (some (.long x) :: none :: Lr) st σ (kf x)) : zK X w R M Z pc (l0 :: l1 :: Lr) (.long v :: st) σ (zlt v kf) := by
  subst hn
  intro r σ' hk p e s m args below meth c C H locs ls hP hS hl
  exact lv_lstore_n (i := 0) C.hx C.hb (C.dec hd) rfl (zl_has hl) (by simp only [List.map_cons, List.length_cons]; omega) rfl (fun ls' hl' => h v r σ' hk p e s m args below meth c C H locs ls' hP hS (zset2 (L := l0 :: l1 :: Lr) (j := 0) (v := .long v) rfl hl'))
theorem z_iinc0 (i n : Nat) {x v : Int32} {a : Int} {kf : Int32 → Option (ρ × zS)} {Lr : List (Option Value)} (hd : M.2.2.2.2[i]? = some (pc, .iinc 0 a, 3)) (hn : pc + 3 = n) (ha : Int32.ofInt a = v) (h : ∀ y, zK X w R M Z n (some (.int y) :: Lr) st σ (kf y)) : zK X w R M Z pc (some (.int x) :: Lr) st σ (zlt (x + v) kf) := by
  subst hn; subst ha
  intro r σ' hk p e s m args below meth c C H locs ls hP hS hl
  obtain ⟨q, hq⟩ := List.getElem?_of_mem (zprs_mem.mpr (zl_map' (X := X) (L := some (.int x) :: Lr) (i := 0) (u := .int x) rfl))
  exact lv_iinc C.hx C.hb (C.dec hd) (zl_has hl) hq rfl (by simp only [List.map_cons, List.length_cons]; omega) rfl (fun ls' hl' => h (x + Int32.ofInt a) r σ' hk p e s m args below meth c C H locs ls' hP hS (zset1 (L := some (.int x) :: Lr) (j := 0) (v := .int (x + Int32.ofInt a)) rfl hl'))
theorem z_iload1 (i n : Nat) {x : Int32} {l0 : Option Value} {Lr : List (Option Value)} (hd : M.2.2.2.2[i]? = some (pc, .iload_n 1, 1)) (hn : pc + 1 = n) (h : zK X w R M Z n (l0 :: some (.int x) :: Lr) (.int x :: st) σ k) : zK X w R M Z pc (l0 :: some (.int x) :: Lr) st σ k := by
  subst hn
  intro r σ' hk p e s m args below meth c C H locs ls hP hS hl
  exact lv_iload_n C.hx C.hb (C.dec hd) rfl (zl_at hl (i := 1) rfl) (h r σ' hk p e s m args below meth c C H locs ls hP hS hl)
theorem z_aload1 (i n : Nat) {x : Nat} {l0 : Option Value} {Lr : List (Option Value)} (hd : M.2.2.2.2[i]? = some (pc, .aload_n 1, 1)) (hn : pc + 1 = n) (h : zK X w R M Z n (l0 :: some (.ref x) :: Lr) (.ref x :: st) σ k) : zK X w R M Z pc (l0 :: some (.ref x) :: Lr) st σ k := by
  subst hn
  intro r σ' hk p e s m args below meth c C H locs ls hP hS hl
  exact lv_aload_n C.hx C.hb (C.dec hd) rfl (zl_at hl (i := 1) rfl) (h r σ' hk p e s m args below meth c C H locs ls hP hS hl)
theorem z_lload1 (i n : Nat) {x : Int64} {l0 : Option Value} {Lr : List (Option Value)} (hd : M.2.2.2.2[i]? = some (pc, .lload_n 1, 1)) (hn : pc + 1 = n) (h : zK X w R M Z n (l0 :: some (.long x) :: Lr) (.long x :: st) σ k) : zK X w R M Z pc (l0 :: some (.long x) :: Lr) st σ k := by
  subst hn
  intro r σ' hk p e s m args below meth c C H locs ls hP hS hl
  exact lv_lload_n C.hx C.hb (C.dec hd) rfl (zl_at hl (i := 1) rfl) (h r σ' hk p e s m args below meth c C H locs ls hP hS hl)
theorem z_istore1 (i n : Nat) {v : Int32} {kf : Int32 → Option (ρ × zS)} {l0 l1 : Option Value} {Lr : List (Option Value)} (hd : M.2.2.2.2[i]? = some (pc, .istore_n 1, 1)) (hn : pc + 1 = n) (hp : zn l0 = true) (h : ∀ x, zK X w R M Z n (l0 :: some (.int x) :: Lr) st σ (kf x)) : zK X w R M Z pc (l0 :: l1 :: Lr) (.int v :: st) σ (zlt v kf) := by
  subst hn
  intro r σ' hk p e s m args below meth c C H locs ls hP hS hl
  exact lv_istore_n (i := 1) C.hx C.hb (C.dec hd) rfl (zl_has hl) (by simp only [List.map_cons, List.length_cons]; omega) rfl (fun ls' hl' => h v r σ' hk p e s m args below meth c C H locs ls' hP hS (zset1 (L := l0 :: l1 :: Lr) (j := 1) (v := .int v) hp hl'))
theorem z_astore1 (i n : Nat) {v : Nat} {kf : Nat → Option (ρ × zS)} {l0 l1 : Option Value} {Lr : List (Option Value)} (hd : M.2.2.2.2[i]? = some (pc, .astore_n 1, 1)) (hn : pc + 1 = n) (hp : zn l0 = true) (h : ∀ x, zK X w R M Z n (l0 :: some (.ref x) :: Lr) st σ (kf x)) : zK X w R M Z pc (l0 :: l1 :: Lr) (.ref v :: st) σ (zlt v kf) := by
  subst hn
  intro r σ' hk p e s m args below meth c C H locs ls hP hS hl
  exact lv_astore_n (i := 1) C.hx C.hb (C.dec hd) rfl (zl_has hl) (by simp only [List.map_cons, List.length_cons]; omega) rfl (fun ls' hl' => h v r σ' hk p e s m args below meth c C H locs ls' hP hS (zset1 (L := l0 :: l1 :: Lr) (j := 1) (v := .ref v) hp hl'))
theorem z_lstore1 (i n : Nat) {v : Int64} {kf : Int64 → Option (ρ × zS)} {l0 l1 l2 : Option Value} {Lr : List (Option Value)} (hd : M.2.2.2.2[i]? = some (pc, .lstore_n 1, 1)) (hn : pc + 1 = n) (hp : zn l0 = true) (h : ∀ x, zK X w R M Z n (l0 :: some (.long x) :: none :: Lr) st σ (kf x)) : zK X w R M Z pc (l0 :: l1 :: l2 :: Lr) (.long v :: st) σ (zlt v kf) := by
  subst hn
  intro r σ' hk p e s m args below meth c C H locs ls hP hS hl
  exact lv_lstore_n (i := 1) C.hx C.hb (C.dec hd) rfl (zl_has hl) (by simp only [List.map_cons, List.length_cons]; omega) rfl (fun ls' hl' => h v r σ' hk p e s m args below meth c C H locs ls' hP hS (zset2 (L := l0 :: l1 :: l2 :: Lr) (j := 1) (v := .long v) hp hl'))
theorem z_iinc1 (i n : Nat) {x v : Int32} {a : Int} {kf : Int32 → Option (ρ × zS)} {l0 : Option Value} {Lr : List (Option Value)} (hd : M.2.2.2.2[i]? = some (pc, .iinc 1 a, 3)) (hn : pc + 3 = n) (ha : Int32.ofInt a = v) (hp : zn l0 = true) (h : ∀ y, zK X w R M Z n (l0 :: some (.int y) :: Lr) st σ (kf y)) : zK X w R M Z pc (l0 :: some (.int x) :: Lr) st σ (zlt (x + v) kf) := by
  subst hn; subst ha
  intro r σ' hk p e s m args below meth c C H locs ls hP hS hl
  obtain ⟨q, hq⟩ := List.getElem?_of_mem (zprs_mem.mpr (zl_map' (X := X) (L := l0 :: some (.int x) :: Lr) (i := 1) (u := .int x) rfl))
  exact lv_iinc C.hx C.hb (C.dec hd) (zl_has hl) hq rfl (by simp only [List.map_cons, List.length_cons]; omega) rfl (fun ls' hl' => h (x + Int32.ofInt a) r σ' hk p e s m args below meth c C H locs ls' hP hS (zset1 (L := l0 :: some (.int x) :: Lr) (j := 1) (v := .int (x + Int32.ofInt a)) hp hl'))
theorem z_iload2 (i n : Nat) {x : Int32} {l0 l1 : Option Value} {Lr : List (Option Value)} (hd : M.2.2.2.2[i]? = some (pc, .iload_n 2, 1)) (hn : pc + 1 = n) (h : zK X w R M Z n (l0 :: l1 :: some (.int x) :: Lr) (.int x :: st) σ k) : zK X w R M Z pc (l0 :: l1 :: some (.int x) :: Lr) st σ k := by
  subst hn
  intro r σ' hk p e s m args below meth c C H locs ls hP hS hl
  exact lv_iload_n C.hx C.hb (C.dec hd) rfl (zl_at hl (i := 2) rfl) (h r σ' hk p e s m args below meth c C H locs ls hP hS hl)
theorem z_aload2 (i n : Nat) {x : Nat} {l0 l1 : Option Value} {Lr : List (Option Value)} (hd : M.2.2.2.2[i]? = some (pc, .aload_n 2, 1)) (hn : pc + 1 = n) (h : zK X w R M Z n (l0 :: l1 :: some (.ref x) :: Lr) (.ref x :: st) σ k) : zK X w R M Z pc (l0 :: l1 :: some (.ref x) :: Lr) st σ k := by
  subst hn
  intro r σ' hk p e s m args below meth c C H locs ls hP hS hl
  exact lv_aload_n C.hx C.hb (C.dec hd) rfl (zl_at hl (i := 2) rfl) (h r σ' hk p e s m args below meth c C H locs ls hP hS hl)
theorem z_lload2 (i n : Nat) {x : Int64} {l0 l1 : Option Value} {Lr : List (Option Value)} (hd : M.2.2.2.2[i]? = some (pc, .lload_n 2, 1)) (hn : pc + 1 = n) (h : zK X w R M Z n (l0 :: l1 :: some (.long x) :: Lr) (.long x :: st) σ k) : zK X w R M Z pc (l0 :: l1 :: some (.long x) :: Lr) st σ k := by
  subst hn
  intro r σ' hk p e s m args below meth c C H locs ls hP hS hl
  exact lv_lload_n C.hx C.hb (C.dec hd) rfl (zl_at hl (i := 2) rfl) (h r σ' hk p e s m args below meth c C H locs ls hP hS hl)
theorem z_istore2 (i n : Nat) {v : Int32} {kf : Int32 → Option (ρ × zS)} {l0 l1 l2 : Option Value} {Lr : List (Option Value)} (hd : M.2.2.2.2[i]? = some (pc, .istore_n 2, 1)) (hn : pc + 1 = n) (hp : zn l1 = true) (h : ∀ x, zK X w R M Z n (l0 :: l1 :: some (.int x) :: Lr) st σ (kf x)) : zK X w R M Z pc (l0 :: l1 :: l2 :: Lr) (.int v :: st) σ (zlt v kf) := by
  subst hn
  intro r σ' hk p e s m args below meth c C H locs ls hP hS hl
  exact lv_istore_n (i := 2) C.hx C.hb (C.dec hd) rfl (zl_has hl) (by simp only [List.map_cons, List.length_cons]; omega) rfl (fun ls' hl' => h v r σ' hk p e s m args below meth c C H locs ls' hP hS (zset1 (L := l0 :: l1 :: l2 :: Lr) (j := 2) (v := .int v) hp hl'))
theorem z_astore2 (i n : Nat) {v : Nat} {kf : Nat → Option (ρ × zS)} {l0 l1 l2 : Option Value} {Lr : List (Option Value)} (hd : M.2.2.2.2[i]? = some (pc, .astore_n 2, 1)) (hn : pc + 1 = n) (hp : zn l1 = true) (h : ∀ x, zK X w R M Z n (l0 :: l1 :: some (.ref x) :: Lr) st σ (kf x)) : zK X w R M Z pc (l0 :: l1 :: l2 :: Lr) (.ref v :: st) σ (zlt v kf) := by
  subst hn
  intro r σ' hk p e s m args below meth c C H locs ls hP hS hl
  exact lv_astore_n (i := 2) C.hx C.hb (C.dec hd) rfl (zl_has hl) (by simp only [List.map_cons, List.length_cons]; omega) rfl (fun ls' hl' => h v r σ' hk p e s m args below meth c C H locs ls' hP hS (zset1 (L := l0 :: l1 :: l2 :: Lr) (j := 2) (v := .ref v) hp hl'))
theorem z_lstore2 (i n : Nat) {v : Int64} {kf : Int64 → Option (ρ × zS)} {l0 l1 l2 l3 : Option Value} {Lr : List (Option Value)} (hd : M.2.2.2.2[i]? = some (pc, .lstore_n 2, 1)) (hn : pc + 1 = n) (hp : zn l1 = true) (h : ∀ x, zK X w R M Z n (l0 :: l1 :: some (.long x) :: none :: Lr) st σ (kf x)) : zK X w R M Z pc (l0 :: l1 :: l2 :: l3 :: Lr) (.long v :: st) σ (zlt v kf) := by
  subst hn
  intro r σ' hk p e s m args below meth c C H locs ls hP hS hl
  exact lv_lstore_n (i := 2) C.hx C.hb (C.dec hd) rfl (zl_has hl) (by simp only [List.map_cons, List.length_cons]; omega) rfl (fun ls' hl' => h v r σ' hk p e s m args below meth c C H locs ls' hP hS (zset2 (L := l0 :: l1 :: l2 :: l3 :: Lr) (j := 2) (v := .long v) hp hl'))
theorem z_iinc2 (i n : Nat) {x v : Int32} {a : Int} {kf : Int32 → Option (ρ × zS)} {l0 l1 : Option Value} {Lr : List (Option Value)} (hd : M.2.2.2.2[i]? = some (pc, .iinc 2 a, 3)) (hn : pc + 3 = n) (ha : Int32.ofInt a = v) (hp : zn l1 = true) (h : ∀ y, zK X w R M Z n (l0 :: l1 :: some (.int y) :: Lr) st σ (kf y)) : zK X w R M Z pc (l0 :: l1 :: some (.int x) :: Lr) st σ (zlt (x + v) kf) := by
  subst hn; subst ha
  intro r σ' hk p e s m args below meth c C H locs ls hP hS hl
  obtain ⟨q, hq⟩ := List.getElem?_of_mem (zprs_mem.mpr (zl_map' (X := X) (L := l0 :: l1 :: some (.int x) :: Lr) (i := 2) (u := .int x) rfl))
  exact lv_iinc C.hx C.hb (C.dec hd) (zl_has hl) hq rfl (by simp only [List.map_cons, List.length_cons]; omega) rfl (fun ls' hl' => h (x + Int32.ofInt a) r σ' hk p e s m args below meth c C H locs ls' hP hS (zset1 (L := l0 :: l1 :: some (.int x) :: Lr) (j := 2) (v := .int (x + Int32.ofInt a)) hp hl'))
theorem z_iload3 (i n : Nat) {x : Int32} {l0 l1 l2 : Option Value} {Lr : List (Option Value)} (hd : M.2.2.2.2[i]? = some (pc, .iload_n 3, 1)) (hn : pc + 1 = n) (h : zK X w R M Z n (l0 :: l1 :: l2 :: some (.int x) :: Lr) (.int x :: st) σ k) : zK X w R M Z pc (l0 :: l1 :: l2 :: some (.int x) :: Lr) st σ k := by
  subst hn
  intro r σ' hk p e s m args below meth c C H locs ls hP hS hl
  exact lv_iload_n C.hx C.hb (C.dec hd) rfl (zl_at hl (i := 3) rfl) (h r σ' hk p e s m args below meth c C H locs ls hP hS hl)
theorem z_aload3 (i n : Nat) {x : Nat} {l0 l1 l2 : Option Value} {Lr : List (Option Value)} (hd : M.2.2.2.2[i]? = some (pc, .aload_n 3, 1)) (hn : pc + 1 = n) (h : zK X w R M Z n (l0 :: l1 :: l2 :: some (.ref x) :: Lr) (.ref x :: st) σ k) : zK X w R M Z pc (l0 :: l1 :: l2 :: some (.ref x) :: Lr) st σ k := by
  subst hn
  intro r σ' hk p e s m args below meth c C H locs ls hP hS hl
  exact lv_aload_n C.hx C.hb (C.dec hd) rfl (zl_at hl (i := 3) rfl) (h r σ' hk p e s m args below meth c C H locs ls hP hS hl)
theorem z_lload3 (i n : Nat) {x : Int64} {l0 l1 l2 : Option Value} {Lr : List (Option Value)} (hd : M.2.2.2.2[i]? = some (pc, .lload_n 3, 1)) (hn : pc + 1 = n) (h : zK X w R M Z n (l0 :: l1 :: l2 :: some (.long x) :: Lr) (.long x :: st) σ k) : zK X w R M Z pc (l0 :: l1 :: l2 :: some (.long x) :: Lr) st σ k := by
  subst hn
  intro r σ' hk p e s m args below meth c C H locs ls hP hS hl
  exact lv_lload_n C.hx C.hb (C.dec hd) rfl (zl_at hl (i := 3) rfl) (h r σ' hk p e s m args below meth c C H locs ls hP hS hl)
theorem z_istore3 (i n : Nat) {v : Int32} {kf : Int32 → Option (ρ × zS)} {l0 l1 l2 l3 : Option Value} {Lr : List (Option Value)} (hd : M.2.2.2.2[i]? = some (pc, .istore_n 3, 1)) (hn : pc + 1 = n) (hp : zn l2 = true) (h : ∀ x, zK X w R M Z n (l0 :: l1 :: l2 :: some (.int x) :: Lr) st σ (kf x)) : zK X w R M Z pc (l0 :: l1 :: l2 :: l3 :: Lr) (.int v :: st) σ (zlt v kf) := by
  subst hn
  intro r σ' hk p e s m args below meth c C H locs ls hP hS hl
  exact lv_istore_n (i := 3) C.hx C.hb (C.dec hd) rfl (zl_has hl) (by simp only [List.map_cons, List.length_cons]; omega) rfl (fun ls' hl' => h v r σ' hk p e s m args below meth c C H locs ls' hP hS (zset1 (L := l0 :: l1 :: l2 :: l3 :: Lr) (j := 3) (v := .int v) hp hl'))
theorem z_astore3 (i n : Nat) {v : Nat} {kf : Nat → Option (ρ × zS)} {l0 l1 l2 l3 : Option Value} {Lr : List (Option Value)} (hd : M.2.2.2.2[i]? = some (pc, .astore_n 3, 1)) (hn : pc + 1 = n) (hp : zn l2 = true) (h : ∀ x, zK X w R M Z n (l0 :: l1 :: l2 :: some (.ref x) :: Lr) st σ (kf x)) : zK X w R M Z pc (l0 :: l1 :: l2 :: l3 :: Lr) (.ref v :: st) σ (zlt v kf) := by
  subst hn
  intro r σ' hk p e s m args below meth c C H locs ls hP hS hl
  exact lv_astore_n (i := 3) C.hx C.hb (C.dec hd) rfl (zl_has hl) (by simp only [List.map_cons, List.length_cons]; omega) rfl (fun ls' hl' => h v r σ' hk p e s m args below meth c C H locs ls' hP hS (zset1 (L := l0 :: l1 :: l2 :: l3 :: Lr) (j := 3) (v := .ref v) hp hl'))
theorem z_lstore3 (i n : Nat) {v : Int64} {kf : Int64 → Option (ρ × zS)} {l0 l1 l2 l3 l4 : Option Value} {Lr : List (Option Value)} (hd : M.2.2.2.2[i]? = some (pc, .lstore_n 3, 1)) (hn : pc + 1 = n) (hp : zn l2 = true) (h : ∀ x, zK X w R M Z n (l0 :: l1 :: l2 :: some (.long x) :: none :: Lr) st σ (kf x)) : zK X w R M Z pc (l0 :: l1 :: l2 :: l3 :: l4 :: Lr) (.long v :: st) σ (zlt v kf) := by
  subst hn
  intro r σ' hk p e s m args below meth c C H locs ls hP hS hl
  exact lv_lstore_n (i := 3) C.hx C.hb (C.dec hd) rfl (zl_has hl) (by simp only [List.map_cons, List.length_cons]; omega) rfl (fun ls' hl' => h v r σ' hk p e s m args below meth c C H locs ls' hP hS (zset2 (L := l0 :: l1 :: l2 :: l3 :: l4 :: Lr) (j := 3) (v := .long v) hp hl'))
theorem z_iinc3 (i n : Nat) {x v : Int32} {a : Int} {kf : Int32 → Option (ρ × zS)} {l0 l1 l2 : Option Value} {Lr : List (Option Value)} (hd : M.2.2.2.2[i]? = some (pc, .iinc 3 a, 3)) (hn : pc + 3 = n) (ha : Int32.ofInt a = v) (hp : zn l2 = true) (h : ∀ y, zK X w R M Z n (l0 :: l1 :: l2 :: some (.int y) :: Lr) st σ (kf y)) : zK X w R M Z pc (l0 :: l1 :: l2 :: some (.int x) :: Lr) st σ (zlt (x + v) kf) := by
  subst hn; subst ha
  intro r σ' hk p e s m args below meth c C H locs ls hP hS hl
  obtain ⟨q, hq⟩ := List.getElem?_of_mem (zprs_mem.mpr (zl_map' (X := X) (L := l0 :: l1 :: l2 :: some (.int x) :: Lr) (i := 3) (u := .int x) rfl))
  exact lv_iinc C.hx C.hb (C.dec hd) (zl_has hl) hq rfl (by simp only [List.map_cons, List.length_cons]; omega) rfl (fun ls' hl' => h (x + Int32.ofInt a) r σ' hk p e s m args below meth c C H locs ls' hP hS (zset1 (L := l0 :: l1 :: l2 :: some (.int x) :: Lr) (j := 3) (v := .int (x + Int32.ofInt a)) hp hl'))
theorem z_iload4 (i n : Nat) {x : Int32} {l0 l1 l2 l3 : Option Value} {Lr : List (Option Value)} (hd : M.2.2.2.2[i]? = some (pc, .iload 4, 2)) (hn : pc + 2 = n) (h : zK X w R M Z n (l0 :: l1 :: l2 :: l3 :: some (.int x) :: Lr) (.int x :: st) σ k) : zK X w R M Z pc (l0 :: l1 :: l2 :: l3 :: some (.int x) :: Lr) st σ k := by
  subst hn
  intro r σ' hk p e s m args below meth c C H locs ls hP hS hl
  exact lv_iload C.hx C.hb (C.dec hd) (zl_at hl (i := 4) rfl) (h r σ' hk p e s m args below meth c C H locs ls hP hS hl)
theorem z_aload4 (i n : Nat) {x : Nat} {l0 l1 l2 l3 : Option Value} {Lr : List (Option Value)} (hd : M.2.2.2.2[i]? = some (pc, .aload 4, 2)) (hn : pc + 2 = n) (h : zK X w R M Z n (l0 :: l1 :: l2 :: l3 :: some (.ref x) :: Lr) (.ref x :: st) σ k) : zK X w R M Z pc (l0 :: l1 :: l2 :: l3 :: some (.ref x) :: Lr) st σ k := by
  subst hn
  intro r σ' hk p e s m args below meth c C H locs ls hP hS hl
  exact lv_aload C.hx C.hb (C.dec hd) (zl_at hl (i := 4) rfl) (h r σ' hk p e s m args below meth c C H locs ls hP hS hl)
theorem z_lload4 (i n : Nat) {x : Int64} {l0 l1 l2 l3 : Option Value} {Lr : List (Option Value)} (hd : M.2.2.2.2[i]? = some (pc, .lload 4, 2)) (hn : pc + 2 = n) (h : zK X w R M Z n (l0 :: l1 :: l2 :: l3 :: some (.long x) :: Lr) (.long x :: st) σ k) : zK X w R M Z pc (l0 :: l1 :: l2 :: l3 :: some (.long x) :: Lr) st σ k := by
  subst hn
  intro r σ' hk p e s m args below meth c C H locs ls hP hS hl
  exact lv_lload C.hx C.hb (C.dec hd) (zl_at hl (i := 4) rfl) (h r σ' hk p e s m args below meth c C H locs ls hP hS hl)
theorem z_istore4 (i n : Nat) {v : Int32} {kf : Int32 → Option (ρ × zS)} {l0 l1 l2 l3 l4 : Option Value} {Lr : List (Option Value)} (hd : M.2.2.2.2[i]? = some (pc, .istore 4, 2)) (hn : pc + 2 = n) (hp : zn l3 = true) (h : ∀ x, zK X w R M Z n (l0 :: l1 :: l2 :: l3 :: some (.int x) :: Lr) st σ (kf x)) : zK X w R M Z pc (l0 :: l1 :: l2 :: l3 :: l4 :: Lr) (.int v :: st) σ (zlt v kf) := by
  subst hn
  intro r σ' hk p e s m args below meth c C H locs ls hP hS hl
  exact lv_istore (i := 4) C.hx C.hb (C.dec hd) (zl_has hl) (by simp only [List.map_cons, List.length_cons]; omega) rfl (fun ls' hl' => h v r σ' hk p e s m args below meth c C H locs ls' hP hS (zset1 (L := l0 :: l1 :: l2 :: l3 :: l4 :: Lr) (j := 4) (v := .int v) hp hl'))
theorem z_astore4 (i n : Nat) {v : Nat} {kf : Nat → Option (ρ × zS)} {l0 l1 l2 l3 l4 : Option Value} {Lr : List (Option Value)} (hd : M.2.2.2.2[i]? = some (pc, .astore 4, 2)) (hn : pc + 2 = n) (hp : zn l3 = true) (h : ∀ x, zK X w R M Z n (l0 :: l1 :: l2 :: l3 :: some (.ref x) :: Lr) st σ (kf x)) : zK X w R M Z pc (l0 :: l1 :: l2 :: l3 :: l4 :: Lr) (.ref v :: st) σ (zlt v kf) := by
  subst hn
  intro r σ' hk p e s m args below meth c C H locs ls hP hS hl
  exact lv_astore (i := 4) C.hx C.hb (C.dec hd) (zl_has hl) (by simp only [List.map_cons, List.length_cons]; omega) rfl (fun ls' hl' => h v r σ' hk p e s m args below meth c C H locs ls' hP hS (zset1 (L := l0 :: l1 :: l2 :: l3 :: l4 :: Lr) (j := 4) (v := .ref v) hp hl'))
theorem z_lstore4 (i n : Nat) {v : Int64} {kf : Int64 → Option (ρ × zS)} {l0 l1 l2 l3 l4 l5 : Option Value} {Lr : List (Option Value)} (hd : M.2.2.2.2[i]? = some (pc, .lstore 4, 2)) (hn : pc + 2 = n) (hp : zn l3 = true) (h : ∀ x, zK X w R M Z n (l0 :: l1 :: l2 :: l3 :: some (.long x) :: none :: Lr) st σ (kf x)) : zK X w R M Z pc (l0 :: l1 :: l2 :: l3 :: l4 :: l5 :: Lr) (.long v :: st) σ (zlt v kf) := by
  subst hn
  intro r σ' hk p e s m args below meth c C H locs ls hP hS hl
  exact lv_lstore (i := 4) C.hx C.hb (C.dec hd) (zl_has hl) (by simp only [List.map_cons, List.length_cons]; omega) rfl (fun ls' hl' => h v r σ' hk p e s m args below meth c C H locs ls' hP hS (zset2 (L := l0 :: l1 :: l2 :: l3 :: l4 :: l5 :: Lr) (j := 4) (v := .long v) hp hl'))
theorem z_iinc4 (i n : Nat) {x v : Int32} {a : Int} {kf : Int32 → Option (ρ × zS)} {l0 l1 l2 l3 : Option Value} {Lr : List (Option Value)} (hd : M.2.2.2.2[i]? = some (pc, .iinc 4 a, 3)) (hn : pc + 3 = n) (ha : Int32.ofInt a = v) (hp : zn l3 = true) (h : ∀ y, zK X w R M Z n (l0 :: l1 :: l2 :: l3 :: some (.int y) :: Lr) st σ (kf y)) : zK X w R M Z pc (l0 :: l1 :: l2 :: l3 :: some (.int x) :: Lr) st σ (zlt (x + v) kf) := by
  subst hn; subst ha
  intro r σ' hk p e s m args below meth c C H locs ls hP hS hl
  obtain ⟨q, hq⟩ := List.getElem?_of_mem (zprs_mem.mpr (zl_map' (X := X) (L := l0 :: l1 :: l2 :: l3 :: some (.int x) :: Lr) (i := 4) (u := .int x) rfl))
  exact lv_iinc C.hx C.hb (C.dec hd) (zl_has hl) hq rfl (by simp only [List.map_cons, List.length_cons]; omega) rfl (fun ls' hl' => h (x + Int32.ofInt a) r σ' hk p e s m args below meth c C H locs ls' hP hS (zset1 (L := l0 :: l1 :: l2 :: l3 :: some (.int x) :: Lr) (j := 4) (v := .int (x + Int32.ofInt a)) hp hl'))
theorem z_iload5 (i n : Nat) {x : Int32} {l0 l1 l2 l3 l4 : Option Value} {Lr : List (Option Value)} (hd : M.2.2.2.2[i]? = some (pc, .iload 5, 2)) (hn : pc + 2 = n) (h : zK X w R M Z n (l0 :: l1 :: l2 :: l3 :: l4 :: some (.int x) :: Lr) (.int x :: st) σ k) : zK X w R M Z pc (l0 :: l1 :: l2 :: l3 :: l4 :: some (.int x) :: Lr) st σ k := by
  subst hn
  intro r σ' hk p e s m args below meth c C H locs ls hP hS hl
  exact lv_iload C.hx C.hb (C.dec hd) (zl_at hl (i := 5) rfl) (h r σ' hk p e s m args below meth c C H locs ls hP hS hl)
theorem z_aload5 (i n : Nat) {x : Nat} {l0 l1 l2 l3 l4 : Option Value} {Lr : List (Option Value)} (hd : M.2.2.2.2[i]? = some (pc, .aload 5, 2)) (hn : pc + 2 = n) (h : zK X w R M Z n (l0 :: l1 :: l2 :: l3 :: l4 :: some (.ref x) :: Lr) (.ref x :: st) σ k) : zK X w R M Z pc (l0 :: l1 :: l2 :: l3 :: l4 :: some (.ref x) :: Lr) st σ k := by
  subst hn
  intro r σ' hk p e s m args below meth c C H locs ls hP hS hl
  exact lv_aload C.hx C.hb (C.dec hd) (zl_at hl (i := 5) rfl) (h r σ' hk p e s m args below meth c C H locs ls hP hS hl)
theorem z_lload5 (i n : Nat) {x : Int64} {l0 l1 l2 l3 l4 : Option Value} {Lr : List (Option Value)} (hd : M.2.2.2.2[i]? = some (pc, .lload 5, 2)) (hn : pc + 2 = n) (h : zK X w R M Z n (l0 :: l1 :: l2 :: l3 :: l4 :: some (.long x) :: Lr) (.long x :: st) σ k) : zK X w R M Z pc (l0 :: l1 :: l2 :: l3 :: l4 :: some (.long x) :: Lr) st σ k := by
  subst hn
  intro r σ' hk p e s m args below meth c C H locs ls hP hS hl
  exact lv_lload C.hx C.hb (C.dec hd) (zl_at hl (i := 5) rfl) (h r σ' hk p e s m args below meth c C H locs ls hP hS hl)
theorem z_istore5 (i n : Nat) {v : Int32} {kf : Int32 → Option (ρ × zS)} {l0 l1 l2 l3 l4 l5 : Option Value} {Lr : List (Option Value)} (hd : M.2.2.2.2[i]? = some (pc, .istore 5, 2)) (hn : pc + 2 = n) (hp : zn l4 = true) (h : ∀ x, zK X w R M Z n (l0 :: l1 :: l2 :: l3 :: l4 :: some (.int x) :: Lr) st σ (kf x)) : zK X w R M Z pc (l0 :: l1 :: l2 :: l3 :: l4 :: l5 :: Lr) (.int v :: st) σ (zlt v kf) := by
  subst hn
  intro r σ' hk p e s m args below meth c C H locs ls hP hS hl
  exact lv_istore (i := 5) C.hx C.hb (C.dec hd) (zl_has hl) (by simp only [List.map_cons, List.length_cons]; omega) rfl (fun ls' hl' => h v r σ' hk p e s m args below meth c C H locs ls' hP hS (zset1 (L := l0 :: l1 :: l2 :: l3 :: l4 :: l5 :: Lr) (j := 5) (v := .int v) hp hl'))
theorem z_astore5 (i n : Nat) {v : Nat} {kf : Nat → Option (ρ × zS)} {l0 l1 l2 l3 l4 l5 : Option Value} {Lr : List (Option Value)} (hd : M.2.2.2.2[i]? = some (pc, .astore 5, 2)) (hn : pc + 2 = n) (hp : zn l4 = true) (h : ∀ x, zK X w R M Z n (l0 :: l1 :: l2 :: l3 :: l4 :: some (.ref x) :: Lr) st σ (kf x)) : zK X w R M Z pc (l0 :: l1 :: l2 :: l3 :: l4 :: l5 :: Lr) (.ref v :: st) σ (zlt v kf) := by
  subst hn
  intro r σ' hk p e s m args below meth c C H locs ls hP hS hl
  exact lv_astore (i := 5) C.hx C.hb (C.dec hd) (zl_has hl) (by simp only [List.map_cons, List.length_cons]; omega) rfl (fun ls' hl' => h v r σ' hk p e s m args below meth c C H locs ls' hP hS (zset1 (L := l0 :: l1 :: l2 :: l3 :: l4 :: l5 :: Lr) (j := 5) (v := .ref v) hp hl'))
theorem z_lstore5 (i n : Nat) {v : Int64} {kf : Int64 → Option (ρ × zS)} {l0 l1 l2 l3 l4 l5 l6 : Option Value} {Lr : List (Option Value)} (hd : M.2.2.2.2[i]? = some (pc, .lstore 5, 2)) (hn : pc + 2 = n) (hp : zn l4 = true) (h : ∀ x, zK X w R M Z n (l0 :: l1 :: l2 :: l3 :: l4 :: some (.long x) :: none :: Lr) st σ (kf x)) : zK X w R M Z pc (l0 :: l1 :: l2 :: l3 :: l4 :: l5 :: l6 :: Lr) (.long v :: st) σ (zlt v kf) := by
  subst hn
  intro r σ' hk p e s m args below meth c C H locs ls hP hS hl
  exact lv_lstore (i := 5) C.hx C.hb (C.dec hd) (zl_has hl) (by simp only [List.map_cons, List.length_cons]; omega) rfl (fun ls' hl' => h v r σ' hk p e s m args below meth c C H locs ls' hP hS (zset2 (L := l0 :: l1 :: l2 :: l3 :: l4 :: l5 :: l6 :: Lr) (j := 5) (v := .long v) hp hl'))
theorem z_iinc5 (i n : Nat) {x v : Int32} {a : Int} {kf : Int32 → Option (ρ × zS)} {l0 l1 l2 l3 l4 : Option Value} {Lr : List (Option Value)} (hd : M.2.2.2.2[i]? = some (pc, .iinc 5 a, 3)) (hn : pc + 3 = n) (ha : Int32.ofInt a = v) (hp : zn l4 = true) (h : ∀ y, zK X w R M Z n (l0 :: l1 :: l2 :: l3 :: l4 :: some (.int y) :: Lr) st σ (kf y)) : zK X w R M Z pc (l0 :: l1 :: l2 :: l3 :: l4 :: some (.int x) :: Lr) st σ (zlt (x + v) kf) := by
  subst hn; subst ha
  intro r σ' hk p e s m args below meth c C H locs ls hP hS hl
  obtain ⟨q, hq⟩ := List.getElem?_of_mem (zprs_mem.mpr (zl_map' (X := X) (L := l0 :: l1 :: l2 :: l3 :: l4 :: some (.int x) :: Lr) (i := 5) (u := .int x) rfl))
  exact lv_iinc C.hx C.hb (C.dec hd) (zl_has hl) hq rfl (by simp only [List.map_cons, List.length_cons]; omega) rfl (fun ls' hl' => h (x + Int32.ofInt a) r σ' hk p e s m args below meth c C H locs ls' hP hS (zset1 (L := l0 :: l1 :: l2 :: l3 :: l4 :: some (.int x) :: Lr) (j := 5) (v := .int (x + Int32.ofInt a)) hp hl'))
theorem z_iload6 (i n : Nat) {x : Int32} {l0 l1 l2 l3 l4 l5 : Option Value} {Lr : List (Option Value)} (hd : M.2.2.2.2[i]? = some (pc, .iload 6, 2)) (hn : pc + 2 = n) (h : zK X w R M Z n (l0 :: l1 :: l2 :: l3 :: l4 :: l5 :: some (.int x) :: Lr) (.int x :: st) σ k) : zK X w R M Z pc (l0 :: l1 :: l2 :: l3 :: l4 :: l5 :: some (.int x) :: Lr) st σ k := by
  subst hn
  intro r σ' hk p e s m args below meth c C H locs ls hP hS hl
  exact lv_iload C.hx C.hb (C.dec hd) (zl_at hl (i := 6) rfl) (h r σ' hk p e s m args below meth c C H locs ls hP hS hl)
theorem z_aload6 (i n : Nat) {x : Nat} {l0 l1 l2 l3 l4 l5 : Option Value} {Lr : List (Option Value)} (hd : M.2.2.2.2[i]? = some (pc, .aload 6, 2)) (hn : pc + 2 = n) (h : zK X w R M Z n (l0 :: l1 :: l2 :: l3 :: l4 :: l5 :: some (.ref x) :: Lr) (.ref x :: st) σ k) : zK X w R M Z pc (l0 :: l1 :: l2 :: l3 :: l4 :: l5 :: some (.ref x) :: Lr) st σ k := by
  subst hn
  intro r σ' hk p e s m args below meth c C H locs ls hP hS hl
  exact lv_aload C.hx C.hb (C.dec hd) (zl_at hl (i := 6) rfl) (h r σ' hk p e s m args below meth c C H locs ls hP hS hl)
theorem z_lload6 (i n : Nat) {x : Int64} {l0 l1 l2 l3 l4 l5 : Option Value} {Lr : List (Option Value)} (hd : M.2.2.2.2[i]? = some (pc, .lload 6, 2)) (hn : pc + 2 = n) (h : zK X w R M Z n (l0 :: l1 :: l2 :: l3 :: l4 :: l5 :: some (.long x) :: Lr) (.long x :: st) σ k) : zK X w R M Z pc (l0 :: l1 :: l2 :: l3 :: l4 :: l5 :: some (.long x) :: Lr) st σ k := by
  subst hn
  intro r σ' hk p e s m args below meth c C H locs ls hP hS hl
  exact lv_lload C.hx C.hb (C.dec hd) (zl_at hl (i := 6) rfl) (h r σ' hk p e s m args below meth c C H locs ls hP hS hl)
theorem z_istore6 (i n : Nat) {v : Int32} {kf : Int32 → Option (ρ × zS)} {l0 l1 l2 l3 l4 l5 l6 : Option Value} {Lr : List (Option Value)} (hd : M.2.2.2.2[i]? = some (pc, .istore 6, 2)) (hn : pc + 2 = n) (hp : zn l5 = true) (h : ∀ x, zK X w R M Z n (l0 :: l1 :: l2 :: l3 :: l4 :: l5 :: some (.int x) :: Lr) st σ (kf x)) : zK X w R M Z pc (l0 :: l1 :: l2 :: l3 :: l4 :: l5 :: l6 :: Lr) (.int v :: st) σ (zlt v kf) := by
  subst hn
  intro r σ' hk p e s m args below meth c C H locs ls hP hS hl
  exact lv_istore (i := 6) C.hx C.hb (C.dec hd) (zl_has hl) (by simp only [List.map_cons, List.length_cons]; omega) rfl (fun ls' hl' => h v r σ' hk p e s m args below meth c C H locs ls' hP hS (zset1 (L := l0 :: l1 :: l2 :: l3 :: l4 :: l5 :: l6 :: Lr) (j := 6) (v := .int v) hp hl'))
theorem z_astore6 (i n : Nat) {v : Nat} {kf : Nat → Option (ρ × zS)} {l0 l1 l2 l3 l4 l5 l6 : Option Value} {Lr : List (Option Value)} (hd : M.2.2.2.2[i]? = some (pc, .astore 6, 2)) (hn : pc + 2 = n) (hp : zn l5 = true) (h : ∀ x, zK X w R M Z n (l0 :: l1 :: l2 :: l3 :: l4 :: l5 :: some (.ref x) :: Lr) st σ (kf x)) : zK X w R M Z pc (l0 :: l1 :: l2 :: l3 :: l4 :: l5 :: l6 :: Lr) (.ref v :: st) σ (zlt v kf) := by
  subst hn
  intro r σ' hk p e s m args below meth c C H locs ls hP hS hl
  exact lv_astore (i := 6) C.hx C.hb (C.dec hd) (zl_has hl) (by simp only [List.map_cons, List.length_cons]; omega) rfl (fun ls' hl' => h v r σ' hk p e s m args below meth c C H locs ls' hP hS (zset1 (L := l0 :: l1 :: l2 :: l3 :: l4 :: l5 :: l6 :: Lr) (j := 6) (v := .ref v) hp hl'))
theorem z_lstore6 (i n : Nat) {v : Int64} {kf : Int64 → Option (ρ × zS)} {l0 l1 l2 l3 l4 l5 l6 l7 : Option Value} {Lr : List (Option Value)} (hd : M.2.2.2.2[i]? = some (pc, .lstore 6, 2)) (hn : pc + 2 = n) (hp : zn l5 = true) (h : ∀ x, zK X w R M Z n (l0 :: l1 :: l2 :: l3 :: l4 :: l5 :: some (.long x) :: none :: Lr) st σ (kf x)) : zK X w R M Z pc (l0 :: l1 :: l2 :: l3 :: l4 :: l5 :: l6 :: l7 :: Lr) (.long v :: st) σ (zlt v kf) := by
  subst hn
  intro r σ' hk p e s m args below meth c C H locs ls hP hS hl
  exact lv_lstore (i := 6) C.hx C.hb (C.dec hd) (zl_has hl) (by simp only [List.map_cons, List.length_cons]; omega) rfl (fun ls' hl' => h v r σ' hk p e s m args below meth c C H locs ls' hP hS (zset2 (L := l0 :: l1 :: l2 :: l3 :: l4 :: l5 :: l6 :: l7 :: Lr) (j := 6) (v := .long v) hp hl'))
theorem z_iinc6 (i n : Nat) {x v : Int32} {a : Int} {kf : Int32 → Option (ρ × zS)} {l0 l1 l2 l3 l4 l5 : Option Value} {Lr : List (Option Value)} (hd : M.2.2.2.2[i]? = some (pc, .iinc 6 a, 3)) (hn : pc + 3 = n) (ha : Int32.ofInt a = v) (hp : zn l5 = true) (h : ∀ y, zK X w R M Z n (l0 :: l1 :: l2 :: l3 :: l4 :: l5 :: some (.int y) :: Lr) st σ (kf y)) : zK X w R M Z pc (l0 :: l1 :: l2 :: l3 :: l4 :: l5 :: some (.int x) :: Lr) st σ (zlt (x + v) kf) := by
  subst hn; subst ha
  intro r σ' hk p e s m args below meth c C H locs ls hP hS hl
  obtain ⟨q, hq⟩ := List.getElem?_of_mem (zprs_mem.mpr (zl_map' (X := X) (L := l0 :: l1 :: l2 :: l3 :: l4 :: l5 :: some (.int x) :: Lr) (i := 6) (u := .int x) rfl))
  exact lv_iinc C.hx C.hb (C.dec hd) (zl_has hl) hq rfl (by simp only [List.map_cons, List.length_cons]; omega) rfl (fun ls' hl' => h (x + Int32.ofInt a) r σ' hk p e s m args below meth c C H locs ls' hP hS (zset1 (L := l0 :: l1 :: l2 :: l3 :: l4 :: l5 :: some (.int x) :: Lr) (j := 6) (v := .int (x + Int32.ofInt a)) hp hl'))
theorem z_iload7 (i n : Nat) {x : Int32} {l0 l1 l2 l3 l4 l5 l6 : Option Value} {Lr : List (Option Value)} (hd : M.2.2.2.2[i]? = some (pc, .iload 7, 2)) (hn : pc + 2 = n) (h : zK X w R M Z n (l0 :: l1 :: l2 :: l3 :: l4 :: l5 :: l6 :: some (.int x) :: Lr) (.int x :: st) σ k) : zK X w R M Z pc (l0 :: l1 :: l2 :: l3 :: l4 :: l5 :: l6 :: some (.int x) :: Lr) st σ k := by
  subst hn
  intro r σ' hk p e s m args below meth c C H locs ls hP hS hl
  exact lv_iload C.hx C.hb (C.dec hd) (zl_at hl (i := 7) rfl) (h r σ' hk p e s m args below meth c C H locs ls hP hS hl)
theorem z_aload7 (i n : Nat) {x : Nat} {l0 l1 l2 l3 l4 l5 l6 : Option Value} {Lr : List (Option Value)} (hd : M.2.2.2.2[i]? = some (pc, .aload 7, 2)) (hn : pc + 2 = n) (h : zK X w R M Z n (l0 :: l1 :: l2 :: l3 :: l4 :: l5 :: l6 :: some (.ref x) :: Lr) (.ref x :: st) σ k) : zK X w R M Z pc (l0 :: l1 :: l2 :: l3 :: l4 :: l5 :: l6 :: some (.ref x) :: Lr) st σ k := by
  subst hn
  intro r σ' hk p e s m args below meth c C H locs ls hP hS hl
  exact lv_aload C.hx C.hb (C.dec hd) (zl_at hl (i := 7) rfl) (h r σ' hk p e s m args below meth c C H locs ls hP hS hl)
theorem z_lload7 (i n : Nat) {x : Int64} {l0 l1 l2 l3 l4 l5 l6 : Option Value} {Lr : List (Option Value)} (hd : M.2.2.2.2[i]? = some (pc, .lload 7, 2)) (hn : pc + 2 = n) (h : zK X w R M Z n (l0 :: l1 :: l2 :: l3 :: l4 :: l5 :: l6 :: some (.long x) :: Lr) (.long x :: st) σ k) : zK X w R M Z pc (l0 :: l1 :: l2 :: l3 :: l4 :: l5 :: l6 :: some (.long x) :: Lr) st σ k := by
  subst hn
  intro r σ' hk p e s m args below meth c C H locs ls hP hS hl
  exact lv_lload C.hx C.hb (C.dec hd) (zl_at hl (i := 7) rfl) (h r σ' hk p e s m args below meth c C H locs ls hP hS hl)
theorem z_istore7 (i n : Nat) {v : Int32} {kf : Int32 → Option (ρ × zS)} {l0 l1 l2 l3 l4 l5 l6 l7 : Option Value} {Lr : List (Option Value)} (hd : M.2.2.2.2[i]? = some (pc, .istore 7, 2)) (hn : pc + 2 = n) (hp : zn l6 = true) (h : ∀ x, zK X w R M Z n (l0 :: l1 :: l2 :: l3 :: l4 :: l5 :: l6 :: some (.int x) :: Lr) st σ (kf x)) : zK X w R M Z pc (l0 :: l1 :: l2 :: l3 :: l4 :: l5 :: l6 :: l7 :: Lr) (.int v :: st) σ (zlt v kf) := by
  subst hn
  intro r σ' hk p e s m args below meth c C H locs ls hP hS hl
  exact lv_istore (i := 7) C.hx C.hb (C.dec hd) (zl_has hl) (by simp only [List.map_cons, List.length_cons]; omega) rfl (fun ls' hl' => h v r σ' hk p e s m args below meth c C H locs ls' hP hS (zset1 (L := l0 :: l1 :: l2 :: l3 :: l4 :: l5 :: l6 :: l7 :: Lr) (j := 7) (v := .int v) hp hl'))
theorem z_astore7 (i n : Nat) {v : Nat} {kf : Nat → Option (ρ × zS)} {l0 l1 l2 l3 l4 l5 l6 l7 : Option Value} {Lr : List (Option Value)} (hd : M.2.2.2.2[i]? = some (pc, .astore 7, 2)) (hn : pc + 2 = n) (hp : zn l6 = true) (h : ∀ x, zK X w R M Z n (l0 :: l1 :: l2 :: l3 :: l4 :: l5 :: l6 :: some (.ref x) :: Lr) st σ (kf x)) : zK X w R M Z pc (l0 :: l1 :: l2 :: l3 :: l4 :: l5 :: l6 :: l7 :: Lr) (.ref v :: st) σ (zlt v kf) := by
  subst hn
  intro r σ' hk p e s m args below meth c C H locs ls hP hS hl
  exact lv_astore (i := 7) C.hx C.hb (C.dec hd) (zl_has hl) (by simp only [List.map_cons, List.length_cons]; omega) rfl (fun ls' hl' => h v r σ' hk p e s m args below meth c C H locs ls' hP hS (zset1 (L := l0 :: l1 :: l2 :: l3 :: l4 :: l5 :: l6 :: l7 :: Lr) (j := 7) (v := .ref v) hp hl'))
theorem z_lstore7 (i n : Nat) {v : Int64} {kf : Int64 → Option (ρ × zS)} {l0 l1 l2 l3 l4 l5 l6 l7 l8 : Option Value} {Lr : List (Option Value)} (hd : M.2.2.2.2[i]? = some (pc, .lstore 7, 2)) (hn : pc + 2 = n) (hp : zn l6 = true) (h : ∀ x, zK X w R M Z n (l0 :: l1 :: l2 :: l3 :: l4 :: l5 :: l6 :: some (.long x) :: none :: Lr) st σ (kf x)) : zK X w R M Z pc (l0 :: l1 :: l2 :: l3 :: l4 :: l5 :: l6 :: l7 :: l8 :: Lr) (.long v :: st) σ (zlt v kf) := by
  subst hn
  intro r σ' hk p e s m args below meth c C H locs ls hP hS hl
  exact lv_lstore (i := 7) C.hx C.hb (C.dec hd) (zl_has hl) (by simp only [List.map_cons, List.length_cons]; omega) rfl (fun ls' hl' => h v r σ' hk p e s m args below meth c C H locs ls' hP hS (zset2 (L := l0 :: l1 :: l2 :: l3 :: l4 :: l5 :: l6 :: l7 :: l8 :: Lr) (j := 7) (v := .long v) hp hl'))
theorem z_iinc7 (i n : Nat) {x v : Int32} {a : Int} {kf : Int32 → Option (ρ × zS)} {l0 l1 l2 l3 l4 l5 l6 : Option Value} {Lr : List (Option Value)} (hd : M.2.2.2.2[i]? = some (pc, .iinc 7 a, 3)) (hn : pc + 3 = n) (ha : Int32.ofInt a = v) (hp : zn l6 = true) (h : ∀ y, zK X w R M Z n (l0 :: l1 :: l2 :: l3 :: l4 :: l5 :: l6 :: some (.int y) :: Lr) st σ (kf y)) : zK X w R M Z pc (l0 :: l1 :: l2 :: l3 :: l4 :: l5 :: l6 :: some (.int x) :: Lr) st σ (zlt (x + v) kf) := by
  subst hn; subst ha
  intro r σ' hk p e s m args below meth c C H locs ls hP hS hl
  obtain ⟨q, hq⟩ := List.getElem?_of_mem (zprs_mem.mpr (zl_map' (X := X) (L := l0 :: l1 :: l2 :: l3 :: l4 :: l5 :: l6 :: some (.int x) :: Lr) (i := 7) (u := .int x) rfl))
  exact lv_iinc C.hx C.hb (C.dec hd) (zl_has hl) hq rfl (by simp only [List.map_cons, List.length_cons]; omega) rfl (fun ls' hl' => h (x + Int32.ofInt a) r σ' hk p e s m args below meth c C H locs ls' hP hS (zset1 (L := l0 :: l1 :: l2 :: l3 :: l4 :: l5 :: l6 :: some (.int x) :: Lr) (j := 7) (v := .int (x + Int32.ofInt a)) hp hl'))
theorem z_iload8 (i n : Nat) {x : Int32} {l0 l1 l2 l3 l4 l5 l6 l7 : Option Value} {Lr : List (Option Value)} (hd : M.2.2.2.2[i]? = some (pc, .iload 8, 2)) (hn : pc + 2 = n) (h : zK X w R M Z n (l0 :: l1 :: l2 :: l3 :: l4 :: l5 :: l6 :: l7 :: some (.int x) :: Lr) (.int x :: st) σ k) : zK X w R M Z pc (l0 :: l1 :: l2 :: l3 :: l4 :: l5 :: l6 :: l7 :: some (.int x) :: Lr) st σ k := by
  subst hn
  intro r σ' hk p e s m args below meth c C H locs ls hP hS hl
  exact lv_iload C.hx C.hb (C.dec hd) (zl_at hl (i := 8) rfl) (h r σ' hk p e s m args below meth c C H locs ls hP hS hl)
theorem z_aload8 (i n : Nat) {x : Nat} {l0 l1 l2 l3 l4 l5 l6 l7 : Option Value} {Lr : List (Option Value)} (hd : M.2.2.2.2[i]? = some (pc, .aload 8, 2)) (hn : pc + 2 = n) (h : zK X w R M Z n (l0 :: l1 :: l2 :: l3 :: l4 :: l5 :: l6 :: l7 :: some (.ref x) :: Lr) (.ref x :: st) σ k) : zK X w R M Z pc (l0 :: l1 :: l2 :: l3 :: l4 :: l5 :: l6 :: l7 :: some (.ref x) :: Lr) st σ k := by
  subst hn
  intro r σ' hk p e s m args below meth c C H locs ls hP hS hl
  exact lv_aload C.hx C.hb (C.dec hd) (zl_at hl (i := 8) rfl) (h r σ' hk p e s m args below meth c C H locs ls hP hS hl)
theorem z_lload8 (i n : Nat) {x : Int64} {l0 l1 l2 l3 l4 l5 l6 l7 : Option Value} {Lr : List (Option Value)} (hd : M.2.2.2.2[i]? = some (pc, .lload 8, 2)) (hn : pc + 2 = n) (h : zK X w R M Z n (l0 :: l1 :: l2 :: l3 :: l4 :: l5 :: l6 :: l7 :: some (.long x) :: Lr) (.long x :: st) σ k) : zK X w R M Z pc (l0 :: l1 :: l2 :: l3 :: l4 :: l5 :: l6 :: l7 :: some (.long x) :: Lr) st σ k := by
  subst hn
  intro r σ' hk p e s m args below meth c C H locs ls hP hS hl
  exact lv_lload C.hx C.hb (C.dec hd) (zl_at hl (i := 8) rfl) (h r σ' hk p e s m args below meth c C H locs ls hP hS hl)
theorem z_istore8 (i n : Nat) {v : Int32} {kf : Int32 → Option (ρ × zS)} {l0 l1 l2 l3 l4 l5 l6 l7 l8 : Option Value} {Lr : List (Option Value)} (hd : M.2.2.2.2[i]? = some (pc, .istore 8, 2)) (hn : pc + 2 = n) (hp : zn l7 = true) (h : ∀ x, zK X w R M Z n (l0 :: l1 :: l2 :: l3 :: l4 :: l5 :: l6 :: l7 :: some (.int x) :: Lr) st σ (kf x)) : zK X w R M Z pc (l0 :: l1 :: l2 :: l3 :: l4 :: l5 :: l6 :: l7 :: l8 :: Lr) (.int v :: st) σ (zlt v kf) := by
  subst hn
  intro r σ' hk p e s m args below meth c C H locs ls hP hS hl
  exact lv_istore (i := 8) C.hx C.hb (C.dec hd) (zl_has hl) (by simp only [List.map_cons, List.length_cons]; omega) rfl (fun ls' hl' => h v r σ' hk p e s m args below meth c C H locs ls' hP hS (zset1 (L := l0 :: l1 :: l2 :: l3 :: l4 :: l5 :: l6 :: l7 :: l8 :: Lr) (j := 8) (v := .int v) hp hl'))
theorem z_astore8 (i n : Nat) {v : Nat} {kf : Nat → Option (ρ × zS)} {l0 l1 l2 l3 l4 l5 l6 l7 l8 : Option Value} {Lr : List (Option Value)} (hd : M.2.2.2.2[i]? = some (pc, .astore 8, 2)) (hn : pc + 2 = n) (hp : zn l7 = true) (h : ∀ x, zK X w R M Z n (l0 :: l1 :: l2 :: l3 :: l4 :: l5 :: l6 :: l7 :: some (.ref x) :: Lr) st σ (kf x)) : zK X w R M Z pc (l0 :: l1 :: l2 :: l3 :: l4 :: l5 :: l6 :: l7 :: l8 :: Lr) (.ref v :: st) σ (zlt v kf) := by
  subst hn
  intro r σ' hk p e s m args below meth c C H locs ls hP hS hl
  exact lv_astore (i := 8) C.hx C.hb (C.dec hd) (zl_has hl) (by simp only [List.map_cons, List.length_cons]; omega) rfl (fun ls' hl' => h v r σ' hk p e s m args below meth c C H locs ls' hP hS (zset1 (L := l0 :: l1 :: l2 :: l3 :: l4 :: l5 :: l6 :: l7 :: l8 :: Lr) (j := 8) (v := .ref v) hp hl'))
theorem z_lstore8 (i n : Nat) {v : Int64} {kf : Int64 → Option (ρ × zS)} {l0 l1 l2 l3 l4 l5 l6 l7 l8 l9 : Option Value} {Lr : List (Option Value)} (hd : M.2.2.2.2[i]? = some (pc, .lstore 8, 2)) (hn : pc + 2 = n) (hp : zn l7 = true) (h : ∀ x, zK X w R M Z n (l0 :: l1 :: l2 :: l3 :: l4 :: l5 :: l6 :: l7 :: some (.long x) :: none :: Lr) st σ (kf x)) : zK X w R M Z pc (l0 :: l1 :: l2 :: l3 :: l4 :: l5 :: l6 :: l7 :: l8 :: l9 :: Lr) (.long v :: st) σ (zlt v kf) := by
  subst hn
  intro r σ' hk p e s m args below meth c C H locs ls hP hS hl
  exact lv_lstore (i := 8) C.hx C.hb (C.dec hd) (zl_has hl) (by simp only [List.map_cons, List.length_cons]; omega) rfl (fun ls' hl' => h v r σ' hk p e s m args below meth c C H locs ls' hP hS (zset2 (L := l0 :: l1 :: l2 :: l3 :: l4 :: l5 :: l6 :: l7 :: l8 :: l9 :: Lr) (j := 8) (v := .long v) hp hl'))
theorem z_iinc8 (i n : Nat) {x v : Int32} {a : Int} {kf : Int32 → Option (ρ × zS)} {l0 l1 l2 l3 l4 l5 l6 l7 : Option Value} {Lr : List (Option Value)} (hd : M.2.2.2.2[i]? = some (pc, .iinc 8 a, 3)) (hn : pc + 3 = n) (ha : Int32.ofInt a = v) (hp : zn l7 = true) (h : ∀ y, zK X w R M Z n (l0 :: l1 :: l2 :: l3 :: l4 :: l5 :: l6 :: l7 :: some (.int y) :: Lr) st σ (kf y)) : zK X w R M Z pc (l0 :: l1 :: l2 :: l3 :: l4 :: l5 :: l6 :: l7 :: some (.int x) :: Lr) st σ (zlt (x + v) kf) := by
  subst hn; subst ha
  intro r σ' hk p e s m args below meth c C H locs ls hP hS hl
  obtain ⟨q, hq⟩ := List.getElem?_of_mem (zprs_mem.mpr (zl_map' (X := X) (L := l0 :: l1 :: l2 :: l3 :: l4 :: l5 :: l6 :: l7 :: some (.int x) :: Lr) (i := 8) (u := .int x) rfl))
  exact lv_iinc C.hx C.hb (C.dec hd) (zl_has hl) hq rfl (by simp only [List.map_cons, List.length_cons]; omega) rfl (fun ls' hl' => h (x + Int32.ofInt a) r σ' hk p e s m args below meth c C H locs ls' hP hS (zset1 (L := l0 :: l1 :: l2 :: l3 :: l4 :: l5 :: l6 :: l7 :: some (.int x) :: Lr) (j := 8) (v := .int (x + Int32.ofInt a)) hp hl'))
theorem z_iload9 (i n : Nat) {x : Int32} {l0 l1 l2 l3 l4 l5 l6 l7 l8 : Option Value} {Lr : List (Option Value)} (hd : M.2.2.2.2[i]? = some (pc, .iload 9, 2)) (hn : pc + 2 = n) (h : zK X w R M Z n (l0 :: l1 :: l2 :: l3 :: l4 :: l5 :: l6 :: l7 :: l8 :: some (.int x) :: Lr) (.int x :: st) σ k) : zK X w R M Z pc (l0 :: l1 :: l2 :: l3 :: l4 :: l5 :: l6 :: l7 :: l8 :: some (.int x) :: Lr) st σ k := by
  subst hn
  intro r σ' hk p e s m args below meth c C H locs ls hP hS hl
  exact lv_iload C.hx C.hb (C.dec hd) (zl_at hl (i := 9) rfl) (h r σ' hk p e s m args below meth c C H locs ls hP hS hl)
theorem z_aload9 (i n : Nat) {x : Nat} {l0 l1 l2 l3 l4 l5 l6 l7 l8 : Option Value} {Lr : List (Option Value)} (hd : M.2.2.2.2[i]? = some (pc, .aload 9, 2)) (hn : pc + 2 = n) (h : zK X w R M Z n (l0 :: l1 :: l2 :: l3 :: l4 :: l5 :: l6 :: l7 :: l8 :: some (.ref x) :: Lr) (.ref x :: st) σ k) : zK X w R M Z pc (l0 :: l1 :: l2 :: l3 :: l4 :: l5 :: l6 :: l7 :: l8 :: some (.ref x) :: Lr) st σ k := by
  subst hn
  intro r σ' hk p e s m args below meth c C H locs ls hP hS hl
  exact lv_aload C.hx C.hb (C.dec hd) (zl_at hl (i := 9) rfl) (h r σ' hk p e s m args below meth c C H locs ls hP hS hl)
theorem z_lload9 (i n : Nat) {x : Int64} {l0 l1 l2 l3 l4 l5 l6 l7 l8 : Option Value} {Lr : List (Option Value)} (hd : M.2.2.2.2[i]? = some (pc, .lload 9, 2)) (hn : pc + 2 = n) (h : zK X w R M Z n (l0 :: l1 :: l2 :: l3 :: l4 :: l5 :: l6 :: l7 :: l8 :: some (.long x) :: Lr) (.long x :: st) σ k) : zK X w R M Z pc (l0 :: l1 :: l2 :: l3 :: l4 :: l5 :: l6 :: l7 :: l8 :: some (.long x) :: Lr) st σ k := by
  subst hn
  intro r σ' hk p e s m args below meth c C H locs ls hP hS hl
  exact lv_lload C.hx C.hb (C.dec hd) (zl_at hl (i := 9) rfl) (h r σ' hk p e s m args below meth c C H locs ls hP hS hl)
theorem z_istore9 (i n : Nat) {v : Int32} {kf : Int32 → Option (ρ × zS)} {l0 l1 l2 l3 l4 l5 l6 l7 l8 l9 : Option Value} {Lr : List (Option Value)} (hd : M.2.2.2.2[i]? = some (pc, .istore 9, 2)) (hn : pc + 2 = n) (hp : zn l8 = true) (h : ∀ x, zK X w R M Z n (l0 :: l1 :: l2 :: l3 :: l4 :: l5 :: l6 :: l7 :: l8 :: some (.int x) :: Lr) st σ (kf x)) : zK X w R M Z pc (l0 :: l1 :: l2 :: l3 :: l4 :: l5 :: l6 :: l7 :: l8 :: l9 :: Lr) (.int v :: st) σ (zlt v kf) := by
  subst hn
  intro r σ' hk p e s m args below meth c C H locs ls hP hS hl
  exact lv_istore (i := 9) C.hx C.hb (C.dec hd) (zl_has hl) (by simp only [List.map_cons, List.length_cons]; omega) rfl (fun ls' hl' => h v r σ' hk p e s m args below meth c C H locs ls' hP hS (zset1 (L := l0 :: l1 :: l2 :: l3 :: l4 :: l5 :: l6 :: l7 :: l8 :: l9 :: Lr) (j := 9) (v := .int v) hp hl'))
theorem z_astore9 (i n : Nat) {v : Nat} {kf : Nat → Option (ρ × zS)} {l0 l1 l2 l3 l4 l5 l6 l7 l8 l9 : Option Value} {Lr : List (Option Value)} (hd : M.2.2.2.2[i]? = some (pc, .astore 9, 2)) (hn : pc + 2 = n) (hp : zn l8 = true) (h : ∀ x, zK X w R M Z n (l0 :: l1 :: l2 :: l3 :: l4 :: l5 :: l6 :: l7 :: l8 :: some (.ref x) :: Lr) st σ (kf x)) : zK X w R M Z pc (l0 :: l1 :: l2 :: l3 :: l4 :: l5 :: l6 :: l7 :: l8 :: l9 :: Lr) (.ref v :: st) σ (zlt v kf) := by
  subst hn
  intro r σ' hk p e s m args below meth c C H locs ls hP hS hl
  exact lv_astore (i := 9) C.hx C.hb (C.dec hd) (zl_has hl) (by simp only [List.map_cons, List.length_cons]; omega) rfl (fun ls' hl' => h v r σ' hk p e s m args below meth c C H locs ls' hP hS (zset1 (L := l0 :: l1 :: l2 :: l3 :: l4 :: l5 :: l6 :: l7 :: l8 :: l9 :: Lr) (j := 9) (v := .ref v) hp hl'))
theorem z_lstore9 (i n : Nat) {v : Int64} {kf : Int64 → Option (ρ × zS)} {l0 l1 l2 l3 l4 l5 l6 l7 l8 l9 l10 : Option Value} {Lr : List (Option Value)} (hd : M.2.2.2.2[i]? = some (pc, .lstore 9, 2)) (hn : pc + 2 = n) (hp : zn l8 = true) (h : ∀ x, zK X w R M Z n (l0 :: l1 :: l2 :: l3 :: l4 :: l5 :: l6 :: l7 :: l8 :: some (.long x) :: none :: Lr) st σ (kf x)) : zK X w R M Z pc (l0 :: l1 :: l2 :: l3 :: l4 :: l5 :: l6 :: l7 :: l8 :: l9 :: l10 :: Lr) (.long v :: st) σ (zlt v kf) := by
  subst hn
  intro r σ' hk p e s m args below meth c C H locs ls hP hS hl
  exact lv_lstore (i := 9) C.hx C.hb (C.dec hd) (zl_has hl) (by simp only [List.map_cons, List.length_cons]; omega) rfl (fun ls' hl' => h v r σ' hk p e s m args below meth c C H locs ls' hP hS (zset2 (L := l0 :: l1 :: l2 :: l3 :: l4 :: l5 :: l6 :: l7 :: l8 :: l9 :: l10 :: Lr) (j := 9) (v := .long v) hp hl'))
theorem z_iinc9 (i n : Nat) {x v : Int32} {a : Int} {kf : Int32 → Option (ρ × zS)} {l0 l1 l2 l3 l4 l5 l6 l7 l8 : Option Value} {Lr : List (Option Value)} (hd : M.2.2.2.2[i]? = some (pc, .iinc 9 a, 3)) (hn : pc + 3 = n) (ha : Int32.ofInt a = v) (hp : zn l8 = true) (h : ∀ y, zK X w R M Z n (l0 :: l1 :: l2 :: l3 :: l4 :: l5 :: l6 :: l7 :: l8 :: some (.int y) :: Lr) st σ (kf y)) : zK X w R M Z pc (l0 :: l1 :: l2 :: l3 :: l4 :: l5 :: l6 :: l7 :: l8 :: some (.int x) :: Lr) st σ (zlt (x + v) kf) := by
  subst hn; subst ha
  intro r σ' hk p e s m args below meth c C H locs ls hP hS hl
  obtain ⟨q, hq⟩ := List.getElem?_of_mem (zprs_mem.mpr (zl_map' (X := X) (L := l0 :: l1 :: l2 :: l3 :: l4 :: l5 :: l6 :: l7 :: l8 :: some (.int x) :: Lr) (i := 9) (u := .int x) rfl))
  exact lv_iinc C.hx C.hb (C.dec hd) (zl_has hl) hq rfl (by simp only [List.map_cons, List.length_cons]; omega) rfl (fun ls' hl' => h (x + Int32.ofInt a) r σ' hk p e s m args below meth c C H locs ls' hP hS (zset1 (L := l0 :: l1 :: l2 :: l3 :: l4 :: l5 :: l6 :: l7 :: l8 :: some (.int x) :: Lr) (j := 9) (v := .int (x + Int32.ofInt a)) hp hl'))
theorem z_iload10 (i n : Nat) {x : Int32} {l0 l1 l2 l3 l4 l5 l6 l7 l8 l9 : Option Value} {Lr : List (Option Value)} (hd : M.2.2.2.2[i]? = some (pc, .iload 10, 2)) (hn : pc + 2 = n) (h : zK X w R M Z n (l0 :: l1 :: l2 :: l3 :: l4 :: l5 :: l6 :: l7 :: l8 :: l9 :: some (.int x) :: Lr) (.int x :: st) σ k) : zK X w R M Z pc (l0 :: l1 :: l2 :: l3 :: l4 :: l5 :: l6 :: l7 :: l8 :: l9 :: some (.int x) :: Lr) st σ k := by
  subst hn
  intro r σ' hk p e s m args below meth c C H locs ls hP hS hl
  exact lv_iload C.hx C.hb (C.dec hd) (zl_at hl (i := 10) rfl) (h r σ' hk p e s m args below meth c C H locs ls hP hS hl)
theorem z_aload10 (i n : Nat) {x : Nat} {l0 l1 l2 l3 l4 l5 l6 l7 l8 l9 : Option Value} {Lr : List (Option Value)} (hd : M.2.2.2.2[i]? = some (pc, .aload 10, 2)) (hn : pc + 2 = n) (h : zK X w R M Z n (l0 :: l1 :: l2 :: l3 :: l4 :: l5 :: l6 :: l7 :: l8 :: l9 :: some (.ref x) :: Lr) (.ref x :: st) σ k) : zK X w R M Z pc (l0 :: l1 :: l2 :: l3 :: l4 :: l5 :: l6 :: l7 :: l8 :: l9 :: some (.ref x) :: Lr) st σ k := by
  subst hn
  intro r σ' hk p e s m args below meth c C H locs ls hP hS hl
  exact lv_aload C.hx C.hb (C.dec hd) (zl_at hl (i := 10) rfl) (h r σ' hk p e s m args below meth c C H locs ls hP hS hl)
theorem z_lload10 (i n : Nat) {x : Int64} {l0 l1 l2 l3 l4 l5 l6 l7 l8 l9 : Option Value} {Lr : List (Option Value)} (hd : M.2.2.2.2[i]? = some (pc, .lload 10, 2)) (hn : pc + 2 = n) (h : zK X w R M Z n (l0 :: l1 :: l2 :: l3 :: l4 :: l5 :: l6 :: l7 :: l8 :: l9 :: some (.long x) :: Lr) (.long x :: st) σ k) : zK X w R M Z pc (l0 :: l1 :: l2 :: l3 :: l4 :: l5 :: l6 :: l7 :: l8 :: l9 :: some (.long x) :: Lr) st σ k := by
  subst hn
  intro r σ' hk p e s m args below meth c C H locs ls hP hS hl
  exact lv_lload C.hx C.hb (C.dec hd) (zl_at hl (i := 10) rfl) (h r σ' hk p e s m args below meth c C H locs ls hP hS hl)
theorem z_istore10 (i n : Nat) {v : Int32} {kf : Int32 → Option (ρ × zS)} {l0 l1 l2 l3 l4 l5 l6 l7 l8 l9 l10 : Option Value} {Lr : List (Option Value)} (hd : M.2.2.2.2[i]? = some (pc, .istore 10, 2)) (hn : pc + 2 = n) (hp : zn l9 = true) (h : ∀ x, zK X w R M Z n (l0 :: l1 :: l2 :: l3 :: l4 :: l5 :: l6 :: l7 :: l8 :: l9 :: some (.int x) :: Lr) st σ (kf x)) : zK X w R M Z pc (l0 :: l1 :: l2 :: l3 :: l4 :: l5 :: l6 :: l7 :: l8 :: l9 :: l10 :: Lr) (.int v :: st) σ (zlt v kf) := by
  subst hn
  intro r σ' hk p e s m args below meth c C H locs ls hP hS hl
  exact lv_istore (i := 10) C.hx C.hb (C.dec hd) (zl_has hl) (by simp only [List.map_cons, List.length_cons]; omega) rfl (fun ls' hl' => h v r σ' hk p e s m args below meth c C H locs ls' hP hS (zset1 (L := l0 :: l1 :: l2 :: l3 :: l4 :: l5 :: l6 :: l7 :: l8 :: l9 :: l10 :: Lr) (j := 10) (v := .int v) hp hl'))
theorem z_astore10 (i n : Nat) {v : Nat} {kf : Nat → Option (ρ × zS)} {l0 l1 l2 l3 l4 l5 l6 l7 l8 l9 l10 : Option Value} {Lr : List (Option Value)} (hd : M.2.2.2.2[i]? = some (pc, .astore 10, 2)) (hn : pc + 2 = n) (hp : zn l9 = true) (h : ∀ x, zK X w R M Z n (l0 :: l1 :: l2 :: l3 :: l4 :: l5 :: l6 :: l7 :: l8 :: l9 :: some (.ref x) :: Lr) st σ (kf x)) : zK X w R M Z pc (l0 :: l1 :: l2 :: l3 :: l4 :: l5 :: l6 :: l7 :: l8 :: l9 :: l10 :: Lr) (.ref v :: st) σ (zlt v kf) := by
  subst hn
  intro r σ' hk p e s m args below meth c C H locs ls hP hS hl
  exact lv_astore (i := 10) C.hx C.hb (C.dec hd) (zl_has hl) (by simp only [List.map_cons, List.length_cons]; omega) rfl (fun ls' hl' => h v r σ' hk p e s m args below meth c C H locs ls' hP hS (zset1 (L := l0 :: l1 :: l2 :: l3 :: l4 :: l5 :: l6 :: l7 :: l8 :: l9 :: l10 :: Lr) (j := 10) (v := .ref v) hp hl'))
theorem z_lstore10 (i n : Nat) {v : Int64} {kf : Int64 → Option (ρ × zS)} {l0 l1 l2 l3 l4 l5 l6 l7 l8 l9 l10 l11 : Option Value} {Lr : List (Option Value)} (hd : M.2.2.2.2[i]? = some (pc, .lstore 10, 2)) (hn : pc + 2 = n) (hp : zn l9 = true) (h : ∀ x, zK X w R M Z n (l0 :: l1 :: l2 :: l3 :: l4 :: l5 :: l6 :: l7 :: l8 :: l9 :: some (.long x) :: none :: Lr) st σ (kf x)) : zK X w R M Z pc (l0 :: l1 :: l2 :: l3 :: l4 :: l5 :: l6 :: l7 :: l8 :: l9 :: l10 :: l11 :: Lr) (.long v :: st) σ (zlt v kf) := by
  subst hn
  intro r σ' hk p e s m args below meth c C H locs ls hP hS hl
  exact lv_lstore (i := 10) C.hx C.hb (C.dec hd) (zl_has hl) (by simp only [List.map_cons, List.length_cons]; omega) rfl (fun ls' hl' => h v r σ' hk p e s m args below meth c C H locs ls' hP hS (zset2 (L := l0 :: l1 :: l2 :: l3 :: l4 :: l5 :: l6 :: l7 :: l8 :: l9 :: l10 :: l11 :: Lr) (j := 10) (v := .long v) hp hl'))
theorem z_iinc10 (i n : Nat) {x v : Int32} {a : Int} {kf : Int32 → Option (ρ × zS)} {l0 l1 l2 l3 l4 l5 l6 l7 l8 l9 : Option Value} {Lr : List (Option Value)} (hd : M.2.2.2.2[i]? = some (pc, .iinc 10 a, 3)) (hn : pc + 3 = n) (ha : Int32.ofInt a = v) (hp : zn l9 = true) (h : ∀ y, zK X w R M Z n (l0 :: l1 :: l2 :: l3 :: l4 :: l5 :: l6 :: l7 :: l8 :: l9 :: some (.int y) :: Lr) st σ (kf y)) : zK X w R M Z pc (l0 :: l1 :: l2 :: l3 :: l4 :: l5 :: l6 :: l7 :: l8 :: l9 :: some (.int x) :: Lr) st σ (zlt (x + v) kf) := by
  subst hn; subst ha
  intro r σ' hk p e s m args below meth c C H locs ls hP hS hl
  obtain ⟨q, hq⟩ := List.getElem?_of_mem (zprs_mem.mpr (zl_map' (X := X) (L := l0 :: l1 :: l2 :: l3 :: l4 :: l5 :: l6 :: l7 :: l8 :: l9 :: some (.int x) :: Lr) (i := 10) (u := .int x) rfl))
  exact lv_iinc C.hx C.hb (C.dec hd) (zl_has hl) hq rfl (by simp only [List.map_cons, List.length_cons]; omega) rfl (fun ls' hl' => h (x + Int32.ofInt a) r σ' hk p e s m args below meth c C H locs ls' hP hS (zset1 (L := l0 :: l1 :: l2 :: l3 :: l4 :: l5 :: l6 :: l7 :: l8 :: l9 :: some (.int x) :: Lr) (j := 10) (v := .int (x + Int32.ofInt a)) hp hl'))
theorem z_iload11 (i n : Nat) {x : Int32} {l0 l1 l2 l3 l4 l5 l6 l7 l8 l9 l10 : Option Value} {Lr : List (Option Value)} (hd : M.2.2.2.2[i]? = some (pc, .iload 11, 2)) (hn : pc + 2 = n) (h : zK X w R M Z n (l0 :: l1 :: l2 :: l3 :: l4 :: l5 :: l6 :: l7 :: l8 :: l9 :: l10 :: some (.int x) :: Lr) (.int x :: st) σ k) : zK X w R M Z pc (l0 :: l1 :: l2 :: l3 :: l4 :: l5 :: l6 :: l7 :: l8 :: l9 :: l10 :: some (.int x) :: Lr) st σ k := by
  subst hn
  intro r σ' hk p e s m args below meth c C H locs ls hP hS hl
  exact lv_iload C.hx C.hb (C.dec hd) (zl_at hl (i := 11) rfl) (h r σ' hk p e s m args below meth c C H locs ls hP hS hl)
theorem z_aload11 (i n : Nat) {x : Nat} {l0 l1 l2 l3 l4 l5 l6 l7 l8 l9 l10 : Option Value} {Lr : List (Option Value)} (hd : M.2.2.2.2[i]? = some (pc, .aload 11, 2)) (hn : pc + 2 = n) (h : zK X w R M Z n (l0 :: l1 :: l2 :: l3 :: l4 :: l5 :: l6 :: l7 :: l8 :: l9 :: l10 :: some (.ref x) :: Lr) (.ref x :: st) σ k) : zK X w R M Z pc (l0 :: l1 :: l2 :: l3 :: l4 :: l5 :: l6 :: l7 :: l8 :: l9 :: l10 :: some (.ref x) :: Lr) st σ k := by
  subst hn
  intro r σ' hk p e s m args below meth c C H locs ls hP hS hl
  exact lv_aload C.hx C.hb (C.dec hd) (zl_at hl (i := 11) rfl) (h r σ' hk p e s m args below meth c C H locs ls hP hS hl)
theorem z_lload11 (i n : Nat) {x : Int64} {l0 l1 l2 l3 l4 l5 l6 l7 l8 l9 l10 : Option Value} {Lr : List (Option Value)} (hd : M.2.2.2.2[i]? = some (pc, .lload 11, 2)) (hn : pc + 2 = n) (h : zK X w R M Z n (l0 :: l1 :: l2 :: l3 :: l4 :: l5 :: l6 :: l7 :: l8 :: l9 :: l10 :: some (.long x) :: Lr) (.long x :: st) σ k) : zK X w R M Z pc (l0 :: l1 :: l2 :: l3 :: l4 :: l5 :: l6 :: l7 :: l8 :: l9 :: l10 :: some (.long x) :: Lr) st σ k := by
  subst hn
  intro r σ' hk p e s m args below meth c C H locs ls hP hS hl
  exact lv_lload C.hx C.hb (C.dec hd) (zl_at hl (i := 11) rfl) (h r σ' hk p e s m args below meth c C H locs ls hP hS hl)
theorem z_istore11 (i n : Nat) {v : Int32} {kf : Int32 → Option (ρ × zS)} {l0 l1 l2 l3 l4 l5 l6 l7 l8 l9 l10 l11 : Option Value} {Lr : List (Option Value)} (hd : M.2.2.2.2[i]? = some (pc, .istore 11, 2)) (hn : pc + 2 = n) (hp : zn l10 = true) (h : ∀ x, zK X w R M Z n (l0 :: l1 :: l2 :: l3 :: l4 :: l5 :: l6 :: l7 :: l8 :: l9 :: l10 :: some (.int x) :: Lr) st σ (kf x)) : zK X w R M Z pc (l0 :: l1 :: l2 :: l3 :: l4 :: l5 :: l6 :: l7 :: l8 :: l9 :: l10 :: l11 :: Lr) (.int v :: st) σ (zlt v kf) := by
  subst hn
  intro r σ' hk p e s m args below meth c C H locs ls hP hS hl
  exact lv_istore (i := 11) C.hx C.hb (C.dec hd) (zl_has hl) (by simp only [List.map_cons, List.length_cons]; omega) rfl (fun ls' hl' => h v r σ' hk p e s m args below meth c C H locs ls' hP hS (zset1 (L := l0 :: l1 :: l2 :: l3 :: l4 :: l5 :: l6 :: l7 :: l8 :: l9 :: l10 :: l11 :: Lr) (j := 11) (v := .int v) hp hl'))
theorem z_astore11 (i n : Nat) {v : Nat} {kf : Nat → Option (ρ × zS)} {l0 l1 l2 l3 l4 l5 l6 l7 l8 l9 l10 l11 : Option Value} {Lr : List (Option Value)} (hd : M.2.2.2.2[i]? = some (pc, .astore 11, 2)) (hn : pc + 2 = n) (hp : zn l10 = true) (h : ∀ x, zK X w R M Z n (l0 :: l1 :: l2 :: l3 :: l4 :: l5 :: l6 :: l7 :: l8 :: l9 :: l10 :: some (.ref x) :: Lr) st σ (kf x)) : zK X w R M Z pc (l0 :: l1 :: l2 :: l3 :: l4 :: l5 :: l6 :: l7 :: l8 :: l9 :: l10 :: l11 :: Lr) (.ref v :: st) σ (zlt v kf) := by
  subst hn
  intro r σ' hk p e s m args below meth c C H locs ls hP hS hl
  exact lv_astore (i := 11) C.hx C.hb (C.dec hd) (zl_has hl) (by simp only [List.map_cons, List.length_cons]; omega) rfl (fun ls' hl' => h v r σ' hk p e s m args below meth c C H locs ls' hP hS (zset1 (L := l0 :: l1 :: l2 :: l3 :: l4 :: l5 :: l6 :: l7 :: l8 :: l9 :: l10 :: l11 :: Lr) (j := 11) (v := .ref v) hp hl'))
theorem z_lstore11 (i n : Nat) {v : Int64} {kf : Int64 → Option (ρ × zS)} {l0 l1 l2 l3 l4 l5 l6 l7 l8 l9 l10 l11 l12 : Option Value} {Lr : List (Option Value)} (hd : M.2.2.2.2[i]? = some (pc, .lstore 11, 2)) (hn : pc + 2 = n) (hp : zn l10 = true) (h : ∀ x, zK X w R M Z n (l0 :: l1 :: l2 :: l3 :: l4 :: l5 :: l6 :: l7 :: l8 :: l9 :: l10 :: some (.long x) :: none :: Lr) st σ (kf x)) : zK X w R M Z pc (l0 :: l1 :: l2 :: l3 :: l4 :: l5 :: l6 :: l7 :: l8 :: l9 :: l10 :: l11 :: l12 :: Lr) (.long v :: st) σ (zlt v kf) := by
  subst hn
  intro r σ' hk p e s m args below meth c C H locs ls hP hS hl
  exact lv_lstore (i := 11) C.hx C.hb (C.dec hd) (zl_has hl) (by simp only [List.map_cons, List.length_cons]; omega) rfl (fun ls' hl' => h v r σ' hk p e s m args below meth c C H locs ls' hP hS (zset2 (L := l0 :: l1 :: l2 :: l3 :: l4 :: l5 :: l6 :: l7 :: l8 :: l9 :: l10 :: l11 :: l12 :: Lr) (j := 11) (v := .long v) hp hl'))
theorem z_iinc11 (i n : Nat) {x v : Int32} {a : Int} {kf : Int32 → Option (ρ × zS)} {l0 l1 l2 l3 l4 l5 l6 l7 l8 l9 l10 : Option Value} {Lr : List (Option Value)} (hd : M.2.2.2.2[i]? = some (pc, .iinc 11 a, 3)) (hn : pc + 3 = n) (ha : Int32.ofInt a = v) (hp : zn l10 = true) (h : ∀ y, zK X w R M Z n (l0 :: l1 :: l2 :: l3 :: l4 :: l5 :: l6 :: l7 :: l8 :: l9 :: l10 :: some (.int y) :: Lr) st σ (kf y)) : zK X w R M Z pc (l0 :: l1 :: l2 :: l3 :: l4 :: l5 :: l6 :: l7 :: l8 :: l9 :: l10 :: some (.int x) :: Lr) st σ (zlt (x + v) kf) := by
  subst hn; subst ha
  intro r σ' hk p e s m args below meth c C H locs ls hP hS hl
  obtain ⟨q, hq⟩ := List.getElem?_of_mem (zprs_mem.mpr (zl_map' (X := X) (L := l0 :: l1 :: l2 :: l3 :: l4 :: l5 :: l6 :: l7 :: l8 :: l9 :: l10 :: some (.int x) :: Lr) (i := 11) (u := .int x) rfl))
  exact lv_iinc C.hx C.hb (C.dec hd) (zl_has hl) hq rfl (by simp only [List.map_cons, List.length_cons]; omega) rfl (fun ls' hl' => h (x + Int32.ofInt a) r σ' hk p e s m args below meth c C H locs ls' hP hS (zset1 (L := l0 :: l1 :: l2 :: l3 :: l4 :: l5 :: l6 :: l7 :: l8 :: l9 :: l10 :: some (.int x) :: Lr) (j := 11) (v := .int (x + Int32.ofInt a)) hp hl'))
theorem z_iload12 (i n : Nat) {x : Int32} {l0 l1 l2 l3 l4 l5 l6 l7 l8 l9 l10 l11 : Option Value} {Lr : List (Option Value)} (hd : M.2.2.2.2[i]? = some (pc, .iload 12, 2)) (hn : pc + 2 = n) (h : zK X w R M Z n (l0 :: l1 :: l2 :: l3 :: l4 :: l5 :: l6 :: l7 :: l8 :: l9 :: l10 :: l11 :: some (.int x) :: Lr) (.int x :: st) σ k) : zK X w R M Z pc (l0 :: l1 :: l2 :: l3 :: l4 :: l5 :: l6 :: l7 :: l8 :: l9 :: l10 :: l11 :: some (.int x) :: Lr) st σ k := by
  subst hn
  intro r σ' hk p e s m args below meth c C H locs ls hP hS hl
  exact lv_iload C.hx C.hb (C.dec hd) (zl_at hl (i := 12) rfl) (h r σ' hk p e s m args below meth c C H locs ls hP hS hl)
theorem z_aload12 (i n : Nat) {x : Nat} {l0 l1 l2 l3 l4 l5 l6 l7 l8 l9 l10 l11 : Option Value} {Lr : List (Option Value)} (hd : M.2.2.2.2[i]? = some (pc, .aload 12, 2)) (hn : pc + 2 = n) (h : zK X w R M Z n (l0 :: l1 :: l2 :: l3 :: l4 :: l5 :: l6 :: l7 :: l8 :: l9 :: l10 :: l11 :: some (.ref x) :: Lr) (.ref x :: st) σ k) : zK X w R M Z pc (l0 :: l1 :: l2 :: l3 :: l4 :: l5 :: l6 :: l7 :: l8 :: l9 :: l10 :: l11 :: some (.ref x) :: Lr) st σ k := by
  subst hn
  intro r σ' hk p e s m args below meth c C H locs ls hP hS hl
  exact lv_aload C.hx C.hb (C.dec hd) (zl_at hl (i := 12) rfl) (h r σ' hk p e s m args below meth c C H locs ls hP hS hl)
theorem z_lload12 (i n : Nat) {x : Int64} {l0 l1 l2 l3 l4 l5 l6 l7 l8 l9 l10 l11 : Option Value} {Lr : List (Option Value)} (hd : M.2.2.2.2[i]? = some (pc, .lload 12, 2)) (hn : pc + 2 = n) (h : zK X w R M Z n (l0 :: l1 :: l2 :: l3 :: l4 :: l5 :: l6 :: l7 :: l8 :: l9 :: l10 :: l11 :: some (.long x) :: Lr) (.long x :: st) σ k) : zK X w R M Z pc (l0 :: l1 :: l2 :: l3 :: l4 :: l5 :: l6 :: l7 :: l8 :: l9 :: l10 :: l11 :: some (.long x) :: Lr) st σ k := by
  subst hn
  intro r σ' hk p e s m args below meth c C H locs ls hP hS hl
  exact lv_lload C.hx C.hb (C.dec hd) (zl_at hl (i := 12) rfl) (h r σ' hk p e s m args below meth c C H locs ls hP hS hl)
theorem z_istore12 (i n : Nat) {v : Int32} {kf : Int32 → Option (ρ × zS)} {l0 l1 l2 l3 l4 l5 l6 l7 l8 l9 l10 l11 l12 : Option Value} {Lr : List (Option Value)} (hd : M.2.2.2.2[i]? = some (pc, .istore 12, 2)) (hn : pc + 2 = n) (hp : zn l11 = true) (h : ∀ x, zK X w R M Z n (l0 :: l1 :: l2 :: l3 :: l4 :: l5 :: l6 :: l7 :: l8 :: l9 :: l10 :: l11 :: some (.int x) :: Lr) st σ (kf x)) : zK X w R M Z pc (l0 :: l1 :: l2 :: l3 :: l4 :: l5 :: l6 :: l7 :: l8 :: l9 :: l10 :: l11 :: l12 :: Lr) (.int v :: st) σ (zlt v kf) := by
  subst hn
  intro r σ' hk p e s m args below meth c C H locs ls hP hS hl
  exact lv_istore (i := 12) C.hx C.hb (C.dec hd) (zl_has hl) (by simp only [List.map_cons, List.length_cons]; omega) rfl (fun ls' hl' => h v r σ' hk p e s m args below meth c C H locs ls' hP hS (zset1 (L := l0 :: l1 :: l2 :: l3 :: l4 :: l5 :: l6 :: l7 :: l8 :: l9 :: l10 :: l11 :: l12 :: Lr) (j := 12) (v := .int v) hp hl'))
theorem z_astore12 (i n : Nat) {v : Nat} {kf : Nat → Option (ρ × zS)} {l0 l1 l2 l3 l4 l5 l6 l7 l8 l9 l10 l11 l12 : Option Value} {Lr : List (Option Value)} (hd : M.2.2.2.2[i]? = some (pc, .astore 12, 2)) (hn : pc + 2 = n) (hp : zn l11 = true) (h : ∀ x, zK X w R M Z n (l0 :: l1 :: l2 :: l3 :: l4 :: l5 :: l6 :: l7 :: l8 :: l9 :: l10 :: l11 :: some (.ref x) :: Lr) st σ (kf x)) : zK X w R M Z pc (l0 :: l1 :: l2 :: l3 :: l4 :: l5 :: l6 :: l7 :: l8 :: l9 :: l10 :: l11 :: l12 :: Lr) (.ref v :: st) σ (zlt v kf) := by
  subst hn
  intro r σ' hk p e s m args below meth c C H locs ls hP hS hl
  exact lv_astore (i := 12) C.hx C.hb (C.dec hd) (zl_has hl) (by simp only [List.map_cons, List.length_cons]; omega) rfl (fun ls' hl' => h v r σ' hk p e s m args below meth c C H locs ls' hP hS (zset1 (L := l0 :: l1 :: l2 :: l3 :: l4 :: l5 :: l6 :: l7 :: l8 :: l9 :: l10 :: l11 :: l12 :: Lr) (j := 12) (v := .ref v) hp hl'))
theorem z_lstore12 (i n : Nat) {v : Int64} {kf : Int64 → Option (ρ × zS)} {l0 l1 l2 l3 l4 l5 l6 l7 l8 l9 l10 l11 l12 l13 : Option Value} {Lr : List (Option Value)} (hd : M.2.2.2.2[i]? = some (pc, .lstore 12, 2)) (hn : pc + 2 = n) (hp : zn l11 = true) (h : ∀ x, zK X w R M Z n (l0 :: l1 :: l2 :: l3 :: l4 :: l5 :: l6 :: l7 :: l8 :: l9 :: l10 :: l11 :: some (.long x) :: none :: Lr) st σ (kf x)) : zK X w R M Z pc (l0 :: l1 :: l2 :: l3 :: l4 :: l5 :: l6 :: l7 :: l8 :: l9 :: l10 :: l11 :: l12 :: l13 :: Lr) (.long v :: st) σ (zlt v kf) := by
  subst hn
  intro r σ' hk p e s m args below meth c C H locs ls hP hS hl
  exact lv_lstore (i := 12) C.hx C.hb (C.dec hd) (zl_has hl) (by simp only [List.map_cons, List.length_cons]; omega) rfl (fun ls' hl' => h v r σ' hk p e s m args below meth c C H locs ls' hP hS (zset2 (L := l0 :: l1 :: l2 :: l3 :: l4 :: l5 :: l6 :: l7 :: l8 :: l9 :: l10 :: l11 :: l12 :: l13 :: Lr) (j := 12) (v := .long v) hp hl'))
theorem z_iinc12 (i n : Nat) {x v : Int32} {a : Int} {kf : Int32 → Option (ρ × zS)} {l0 l1 l2 l3 l4 l5 l6 l7 l8 l9 l10 l11 : Option Value} {Lr : List (Option Value)} (hd : M.2.2.2.2[i]? = some (pc, .iinc 12 a, 3)) (hn : pc + 3 = n) (ha : Int32.ofInt a = v) (hp : zn l11 = true) (h : ∀ y, zK X w R M Z n (l0 :: l1 :: l2 :: l3 :: l4 :: l5 :: l6 :: l7 :: l8 :: l9 :: l10 :: l11 :: some (.int y) :: Lr) st σ (kf y)) : zK X w R M Z pc (l0 :: l1 :: l2 :: l3 :: l4 :: l5 :: l6 :: l7 :: l8 :: l9 :: l10 :: l11 :: some (.int x) :: Lr) st σ (zlt (x + v) kf) := by
  subst hn; subst ha
  intro r σ' hk p e s m args below meth c C H locs ls hP hS hl
  obtain ⟨q, hq⟩ := List.getElem?_of_mem (zprs_mem.mpr (zl_map' (X := X) (L := l0 :: l1 :: l2 :: l3 :: l4 :: l5 :: l6 :: l7 :: l8 :: l9 :: l10 :: l11 :: some (.int x) :: Lr) (i := 12) (u := .int x) rfl))
  exact lv_iinc C.hx C.hb (C.dec hd) (zl_has hl) hq rfl (by simp only [List.map_cons, List.length_cons]; omega) rfl (fun ls' hl' => h (x + Int32.ofInt a) r σ' hk p e s m args below meth c C H locs ls' hP hS (zset1 (L := l0 :: l1 :: l2 :: l3 :: l4 :: l5 :: l6 :: l7 :: l8 :: l9 :: l10 :: l11 :: some (.int x) :: Lr) (j := 12) (v := .int (x + Int32.ofInt a)) hp hl'))
end ZR
end
section
/-! fields, arrays, returns, entry, calls -/
def zcl (ci : Nat) (q : vw_C) (ty : Nat → FieldType) : Prop := ci < 100 ∧ vwCl[ci]? = some q ∧ (∀ k, k < q.2.2 → parseFieldDescriptor (q.2.1 k).2.2.1 = some (ty k)) ∧ (∀ a, a < q.2.2 → ∀ b, b < q.2.2 → a ≠ b → (q.2.1 a).2.1 ≠ (q.2.1 b).2.1) ∧ (∀ w ∈ u_ws q.1 q.2.1 q.2.2, w ∈ zTT) ∧ (zf ci).length = q.2.2
def zF (own : String) (ix ci fk : Nat) (q : vw_C) (ty : Nat → FieldType) : Prop := zcl ci q ty ∧ fk < q.2.2 ∧ Cond.fieldLink own ix (q.2.1 fk).1 (q.2.1 fk).2.1 (q.2.1 fk).2.2.1 ∈ zTT
theorem zE_obj {X : zX} {σ : zS} {a ci : Nat} (h : ci < 100) : zE X σ a (ci, 0) = .inr (ci, zfs X σ a ci) := by simp [zE, h]
theorem zE_int {X : zX} {σ : zS} {a n : Nat} : zE X σ a (100, n) = .inl (X.2.2.2.1 0, n, .inl (fun j => σ.1 a j)) := by simp [zE]
theorem zE_byte {X : zX} {σ : zS} {a n : Nat} : zE X σ a (101, n) = .inl (X.2.2.2.1 1, n, .inl (fun j => σ.1 a j)) := by simp [zE]
theorem zE_page {X : zX} {σ : zS} {a n : Nat} : zE X σ a (103, n) = .inl (X.2.2.2.1 3, n, .inr (.inr (.inr (.inr (fun j => some (za X (σ.2 a j))))))) := by simp [zE]
theorem zok_in {s : Nat} {g : Nat × Nat} {i : Int32} (h : zok s g i) : g = (s, g.2) ∧ vp_in i g.2 := ⟨by rw [← h.1], vp_in_iff.mpr h.2⟩
section ZH
variable {X : zX} {w : zW} {R : Room} {M : zM} {ρ : Type} {Z : ρ → zS → zZt} {pc : Nat} {L : List (Option Value)} {st : List Value} {σ : zS} {k : Option (ρ × zS)}
theorem z_getI (i n fk : Nat) {a ci ix : Nat} {q : vw_C} {ty : Nat → FieldType} (hd : M.2.2.2.2[i]? = some (pc, .getfield ix, 3)) (hn : pc + 3 = n) (hf : zF M.1.cls ix ci fk q ty) (hb : (zf ci)[fk]? = some false) (hg : w.2 a = (ci, 0)) (h : zK X w R M Z n L (.int (σ.1 a fk) :: st) σ k) : zK X w R M Z pc L (.ref a :: st) σ k := by
  subst hn
  obtain ⟨⟨h5, h1, h6, h7, h4, h8⟩, h2, h3⟩ := hf
  intro r σ' hk p e s m args below meth c C H locs ls hP hS hl
  have ha := C.ok.lt hg (by omega)
  exact va_get (D := X.2.1) (v := .int (σ.1 a fk)) (fs := zfs X σ a ci) (ci := ci) (C := q.1) (T := q.2.1) (N := q.2.2) C.hx C.hb C.hts h4 C.hown C.hK hP a (by rw [zw_get ha, hg, zE_obj h5]) h1 fk h2 (C.hts _ h3) (fun _ h => h) (by rw [zfs_get hb]; rfl) (C.dec hd) (h r σ' hk p e s m args below meth c C H locs ls hP hS hl)
theorem z_getR (i n fk : Nat) {a ci ix : Nat} {q : vw_C} {ty : Nat → FieldType} (hd : M.2.2.2.2[i]? = some (pc, .getfield ix, 3)) (hn : pc + 3 = n) (hf : zF M.1.cls ix ci fk q ty) (hb : (zf ci)[fk]? = some true) (hg : w.2 a = (ci, 0)) (h : zK X w R M Z n L (.ref (σ.2 a fk) :: st) σ k) : zK X w R M Z pc L (.ref a :: st) σ k := by
  subst hn
  obtain ⟨⟨h5, h1, h6, h7, h4, h8⟩, h2, h3⟩ := hf
  intro r σ' hk p e s m args below meth c C H locs ls hP hS hl
  have ha := C.ok.lt hg (by omega)
  exact va_get (D := X.2.1) (v := .ref (za X (σ.2 a fk))) (fs := zfs X σ a ci) (ci := ci) (C := q.1) (T := q.2.1) (N := q.2.2) C.hx C.hb C.hts h4 C.hown C.hK hP a (by rw [zw_get ha, hg, zE_obj h5]) h1 fk h2 (C.hts _ h3) (fun _ h => h) (by rw [zfs_get hb]; rfl) (C.dec hd) (h r σ' hk p e s m args below meth c C H locs ls hP hS hl)
theorem zpi_o {σ : zS} {a k : Nat} {v : Int32} : ∀ b, b ≠ a → ∀ j, (zpi σ a k v).1 b j = σ.1 b j := fun b hb j => by simp [zpi, hb]
theorem zpr_o {σ : zS} {a k v : Nat} : ∀ b, b ≠ a → ∀ j, (zpr σ a k v).2 b j = σ.2 b j := fun b hb j => by simp [zpr, hb]
theorem z_putX (i n fk : Nat) {a ci ix : Nat} {v : Int32} {q : vw_C} {ty : Nat → FieldType} {t : FieldType} {kf : zS → Option (ρ × zS)} (hd : M.2.2.2.2[i]? = some (pc, .putfield ix, 3)) (hn : pc + 3 = n) (hf : zF M.1.cls ix ci fk q ty) (hb : (zf ci)[fk]? = some false) (hfin : (q.2.1 fk).2.2.2 = false) (ht : ty fk = t) (hnar : narrow t (.int v) = .int v) (hfit : fits t (.int v) = true) (hg : w.2 a = (ci, 0)) (h : ∀ σ2, zK X w R M Z n L st σ2 (kf σ2)) : zK X w R M Z pc L (.int v :: .ref a :: st) σ (zlt (zpi σ a fk v) kf) := by
  subst hn; subst ht
  obtain ⟨⟨h5, h1, h6, h7, h4, h8⟩, h2, h3⟩ := hf
  intro r σ' hk p e s m args below meth c C H locs ls hP hS hl
  have ha := C.ok.lt hg (by omega)
  refine va_put (D := X.2.1) (v := .int v) (ty := ty fk) (fs := zfs X σ a ci) (ci := ci) (C := q.1) (T := q.2.1) (N := q.2.2) C.hx C.hb C.hts h4 ty h6 h7 C.hown C.hK hP (zw_D C.ok) hS a (by rw [zw_get ha, hg, zE_obj h5]) h1 fk h2 (C.hts _ h3) (fun _ h => h) hfin (h6 fk h2) hnar hfit (by simp [zfs, h8, h2]) (C.dec hd) (fun H1 locs1 hP1 hD1 hS1 => ?_)
  refine h (zpi σ a fk v) r σ' hk p e s m args below meth c C H1 locs1 ls ?_ hS1 hl
  rw [zw_set (τ := zpi σ a fk v) ha (by rw [hg, zE_obj h5, zfs_setI hb]) zpi_o (fun b _ j => rfl)] at hP1
  exact hP1
theorem z_putI (i n fk : Nat) {a ci ix : Nat} {v : Int32} {q : vw_C} {ty : Nat → FieldType} {kf : zS → Option (ρ × zS)} (hd : M.2.2.2.2[i]? = some (pc, .putfield ix, 3)) (hn : pc + 3 = n) (hf : zF M.1.cls ix ci fk q ty) (hb : (zf ci)[fk]? = some false) (hfin : (q.2.1 fk).2.2.2 = false) (ht : ty fk = .int) (hg : w.2 a = (ci, 0)) (h : ∀ σ2, zK X w R M Z n L st σ2 (kf σ2)) : zK X w R M Z pc L (.int v :: .ref a :: st) σ (zlt (zpi σ a fk v) kf) :=
  z_putX i n fk hd hn hf hb hfin ht rfl rfl hg h
theorem zb_nar {v : Int32} (h : zb v) : narrow .boolean (.int v) = .int v := by
  rcases h with rfl | rfl <;> rfl
theorem zb_fit {v : Int32} (h : zb v) : fits .boolean (.int v) = true := by
  rcases h with rfl | rfl <;> rfl
theorem z_putZ (i n fk : Nat) {a ci ix : Nat} {v : Int32} {q : vw_C} {ty : Nat → FieldType} {kf : zS → Option (ρ × zS)} (hd : M.2.2.2.2[i]? = some (pc, .putfield ix, 3)) (hn : pc + 3 = n) (hf : zF M.1.cls ix ci fk q ty) (hb : (zf ci)[fk]? = some false) (hfin : (q.2.1 fk).2.2.2 = false) (ht : ty fk = .boolean) (hg : w.2 a = (ci, 0)) (h : ∀ σ2, zK X w R M Z n L st σ2 (kf σ2)) : zK X w R M Z pc L (.int v :: .ref a :: st) σ (zck (zb v) (zlt (zpi σ a fk v) kf)) :=
  z_ck (fun hv => z_putX i n fk hd hn hf hb hfin ht (zb_nar hv) (zb_fit hv) hg h)
theorem z_putR (i n fk : Nat) {a ci ix v : Nat} {q : vw_C} {ty : Nat → FieldType} {t : FieldType} {kf : zS → Option (ρ × zS)} (hd : M.2.2.2.2[i]? = some (pc, .putfield ix, 3)) (hn : pc + 3 = n) (hf : zF M.1.cls ix ci fk q ty) (hb : (zf ci)[fk]? = some true) (hfin : (q.2.1 fk).2.2.2 = false) {cn : String} (ht : ty fk = .object cn) (hg : w.2 a = (ci, 0)) (h : ∀ σ2, zK X w R M Z n L st σ2 (kf σ2)) : zK X w R M Z pc L (.ref v :: .ref a :: st) σ (zlt (zpr σ a fk v) kf) := by
  subst hn
  obtain ⟨⟨h5, h1, h6, h7, h4, h8⟩, h2, h3⟩ := hf
  intro r σ' hk p e s m args below meth c C H locs ls hP hS hl
  have ha := C.ok.lt hg (by omega)
  refine va_put (D := X.2.1) (v := .ref (za X v)) (ty := .object cn) (fs := zfs X σ a ci) (ci := ci) (C := q.1) (T := q.2.1) (N := q.2.2) C.hx C.hb C.hts h4 ty h6 h7 C.hown C.hK hP (zw_D C.ok) hS a (by rw [zw_get ha, hg, zE_obj h5]) h1 fk h2 (C.hts _ h3) (fun _ h => h) hfin (by rw [← ht]; exact h6 fk h2) rfl rfl (by simp [zfs, h8, h2]) (C.dec hd) (fun H1 locs1 hP1 hD1 hS1 => ?_)
  refine h (zpr σ a fk v) r σ' hk p e s m args below meth c C H1 locs1 ls ?_ hS1 hl
  rw [zw_set (X := X) (σ := σ) (τ := zpr σ a fk v) ha (by rw [hg, zE_obj h5, zfs_setR hb]) (fun b _ j => rfl) zpr_o] at hP1
  exact hP1
theorem z_iald (i n : Nat) {a : Nat} {x : Int32} (hd : M.2.2.2.2[i]? = some (pc, .iaload, 1)) (hn : pc + 1 = n) (h : zK X w R M Z n L (.int (σ.1 a x.toNatClampNeg) :: st) σ k) : zK X w R M Z pc L (.int x :: .ref a :: st) σ (zck (zok 100 (w.2 a) x) k) := by
  subst hn
  refine z_ck (fun hc => ?_)
  obtain ⟨hg, hi⟩ := zok_in hc
  intro r σ' hk p e s m args below meth c C H locs ls hP hS hl
  have ha := C.ok.lt hg (by omega)
  exact va_iald (D := X.2.1) C.hx C.hb C.hK hP a 0 (f := fun j => σ.1 a j) (by rw [zw_get ha]; rw [hg, zE_int]) rfl hi (C.dec hd) (h r σ' hk p e s m args below meth c C H locs ls hP hS hl)
theorem z_bald (i n : Nat) {a : Nat} {x : Int32} (hd : M.2.2.2.2[i]? = some (pc, .baload, 1)) (hn : pc + 1 = n) (h : zK X w R M Z n L (.int (σ.1 a x.toNatClampNeg) :: st) σ k) : zK X w R M Z pc L (.int x :: .ref a :: st) σ (zck (zok 101 (w.2 a) x) k) := by
  subst hn
  refine z_ck (fun hc => ?_)
  obtain ⟨hg, hi⟩ := zok_in hc
  intro r σ' hk p e s m args below meth c C H locs ls hP hS hl
  have ha := C.ok.lt hg (by omega)
  exact va_bald (D := X.2.1) C.hx C.hb C.hK hP a 1 (f := fun j => σ.1 a j) (by rw [zw_get ha]; rw [hg, zE_byte]) rfl hi (C.dec hd) (h r σ' hk p e s m args below meth c C H locs ls hP hS hl)
theorem z_aald (i n : Nat) {a : Nat} {x : Int32} (hd : M.2.2.2.2[i]? = some (pc, .aaload, 1)) (hn : pc + 1 = n) (h : zK X w R M Z n L (.ref (σ.2 a x.toNatClampNeg) :: st) σ k) : zK X w R M Z pc L (.int x :: .ref a :: st) σ (zck (zok 103 (w.2 a) x) k) := by
  subst hn
  refine z_ck (fun hc => ?_)
  obtain ⟨hg, hi⟩ := zok_in hc
  intro r σ' hk p e s m args below meth c C H locs ls hP hS hl
  have ha := C.ok.lt hg (by omega)
  exact va_aldq (D := X.2.1) (C := "PostScripts$Page") C.hx C.hb C.hK hP a 2 (f := fun j => some (za X (σ.2 a j))) (by rw [zw_get ha]; rw [hg, zE_page]) rfl hi (C.dec hd) (h r σ' hk p e s m args below meth c C H locs ls hP hS hl)
theorem z_alen (i n : Nat) {a : Nat} (hd : M.2.2.2.2[i]? = some (pc, .arraylength, 1)) (hn : pc + 1 = n) (hg : (w.2 a).1 = 100) (h : zK X w R M Z n L (.int (Int32.ofNat (w.2 a).2) :: st) σ k) : zK X w R M Z pc L (.ref a :: st) σ k := by
  subst hn
  have hg' : w.2 a = (100, (w.2 a).2) := by rw [← hg]
  intro r σ' hk p e s m args below meth c C H locs ls hP hS hl
  have ha := C.ok.lt hg' (by omega)
  exact va_alen (D := X.2.1) C.hx C.hb C.hK hP a 0 (x := ((w.2 a).2, .inl (fun j => σ.1 a j))) (by rw [zw_get ha]; rw [hg', zE_int]) rfl rfl (C.dec hd) (h r σ' hk p e s m args below meth c C H locs ls hP hS hl)
theorem z_iast (i n : Nat) {a : Nat} {x v : Int32} {kf : zS → Option (ρ × zS)} (hd : M.2.2.2.2[i]? = some (pc, .iastore, 1)) (hn : pc + 1 = n) (h : ∀ σ2, zK X w R M Z n L st σ2 (kf σ2)) : zK X w R M Z pc L (.int v :: .int x :: .ref a :: st) σ (zck (zok 100 (w.2 a) x) (zlt (zpi σ a x.toNatClampNeg v) kf)) := by
  subst hn
  refine z_ck (fun hc => ?_)
  obtain ⟨hg, hi⟩ := zok_in hc
  intro r σ' hk p e s m args below meth c C H locs ls hP hS hl
  have ha := C.ok.lt hg (by omega)
  refine va_iast (D := X.2.1) C.hx C.hb C.hK hP (zw_D C.ok) hS a 0 (f := fun j => σ.1 a j) (by rw [zw_get ha]; rw [hg, zE_int]) rfl hi (C.dec hd) (fun H1 locs1 hP1 hD1 hS1 => ?_)
  refine h _ r σ' hk p e s m args below meth c C H1 locs1 ls ?_ hS1 hl
  rw [zw_set (τ := zpi σ a x.toNatClampNeg v) ha (by rw [hg, zE_int]; exact congrArg (fun f => Sum.inl (X.2.2.2.1 0, (w.2 a).2, Sum.inl f)) (funext fun j => by simp [upd, zpi])) zpi_o (fun b _ j => rfl)] at hP1
  exact hP1
theorem z_bast (i n : Nat) {a : Nat} {x v : Int32} {kf : zS → Option (ρ × zS)} (hd : M.2.2.2.2[i]? = some (pc, .bastore, 1)) (hn : pc + 1 = n) (h : ∀ σ2, zK X w R M Z n L st σ2 (kf σ2)) : zK X w R M Z pc L (.int v :: .int x :: .ref a :: st) σ (zck (zok 101 (w.2 a) x) (zlt (zpi σ a x.toNatClampNeg (vp_nar .byte v)) kf)) := by
  subst hn
  refine z_ck (fun hc => ?_)
  obtain ⟨hg, hi⟩ := zok_in hc
  intro r σ' hk p e s m args below meth c C H locs ls hP hS hl
  have ha := C.ok.lt hg (by omega)
  refine va_bast (D := X.2.1) C.hx C.hb C.hK hP (zw_D C.ok) hS a 1 (f := fun j => σ.1 a j) (by rw [zw_get ha]; rw [hg, zE_byte]) rfl hi (C.dec hd) (fun H1 locs1 hP1 hD1 hS1 => ?_)
  refine h _ r σ' hk p e s m args below meth c C H1 locs1 ls ?_ hS1 hl
  rw [zw_set (τ := zpi σ a x.toNatClampNeg (vp_nar .byte v)) ha (by rw [hg, zE_byte]; exact congrArg (fun f => Sum.inl (X.2.2.2.1 1, (w.2 a).2, Sum.inl f)) (funext fun j => by simp [upd, zpi])) zpi_o (fun b _ j => rfl)] at hP1
  exact hP1
/-- a method's end -/
theorem zB_end {p : Program} {s : State} {m : MethodId} {args : Array Value} {meth : Method} {c : Code} (C : zC X w M p s m args meth c) {H : Heap} {locs : List Loc} (hP : va_P X.2.1 vwCl (zw X w σ) H) (hS : va_S (zA X w) s.heap H locs) (t : State) (ht : t.heap = H) (hW : s.WarmedH t.vm) : zB X w σ t :=
  ⟨by rw [ht]; exact hP, va_K.moved hW.alike C.hK, C.ok, by rw [ht]; exact (C.hV.kept hS.2.1).warm hW⟩
theorem z_iret (i : Nat) {v : Int32} (hd : M.2.2.2.2[i]? = some (pc, .ireturn, 1)) (hr : M.2.2.2.1 = some .int) : zK X w R M (zZ X w zeI) pc L [.int v] σ (some (v, σ)) := by
  intro r σ' hk p e s m args below meth c C H locs ls hP hS hl
  cases hk
  exact W.iret (v := v) C.hx C.hb (C.hr.trans hr) (fun t ht hW => ⟨⟨rfl, zB_end C hP hS t ht hW⟩, hS.F ht⟩) hS.2.2 (C.dec hd) C.hlk
theorem z_zret (i : Nat) {v : Int32} (hd : M.2.2.2.2[i]? = some (pc, .ireturn, 1)) (hr : M.2.2.2.1 = some .boolean) : zK X w R M (zZ X w zeI) pc L [.int v] σ (zck (zb v) (some (v, σ))) := by
  refine z_ck (fun hv => ?_)
  intro r σ' hk p e s m args below meth c C H locs ls hP hS hl
  cases hk
  exact W.zret (v := v) C.hx C.hb (C.hr.trans hr) (zb_nar hv) (fun t ht hW => ⟨⟨rfl, zB_end C hP hS t ht hW⟩, hS.F ht⟩) hS.2.2 (C.dec hd) C.hlk
theorem z_lret (i : Nat) {v : Int64} (hd : M.2.2.2.2[i]? = some (pc, .lreturn, 1)) (hr : M.2.2.2.1 = some .long) : zK X w R M (zZ X w zeL) pc L [.long v] σ (some (v, σ)) := by
  intro r σ' hk p e s m args below meth c C H locs ls hP hS hl
  cases hk
  exact W.lret (v := v) C.hx C.hb (C.hr.trans hr) (fun t ht hW => ⟨⟨rfl, zB_end C hP hS t ht hW⟩, hS.F ht⟩) hS.2.2 (C.dec hd) C.hlk
theorem z_vret (i : Nat) (hd : M.2.2.2.2[i]? = some (pc, .return_, 1)) (hr : M.2.2.2.1 = none) : zK X w R M (zZ X w zeV) pc L [] σ (some ((), σ)) := by
  intro r σ' hk p e s m args below meth c C H locs ls hP hS hl
  cases hk
  exact W.vret C.hx C.hb (C.hr.trans hr) (fun t ht hW => ⟨⟨rfl, zB_end C hP hS t ht hW⟩, hS.F ht⟩) hS.2.2 (C.dec hd) C.hlk
end ZH
/-- a method's entry -/
def zsl (vs : List Value) : List (Option Value) := vs.flatMap (fun v => if v.category = 2 then [some v, none] else [some v])
def zL0 (n : Nat) (vs : List Value) : List (Option Value) := zsl vs ++ List.replicate (n - (zsl vs).length) none
theorem zsl_rel (X : zX) (vs : List Value) : (zsl vs).length = (lg_sl (vs.map (zv X))).length ∧ ∀ (i : Nat) (v : Value), ((zsl vs).map (Option.map (zv X)))[i]? = some (some v) → (lg_sl (vs.map (zv X)))[i]? = some (.val v) := by
  induction vs with
  | nil => exact ⟨rfl, fun i v h => by simp [zsl] at h⟩
  | cons u vs ih =>
    have e1 : zsl (u :: vs) = (if u.category = 2 then [some u, none] else [some u]) ++ zsl vs := by simp [zsl]
    have e2 : lg_sl ((u :: vs).map (zv X)) = (if u.category = 2 then [.val (zv X u), .second] else [.val (zv X u)]) ++ lg_sl (vs.map (zv X)) := by simp [lg_sl, zv_cat]
    rw [e1, e2]
    by_cases h2 : u.category = 2
    · simp only [if_pos h2]
      refine ⟨by simp [ih.1], fun i v h => ?_⟩
      match i, h with
      | 0, h => simpa using h
      | 1, h => simp at h
      | i + 2, h => exact ih.2 i v (by simpa using h)
    · simp only [if_neg h2]
      refine ⟨by simp [ih.1], fun i v h => ?_⟩
      match i, h with
      | 0, h => simpa using h
      | i + 1, h => exact ih.2 i v (by simpa using h)
theorem zl_entry (X : zX) (vs : List Value) {n : Nat} (hn : (zsl vs).length ≤ n) : zl ((lg_sl (vs.map (zv X)) ++ List.replicate (n - (lg_sl (vs.map (zv X))).length) Slot.unset).toArray) ((zL0 n vs).map (Option.map (zv X))) := by
  obtain ⟨e1, e2⟩ := zsl_rel X vs
  have h0 := lv_entry (vs.map (zv X)) (n := n) (by rw [← e1]; exact hn)
  refine ⟨by rw [h0.1]; simp [zL0]; omega, h0.2.1, fun i v hi => ?_⟩
  by_cases hl : i < (zsl vs).length
  · have : ((zsl vs).map (Option.map (zv X)))[i]? = some (some v) := by
      rw [zL0, List.map_append, List.getElem?_append_left (by simpa using hl)] at hi
      exact hi
    have h1 := e2 i v this
    rw [List.getElem?_toArray, List.getElem?_append_left (by rw [← e1]; exact hl)]
    exact h1
  · rw [zL0, List.map_append, List.getElem?_append_right (by simpa using hl)] at hi
    simp only [List.map_replicate, List.getElem?_replicate] at hi
    split at hi <;> cases hi
theorem z_entry {X : zX} {w : zW} {d : Nat} {M : zM} {ρ : Type} {em : ρ → Option Value} {σ : zS} {f : Option (ρ × zS)} (vs : List Value) (hy : plainName M.1.cls = true) (hT : zT M) (hn : (zsl vs).length ≤ M.2.2.1) (h : zK X w (zrm d) M (zZ X w em) 0 (zL0 M.2.2.1 vs) [] σ f) (r : ρ) (σ' : zS) (hf : f = some (r, σ')) : zCN X w d M vs σ (em r, σ') := by
  refine Met.ofW (cc := M.2.1) (maxL := M.2.2.1) (ret := M.2.2.2.1) hy rfl ?_
  intro p e s m args below meth c s₁ B hml hv
  obtain ⟨rfl, hP, hK, hok, hV⟩ := hv
  have hts := atoms_spec (ws := Cond.code M.1 M.2.1 M.2.2.1 M.2.2.2.1 :: zTT) B.pre
  have C : zC X w M p s m (vs.map (zv X)).toArray meth c := ⟨B.exec, B.bytes, hml, B.returns, B.notSynchronized, findClass_of_methodNamed B.named, fun w hw => hts w (List.mem_cons_of_mem _ hw), hK, hok, hV, hT⟩
  have h1 := h r σ' hf p e s m (vs.map (zv X)).toArray below meth c C s.heap [] _ hP va_S.rf (zl_entry X vs hn)
  rw [lg_entry_eq]
  exact h1
end
section
/-! calls -/
def zR (R : Room) (d : Nat) : Prop := d + 1 ≤ R.frames ∧ 40 * (d + 1) ≤ R.locals
theorem zR_rm {d e : Nat} (h : d + 1 ≤ e) : zR (zrm e) d := ⟨h, Nat.mul_le_mul_left 40 h⟩
def zMd (M : zM) (n : Nat) : Prop := Cond.code M.1 M.2.1 M.2.2.1 M.2.2.2.1 ∈ zTT ∧ Cond.initialized M.1.cls ∈ zTT ∧ (M.1.cls ≠ "java/lang/invoke/MethodHandle" ∧ M.1.cls ≠ "java/lang/invoke/VarHandle" ∧ (parseMethodDescriptor M.1.desc).map (fun d => d.parameters.length) = some n) ∧ M.2.2.1 ≤ 21
def zMV (M : zM) (n : Nat) : Prop := zMd M n ∧ Cond.instanceMethod M.1 ∈ zTT ∧ Cond.selects M.1.cls M.1 M.1 ∈ zTT
def zMS (M : zM) (n : Nat) : Prop := zMd M n ∧ Cond.static M.1 ∈ zTT
theorem zB_blind {X : zX} {w : zW} {σ : zS} (av : List Value) : FrameBlind (va_Pc av (zB X w σ)) := fun a U g mk q =>
  ⟨q.1, q.2.1, va_K.moved (u := U) (U := U.calling g mk a) (Vm.Alike.refl U.vm) q.2.2.1, q.2.2.2.1, zV.warm (s := U) (U := U.calling g mk a) (State.WarmedH.refl U) q.2.2.2.2⟩
theorem z_run {X : zX} {w : zW} {p : Program} {e : Env} {R : Room} {s : State} {m : MethodId} {args : Array Value} {below : List Frame} {meth : Method} {c : Code} {H : Heap} {locs : List Loc} {Q : State → Prop} {pc : Nat} {ls : Array Slot} {st0 rest : List Value} {o : Option Value × zS} {a : Array Value}
    (hr : va_Run p X.1 e R s m args below meth c H locs 0 0 0 0 (F0 m pc ls st0) rest (zQc X w o a) (zA X w)) (hS : va_S (zA X w) s.heap H locs)
    (kk : ∀ (H1 : Heap) (locs1 : List Loc), va_P X.2.1 vwCl (zw X w o.2) H1 → va_S (zA X w) s.heap H1 locs1 → W p X.1 e R s m args below meth c H1 locs1 0 0 Q (F0 m (pc + 3) ls ((o.1.map (zv X)).toList ++ rest))) : W p X.1 e R s m args below meth c H locs 0 0 Q (F0 m pc ls st0) := by
  intro T hT Xs
  obtain ⟨v, st₀, t, T', L, h0, X', hL, e1, e2, ⟨⟨hv, hB⟩, hz, hk⟩, stp⟩ := hr T hT Xs
  cases hv
  rw [h0] at hz hk
  obtain ⟨t2, a1, b1⟩ := kk T'.heap (locs ++ L) (by rw [e1]; exact hB.1) ⟨Nat.le_trans hS.1 (by rw [e1]; exact hz), fun q h1 h2 => by rw [e1, hk q (Nat.lt_of_lt_of_le h1 hS.1) h2]; exact hS.2.1 q h1 h2, fun q hq => by
      rcases List.mem_append.mp hq with h | h
      · exact hS.2.2 q h
      · exact hL q h⟩ T' rfl X'
  exact ⟨t2, stp t2 a1, b1⟩
theorem zcat_map (X : zX) (st : List Value) : ((st.map (zv X)).map fun v => v.category) = st.map fun v => v.category := by
  rw [List.map_map]
  exact List.map_congr_left fun v _ => zv_cat X v
section ZC
variable {X : zX} {w : zW} {R : Room} {M : zM} {ρ ρ' : Type} {Z : ρ → zS → zZt} {pc : Nat} {L : List (Option Value)} {st : List Value} {σ : zS}
theorem z_callV (i n : Nat) {M' : zM} {ix a ci na d : Nat} {q : vw_C} {As : List Value} {em : ρ' → Option Value} {f : Option (ρ' × zS)} {kf : ρ' → zS → Option (ρ × zS)} (hd : M.2.2.2.2[i]? = some (pc, .invokevirtual ix, 3)) (hn : pc + 3 = n) (hlk : Cond.methodLink M.1.cls ix M'.1 ∈ zTT) (hm : zMV M' na) (hR : zR R d)
    (hC : ∀ r σ', f = some (r, σ') → zCN X w d M' (.ref a :: As) σ (em r, σ')) (hc : ci < 100 ∧ vwCl[ci]? = some q ∧ q.1 = M'.1.cls) (hg : w.2 a = (ci, 0)) (hlen : As.length = na) (hLn : L.length = M.2.2.1) (hst : (st.map fun v => v.category).sum ≤ 8)
    (h : ∀ r σ2, zK X w R M Z n L ((em r).toList ++ st) σ2 (kf r σ2)) : zK X w R M Z pc L (As.reverse ++ .ref a :: st) σ (zbd f kf) := by
  subst hn
  intro r σ' hk p e s m args below meth c C H locs ls hP hS hl
  unfold zbd at hk
  cases hf : f with
  | none => rw [hf] at hk; cases hk
  | some q0 =>
    obtain ⟨r1, σ1⟩ := q0
    rw [hf] at hk
    have ha := C.ok.lt hg (by omega)
    obtain ⟨⟨m1, m2, m3, m4⟩, m5, m6⟩ := hm
    have hG : GoodIn zTT (wsV M.1.cls ix M'.1.cls M'.1 (Cond.code M'.1 M'.2.1 M'.2.2.1 M'.2.2.2.1 :: zTT)) := by
      intro v hv
      unfold wsV at hv
      rcases List.mem_append.mp hv with hv | hv
      · have : v ∈ zTT := by
          simp only [List.mem_cons, List.not_mem_nil, or_false] at hv
          rcases hv with rfl | rfl | rfl | rfl
          · exact hlk
          · exact m5
          · exact m6
          · exact m2
        exact ⟨this, zTT_good this⟩
      · exact zGood m1 v hv
    have hR2 : (zrm d).frames + 1 ≤ R.frames ∧ 8 + (M'.2.2.1 + 11) + (zrm d).locals ≤ R.locals := ⟨hR.1, by have := hR.2; show 8 + (M'.2.2.1 + 11) + 40 * d ≤ R.locals; omega⟩
    have hrun := va_runV (p := p) (e := e) (below := below) (meth := meth) (H := H) (locs := locs) (cells := 0) (slots := 0) (As := As.map (zv X)) (rest := st.map (zv X)) (b := za X a) (g := F0 m pc ls ((As.reverse ++ .ref a :: st).map (zv X))) ⟨C.hx, C.hb, C.hml, C.hown, C.hts⟩ (hC r1 σ1 hf) (cwV na C.hts hG rfl rfl rfl ⟨rfl, m3⟩ hR2)
      ⟨zB_blind _, va_recv C.hK hP (ci := ci) (q0 := a) (q := q) (fs := zfs X σ a ci) hc.2.1 (by rw [zw_get ha, hg, zE_obj hc.1]) |>.imp (fun cell hcell => by rw [← hc.2.2]; exact hcell), fun U hU hW => ⟨by simp [zv], zB_end C hP hS U hU hW⟩⟩ rfl (by simpa using hlen) (by show ls.size = _; rw [hl.1]; simpa using hLn) (by simp [zv, List.map_reverse]) (by show 2 * 0 + _ ≤ 8; rw [zcat_map]; omega) (C.dec hd) ⟨Nat.zero_le _, Nat.zero_le _⟩
    refine z_run hrun hS (fun H1 locs1 hP1 hS1 => ?_)
    have h1 := h r1 σ1 r σ' hk p e s m args below meth c C H1 locs1 ls hP1 hS1 hl
    rw [List.map_append] at h1
    have e2 : ((em r1).toList).map (zv X) = ((em r1).map (zv X)).toList := by cases em r1 <;> rfl
    rw [e2] at h1
    exact h1
theorem z_callVN (i n : Nat) {M' : zM} {ix a ci na d : Nat} {q : vw_C} {As : List Value} {em : ρ' → Option Value} {f : Option (ρ' × zS)} {kf : ρ' → zS → Option (ρ × zS)} (hd : M.2.2.2.2[i]? = some (pc, .invokevirtual ix, 3)) (hn : pc + 3 = n) {host : String} (hlk : znest = Cond.methodLinkNest M.1.cls ix M'.1 host) (hm : zMV M' na) (hR : zR R d)
    (hC : ∀ r σ', f = some (r, σ') → zCN X w d M' (.ref a :: As) σ (em r, σ')) (hc : ci < 100 ∧ vwCl[ci]? = some q ∧ q.1 = M'.1.cls) (hg : w.2 a = (ci, 0)) (hlen : As.length = na) (hLn : L.length = M.2.2.1) (hst : (st.map fun v => v.category).sum ≤ 8)
    (h : ∀ r σ2, zK X w R M Z n L ((em r).toList ++ st) σ2 (kf r σ2)) : zK X w R M Z pc L (As.reverse ++ .ref a :: st) σ (zbd f kf) := by
  subst hn
  intro r σ' hk p e s m args below meth c C H locs ls hP hS hl
  unfold zbd at hk
  cases hf : f with
  | none => rw [hf] at hk; cases hk
  | some q0 =>
    obtain ⟨r1, σ1⟩ := q0
    rw [hf] at hk
    have ha := C.ok.lt hg (by omega)
    obtain ⟨⟨m1, m2, m3, m4⟩, m5, m6⟩ := hm
    have hR2 : (zrm d).frames + 1 ≤ R.frames ∧ 8 + (M'.2.2.1 + 11) + (zrm d).locals ≤ R.locals := ⟨hR.1, by have := hR.2; show 8 + (M'.2.2.1 + 11) + 40 * d ≤ R.locals; omega⟩
    have hnw : va_Nw (.methodLinkNest M.1.cls ix M'.1 host) s := by rw [← hlk]; exact C.hV.2.2.2.2
    have hrun := va_runVN (p := p) (e := e) (below := below) (meth := meth) (H := H) (locs := locs) (cells := 0) (slots := 0) (As := As.map (zv X)) (rest := st.map (zv X)) (b := za X a) (C := M'.1.cls) (g := F0 m pc ls ((As.reverse ++ .ref a :: st).map (zv X))) ⟨C.hx, C.hb, C.hml, C.hown, C.hts⟩ (hC r1 σ1 hf) ⟨va_cnB na C.hts (zGood m1) rfl rfl rfl hnw (C.hts _ m2) m3 hR2, C.hts _ m5, C.hts _ m6⟩
      ⟨zB_blind _, va_recv C.hK hP (ci := ci) (q0 := a) (q := q) (fs := zfs X σ a ci) hc.2.1 (by rw [zw_get ha, hg, zE_obj hc.1]) |>.imp (fun cell hcell => by rw [← hc.2.2]; exact hcell), fun U hU hW => ⟨by simp [zv], zB_end C hP hS U hU hW⟩⟩ rfl (by simpa using hlen) (by show ls.size = _; rw [hl.1]; simpa using hLn) (by simp [zv, List.map_reverse]) (by show 2 * 0 + _ ≤ 8; rw [zcat_map]; omega) (C.dec hd) ⟨Nat.zero_le _, Nat.zero_le _⟩
    refine z_run hrun hS (fun H1 locs1 hP1 hS1 => ?_)
    have h1 := h r1 σ1 r σ' hk p e s m args below meth c C H1 locs1 ls hP1 hS1 hl
    rw [List.map_append] at h1
    have e2 : ((em r1).toList).map (zv X) = ((em r1).map (zv X)).toList := by cases em r1 <;> rfl
    rw [e2] at h1
    exact h1
theorem z_callS (i n : Nat) {M' : zM} {ix na d : Nat} {As : List Value} {em : ρ' → Option Value} {f : Option (ρ' × zS)} {kf : ρ' → zS → Option (ρ × zS)} (hd : M.2.2.2.2[i]? = some (pc, .invokestatic ix, 3)) (hn : pc + 3 = n) (hlk : Cond.methodLink M.1.cls ix M'.1 ∈ zTT) (hm : zMS M' na) (hR : zR R d)
    (hC : ∀ r σ', f = some (r, σ') → zCN X w d M' As σ (em r, σ')) (hlen : As.length = na) (hLn : L.length = M.2.2.1) (hst : (st.map fun v => v.category).sum ≤ 8)
    (h : ∀ r σ2, zK X w R M Z n L ((em r).toList ++ st) σ2 (kf r σ2)) : zK X w R M Z pc L (As.reverse ++ st) σ (zbd f kf) := by
  subst hn
  intro r σ' hk p e s m args below meth c C H locs ls hP hS hl
  unfold zbd at hk
  cases hf : f with
  | none => rw [hf] at hk; cases hk
  | some q0 =>
    obtain ⟨r1, σ1⟩ := q0
    rw [hf] at hk
    obtain ⟨⟨m1, m2, m3, m4⟩, m5⟩ := hm
    have hG : GoodIn zTT (va_wsS M.1.cls ix M'.1 (Cond.code M'.1 M'.2.1 M'.2.2.1 M'.2.2.2.1 :: zTT)) := by
      intro v hv
      unfold va_wsS at hv
      rcases List.mem_append.mp hv with hv | hv
      · have : v ∈ zTT := by
          simp only [List.mem_cons, List.not_mem_nil, or_false] at hv
          rcases hv with rfl | rfl | rfl
          · exact hlk
          · exact m5
          · exact m2
        exact ⟨this, zTT_good this⟩
      · exact zGood m1 v hv
    have hR2 : (zrm d).frames + 1 ≤ R.frames ∧ 8 + (M'.2.2.1 + 11) + (zrm d).locals ≤ R.locals := ⟨hR.1, by have := hR.2; show 8 + (M'.2.2.1 + 11) + 40 * d ≤ R.locals; omega⟩
    have hrun := va_runS (p := p) (e := e) (below := below) (meth := meth) (H := H) (locs := locs) (cells := 0) (slots := 0) (As := As.map (zv X)) (rest := st.map (zv X)) (g := F0 m pc ls ((As.reverse ++ st).map (zv X))) ⟨C.hx, C.hb, C.hml, C.hown, C.hts⟩ (hC r1 σ1 hf) (va_cwS na C.hts hG rfl rfl rfl m3 hR2)
      ⟨zB_blind _, fun U hU hW => ⟨rfl, zB_end C hP hS U hU hW⟩⟩ rfl (by simpa using hlen) (by show ls.size = _; rw [hl.1]; simpa using hLn) (by simp [List.map_reverse]) (by show 2 * 0 + _ ≤ 8; rw [zcat_map]; omega) (C.dec hd) ⟨Nat.zero_le _, Nat.zero_le _⟩
    refine z_run hrun hS (fun H1 locs1 hP1 hS1 => ?_)
    have h1 := h r1 σ1 r σ' hk p e s m args below meth c C H1 locs1 ls hP1 hS1 hl
    rw [List.map_append] at h1
    have e2 : ((em r1).toList).map (zv X) = ((em r1).map (zv X)).toList := by cases em r1 <;> rfl
    rw [e2] at h1
    exact h1
end ZC
end
