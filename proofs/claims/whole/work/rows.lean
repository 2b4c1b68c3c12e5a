section
-- ===== PART A: goes FIRST, ahead of the names: the tables' words, and 'selects' of the private methods out of them =====
/-- a private method of a class that the tables say can be made, by its rows of tables_1 -/
def lw_okq (q : MethodName × Nat) : Prop := (q.1.cls ≠ "java/lang/invoke/MethodHandle" ∧ q.1.cls ≠ "java/lang/invoke/VarHandle") ∧ Cond.instantiable q.1.cls q.2 ∈ tables_1 ∧ Cond.privateMethod q.1 ∈ tables_1 ∧ Cond.instanceMethod q.1 ∈ tables_1
theorem lw_p0 : lw_okq (⟨"ShoutedPrices$Lines", "price", "(I)V"⟩, 6) := ⟨⟨by decide +kernel, by decide +kernel⟩, List.mem_of_getElem? (i := 171) (by decide +kernel), List.mem_of_getElem? (i := 446) (by decide +kernel), List.mem_of_getElem? (i := 447) (by decide +kernel)⟩
theorem lw_p1 : lw_okq (⟨"ShoutedPrices", "gainOfAllMeetings", "()I"⟩, 12) := ⟨⟨by decide +kernel, by decide +kernel⟩, List.mem_of_getElem? (i := 16) (by decide +kernel), List.mem_of_getElem? (i := 466) (by decide +kernel), List.mem_of_getElem? (i := 467) (by decide +kernel)⟩
theorem lw_p2 : lw_okq (⟨"ShoutedPrices", "gainOfTelling", "(II)I"⟩, 12) := ⟨⟨by decide +kernel, by decide +kernel⟩, List.mem_of_getElem? (i := 16) (by decide +kernel), List.mem_of_getElem? (i := 475) (by decide +kernel), List.mem_of_getElem? (i := 476) (by decide +kernel)⟩
theorem lw_p3 : lw_okq (⟨"ShoutedPrices$Round", "playShouts", "(LShoutedPrices$Room;LShoutedPrices$Log;)V"⟩, 14) := ⟨⟨by decide +kernel, by decide +kernel⟩, List.mem_of_getElem? (i := 231) (by decide +kernel), List.mem_of_getElem? (i := 505) (by decide +kernel), List.mem_of_getElem? (i := 506) (by decide +kernel)⟩
theorem lw_p4 : lw_okq (⟨"ShoutedPrices$Round", "draw", "(II)I"⟩, 14) := ⟨⟨by decide +kernel, by decide +kernel⟩, List.mem_of_getElem? (i := 231) (by decide +kernel), List.mem_of_getElem? (i := 509) (by decide +kernel), List.mem_of_getElem? (i := 510) (by decide +kernel)⟩
theorem lw_p5 : lw_okq (⟨"ShoutedPrices$Round", "tells", "(LShoutedPrices$Room;III)I"⟩, 14) := ⟨⟨by decide +kernel, by decide +kernel⟩, List.mem_of_getElem? (i := 231) (by decide +kernel), List.mem_of_getElem? (i := 520) (by decide +kernel), List.mem_of_getElem? (i := 521) (by decide +kernel)⟩
theorem lw_p6 : lw_okq (⟨"ShoutedPrices$Round", "hearOffer", "(LShoutedPrices$Room;III)V"⟩, 14) := ⟨⟨by decide +kernel, by decide +kernel⟩, List.mem_of_getElem? (i := 231) (by decide +kernel), List.mem_of_getElem? (i := 548) (by decide +kernel), List.mem_of_getElem? (i := 549) (by decide +kernel)⟩
theorem lw_p7 : lw_okq (⟨"ShoutedPrices$Round", "trade", "(LShoutedPrices$Room;IIII)V"⟩, 14) := ⟨⟨by decide +kernel, by decide +kernel⟩, List.mem_of_getElem? (i := 231) (by decide +kernel), List.mem_of_getElem? (i := 552) (by decide +kernel), List.mem_of_getElem? (i := 553) (by decide +kernel)⟩
theorem lw_p8 : lw_okq (⟨"ShoutedPrices$Round", "hearBid", "(LShoutedPrices$Room;III)V"⟩, 14) := ⟨⟨by decide +kernel, by decide +kernel⟩, List.mem_of_getElem? (i := 231) (by decide +kernel), List.mem_of_getElem? (i := 558) (by decide +kernel), List.mem_of_getElem? (i := 559) (by decide +kernel)⟩
theorem lw_p9 : lw_okq (⟨"ShoutedPrices$Round", "playPairs", "(LShoutedPrices$Room;)V"⟩, 14) := ⟨⟨by decide +kernel, by decide +kernel⟩, List.mem_of_getElem? (i := 231) (by decide +kernel), List.mem_of_getElem? (i := 562) (by decide +kernel), List.mem_of_getElem? (i := 563) (by decide +kernel)⟩
theorem lw_p10 : lw_okq (⟨"ShoutedPrices$Round", "playPosted", "(LShoutedPrices$Room;)V"⟩, 14) := ⟨⟨by decide +kernel, by decide +kernel⟩, List.mem_of_getElem? (i := 231) (by decide +kernel), List.mem_of_getElem? (i := 566) (by decide +kernel), List.mem_of_getElem? (i := 567) (by decide +kernel)⟩
theorem lw_p11 : lw_okq (⟨"ShoutedPrices$Round", "cheapestLeft", "(LShoutedPrices$Room;)I"⟩, 14) := ⟨⟨by decide +kernel, by decide +kernel⟩, List.mem_of_getElem? (i := 231) (by decide +kernel), List.mem_of_getElem? (i := 570) (by decide +kernel), List.mem_of_getElem? (i := 571) (by decide +kernel)⟩
theorem lw_p12 : lw_okq (⟨"ShoutedPrices$Round", "playBell", "(LShoutedPrices$Room;)V"⟩, 14) := ⟨⟨by decide +kernel, by decide +kernel⟩, List.mem_of_getElem? (i := 231) (by decide +kernel), List.mem_of_getElem? (i := 574) (by decide +kernel), List.mem_of_getElem? (i := 575) (by decide +kernel)⟩
theorem lw_p13 : lw_okq (⟨"ShoutedPrices", "sumUp", "(II)V"⟩, 12) := ⟨⟨by decide +kernel, by decide +kernel⟩, List.mem_of_getElem? (i := 16) (by decide +kernel), List.mem_of_getElem? (i := 593) (by decide +kernel), List.mem_of_getElem? (i := 594) (by decide +kernel)⟩
theorem lw_p14 : lw_okq (⟨"ShoutedPrices", "bestBy", "(I)I"⟩, 12) := ⟨⟨by decide +kernel, by decide +kernel⟩, List.mem_of_getElem? (i := 16) (by decide +kernel), List.mem_of_getElem? (i := 601) (by decide +kernel), List.mem_of_getElem? (i := 602) (by decide +kernel)⟩
theorem lw_p15 : lw_okq (⟨"ShoutedPrices$Carriers", "offer", "(II)V"⟩, 2) := ⟨⟨by decide +kernel, by decide +kernel⟩, List.mem_of_getElem? (i := 286) (by decide +kernel), List.mem_of_getElem? (i := 646) (by decide +kernel), List.mem_of_getElem? (i := 647) (by decide +kernel)⟩
def lw_privs_1 : List (MethodName × Nat) := [(⟨"ShoutedPrices$Lines", "price", "(I)V"⟩, 6), (⟨"ShoutedPrices", "gainOfAllMeetings", "()I"⟩, 12), (⟨"ShoutedPrices", "gainOfTelling", "(II)I"⟩, 12), (⟨"ShoutedPrices$Round", "playShouts", "(LShoutedPrices$Room;LShoutedPrices$Log;)V"⟩, 14), (⟨"ShoutedPrices$Round", "draw", "(II)I"⟩, 14), (⟨"ShoutedPrices$Round", "tells", "(LShoutedPrices$Room;III)I"⟩, 14), (⟨"ShoutedPrices$Round", "hearOffer", "(LShoutedPrices$Room;III)V"⟩, 14), (⟨"ShoutedPrices$Round", "trade", "(LShoutedPrices$Room;IIII)V"⟩, 14), (⟨"ShoutedPrices$Round", "hearBid", "(LShoutedPrices$Room;III)V"⟩, 14), (⟨"ShoutedPrices$Round", "playPairs", "(LShoutedPrices$Room;)V"⟩, 14), (⟨"ShoutedPrices$Round", "playPosted", "(LShoutedPrices$Room;)V"⟩, 14), (⟨"ShoutedPrices$Round", "cheapestLeft", "(LShoutedPrices$Room;)I"⟩, 14), (⟨"ShoutedPrices$Round", "playBell", "(LShoutedPrices$Room;)V"⟩, 14), (⟨"ShoutedPrices", "sumUp", "(II)V"⟩, 12), (⟨"ShoutedPrices", "bestBy", "(I)I"⟩, 12), (⟨"ShoutedPrices$Carriers", "offer", "(II)V"⟩, 2)]
theorem lw_r1 : ∀ q ∈ lw_privs_1, lw_okq q := List.forall_mem_cons.mpr ⟨lw_p0, List.forall_mem_cons.mpr ⟨lw_p1, List.forall_mem_cons.mpr ⟨lw_p2, List.forall_mem_cons.mpr ⟨lw_p3, List.forall_mem_cons.mpr ⟨lw_p4, List.forall_mem_cons.mpr ⟨lw_p5, List.forall_mem_cons.mpr ⟨lw_p6, List.forall_mem_cons.mpr ⟨lw_p7, List.forall_mem_cons.mpr ⟨lw_p8, List.forall_mem_cons.mpr ⟨lw_p9, List.forall_mem_cons.mpr ⟨lw_p10, List.forall_mem_cons.mpr ⟨lw_p11, List.forall_mem_cons.mpr ⟨lw_p12, List.forall_mem_cons.mpr ⟨lw_p13, List.forall_mem_cons.mpr ⟨lw_p14, List.forall_mem_cons.mpr ⟨lw_p15, fun _ h => absurd h List.not_mem_nil⟩⟩⟩⟩⟩⟩⟩⟩⟩⟩⟩⟩⟩⟩⟩⟩
theorem lw_p16 : lw_okq (⟨"ShoutedPricesModel", "noRoom", "(I)V"⟩, 34) := ⟨⟨by decide +kernel, by decide +kernel⟩, List.mem_of_getElem? (i := 678) (by decide +kernel), List.mem_of_getElem? (i := 684) (by decide +kernel), List.mem_of_getElem? (i := 685) (by decide +kernel)⟩
theorem lw_p17 : lw_okq (⟨"ShoutedPricesModel", "readAll", "()I"⟩, 34) := ⟨⟨by decide +kernel, by decide +kernel⟩, List.mem_of_getElem? (i := 678) (by decide +kernel), List.mem_of_getElem? (i := 808) (by decide +kernel), List.mem_of_getElem? (i := 809) (by decide +kernel)⟩
theorem lw_p18 : lw_okq (⟨"ShoutedPricesModel", "item", "()Z"⟩, 34) := ⟨⟨by decide +kernel, by decide +kernel⟩, List.mem_of_getElem? (i := 678) (by decide +kernel), List.mem_of_getElem? (i := 812) (by decide +kernel), List.mem_of_getElem? (i := 813) (by decide +kernel)⟩
theorem lw_p19 : lw_okq (⟨"ShoutedPricesModel", "byteAt", "(I)I"⟩, 34) := ⟨⟨by decide +kernel, by decide +kernel⟩, List.mem_of_getElem? (i := 678) (by decide +kernel), List.mem_of_getElem? (i := 816) (by decide +kernel), List.mem_of_getElem? (i := 817) (by decide +kernel)⟩
theorem lw_p20 : lw_okq (⟨"ShoutedPricesModel", "personItem", "(I)Z"⟩, 34) := ⟨⟨by decide +kernel, by decide +kernel⟩, List.mem_of_getElem? (i := 678) (by decide +kernel), List.mem_of_getElem? (i := 820) (by decide +kernel), List.mem_of_getElem? (i := 821) (by decide +kernel)⟩
theorem lw_p21 : lw_okq (⟨"ShoutedPricesModel", "figures", "(I)Z"⟩, 34) := ⟨⟨by decide +kernel, by decide +kernel⟩, List.mem_of_getElem? (i := 678) (by decide +kernel), List.mem_of_getElem? (i := 824) (by decide +kernel), List.mem_of_getElem? (i := 825) (by decide +kernel)⟩
theorem lw_p22 : lw_okq (⟨"ShoutedPricesModel", "readMany", "(I)I"⟩, 34) := ⟨⟨by decide +kernel, by decide +kernel⟩, List.mem_of_getElem? (i := 678) (by decide +kernel), List.mem_of_getElem? (i := 831) (by decide +kernel), List.mem_of_getElem? (i := 832) (by decide +kernel)⟩
theorem lw_p23 : lw_okq (⟨"ShoutedPricesModel", "numberItem", "(III)Z"⟩, 34) := ⟨⟨by decide +kernel, by decide +kernel⟩, List.mem_of_getElem? (i := 678) (by decide +kernel), List.mem_of_getElem? (i := 835) (by decide +kernel), List.mem_of_getElem? (i := 836) (by decide +kernel)⟩
theorem lw_p24 : lw_okq (⟨"ShoutedPricesModel", "isPerson", "(I)Z"⟩, 34) := ⟨⟨by decide +kernel, by decide +kernel⟩, List.mem_of_getElem? (i := 678) (by decide +kernel), List.mem_of_getElem? (i := 847) (by decide +kernel), List.mem_of_getElem? (i := 848) (by decide +kernel)⟩
theorem lw_p25 : lw_okq (⟨"ShoutedPricesModel", "showTrue", "()V"⟩, 34) := ⟨⟨by decide +kernel, by decide +kernel⟩, List.mem_of_getElem? (i := 678) (by decide +kernel), List.mem_of_getElem? (i := 862) (by decide +kernel), List.mem_of_getElem? (i := 863) (by decide +kernel)⟩
theorem lw_p26 : lw_okq (⟨"ShoutedPricesModel", "layLines", "()V"⟩, 34) := ⟨⟨by decide +kernel, by decide +kernel⟩, List.mem_of_getElem? (i := 678) (by decide +kernel), List.mem_of_getElem? (i := 866) (by decide +kernel), List.mem_of_getElem? (i := 867) (by decide +kernel)⟩
theorem lw_p27 : lw_okq (⟨"ShoutedPricesModel", "quantity", "(I)I"⟩, 34) := ⟨⟨by decide +kernel, by decide +kernel⟩, List.mem_of_getElem? (i := 678) (by decide +kernel), List.mem_of_getElem? (i := 870) (by decide +kernel), List.mem_of_getElem? (i := 871) (by decide +kernel)⟩
theorem lw_p28 : lw_okq (⟨"ShoutedPricesModel", "worth", "(I)I"⟩, 34) := ⟨⟨by decide +kernel, by decide +kernel⟩, List.mem_of_getElem? (i := 678) (by decide +kernel), List.mem_of_getElem? (i := 874) (by decide +kernel), List.mem_of_getElem? (i := 875) (by decide +kernel)⟩
theorem lw_p29 : lw_okq (⟨"ShoutedPricesModel", "costs", "(I)I"⟩, 34) := ⟨⟨by decide +kernel, by decide +kernel⟩, List.mem_of_getElem? (i := 678) (by decide +kernel), List.mem_of_getElem? (i := 878) (by decide +kernel), List.mem_of_getElem? (i := 879) (by decide +kernel)⟩
theorem lw_p30 : lw_okq (⟨"ShoutedPricesModel", "gainOf", "(I)I"⟩, 34) := ⟨⟨by decide +kernel, by decide +kernel⟩, List.mem_of_getElem? (i := 678) (by decide +kernel), List.mem_of_getElem? (i := 882) (by decide +kernel), List.mem_of_getElem? (i := 883) (by decide +kernel)⟩
theorem lw_p31 : lw_okq (⟨"ShoutedPricesModel", "lowest", "(II)I"⟩, 34) := ⟨⟨by decide +kernel, by decide +kernel⟩, List.mem_of_getElem? (i := 678) (by decide +kernel), List.mem_of_getElem? (i := 886) (by decide +kernel), List.mem_of_getElem? (i := 887) (by decide +kernel)⟩
def lw_privs_2 : List (MethodName × Nat) := [(⟨"ShoutedPricesModel", "noRoom", "(I)V"⟩, 34), (⟨"ShoutedPricesModel", "readAll", "()I"⟩, 34), (⟨"ShoutedPricesModel", "item", "()Z"⟩, 34), (⟨"ShoutedPricesModel", "byteAt", "(I)I"⟩, 34), (⟨"ShoutedPricesModel", "personItem", "(I)Z"⟩, 34), (⟨"ShoutedPricesModel", "figures", "(I)Z"⟩, 34), (⟨"ShoutedPricesModel", "readMany", "(I)I"⟩, 34), (⟨"ShoutedPricesModel", "numberItem", "(III)Z"⟩, 34), (⟨"ShoutedPricesModel", "isPerson", "(I)Z"⟩, 34), (⟨"ShoutedPricesModel", "showTrue", "()V"⟩, 34), (⟨"ShoutedPricesModel", "layLines", "()V"⟩, 34), (⟨"ShoutedPricesModel", "quantity", "(I)I"⟩, 34), (⟨"ShoutedPricesModel", "worth", "(I)I"⟩, 34), (⟨"ShoutedPricesModel", "costs", "(I)I"⟩, 34), (⟨"ShoutedPricesModel", "gainOf", "(I)I"⟩, 34), (⟨"ShoutedPricesModel", "lowest", "(II)I"⟩, 34)]
theorem lw_r2 : ∀ q ∈ lw_privs_2, lw_okq q := List.forall_mem_cons.mpr ⟨lw_p16, List.forall_mem_cons.mpr ⟨lw_p17, List.forall_mem_cons.mpr ⟨lw_p18, List.forall_mem_cons.mpr ⟨lw_p19, List.forall_mem_cons.mpr ⟨lw_p20, List.forall_mem_cons.mpr ⟨lw_p21, List.forall_mem_cons.mpr ⟨lw_p22, List.forall_mem_cons.mpr ⟨lw_p23, List.forall_mem_cons.mpr ⟨lw_p24, List.forall_mem_cons.mpr ⟨lw_p25, List.forall_mem_cons.mpr ⟨lw_p26, List.forall_mem_cons.mpr ⟨lw_p27, List.forall_mem_cons.mpr ⟨lw_p28, List.forall_mem_cons.mpr ⟨lw_p29, List.forall_mem_cons.mpr ⟨lw_p30, List.forall_mem_cons.mpr ⟨lw_p31, fun _ h => absurd h List.not_mem_nil⟩⟩⟩⟩⟩⟩⟩⟩⟩⟩⟩⟩⟩⟩⟩⟩
theorem lw_p32 : lw_okq (⟨"ShoutedPricesModel", "highest", "(II)I"⟩, 34) := ⟨⟨by decide +kernel, by decide +kernel⟩, List.mem_of_getElem? (i := 678) (by decide +kernel), List.mem_of_getElem? (i := 890) (by decide +kernel), List.mem_of_getElem? (i := 891) (by decide +kernel)⟩
theorem lw_p33 : lw_okq (⟨"ShoutedPricesModel", "manyOf", "(I)I"⟩, 34) := ⟨⟨by decide +kernel, by decide +kernel⟩, List.mem_of_getElem? (i := 678) (by decide +kernel), List.mem_of_getElem? (i := 903) (by decide +kernel), List.mem_of_getElem? (i := 904) (by decide +kernel)⟩
theorem lw_p34 : lw_okq (⟨"ShoutedPricesModel", "bellOf", "(II)I"⟩, 34) := ⟨⟨by decide +kernel, by decide +kernel⟩, List.mem_of_getElem? (i := 678) (by decide +kernel), List.mem_of_getElem? (i := 915) (by decide +kernel), List.mem_of_getElem? (i := 916) (by decide +kernel)⟩
theorem lw_p35 : lw_okq (⟨"ShoutedPricesModel", "isFirst", "(II)Z"⟩, 34) := ⟨⟨by decide +kernel, by decide +kernel⟩, List.mem_of_getElem? (i := 678) (by decide +kernel), List.mem_of_getElem? (i := 919) (by decide +kernel), List.mem_of_getElem? (i := 920) (by decide +kernel)⟩
theorem lw_p36 : lw_okq (⟨"ShoutedPricesModel", "goRound", "(IIZ)V"⟩, 34) := ⟨⟨by decide +kernel, by decide +kernel⟩, List.mem_of_getElem? (i := 678) (by decide +kernel), List.mem_of_getElem? (i := 935) (by decide +kernel), List.mem_of_getElem? (i := 936) (by decide +kernel)⟩
theorem lw_p37 : lw_okq (⟨"ShoutedPricesModel", "goShouts", "()V"⟩, 34) := ⟨⟨by decide +kernel, by decide +kernel⟩, List.mem_of_getElem? (i := 678) (by decide +kernel), List.mem_of_getElem? (i := 939) (by decide +kernel), List.mem_of_getElem? (i := 940) (by decide +kernel)⟩
theorem lw_p38 : lw_okq (⟨"ShoutedPricesModel", "draw", "(II)I"⟩, 34) := ⟨⟨by decide +kernel, by decide +kernel⟩, List.mem_of_getElem? (i := 678) (by decide +kernel), List.mem_of_getElem? (i := 943) (by decide +kernel), List.mem_of_getElem? (i := 944) (by decide +kernel)⟩
theorem lw_p39 : lw_okq (⟨"ShoutedPricesModel", "shoutOf", "(IIII)I"⟩, 34) := ⟨⟨by decide +kernel, by decide +kernel⟩, List.mem_of_getElem? (i := 678) (by decide +kernel), List.mem_of_getElem? (i := 951) (by decide +kernel), List.mem_of_getElem? (i := 952) (by decide +kernel)⟩
theorem lw_p40 : lw_okq (⟨"ShoutedPricesModel", "shoutBy", "(IIIIII)I"⟩, 34) := ⟨⟨by decide +kernel, by decide +kernel⟩, List.mem_of_getElem? (i := 678) (by decide +kernel), List.mem_of_getElem? (i := 955) (by decide +kernel), List.mem_of_getElem? (i := 956) (by decide +kernel)⟩
theorem lw_p41 : lw_okq (⟨"ShoutedPricesModel", "note", "(III)V"⟩, 34) := ⟨⟨by decide +kernel, by decide +kernel⟩, List.mem_of_getElem? (i := 678) (by decide +kernel), List.mem_of_getElem? (i := 959) (by decide +kernel), List.mem_of_getElem? (i := 960) (by decide +kernel)⟩
theorem lw_p42 : lw_okq (⟨"ShoutedPricesModel", "trade", "(IIII)V"⟩, 34) := ⟨⟨by decide +kernel, by decide +kernel⟩, List.mem_of_getElem? (i := 678) (by decide +kernel), List.mem_of_getElem? (i := 963) (by decide +kernel), List.mem_of_getElem? (i := 964) (by decide +kernel)⟩
theorem lw_p43 : lw_okq (⟨"ShoutedPricesModel", "goPairs", "()V"⟩, 34) := ⟨⟨by decide +kernel, by decide +kernel⟩, List.mem_of_getElem? (i := 678) (by decide +kernel), List.mem_of_getElem? (i := 967) (by decide +kernel), List.mem_of_getElem? (i := 968) (by decide +kernel)⟩
theorem lw_p44 : lw_okq (⟨"ShoutedPricesModel", "personOf", "(II)I"⟩, 34) := ⟨⟨by decide +kernel, by decide +kernel⟩, List.mem_of_getElem? (i := 678) (by decide +kernel), List.mem_of_getElem? (i := 971) (by decide +kernel), List.mem_of_getElem? (i := 972) (by decide +kernel)⟩
theorem lw_p45 : lw_okq (⟨"ShoutedPricesModel", "goPosted", "()V"⟩, 34) := ⟨⟨by decide +kernel, by decide +kernel⟩, List.mem_of_getElem? (i := 678) (by decide +kernel), List.mem_of_getElem? (i := 975) (by decide +kernel), List.mem_of_getElem? (i := 976) (by decide +kernel)⟩
theorem lw_p46 : lw_okq (⟨"ShoutedPricesModel", "goBell", "()V"⟩, 34) := ⟨⟨by decide +kernel, by decide +kernel⟩, List.mem_of_getElem? (i := 678) (by decide +kernel), List.mem_of_getElem? (i := 979) (by decide +kernel), List.mem_of_getElem? (i := 980) (by decide +kernel)⟩
theorem lw_p47 : lw_okq (⟨"ShoutedPricesModel", "layMeans", "(II)V"⟩, 34) := ⟨⟨by decide +kernel, by decide +kernel⟩, List.mem_of_getElem? (i := 678) (by decide +kernel), List.mem_of_getElem? (i := 991) (by decide +kernel), List.mem_of_getElem? (i := 992) (by decide +kernel)⟩
def lw_privs_3 : List (MethodName × Nat) := [(⟨"ShoutedPricesModel", "highest", "(II)I"⟩, 34), (⟨"ShoutedPricesModel", "manyOf", "(I)I"⟩, 34), (⟨"ShoutedPricesModel", "bellOf", "(II)I"⟩, 34), (⟨"ShoutedPricesModel", "isFirst", "(II)Z"⟩, 34), (⟨"ShoutedPricesModel", "goRound", "(IIZ)V"⟩, 34), (⟨"ShoutedPricesModel", "goShouts", "()V"⟩, 34), (⟨"ShoutedPricesModel", "draw", "(II)I"⟩, 34), (⟨"ShoutedPricesModel", "shoutOf", "(IIII)I"⟩, 34), (⟨"ShoutedPricesModel", "shoutBy", "(IIIIII)I"⟩, 34), (⟨"ShoutedPricesModel", "note", "(III)V"⟩, 34), (⟨"ShoutedPricesModel", "trade", "(IIII)V"⟩, 34), (⟨"ShoutedPricesModel", "goPairs", "()V"⟩, 34), (⟨"ShoutedPricesModel", "personOf", "(II)I"⟩, 34), (⟨"ShoutedPricesModel", "goPosted", "()V"⟩, 34), (⟨"ShoutedPricesModel", "goBell", "()V"⟩, 34), (⟨"ShoutedPricesModel", "layMeans", "(II)V"⟩, 34)]
theorem lw_r3 : ∀ q ∈ lw_privs_3, lw_okq q := List.forall_mem_cons.mpr ⟨lw_p32, List.forall_mem_cons.mpr ⟨lw_p33, List.forall_mem_cons.mpr ⟨lw_p34, List.forall_mem_cons.mpr ⟨lw_p35, List.forall_mem_cons.mpr ⟨lw_p36, List.forall_mem_cons.mpr ⟨lw_p37, List.forall_mem_cons.mpr ⟨lw_p38, List.forall_mem_cons.mpr ⟨lw_p39, List.forall_mem_cons.mpr ⟨lw_p40, List.forall_mem_cons.mpr ⟨lw_p41, List.forall_mem_cons.mpr ⟨lw_p42, List.forall_mem_cons.mpr ⟨lw_p43, List.forall_mem_cons.mpr ⟨lw_p44, List.forall_mem_cons.mpr ⟨lw_p45, List.forall_mem_cons.mpr ⟨lw_p46, List.forall_mem_cons.mpr ⟨lw_p47, fun _ h => absurd h List.not_mem_nil⟩⟩⟩⟩⟩⟩⟩⟩⟩⟩⟩⟩⟩⟩⟩⟩
theorem lw_p48 : lw_okq (⟨"ShoutedPricesModel", "bestBy", "(I)I"⟩, 34) := ⟨⟨by decide +kernel, by decide +kernel⟩, List.mem_of_getElem? (i := 678) (by decide +kernel), List.mem_of_getElem? (i := 999) (by decide +kernel), List.mem_of_getElem? (i := 1000) (by decide +kernel)⟩
theorem lw_p49 : lw_okq (⟨"ShoutedPricesModel", "knownOf", "(I)I"⟩, 34) := ⟨⟨by decide +kernel, by decide +kernel⟩, List.mem_of_getElem? (i := 678) (by decide +kernel), List.mem_of_getElem? (i := 1011) (by decide +kernel), List.mem_of_getElem? (i := 1012) (by decide +kernel)⟩
theorem lw_p50 : lw_okq (⟨"ShoutedPricesModel", "mayBe", "(II)Z"⟩, 34) := ⟨⟨by decide +kernel, by decide +kernel⟩, List.mem_of_getElem? (i := 678) (by decide +kernel), List.mem_of_getElem? (i := 1023) (by decide +kernel), List.mem_of_getElem? (i := 1024) (by decide +kernel)⟩
theorem lw_p51 : lw_okq (⟨"ShoutedPricesModel", "layRooms", "(I)V"⟩, 34) := ⟨⟨by decide +kernel, by decide +kernel⟩, List.mem_of_getElem? (i := 678) (by decide +kernel), List.mem_of_getElem? (i := 1031) (by decide +kernel), List.mem_of_getElem? (i := 1032) (by decide +kernel)⟩
theorem lw_p52 : lw_okq (⟨"ShoutedPricesModel", "carried", "(II)I"⟩, 34) := ⟨⟨by decide +kernel, by decide +kernel⟩, List.mem_of_getElem? (i := 678) (by decide +kernel), List.mem_of_getElem? (i := 1035) (by decide +kernel), List.mem_of_getElem? (i := 1036) (by decide +kernel)⟩
theorem lw_p53 : lw_okq (⟨"ShoutedPricesModel", "copyLog", "(II)V"⟩, 34) := ⟨⟨by decide +kernel, by decide +kernel⟩, List.mem_of_getElem? (i := 678) (by decide +kernel), List.mem_of_getElem? (i := 1043) (by decide +kernel), List.mem_of_getElem? (i := 1044) (by decide +kernel)⟩
def lw_privs_4 : List (MethodName × Nat) := [(⟨"ShoutedPricesModel", "bestBy", "(I)I"⟩, 34), (⟨"ShoutedPricesModel", "knownOf", "(I)I"⟩, 34), (⟨"ShoutedPricesModel", "mayBe", "(II)Z"⟩, 34), (⟨"ShoutedPricesModel", "layRooms", "(I)V"⟩, 34), (⟨"ShoutedPricesModel", "carried", "(II)I"⟩, 34), (⟨"ShoutedPricesModel", "copyLog", "(II)V"⟩, 34)]
theorem lw_r4 : ∀ q ∈ lw_privs_4, lw_okq q := List.forall_mem_cons.mpr ⟨lw_p48, List.forall_mem_cons.mpr ⟨lw_p49, List.forall_mem_cons.mpr ⟨lw_p50, List.forall_mem_cons.mpr ⟨lw_p51, List.forall_mem_cons.mpr ⟨lw_p52, List.forall_mem_cons.mpr ⟨lw_p53, fun _ h => absurd h List.not_mem_nil⟩⟩⟩⟩⟩⟩
def lw_privs : List (MethodName × Nat) := lw_privs_1 ++ (lw_privs_2 ++ (lw_privs_3 ++ (lw_privs_4)))
def lw_tbl : List Cond := k2_sels lw_privs ++ tables_1
theorem lw_privs_ok : ∀ q ∈ lw_privs, lw_okq q := by
  show ∀ q ∈ lw_privs_1 ++ (lw_privs_2 ++ (lw_privs_3 ++ (lw_privs_4))), lw_okq q
  exact List.forall_mem_append.mpr ⟨lw_r1, List.forall_mem_append.mpr ⟨lw_r2, List.forall_mem_append.mpr ⟨lw_r3, lw_r4⟩⟩⟩
def va_AOA (ty : FieldType) (U : State) : Prop := (Cond.arrayOver (.array ty)).before #[] U = true
theorem va_AOA.of {ty : FieldType} {A : Array Value} {U : State} (h : (Cond.arrayOver (.array ty)).before A U = true) : va_AOA ty U := h
theorem va_AOA.use {ty : FieldType} {A : Array Value} {U : State} (h : va_AOA ty U) : (Cond.arrayOver (.array ty)).before A U = true := h
/-! ===== BEGIN words of one list among another's, by their places ===== -/
theorem goodIn_r {big : List Cond} (ws : List Cond) (ps : List Nat) (hp : ws = ps.filterMap (fun i => big[i]?)) (h : ws.all goodWord = true) : GoodIn big ws := by
  intro w hw
  have h1 := List.all_eq_true.mp h w hw
  rw [hp] at hw
  obtain ⟨i, -, hi⟩ := List.mem_filterMap.mp hw
  have hm : w ∈ big := by first | exact List.mem_of_getElem? hi | exact List.getElem?_mem hi
  exact ⟨hm, good_of_word h1⟩
theorem goodIn_app {big a b : List Cond} (ha : GoodIn big a) (hb : GoodIn big b) : GoodIn big (a ++ b) := fun w h => (List.mem_append.mp h).elim (ha w) (hb w)
theorem goodIn_ca {big a b : List Cond} {c : Cond} (ha : GoodIn big (c :: a)) (hb : GoodIn big b) : GoodIn big (c :: (a ++ b)) := fun w h => (List.mem_cons.mp h).elim (fun e => ha w (List.mem_cons.mpr (Or.inl e))) (fun h => (List.mem_append.mp h).elim (fun h => ha w (List.mem_cons.mpr (Or.inr h))) (hb w))
theorem goodIn_sub {big ws : List Cond} (hm : ∀ w ∈ ws, w ∈ big) (h : ws.all goodWord = true) : GoodIn big ws := fun w hw => ⟨hm w hw, good_of_word (List.all_eq_true.mp h w hw)⟩
/-! ===== END ===== -/

/-! ===== BEGIN new T[n][m]: the outer array a place, the inner ones among the pooled ===== -/
/-- f, but v at every address of l -/
def vr_up {α : Type} (f : Nat → α) (l : List Nat) (v : α) : Nat → α := fun a => if a ∈ l then v else f a
theorem vr_up_in {α : Type} {f : Nat → α} {l : List Nat} {v : α} {a : Nat} (h : a ∈ l) : vr_up f l v a = v := if_pos h
theorem vr_up_ne {α : Type} {f : Nat → α} {l : List Nat} {v : α} {a : Nat} (h : a ∉ l) : vr_up f l v a = f a := if_neg h
theorem vr_rows {L l : List Nat} {f : Nat → va_E} {e : va_E} (h : ∀ a, a ∈ l → a ∉ L) : va_pl L f ++ l.map (fun a => (a, e)) = va_pl (L ++ l) (vr_up f l e) := by
  unfold va_pl
  rw [List.map_append]
  congr 1
  · apply List.map_congr_left
    intro a ha
    rw [vr_up_ne (fun q => h a q ha)]
  · apply List.map_congr_left
    intro a ha
    rw [vr_up_in ha]
theorem vr_lay {X rows : va_W} {x : Nat × va_E} {pl : va_W} {D : va_G} {cl : List vw_C} {H : Heap} (hP : va_P D cl (((X ++ pl) ++ [x]) ++ rows) H) : va_P D cl ((X ++ [x]) ++ (pl ++ rows)) H := by
  rw [List.append_assoc (X ++ pl)] at hP
  have h := va_P.swap hP
  rw [← List.append_assoc X] at h
  have h2 := va_P.swap h
  rw [List.append_assoc (X ++ [x])] at h2
  exact h2
theorem vr_layD {X rows : va_W} {x : Nat × va_E} {pl : va_W} {A : Nat → Prop} (hD : va_D A (((X ++ pl) ++ [x]) ++ rows)) : va_D A ((X ++ [x]) ++ (pl ++ rows)) := by
  rw [List.append_assoc (X ++ pl)] at hD
  have h := va_D.swap hD
  rw [← List.append_assoc X] at h
  have h2 := va_D.swap h
  rw [List.append_assoc (X ++ [x])] at h2
  exact h2
theorem vr_outer (c : ClassId) (N h0 : Nat) : ∀ i : Nat, Jvm.Free.Multi.outerC c N h0 i = arrV c N (fun j => va_rf (if j < i then some (h0 + 1 + j) else none))
  | 0 => by
    show ({ cls := c, slots := Array.replicate N .null, vm := .none } : Cell) = _
    rw [arrV_new]
    refine congrArg (arrV c N) (funext fun j => ?_)
    simp [va_rf]
  | i + 1 => by
    show (Jvm.Free.Multi.outerC c N h0 i).setSlot i (.ref (h0 + 1 + i)) = _
    rw [vr_outer c N h0 i, arrV_store]
    refine congrArg (arrV c N) (funext fun j => ?_)
    by_cases e : j = i
    · subst e
      simp [updV, va_rf]
    · by_cases h : j < i
      · simp [updV, e, h, Nat.lt_succ_of_lt h]
      · simp [updV, e, h, show ¬ j < i + 1 by omega]
section VGM
variable {p : Program} {l : Launch} {e : Env} {R : Room} {s : State} {m : MethodId} {args : Array Value} {below : List Frame} {meth : Method} {c : Code} {H : Heap} {locs : List Loc} {cells slots : Nat} {Q : State → Prop}
variable {cc : ByteArray} {pc : Nat} {ls : Array Slot} {rest : List Value} {D : va_G} {cl : List vw_C} {A : Nat → Prop} {a : Nat} {tys : List (ClassId × FieldType)} {ws : va_W} {H0 : Heap}
theorem va_mna {X : va_W} {L : List Nat} {f : Nat → va_E} {cc : ByteArray} (hexec : p.tables.exec = Jvm.exec) (hb : c.code = cc) {own : String} {index : Nat} {ty : FieldType} {cy : ClassId} (hown : s.vm.findClass own = some m.cls) (hclink : (Cond.classLink own index ("[" ++ (FieldType.array ty).toString)).before args s = true) (hover : va_AOA ty s) (harr : (Cond.arrayClass ty).before args s = true) (hcy : s.vm.findClass (FieldType.array ty).toString = some cy)
    (hK : va_K D cl tys s) (hP : va_P D cl (X ++ va_pl L f) H) (hD : va_D A (X ++ va_pl L f)) (hS : va_S A H0 H locs) (hA : ∀ q, H0.size ≤ q → A q) {n k : Int32} {N' K' : Nat} {z : vp_A} (hn : ¬ n < 0) (hk : ¬ k < 0) (hN : n.toNatClampNeg = N') (hM : k.toNatClampNeg = K')
    (hb1 : N' * 4 ≤ 536870912) (hb2 : K' * componentBytes ty ≤ 536870912) (hb3 : K' ≤ 536870912) (hdf : fits ty (defaultValue ty) = true) (hdd : (defaultValue ty).isDefault = true) (hcells : cells + (1 + N') ≤ R.cells) (hslots : slots + (N' + N' * K') ≤ R.slots) (hz : ∀ c : ClassId, Jvm.Free.Multi.innerC c K' (defaultValue ty) = vp_cell c z) (hdg : decode cc pc = .ok (.multianewarray index 2, 4))
    (kk : ∀ (q : Nat) (r : Nat → Nat) (cA : ClassId) (H1 : Heap), (∀ i j : Nat, i < N' → j < N' → r i = r j → i = j) → (∀ i : Nat, i < N' → r i ∉ L) → va_K D cl (tys ++ [(cA, .array ty)]) s →
      va_P D cl ((X ++ [(q, .inl (cA, N', .inr (.inr (.inr (.inr (fun i => if i < N' then some (r i) else none))))))]) ++ va_pl (L ++ (List.range N').map r) (vr_up f ((List.range N').map r) (.inl (cy, z)))) H1 → va_D A ((X ++ [(q, .inl (cA, N', .inr (.inr (.inr (.inr (fun i => if i < N' then some (r i) else none))))))]) ++ va_pl (L ++ (List.range N').map r) (vr_up f ((List.range N').map r) (.inl (cy, z)))) → va_S A H0 H1 locs →
      W p l e R s m args below meth c H1 locs (cells + 1 + N') (slots + N' + N' * K') Q (F0 m (pc + 4) ls (.ref q :: rest))) : W p l e R s m args below meth c H locs cells slots Q (F0 m pc ls (.int k :: .int n :: rest)) := by
  subst hN
  subst hM
  intro T hT Xs
  obtain ⟨vm₁, cA, comp, -, fA, fC, hO, -, X', step⟩ := Xs.multianewarray2F hexec hown hclink (va_AOA.use hover) harr (g := F0 m pc ls (.int k :: .int n :: rest)) rfl (by rw [hb]; exact hdg) rfl hn hk hb1 hb2 hb3 hdf hdd hcells hslots
  have ec : some cy = some comp := hcy.symm.trans fC
  cases ec
  generalize hF : Jvm.Free.Multi.fill (T.setVm vm₁) cA cy n.toNatClampNeg k.toNatClampNeg (defaultValue ty) n.toNatClampNeg = F at X' step
  have hTh : (T.setVm vm₁).heap = H := hT
  obtain ⟨f1, f2, -, -⟩ := Jvm.Free.Multi.fill_facts (T.setVm vm₁) cA cy n.toNatClampNeg k.toNatClampNeg (defaultValue ty) n.toNatClampNeg
  rw [hF, hTh] at f1 f2
  have hold : ∀ x : Nat, x < H.size → F.heap[x]? = H[x]? := fun x hx => by
    have := Jvm.Free.Multi.fill_old (T.setVm vm₁) cA cy n.toNatClampNeg k.toNatClampNeg (defaultValue ty) (a := x) (by rw [hTh]; exact hx) n.toNatClampNeg
    rw [hF, hTh] at this
    exact this
  have hrow : ∀ j : Nat, j < n.toNatClampNeg → F.heap[H.size + 1 + j]? = some (vp_cell cy z) := fun j hj => by
    have := Jvm.Free.Multi.fill_inner (T.setVm vm₁) cA cy n.toNatClampNeg k.toNatClampNeg (defaultValue ty) n.toNatClampNeg j hj
    rw [hF, hTh, hz] at this
    exact this
  have hout : Jvm.Free.Multi.outerC cA n.toNatClampNeg H.size n.toNatClampNeg = vp_cell cA (n.toNatClampNeg, .inr (.inr (.inr (.inr (fun i => if i < n.toNatClampNeg then some (H.size + 1 + i) else none))))) := by
    rw [vp_cell_q]
    exact vr_outer cA n.toNatClampNeg H.size n.toNatClampNeg
  rw [hout] at f2
  have hlt : ∀ a, a ∈ L → a < H.size := fun a ha => by
    obtain ⟨k9, hk9⟩ := va_pl_get (X := X) (f := f) ha
    exact (hP k9 _ hk9).lt
  have hnl : ∀ i : Nat, i < n.toNatClampNeg → H.size + 1 + i ∉ L := fun i _ h => by
    have := hlt _ h
    omega
  have hnm : ∀ a, a ∈ (List.range n.toNatClampNeg).map (fun i => H.size + 1 + i) → a ∉ L := fun a ha h => by
    obtain ⟨i, -, rfl⟩ := List.mem_map.mp ha
    have := hlt _ h
    omega
  have hP0 : va_P D cl (X ++ va_pl L f) F.heap := hP.kept (fun k9 x hx => hold x.1 ((hP k9 x hx).lt))
  have hP1 : va_P D cl ((X ++ va_pl L f) ++ [(H.size, .inl (cA, n.toNatClampNeg, .inr (.inr (.inr (.inr (fun i => if i < n.toNatClampNeg then some (H.size + 1 + i) else none))))))]) F.heap := hP0.app (fun k9 x hx => by
    have h0 : k9 < 1 := (List.getElem?_eq_some_iff.mp hx).1
    rw [show k9 = 0 by omega] at hx
    cases hx
    exact f2)
  have hP2 : va_P D cl (((X ++ va_pl L f) ++ [(H.size, .inl (cA, n.toNatClampNeg, .inr (.inr (.inr (.inr (fun i => if i < n.toNatClampNeg then some (H.size + 1 + i) else none))))))]) ++ ((List.range n.toNatClampNeg).map (fun i => H.size + 1 + i)).map (fun a => (a, .inl (cy, z)))) F.heap := hP1.app (fun k9 x hx => by
    obtain ⟨a, ha, rfl⟩ := List.mem_map.mp (List.mem_of_getElem? hx)
    obtain ⟨i, hi, rfl⟩ := List.mem_map.mp ha
    exact hrow i (List.mem_range.mp hi))
  have hD2 : va_D A (((X ++ va_pl L f) ++ [(H.size, .inl (cA, n.toNatClampNeg, .inr (.inr (.inr (.inr (fun i => if i < n.toNatClampNeg then some (H.size + 1 + i) else none))))))]) ++ ((List.range n.toNatClampNeg).map (fun i => H.size + 1 + i)).map (fun a => (a, .inl (cy, z)))) := by
    have hD1 := hD.push (e := .inl (cA, n.toNatClampNeg, .inr (.inr (.inr (.inr (fun i => if i < n.toNatClampNeg then some (H.size + 1 + i) else none)))))) hP rfl (hA _ hS.1)
    generalize hW1 : (X ++ va_pl L f) ++ [(H.size, .inl (cA, n.toNatClampNeg, .inr (.inr (.inr (.inr (fun i => if i < n.toNatClampNeg then some (H.size + 1 + i) else none))))))] = W1 at hD1 hP1 ⊢
    have hle : ∀ (k9 : Nat) (x : Nat × va_E), W1[k9]? = some x → x.1 ≤ H.size := fun k9 x hx => by
      rw [← hW1] at hx
      by_cases hl : k9 < (X ++ va_pl L f).length
      · rw [List.getElem?_append_left hl] at hx
        exact Nat.le_of_lt ((hP k9 x hx).lt)
      · rw [List.getElem?_append_right (by omega)] at hx
        have h0 : k9 - (X ++ va_pl L f).length < 1 := (List.getElem?_eq_some_iff.mp hx).1
        rw [show k9 - (X ++ va_pl L f).length = 0 by omega] at hx
        cases hx
        exact Nat.le_refl _
    have hr : ∀ (k9 : Nat) (x : Nat × va_E), (((List.range n.toNatClampNeg).map (fun i => H.size + 1 + i)).map (fun a => ((a, .inl (cy, z)) : Nat × va_E)))[k9]? = some x → x.1 = H.size + 1 + k9 := fun k9 x hx => by
      rw [List.getElem?_map, List.getElem?_map] at hx
      by_cases h9 : k9 < n.toNatClampNeg
      · rw [List.getElem?_range h9] at hx
        cases hx
        rfl
      · have hn0 : (List.range n.toNatClampNeg)[k9]? = none := List.getElem?_eq_none (by rw [List.length_range]; omega)
        rw [hn0] at hx
        cases hx
    refine ⟨fun i j x y hi hj hxy => ?_, fun k9 x hx => ?_⟩
    · by_cases h1 : i < W1.length <;> by_cases h2 : j < W1.length
      · rw [List.getElem?_append_left h1] at hi
        rw [List.getElem?_append_left h2] at hj
        exact hD1.1 i j x y hi hj hxy
      · rw [List.getElem?_append_left h1] at hi
        rw [List.getElem?_append_right (by omega)] at hj
        have := hle _ _ hi
        have := hr _ _ hj
        omega
      · rw [List.getElem?_append_right (by omega)] at hi
        rw [List.getElem?_append_left h2] at hj
        have := hle _ _ hj
        have := hr _ _ hi
        omega
      · rw [List.getElem?_append_right (by omega)] at hi hj
        have := hr _ _ hi
        have := hr _ _ hj
        omega
    · by_cases h1 : k9 < W1.length
      · rw [List.getElem?_append_left h1] at hx
        exact hD1.2 k9 x hx
      · rw [List.getElem?_append_right (by omega)] at hx
        have := hr _ _ hx
        exact hA _ (by have := hS.1; omega)
  have hAr : ArrOfT s cA (.array ty) := fun N9 z9 => by
    obtain ⟨-, k9, hk9, cm9, hkk9⟩ := (hO 0 0 0).1
    exact ⟨(fun q hq => by cases hq), k9, hk9, cm9, hkk9⟩
  have hK2 : va_K D cl (tys ++ [(cA, .array ty)]) s := ⟨hK.1, fun k9 x hx => by
    by_cases hl : k9 < tys.length
    · rw [List.getElem?_append_left hl] at hx
      exact hK.2 k9 x hx
    · rw [List.getElem?_append_right (by omega)] at hx
      have h0 : k9 - tys.length < 1 := (List.getElem?_eq_some_iff.mp hx).1
      rw [show k9 - tys.length = 0 by omega] at hx
      cases hx
      exact ⟨hAr, fA⟩⟩
  obtain ⟨t, a1, b1⟩ := kk H.size (fun i => H.size + 1 + i) cA F.heap (fun i j _ _ h => by have h9 : H.size + 1 + i = H.size + 1 + j := h; omega) hnl hK2 (by rw [← vr_rows hnm]; exact vr_lay hP2) (by rw [← vr_rows hnm]; exact vr_layD hD2) ⟨by rw [f1]; have := hS.1; omega, fun x h1 h2 => (hold x (Nat.lt_of_lt_of_le h1 hS.1)).trans (hS.2.1 x h1 h2), hS.2.2⟩ F rfl X'
  refine ⟨t, step t ?_, b1⟩
  have e : T.heap.size = H.size := by rw [hT]
  rw [e]
  exact a1
end VGM
/-! ===== END ===== -/

/-! ===== BEGIN printed: names, fields, word lists, decode rows ===== -/
def RX0 : String := "ShoutedPrices$Carriers"
def TX0 : u_T := fun k => match k with
  | 0 => ("ShoutedPrices$Carriers", "gain", "I", false)
  | _ => ("ShoutedPrices$Carriers", "carried", "I", false)
def tyX0 : Nat → FieldType := fun k => match k with
  | 0 => .int
  | _ => .int
abbrev wsX00 : List Cond := u_ws RX0 TX0 2
theorem nmX0 : ∀ a, a < 2 → ∀ b, b < 2 → a ≠ b → (TX0 a).2.1 ≠ (TX0 b).2.1 := by decide +kernel
theorem tyX0_ok : ∀ k, k < 2 → parseFieldDescriptor (TX0 k).2.2.1 = some (tyX0 k) := by decide +kernel
abbrev cX0_init : ByteArray := prog_2_method_1_code
def yX0_init : MethodName := ⟨RX0, "<init>", "()V"⟩
abbrev cX0_choose : ByteArray := prog_2_method_2_code
def yX0_choose : MethodName := ⟨RX0, "choose", "(LShoutedPrices$Lines;LShoutedPrices$Lines;I)V"⟩
abbrev cX0_offer : ByteArray := prog_2_method_3_code
def yX0_offer : MethodName := ⟨RX0, "offer", "(II)V"⟩
def RX1 : String := "ShoutedPrices$Kept"
def TX1 : u_T := fun k => match k with
  | 0 => ("ShoutedPrices$Kept", "law", "[I", true)
  | _ => ("ShoutedPrices$Kept", "log", "LShoutedPrices$Log;", true)
def tyX1 : Nat → FieldType := fun k => match k with
  | 0 => .array .int
  | _ => .object "ShoutedPrices$Log"
abbrev wsX10 : List Cond := u_ws RX1 TX1 2
theorem nmX1 : ∀ a, a < 2 → ∀ b, b < 2 → a ≠ b → (TX1 a).2.1 ≠ (TX1 b).2.1 := by decide +kernel
theorem tyX1_ok : ∀ k, k < 2 → parseFieldDescriptor (TX1 k).2.2.1 = some (tyX1 k) := by decide +kernel
abbrev cX1_init : ByteArray := prog_3_method_1_code
def yX1_init : MethodName := ⟨RX1, "<init>", "()V"⟩
abbrev cX1_hold : ByteArray := prog_3_method_2_code
def yX1_hold : MethodName := ⟨RX1, "hold", "(LShoutedPrices$Room;LShoutedPrices$Log;)V"⟩
abbrev cX1_giveBack : ByteArray := prog_3_method_3_code
def yX1_giveBack : MethodName := ⟨RX1, "giveBack", "(LShoutedPrices$Room;LShoutedPrices$Log;)V"⟩
def RX2 : String := "ShoutedPrices$Line"
def TX2 : u_T := fun k => match k with
  | 0 => ("ShoutedPrices$Line", "rising", "Z", true)
  | 1 => ("ShoutedPrices$Line", "whose", "[I", true)
  | 2 => ("ShoutedPrices$Line", "card", "[I", true)
  | _ => ("ShoutedPrices$Line", "size", "I", false)
def tyX2 : Nat → FieldType := fun k => match k with
  | 0 => .boolean
  | 1 => .array .int
  | 2 => .array .int
  | _ => .int
abbrev wsX20 : List Cond := u_ws RX2 TX2 4
theorem nmX2 : ∀ a, a < 4 → ∀ b, b < 4 → a ≠ b → (TX2 a).2.1 ≠ (TX2 b).2.1 := by decide +kernel
theorem tyX2_ok : ∀ k, k < 4 → parseFieldDescriptor (TX2 k).2.2.1 = some (tyX2 k) := by decide +kernel
abbrev cX2_init : ByteArray := prog_4_method_1_code
def yX2_init : MethodName := ⟨RX2, "<init>", "(Z)V"⟩
abbrev cX2_add : ByteArray := prog_4_method_2_code
def yX2_add : MethodName := ⟨RX2, "add", "(II)V"⟩
abbrev cX2_ahead : ByteArray := prog_4_method_3_code
def yX2_ahead : MethodName := ⟨RX2, "ahead", "(I)I"⟩
abbrev cX2_sum : ByteArray := prog_4_method_4_code
def yX2_sum : MethodName := ⟨RX2, "sum", "(II)I"⟩
abbrev cX2_holds : ByteArray := prog_4_method_5_code
def yX2_holds : MethodName := ⟨RX2, "holds", "(II)Z"⟩
def RX3 : String := "ShoutedPrices$Lines"
def TX3 : u_T := fun k => match k with
  | 0 => ("ShoutedPrices$Lines", "buyers", "LShoutedPrices$Line;", true)
  | 1 => ("ShoutedPrices$Lines", "sellers", "LShoutedPrices$Line;", true)
  | 2 => ("ShoutedPrices$Lines", "quantity", "I", false)
  | 3 => ("ShoutedPrices$Lines", "most", "I", false)
  | 4 => ("ShoutedPrices$Lines", "lowest", "I", false)
  | _ => ("ShoutedPrices$Lines", "highest", "I", false)
def tyX3 : Nat → FieldType := fun k => match k with
  | 0 => .object "ShoutedPrices$Line"
  | 1 => .object "ShoutedPrices$Line"
  | 2 => .int
  | 3 => .int
  | 4 => .int
  | _ => .int
abbrev wsX30 : List Cond := u_ws RX3 TX3 6
theorem nmX3 : ∀ a, a < 6 → ∀ b, b < 6 → a ≠ b → (TX3 a).2.1 ≠ (TX3 b).2.1 := by decide +kernel
theorem tyX3_ok : ∀ k, k < 6 → parseFieldDescriptor (TX3 k).2.2.1 = some (tyX3 k) := by decide +kernel
abbrev cX3_init : ByteArray := prog_5_method_1_code
def yX3_init : MethodName := ⟨RX3, "<init>", "()V"⟩
abbrev cX3_empty : ByteArray := prog_5_method_2_code
def yX3_empty : MethodName := ⟨RX3, "empty", "()V"⟩
abbrev cX3_put : ByteArray := prog_5_method_3_code
def yX3_put : MethodName := ⟨RX3, "put", "(LShoutedPrices$Room;II)V"⟩
abbrev cX3_meet : ByteArray := prog_5_method_4_code
def yX3_meet : MethodName := ⟨RX3, "meet", "(LShoutedPrices$Room;I)V"⟩
abbrev cX3_cross : ByteArray := prog_5_method_5_code
def yX3_cross : MethodName := ⟨RX3, "cross", "(I)V"⟩
abbrev cX3_price : ByteArray := prog_5_method_6_code
def yX3_price : MethodName := ⟨RX3, "price", "(I)V"⟩
abbrev cX3_trades : ByteArray := prog_5_method_7_code
def yX3_trades : MethodName := ⟨RX3, "trades", "(ZI)Z"⟩
def RX4 : String := "ShoutedPrices$Log"
def TX4 : u_T := fun k => match k with
  | 0 => ("ShoutedPrices$Log", "person", "[I", true)
  | 1 => ("ShoutedPrices$Log", "price", "[I", true)
  | 2 => ("ShoutedPrices$Log", "step", "[I", true)
  | 3 => ("ShoutedPrices$Log", "last", "[I", true)
  | _ => ("ShoutedPrices$Log", "size", "I", false)
def tyX4 : Nat → FieldType := fun k => match k with
  | 0 => .array .int
  | 1 => .array .int
  | 2 => .array .int
  | 3 => .array .int
  | _ => .int
abbrev wsX40 : List Cond := u_ws RX4 TX4 5
theorem nmX4 : ∀ a, a < 5 → ∀ b, b < 5 → a ≠ b → (TX4 a).2.1 ≠ (TX4 b).2.1 := by decide +kernel
theorem tyX4_ok : ∀ k, k < 5 → parseFieldDescriptor (TX4 k).2.2.1 = some (tyX4 k) := by decide +kernel
abbrev cX4_init : ByteArray := prog_6_method_1_code
def yX4_init : MethodName := ⟨RX4, "<init>", "()V"⟩
abbrev cX4_add : ByteArray := prog_6_method_2_code
def yX4_add : MethodName := ⟨RX4, "add", "(IIII)V"⟩
abbrev cX4_copy : ByteArray := prog_6_method_3_code
def yX4_copy : MethodName := ⟨RX4, "copy", "(LShoutedPrices$Log;)V"⟩
abbrev cX4_seenOf : ByteArray := prog_6_method_4_code
def yX4_seenOf : MethodName := ⟨RX4, "seenOf", "(LShoutedPrices$Room;I)I"⟩
abbrev cX4_mayBeBy : ByteArray := prog_6_method_5_code
def yX4_mayBeBy : MethodName := ⟨RX4, "mayBeBy", "(LShoutedPrices$Room;II)Z"⟩
def RX5 : String := "ShoutedPrices$Reader"
def TX5 : u_T := fun k => match k with
  | 0 => ("ShoutedPrices$Reader", "number", "[I", true)
  | 1 => ("ShoutedPrices$Reader", "numbers", "I", false)
  | _ => ("ShoutedPrices$Reader", "behind", "I", false)
def tyX5 : Nat → FieldType := fun k => match k with
  | 0 => .array .int
  | 1 => .int
  | _ => .int
abbrev wsX50 : List Cond := u_ws RX5 TX5 3
theorem nmX5 : ∀ a, a < 3 → ∀ b, b < 3 → a ≠ b → (TX5 a).2.1 ≠ (TX5 b).2.1 := by decide +kernel
theorem tyX5_ok : ∀ k, k < 3 → parseFieldDescriptor (TX5 k).2.2.1 = some (tyX5 k) := by decide +kernel
abbrev cX5_init : ByteArray := prog_7_method_1_code
def yX5_init : MethodName := ⟨RX5, "<init>", "()V"⟩
abbrev cX5_read : ByteArray := prog_7_method_2_code
def yX5_read : MethodName := ⟨RX5, "read", "(LShoutedPrices$Text;LShoutedPrices$Room;)I"⟩
abbrev cX5_split : ByteArray := prog_7_method_3_code
def yX5_split : MethodName := ⟨RX5, "split", "(LShoutedPrices$Text;I)Z"⟩
abbrev cX5_take : ByteArray := prog_7_method_4_code
def yX5_take : MethodName := ⟨RX5, "take", "(ILShoutedPrices$Room;)Z"⟩
def RX6 : String := "ShoutedPrices$Room"
def TX6 : u_T := fun k => match k with
  | 0 => ("ShoutedPrices$Room", "sells", "[Z", true)
  | 1 => ("ShoutedPrices$Room", "card", "[I", true)
  | 2 => ("ShoutedPrices$Room", "law", "[I", true)
  | 3 => ("ShoutedPrices$Room", "buyer", "[I", true)
  | 4 => ("ShoutedPrices$Room", "seller", "[I", true)
  | 5 => ("ShoutedPrices$Room", "people", "I", false)
  | 6 => ("ShoutedPrices$Room", "buyers", "I", false)
  | 7 => ("ShoutedPrices$Room", "sellers", "I", false)
  | 8 => ("ShoutedPrices$Room", "steps", "I", false)
  | 9 => ("ShoutedPrices$Room", "tax", "I", false)
  | 10 => ("ShoutedPrices$Room", "lid", "I", false)
  | 11 => ("ShoutedPrices$Room", "near", "I", false)
  | _ => ("ShoutedPrices$Room", "hold", "I", false)
def tyX6 : Nat → FieldType := fun k => match k with
  | 0 => .array .boolean
  | 1 => .array .int
  | 2 => .array .int
  | 3 => .array .int
  | 4 => .array .int
  | 5 => .int
  | 6 => .int
  | 7 => .int
  | 8 => .int
  | 9 => .int
  | 10 => .int
  | 11 => .int
  | _ => .int
abbrev wsX60 : List Cond := u_ws RX6 TX6 13
theorem nmX6 : ∀ a, a < 13 → ∀ b, b < 13 → a ≠ b → (TX6 a).2.1 ≠ (TX6 b).2.1 := by decide +kernel
theorem tyX6_ok : ∀ k, k < 13 → parseFieldDescriptor (TX6 k).2.2.1 = some (tyX6 k) := by decide +kernel
abbrev cX6_init : ByteArray := prog_8_method_1_code
def yX6_init : MethodName := ⟨RX6, "<init>", "()V"⟩
abbrev cX6_empty : ByteArray := prog_8_method_2_code
def yX6_empty : MethodName := ⟨RX6, "empty", "()V"⟩
abbrev cX6_has : ByteArray := prog_8_method_3_code
def yX6_has : MethodName := ⟨RX6, "has", "(I)Z"⟩
abbrev cX6_addPerson : ByteArray := prog_8_method_4_code
def yX6_addPerson : MethodName := ⟨RX6, "addPerson", "(ZII)Z"⟩
abbrev cX6_set : ByteArray := prog_8_method_5_code
def yX6_set : MethodName := ⟨RX6, "set", "(II)Z"⟩
def RX7 : String := "ShoutedPrices$Round"
def TX7 : u_T := fun k => match k with
  | 0 => ("ShoutedPrices$Round", "price", "[I", true)
  | 1 => ("ShoutedPrices$Round", "posted", "[I", true)
  | 2 => ("ShoutedPrices$Round", "told", "LShoutedPrices$Lines;", true)
  | 3 => ("ShoutedPrices$Round", "z", "I", false)
  | 4 => ("ShoutedPrices$Round", "last", "I", false)
  | 5 => ("ShoutedPrices$Round", "lowest", "I", false)
  | 6 => ("ShoutedPrices$Round", "highest", "I", false)
  | 7 => ("ShoutedPrices$Round", "traded", "I", false)
  | 8 => ("ShoutedPrices$Round", "gain", "I", false)
  | 9 => ("ShoutedPrices$Round", "soon", "I", false)
  | 10 => ("ShoutedPrices$Round", "bidder", "I", false)
  | 11 => ("ShoutedPrices$Round", "asker", "I", false)
  | 12 => ("ShoutedPrices$Round", "bid", "I", false)
  | _ => ("ShoutedPrices$Round", "offer", "I", false)
def tyX7 : Nat → FieldType := fun k => match k with
  | 0 => .array .int
  | 1 => .array .int
  | 2 => .object "ShoutedPrices$Lines"
  | 3 => .int
  | 4 => .int
  | 5 => .int
  | 6 => .int
  | 7 => .int
  | 8 => .int
  | 9 => .int
  | 10 => .int
  | 11 => .int
  | 12 => .int
  | _ => .int
abbrev wsX70 : List Cond := u_ws RX7 TX7 14
theorem nmX7 : ∀ a, a < 14 → ∀ b, b < 14 → a ≠ b → (TX7 a).2.1 ≠ (TX7 b).2.1 := by decide +kernel
theorem tyX7_ok : ∀ k, k < 14 → parseFieldDescriptor (TX7 k).2.2.1 = some (tyX7 k) := by decide +kernel
abbrev cX7_init : ByteArray := prog_9_method_1_code
def yX7_init : MethodName := ⟨RX7, "<init>", "()V"⟩
abbrev cX7_play : ByteArray := prog_9_method_2_code
def yX7_play : MethodName := ⟨RX7, "play", "(LShoutedPrices$Room;IILShoutedPrices$Log;)V"⟩
abbrev cX7_wanders : ByteArray := prog_9_method_3_code
def yX7_wanders : MethodName := ⟨RX7, "wanders", "()I"⟩
abbrev cX7_draw : ByteArray := prog_9_method_4_code
def yX7_draw : MethodName := ⟨RX7, "draw", "(II)I"⟩
abbrev cX7_rest : ByteArray := prog_9_method_5_code
def yX7_rest : MethodName := ⟨RX7, "rest", "(II)I"⟩
abbrev cX7_tells : ByteArray := prog_9_method_6_code
def yX7_tells : MethodName := ⟨RX7, "tells", "(LShoutedPrices$Room;III)I"⟩
abbrev cX7_trade : ByteArray := prog_9_method_7_code
def yX7_trade : MethodName := ⟨RX7, "trade", "(LShoutedPrices$Room;IIII)V"⟩
abbrev cX7_playShouts : ByteArray := prog_9_method_8_code
def yX7_playShouts : MethodName := ⟨RX7, "playShouts", "(LShoutedPrices$Room;LShoutedPrices$Log;)V"⟩
abbrev cX7_hearBid : ByteArray := prog_9_method_9_code
def yX7_hearBid : MethodName := ⟨RX7, "hearBid", "(LShoutedPrices$Room;III)V"⟩
abbrev cX7_hearOffer : ByteArray := prog_9_method_10_code
def yX7_hearOffer : MethodName := ⟨RX7, "hearOffer", "(LShoutedPrices$Room;III)V"⟩
abbrev cX7_playPairs : ByteArray := prog_9_method_11_code
def yX7_playPairs : MethodName := ⟨RX7, "playPairs", "(LShoutedPrices$Room;)V"⟩
abbrev cX7_playPosted : ByteArray := prog_9_method_12_code
def yX7_playPosted : MethodName := ⟨RX7, "playPosted", "(LShoutedPrices$Room;)V"⟩
abbrev cX7_cheapestLeft : ByteArray := prog_9_method_13_code
def yX7_cheapestLeft : MethodName := ⟨RX7, "cheapestLeft", "(LShoutedPrices$Room;)I"⟩
abbrev cX7_playBell : ByteArray := prog_9_method_14_code
def yX7_playBell : MethodName := ⟨RX7, "playBell", "(LShoutedPrices$Room;)V"⟩
def RX8 : String := "ShoutedPrices$Text"
def TX8 : u_T := fun k => match k with
  | 0 => ("ShoutedPrices$Text", "bytes", "[I", true)
  | _ => ("ShoutedPrices$Text", "size", "I", false)
def tyX8 : Nat → FieldType := fun k => match k with
  | 0 => .array .int
  | _ => .int
abbrev wsX80 : List Cond := u_ws RX8 TX8 2
theorem nmX8 : ∀ a, a < 2 → ∀ b, b < 2 → a ≠ b → (TX8 a).2.1 ≠ (TX8 b).2.1 := by decide +kernel
theorem tyX8_ok : ∀ k, k < 2 → parseFieldDescriptor (TX8 k).2.2.1 = some (tyX8 k) := by decide +kernel
abbrev cX8_init : ByteArray := prog_10_method_1_code
def yX8_init : MethodName := ⟨RX8, "<init>", "()V"⟩
abbrev cX8_add : ByteArray := prog_10_method_2_code
def yX8_add : MethodName := ⟨RX8, "add", "(I)V"⟩
def RX9 : String := "ShoutedPrices$Voice"
def TX9 : u_T := fun k => match k with
  | _ => ("", "", "", false)
def tyX9 : Nat → FieldType := fun k => match k with
  | _ => .int
abbrev wsX90 : List Cond := u_ws RX9 TX9 0
theorem nmX9 : ∀ a, a < 0 → ∀ b, b < 0 → a ≠ b → (TX9 a).2.1 ≠ (TX9 b).2.1 := by decide +kernel
theorem tyX9_ok : ∀ k, k < 0 → parseFieldDescriptor (TX9 k).2.2.1 = some (tyX9 k) := by decide +kernel
abbrev cX9_span : ByteArray := prog_11_method_2_code
def yX9_span : MethodName := ⟨RX9, "span", "(LShoutedPrices$Room;III)I"⟩
abbrev cX9_by : ByteArray := prog_11_method_3_code
def yX9_by : MethodName := ⟨RX9, "by", "(LShoutedPrices$Room;IIIII)I"⟩
abbrev cX9_near : ByteArray := prog_11_method_4_code
def yX9_near : MethodName := ⟨RX9, "near", "(LShoutedPrices$Room;III)I"⟩
abbrev cX9_share : ByteArray := prog_11_method_5_code
def yX9_share : MethodName := ⟨RX9, "share", "(LShoutedPrices$Room;II)I"⟩
abbrev cX9_underLid : ByteArray := prog_11_method_6_code
def yX9_underLid : MethodName := ⟨RX9, "underLid", "(LShoutedPrices$Room;II)I"⟩
abbrev cX9_isHeard : ByteArray := prog_11_method_7_code
def yX9_isHeard : MethodName := ⟨RX9, "isHeard", "(LShoutedPrices$Room;II)Z"⟩
def RX10 : String := "ShoutedPrices"
def TX10 : u_T := fun k => match k with
  | 0 => ("ShoutedPrices", "text", "LShoutedPrices$Text;", true)
  | 1 => ("ShoutedPrices", "reader", "LShoutedPrices$Reader;", true)
  | 2 => ("ShoutedPrices", "room", "LShoutedPrices$Room;", false)
  | 3 => ("ShoutedPrices", "spare", "LShoutedPrices$Room;", false)
  | 4 => ("ShoutedPrices", "log", "LShoutedPrices$Log;", true)
  | 5 => ("ShoutedPrices", "kept", "[LShoutedPrices$Kept;", true)
  | 6 => ("ShoutedPrices", "keptSize", "I", false)
  | 7 => ("ShoutedPrices", "lines", "LShoutedPrices$Lines;", true)
  | 8 => ("ShoutedPrices", "others", "LShoutedPrices$Lines;", true)
  | 9 => ("ShoutedPrices", "round", "LShoutedPrices$Round;", true)
  | 10 => ("ShoutedPrices", "carriers", "LShoutedPrices$Carriers;", true)
  | _ => ("ShoutedPrices", "sums", "[[I", true)
def tyX10 : Nat → FieldType := fun k => match k with
  | 0 => .object "ShoutedPrices$Text"
  | 1 => .object "ShoutedPrices$Reader"
  | 2 => .object "ShoutedPrices$Room"
  | 3 => .object "ShoutedPrices$Room"
  | 4 => .object "ShoutedPrices$Log"
  | 5 => .array (.object "ShoutedPrices$Kept")
  | 6 => .int
  | 7 => .object "ShoutedPrices$Lines"
  | 8 => .object "ShoutedPrices$Lines"
  | 9 => .object "ShoutedPrices$Round"
  | 10 => .object "ShoutedPrices$Carriers"
  | _ => .array (.array .int)
abbrev wsX100 : List Cond := u_ws RX10 TX10 12
theorem nmX10 : ∀ a, a < 12 → ∀ b, b < 12 → a ≠ b → (TX10 a).2.1 ≠ (TX10 b).2.1 := by decide +kernel
theorem tyX10_ok : ∀ k, k < 12 → parseFieldDescriptor (TX10 k).2.2.1 = some (tyX10 k) := by decide +kernel
abbrev cX10_init : ByteArray := prog_1_method_1_code
def yX10_init : MethodName := ⟨RX10, "<init>", "()V"⟩
abbrev cX10_write : ByteArray := prog_1_method_2_code
def yX10_write : MethodName := ⟨RX10, "write", "(IJ)I"⟩
abbrev cX10_wipe : ByteArray := prog_1_method_3_code
def yX10_wipe : MethodName := ⟨RX10, "wipe", "()I"⟩
abbrev cX10_fault : ByteArray := prog_1_method_4_code
def yX10_fault : MethodName := ⟨RX10, "fault", "()I"⟩
abbrev cX10_lay : ByteArray := prog_1_method_5_code
def yX10_lay : MethodName := ⟨RX10, "lay", "()I"⟩
abbrev cX10_person : ByteArray := prog_1_method_6_code
def yX10_person : MethodName := ⟨RX10, "person", "(II)I"⟩
abbrev cX10_law : ByteArray := prog_1_method_7_code
def yX10_law : MethodName := ⟨RX10, "law", "(II)I"⟩
abbrev cX10_lines : ByteArray := prog_1_method_8_code
def yX10_lines : MethodName := ⟨RX10, "lines", "(I)I"⟩
abbrev cX10_served : ByteArray := prog_1_method_9_code
def yX10_served : MethodName := ⟨RX10, "served", "(I)I"⟩
abbrev cX10_pairs : ByteArray := prog_1_method_10_code
def yX10_pairs : MethodName := ⟨RX10, "pairs", "(I)J"⟩
abbrev cX10_bell : ByteArray := prog_1_method_11_code
def yX10_bell : MethodName := ⟨RX10, "bell", "(II)I"⟩
abbrev cX10_best : ByteArray := prog_1_method_12_code
def yX10_best : MethodName := ⟨RX10, "best", "(II)I"⟩
abbrev cX10_round : ByteArray := prog_1_method_13_code
def yX10_round : MethodName := ⟨RX10, "round", "(III)I"⟩
abbrev cX10_of : ByteArray := prog_1_method_14_code
def yX10_of : MethodName := ⟨RX10, "of", "(III)I"⟩
abbrev cX10_means : ByteArray := prog_1_method_15_code
def yX10_means : MethodName := ⟨RX10, "means", "(III)I"⟩
abbrev cX10_rules : ByteArray := prog_1_method_16_code
def yX10_rules : MethodName := ⟨RX10, "rules", "(II)I"⟩
abbrev cX10_shout : ByteArray := prog_1_method_17_code
def yX10_shout : MethodName := ⟨RX10, "shout", "(II)I"⟩
abbrev cX10_known : ByteArray := prog_1_method_18_code
def yX10_known : MethodName := ⟨RX10, "known", "(I)I"⟩
abbrev cX10_least : ByteArray := prog_1_method_19_code
def yX10_least : MethodName := ⟨RX10, "least", "(I)I"⟩
abbrev cX10_laws : ByteArray := prog_1_method_20_code
def yX10_laws : MethodName := ⟨RX10, "laws", "(I)I"⟩
abbrev cX10_two : ByteArray := prog_1_method_21_code
def yX10_two : MethodName := ⟨RX10, "two", "(III)I"⟩
abbrev cX10_keep : ByteArray := prog_1_method_22_code
def yX10_keep : MethodName := ⟨RX10, "keep", "()I"⟩
abbrev cX10_back : ByteArray := prog_1_method_23_code
def yX10_back : MethodName := ⟨RX10, "back", "()I"⟩
abbrev cX10_count : ByteArray := prog_1_method_24_code
def yX10_count : MethodName := ⟨RX10, "count", "(I)I"⟩
abbrev cX10_within : ByteArray := prog_1_method_25_code
def yX10_within : MethodName := ⟨RX10, "within", "(III)Z"⟩
abbrev cX10_gainOfAllMeetings : ByteArray := prog_1_method_26_code
def yX10_gainOfAllMeetings : MethodName := ⟨RX10, "gainOfAllMeetings", "()I"⟩
abbrev cX10_gainOfTelling : ByteArray := prog_1_method_27_code
def yX10_gainOfTelling : MethodName := ⟨RX10, "gainOfTelling", "(II)I"⟩
abbrev cX10_sumUp : ByteArray := prog_1_method_28_code
def yX10_sumUp : MethodName := ⟨RX10, "sumUp", "(II)V"⟩
abbrev cX10_bestBy : ByteArray := prog_1_method_29_code
def yX10_bestBy : MethodName := ⟨RX10, "bestBy", "(I)I"⟩
def RX11 : String := "ShoutedPricesModel"
def TX11 : u_T := fun k => match k with
  | 0 => ("ShoutedPricesModel", "length", "I", false)
  | 1 => ("ShoutedPricesModel", "text", "[I", true)
  | 2 => ("ShoutedPricesModel", "many", "[I", true)
  | 3 => ("ShoutedPricesModel", "sides", "[I", true)
  | 4 => ("ShoutedPricesModel", "cards", "[I", true)
  | 5 => ("ShoutedPricesModel", "laws", "[I", true)
  | 6 => ("ShoutedPricesModel", "numbers", "[I", true)
  | 7 => ("ShoutedPricesModel", "logMany", "[I", true)
  | 8 => ("ShoutedPricesModel", "logPerson", "[I", true)
  | 9 => ("ShoutedPricesModel", "logPrice", "[I", true)
  | 10 => ("ShoutedPricesModel", "logStep", "[I", true)
  | 11 => ("ShoutedPricesModel", "logLast", "[I", true)
  | 12 => ("ShoutedPricesModel", "keptLaws", "[I", true)
  | 13 => ("ShoutedPricesModel", "keptMany", "I", false)
  | 14 => ("ShoutedPricesModel", "place", "I", false)
  | 15 => ("ShoutedPricesModel", "told", "[I", true)
  | 16 => ("ShoutedPricesModel", "shown", "[I", true)
  | 17 => ("ShoutedPricesModel", "buyers", "[I", true)
  | 18 => ("ShoutedPricesModel", "sellers", "[I", true)
  | 19 => ("ShoutedPricesModel", "buyerMany", "I", false)
  | 20 => ("ShoutedPricesModel", "sellerMany", "I", false)
  | 21 => ("ShoutedPricesModel", "seed", "I", false)
  | 22 => ("ShoutedPricesModel", "last", "I", false)
  | 23 => ("ShoutedPricesModel", "paid", "[I", true)
  | 24 => ("ShoutedPricesModel", "traded", "I", false)
  | 25 => ("ShoutedPricesModel", "gain", "I", false)
  | 26 => ("ShoutedPricesModel", "soon", "I", false)
  | 27 => ("ShoutedPricesModel", "low", "I", false)
  | 28 => ("ShoutedPricesModel", "high", "I", false)
  | 29 => ("ShoutedPricesModel", "logs", "Z", false)
  | 30 => ("ShoutedPricesModel", "posted", "[I", true)
  | 31 => ("ShoutedPricesModel", "sums", "[I", true)
  | 32 => ("ShoutedPricesModel", "room", "[I", true)
  | _ => ("ShoutedPricesModel", "roomMany", "[I", true)
def tyX11 : Nat → FieldType := fun k => match k with
  | 0 => .int
  | 1 => .array .int
  | 2 => .array .int
  | 3 => .array .int
  | 4 => .array .int
  | 5 => .array .int
  | 6 => .array .int
  | 7 => .array .int
  | 8 => .array .int
  | 9 => .array .int
  | 10 => .array .int
  | 11 => .array .int
  | 12 => .array .int
  | 13 => .int
  | 14 => .int
  | 15 => .array .int
  | 16 => .array .int
  | 17 => .array .int
  | 18 => .array .int
  | 19 => .int
  | 20 => .int
  | 21 => .int
  | 22 => .int
  | 23 => .array .int
  | 24 => .int
  | 25 => .int
  | 26 => .int
  | 27 => .int
  | 28 => .int
  | 29 => .boolean
  | 30 => .array .int
  | 31 => .array .int
  | 32 => .array .int
  | _ => .array .int
abbrev wsX110 : List Cond := u_ws RX11 TX11 34
theorem nmX11 : ∀ a, a < 34 → ∀ b, b < 34 → a ≠ b → (TX11 a).2.1 ≠ (TX11 b).2.1 := by decide +kernel
theorem tyX11_ok : ∀ k, k < 34 → parseFieldDescriptor (TX11 k).2.2.1 = some (tyX11 k) := by decide +kernel
abbrev cX11_init : ByteArray := prog_13_method_1_code
def yX11_init : MethodName := ⟨RX11, "<init>", "()V"⟩
abbrev cX11_in : ByteArray := prog_13_method_2_code
def yX11_in : MethodName := ⟨RX11, "in", "(JJJ)Z"⟩
abbrev cX11_noRoom : ByteArray := prog_13_method_3_code
def yX11_noRoom : MethodName := ⟨RX11, "noRoom", "(I)V"⟩
abbrev cX11_write : ByteArray := prog_13_method_4_code
def yX11_write : MethodName := ⟨RX11, "write", "(IJ)I"⟩
abbrev cX11_wipe : ByteArray := prog_13_method_5_code
def yX11_wipe : MethodName := ⟨RX11, "wipe", "()I"⟩
abbrev cX11_byteAt : ByteArray := prog_13_method_6_code
def yX11_byteAt : MethodName := ⟨RX11, "byteAt", "(I)I"⟩
abbrev cX11_figures : ByteArray := prog_13_method_7_code
def yX11_figures : MethodName := ⟨RX11, "figures", "(I)Z"⟩
abbrev cX11_readMany : ByteArray := prog_13_method_8_code
def yX11_readMany : MethodName := ⟨RX11, "readMany", "(I)I"⟩
abbrev cX11_personItem : ByteArray := prog_13_method_9_code
def yX11_personItem : MethodName := ⟨RX11, "personItem", "(I)Z"⟩
abbrev cX11_numberItem : ByteArray := prog_13_method_10_code
def yX11_numberItem : MethodName := ⟨RX11, "numberItem", "(III)Z"⟩
abbrev cX11_item : ByteArray := prog_13_method_11_code
def yX11_item : MethodName := ⟨RX11, "item", "()Z"⟩
abbrev cX11_readAll : ByteArray := prog_13_method_12_code
def yX11_readAll : MethodName := ⟨RX11, "readAll", "()I"⟩
abbrev cX11_fault : ByteArray := prog_13_method_13_code
def yX11_fault : MethodName := ⟨RX11, "fault", "()I"⟩
abbrev cX11_lay : ByteArray := prog_13_method_14_code
def yX11_lay : MethodName := ⟨RX11, "lay", "()I"⟩
abbrev cX11_isPerson : ByteArray := prog_13_method_15_code
def yX11_isPerson : MethodName := ⟨RX11, "isPerson", "(I)Z"⟩
abbrev cX11_manyOf : ByteArray := prog_13_method_16_code
def yX11_manyOf : MethodName := ⟨RX11, "manyOf", "(I)I"⟩
abbrev cX11_person : ByteArray := prog_13_method_17_code
def yX11_person : MethodName := ⟨RX11, "person", "(II)I"⟩
abbrev cX11_law : ByteArray := prog_13_method_18_code
def yX11_law : MethodName := ⟨RX11, "law", "(II)I"⟩
abbrev cX11_showTrue : ByteArray := prog_13_method_19_code
def yX11_showTrue : MethodName := ⟨RX11, "showTrue", "()V"⟩
abbrev cX11_layLines : ByteArray := prog_13_method_20_code
def yX11_layLines : MethodName := ⟨RX11, "layLines", "()V"⟩
abbrev cX11_worth : ByteArray := prog_13_method_21_code
def yX11_worth : MethodName := ⟨RX11, "worth", "(I)I"⟩
abbrev cX11_costs : ByteArray := prog_13_method_22_code
def yX11_costs : MethodName := ⟨RX11, "costs", "(I)I"⟩
abbrev cX11_quantity : ByteArray := prog_13_method_23_code
def yX11_quantity : MethodName := ⟨RX11, "quantity", "(I)I"⟩
abbrev cX11_gainOf : ByteArray := prog_13_method_24_code
def yX11_gainOf : MethodName := ⟨RX11, "gainOf", "(I)I"⟩
abbrev cX11_lowest : ByteArray := prog_13_method_25_code
def yX11_lowest : MethodName := ⟨RX11, "lowest", "(II)I"⟩
abbrev cX11_highest : ByteArray := prog_13_method_26_code
def yX11_highest : MethodName := ⟨RX11, "highest", "(II)I"⟩
abbrev cX11_lines : ByteArray := prog_13_method_27_code
def yX11_lines : MethodName := ⟨RX11, "lines", "(I)I"⟩
abbrev cX11_served : ByteArray := prog_13_method_28_code
def yX11_served : MethodName := ⟨RX11, "served", "(I)I"⟩
abbrev cX11_common : ByteArray := prog_13_method_29_code
def yX11_common : MethodName := ⟨RX11, "common", "(JJ)J"⟩
abbrev cX11_pairs : ByteArray := prog_13_method_30_code
def yX11_pairs : MethodName := ⟨RX11, "pairs", "(I)J"⟩
abbrev cX11_isFirst : ByteArray := prog_13_method_31_code
def yX11_isFirst : MethodName := ⟨RX11, "isFirst", "(II)Z"⟩
abbrev cX11_bellOf : ByteArray := prog_13_method_32_code
def yX11_bellOf : MethodName := ⟨RX11, "bellOf", "(II)I"⟩
abbrev cX11_bell : ByteArray := prog_13_method_33_code
def yX11_bell : MethodName := ⟨RX11, "bell", "(II)I"⟩
abbrev cX11_best : ByteArray := prog_13_method_34_code
def yX11_best : MethodName := ⟨RX11, "best", "(II)I"⟩
abbrev cX11_draw : ByteArray := prog_13_method_35_code
def yX11_draw : MethodName := ⟨RX11, "draw", "(II)I"⟩
abbrev cX11_shoutBy : ByteArray := prog_13_method_36_code
def yX11_shoutBy : MethodName := ⟨RX11, "shoutBy", "(IIIIII)I"⟩
abbrev cX11_shoutOf : ByteArray := prog_13_method_37_code
def yX11_shoutOf : MethodName := ⟨RX11, "shoutOf", "(IIII)I"⟩
abbrev cX11_trade : ByteArray := prog_13_method_38_code
def yX11_trade : MethodName := ⟨RX11, "trade", "(IIII)V"⟩
abbrev cX11_note : ByteArray := prog_13_method_39_code
def yX11_note : MethodName := ⟨RX11, "note", "(III)V"⟩
abbrev cX11_goShouts : ByteArray := prog_13_method_40_code
def yX11_goShouts : MethodName := ⟨RX11, "goShouts", "()V"⟩
abbrev cX11_personOf : ByteArray := prog_13_method_41_code
def yX11_personOf : MethodName := ⟨RX11, "personOf", "(II)I"⟩
abbrev cX11_goPairs : ByteArray := prog_13_method_42_code
def yX11_goPairs : MethodName := ⟨RX11, "goPairs", "()V"⟩
abbrev cX11_goPosted : ByteArray := prog_13_method_43_code
def yX11_goPosted : MethodName := ⟨RX11, "goPosted", "()V"⟩
abbrev cX11_goBell : ByteArray := prog_13_method_44_code
def yX11_goBell : MethodName := ⟨RX11, "goBell", "()V"⟩
abbrev cX11_goRound : ByteArray := prog_13_method_45_code
def yX11_goRound : MethodName := ⟨RX11, "goRound", "(IIZ)V"⟩
abbrev cX11_isRound : ByteArray := prog_13_method_46_code
def yX11_isRound : MethodName := ⟨RX11, "isRound", "(II)Z"⟩
abbrev cX11_round : ByteArray := prog_13_method_47_code
def yX11_round : MethodName := ⟨RX11, "round", "(III)I"⟩
abbrev cX11_of : ByteArray := prog_13_method_48_code
def yX11_of : MethodName := ⟨RX11, "of", "(III)I"⟩
abbrev cX11_layMeans : ByteArray := prog_13_method_49_code
def yX11_layMeans : MethodName := ⟨RX11, "layMeans", "(II)V"⟩
abbrev cX11_means : ByteArray := prog_13_method_50_code
def yX11_means : MethodName := ⟨RX11, "means", "(III)I"⟩
abbrev cX11_bestBy : ByteArray := prog_13_method_51_code
def yX11_bestBy : MethodName := ⟨RX11, "bestBy", "(I)I"⟩
abbrev cX11_rules : ByteArray := prog_13_method_52_code
def yX11_rules : MethodName := ⟨RX11, "rules", "(II)I"⟩
abbrev cX11_shout : ByteArray := prog_13_method_53_code
def yX11_shout : MethodName := ⟨RX11, "shout", "(II)I"⟩
abbrev cX11_knownOf : ByteArray := prog_13_method_54_code
def yX11_knownOf : MethodName := ⟨RX11, "knownOf", "(I)I"⟩
abbrev cX11_known : ByteArray := prog_13_method_55_code
def yX11_known : MethodName := ⟨RX11, "known", "(I)I"⟩
abbrev cX11_least : ByteArray := prog_13_method_56_code
def yX11_least : MethodName := ⟨RX11, "least", "(I)I"⟩
abbrev cX11_mayBe : ByteArray := prog_13_method_57_code
def yX11_mayBe : MethodName := ⟨RX11, "mayBe", "(II)Z"⟩
abbrev cX11_laws : ByteArray := prog_13_method_58_code
def yX11_laws : MethodName := ⟨RX11, "laws", "(I)I"⟩
abbrev cX11_layRooms : ByteArray := prog_13_method_59_code
def yX11_layRooms : MethodName := ⟨RX11, "layRooms", "(I)V"⟩
abbrev cX11_carried : ByteArray := prog_13_method_60_code
def yX11_carried : MethodName := ⟨RX11, "carried", "(II)I"⟩
abbrev cX11_two : ByteArray := prog_13_method_61_code
def yX11_two : MethodName := ⟨RX11, "two", "(III)I"⟩
abbrev cX11_copyLog : ByteArray := prog_13_method_62_code
def yX11_copyLog : MethodName := ⟨RX11, "copyLog", "(II)V"⟩
abbrev cX11_keep : ByteArray := prog_13_method_63_code
def yX11_keep : MethodName := ⟨RX11, "keep", "()I"⟩
abbrev cX11_back : ByteArray := prog_13_method_64_code
def yX11_back : MethodName := ⟨RX11, "back", "()I"⟩
abbrev cX11_count : ByteArray := prog_13_method_65_code
def yX11_count : MethodName := ⟨RX11, "count", "(I)I"⟩
def RL : String := "ShoutedPricesLaw"
abbrev cL_law : ByteArray := code
def yL_law : MethodName := ⟨RL, "law", "([I)Z"⟩
abbrev vwCl : List vw_C := [(RX0, TX0, 2), (RX1, TX1, 2), (RX2, TX2, 4), (RX3, TX3, 6), (RX4, TX4, 5), (RX5, TX5, 3), (RX6, TX6, 13), (RX7, TX7, 14), (RX8, TX8, 2), (RX10, TX10, 12), (RX11, TX11, 34)]
end
section
/-- the shapes of the cells in the order of making, from place 1 on -/
def shL : List (Nat × Nat) := [(9, 0), (0, 9), (0, 8), (1, 300), (0, 5), (1, 2), (0, 6), (2, 20), (1, 20), (1, 20), (1, 10), (1, 10), (0, 6), (2, 20), (1, 20), (1, 20), (1, 10), (1, 10), (0, 4), (1, 200), (1, 200), (1, 200), (1, 200), (3, 2), (0, 3), (0, 2), (1, 10), (1, 10), (0, 2), (1, 10), (1, 10), (0, 3), (0, 2), (1, 10), (1, 10), (0, 2), (1, 10), (1, 10), (0, 7), (1, 20), (1, 20), (0, 3), (0, 2), (1, 10), (1, 10), (0, 2), (1, 10), (1, 10), (0, 0), (4, 4), (1, 3), (1, 3), (1, 3), (1, 3), (0, 1), (1, 20), (0, 4), (1, 200), (1, 200), (1, 200), (1, 200), (0, 1), (1, 20), (0, 4), (1, 200), (1, 200), (1, 200), (1, 200), (0, 10), (1, 300), (1, 2), (1, 40), (1, 40), (1, 40), (1, 10), (1, 3), (1, 600), (1, 600), (1, 600), (1, 600), (1, 40), (1, 2), (1, 20), (1, 10), (1, 10), (1, 20), (1, 20), (1, 12), (1, 44), (1, 4)]
/-- which fields are references -/
def frefL : List (List Bool) := [[false, false], [true, true], [false, true, true, false], [true, true, false, false, false, false], [true, true, true, true, false], [true, false, false], [true, true, true, true, true, false, false, false, false, false, false, false, false], [true, true, true, false, false, false, false, false, false, false, false, false, false, false], [true, false], [true, true, true, true, true, true, false, true, true, true, true, true], [false, true, true, true, true, true, true, true, true, true, true, true, true, false, false, true, true, true, true, false, false, false, false, true, false, false, false, false, false, false, true, true, true, true]]
/-! THE ABSTRACT WORDS: whole numbers, references as places (0: none), a heap as two functions (numbers, references) of place and slot; shapes are fixed by the order in which the law makes its cells -/
abbrev II : Type := Nat → Nat → Int
abbrev RR : Type := Nat → Nat → Nat
abbrev AV : Type := Option (Int ⊕ (Int ⊕ Nat))
abbrev QT : Type := AV → II → RR → Prop
abbrev MI : Type := MethodName × ByteArray × Nat × Option FieldType × Nat × Nat
abbrev KT : Type := Nat × Nat × (Nat → Int32)
def vI (x : Int) : AV := some (.inl x)
def vL (x : Int) : AV := some (.inr (.inl x))
def vR (r : Nat) : AV := some (.inr (.inr r))
def i32 (x : Int) : Int32 := Int32.ofInt x
def i64 (x : Int) : Int64 := Int64.ofInt x
def InI (x : Int) : Prop := -2147483648 ≤ x ∧ x ≤ 2147483647
def InL (x : Int) : Prop := -9223372036854775808 ≤ x ∧ x ≤ 9223372036854775807
def up1 {α : Type} (f : Nat → α) (r : Nat) (v : α) : Nat → α := fun a => if a = r then v else f a
def up2 {α : Type} (f : Nat → Nat → α) (r j : Nat) (v : α) : Nat → Nat → α := fun a b => if a = r ∧ b = j then v else f a b
def clr {α : Type} (f : Nat → Nat → α) (r : Nat) (v : α) : Nat → Nat → α := fun a b => if a = r then v else f a b
def rfv (ρ : Nat → Nat) (r : Nat) : Option Nat := if r = 0 then none else some (ρ r)
def cv (ρ : Nat → Nat) : AV → Value
  | some (.inl x) => .int (i32 x)
  | some (.inr (.inl x)) => .long (i64 x)
  | some (.inr (.inr r)) => va_rf (rfv ρ r)
  | none => .null
def TB : List Cond := lw_tbl.filter goodWord
theorem tb_in {w : Cond} (i : Nat) (h : lw_tbl[i]? = some w) (hg : goodWord w = true) : w ∈ TB := List.mem_filter.mpr ⟨List.mem_of_getElem? h, hg⟩
theorem tb_good {w : Cond} (h : w ∈ TB) : (w.onTables && w.keeps) = true ∨ ∃ ty, w = .arrayClass ty := good_of_word (List.mem_filter.mp h).2
def wds (mt : MI) : List Cond := .code mt.1 mt.2.1 mt.2.2.1 mt.2.2.2.1 :: TB
/-- what a call needs of the called method's own words -/
def mOK (mt' : MI) (n : Nat) : Prop := Cond.code mt'.1 mt'.2.1 mt'.2.2.1 mt'.2.2.2.1 ∈ TB ∧ Cond.initialized mt'.1.cls ∈ TB ∧ (mt'.1.cls ≠ "java/lang/invoke/MethodHandle" ∧ mt'.1.cls ≠ "java/lang/invoke/VarHandle" ∧ (parseMethodDescriptor mt'.1.desc).map (fun d => d.parameters.length) = some n)
def fits2 (mt mt' : MI) : Prop := mt'.2.2.2.2.1 + 1 ≤ mt.2.2.2.2.1 ∧ 8 + (mt'.2.2.1 + 11) + mt'.2.2.2.2.2 ≤ mt.2.2.2.2.2
/-- kinds: 0 an object of the kind n of vwCl; 1 int[n]; 2 boolean[n]; 3 Kept[n]; 4 int[][n] -/
def sh (i : Nat) : Nat × Nat := shL.getD i (9, 0)
def nfc (c : Nat) : Nat := (vwCl[c]?.map (fun q => q.2.2)).getD 0
def fty (c k : Nat) : FieldType := ((vwCl[c]?.bind (fun q => parseFieldDescriptor (q.2.1 k).2.2.1))).getD .int
def fref (c k : Nat) : Bool := (frefL.getD c []).getD k false
def aty (k : Nat) : FieldType := match k with
  | 1 => .int
  | 2 => .boolean
  | 3 => .object RX1
  | _ => .array .int
def isO (N r c : Nat) : Prop := 0 < r ∧ r ≤ N ∧ sh r = (0, c)
def isA (N r k n : Nat) : Prop := 0 < r ∧ r ≤ N ∧ sh r = (k, n)
def szS (q : Nat × Nat) : Nat := if q.1 = 0 then nfc q.2 else q.2
def cum : Nat → Nat
  | 0 => 0
  | n + 1 => cum n + szS (sh (n + 1))
def fval (ρ : Nat → Nat) (I : II) (R : RR) (c i k : Nat) : Value := if fref c k = true then va_rf (rfv ρ (R i k)) else .int (i32 (I i k))
def cellE (ρ : Nat → Nat) (ca : Nat → ClassId) (I : II) (R : RR) (i : Nat) : va_E :=
  if (sh i).1 = 0 then .inr ((sh i).2, (List.range (nfc (sh i).2)).map (fval ρ I R (sh i).2 i))
  else if (sh i).1 ≤ 2 then .inl (ca i, (sh i).2, .inl (fun j => i32 (I i j)))
  else .inl (ca i, (sh i).2, .inr (.inr (.inr (.inr (fun j => rfv ρ (R i j))))))
def wsW (ρ : Nat → Nat) (ca : Nat → ClassId) (I : II) (R : RR) (N : Nat) : va_W := (List.range N).map (fun i => (ρ (i + 1), cellE ρ ca I R (i + 1)))
/-- the arrays' own kinds -/
def arK (D : va_G) (ca : Nat → ClassId) (N : Nat) (U : State) : Prop := ∀ i, 0 < i → i ≤ N → ¬ (sh i).1 = 0 → va_K D vwCl [(ca i, aty (sh i).1)] U
def agr {α : Type} (f g : Nat → α) (N0 N : Nat) : Prop := ∀ r, (r ≤ N0 ∨ N < r) → f r = g r
def isNst : Cond → Bool
  | .methodLinkNest .. => true
  | _ => false
def NB : List Cond := lw_tbl.filter isNst
/-- the words that aren't carried by the lists: those of nest mates, and what classes the arrays of arrays have -/
def nbw (U : State) : Prop := (∀ w ∈ NB, va_Nw w U) ∧ va_AO RX1 U ∧ va_AOA .int U
theorem va_AOA.moved {ty : FieldType} {u U : State} (hvm : u.vm.Alike U.vm) (h : va_AOA ty u) : va_AOA ty U := Jvm.Stand.arrayOver_alikeB hvm h
theorem nb_in {w : Cond} (i : Nat) (h : lw_tbl[i]? = some w) (hg : isNst w = true) : w ∈ NB := List.mem_filter.mpr ⟨List.mem_of_getElem? h, hg⟩
theorem nbw.warm {s U : State} (hW : s.WarmedH U.vm) (h : nbw s) : nbw U := ⟨fun w hw => by
  have h1 := h.1 w hw
  have h2 := (List.mem_filter.mp hw).2
  cases w <;> first | exact va_Nw.warmM hW h1 | (cases h2), va_AO.moved hW.alike h.2.1, va_AOA.moved hW.alike h.2.2⟩
theorem nbw.same {s U : State} (hvm : s.vm = U.vm) (h : nbw s) : nbw U := ⟨fun w hw => by
  have h1 := h.1 w hw
  have h2 := (List.mem_filter.mp hw).2
  cases w <;> first | exact va_Nw.same rfl hvm h1 | (cases h2), va_AO.moved (by rw [hvm]; exact Vm.Alike.refl _) h.2.1, va_AOA.moved (by rw [hvm]; exact Vm.Alike.refl _) h.2.2⟩
/-- the numbered slots of a method hold the listed values -/
def LR (ρ : Nat → Nat) (ls : Array Slot) (nL : Nat) (L : List AV) : Prop := ls.size = nL ∧ lv_wf ls ∧ ∀ (k : Nat) (v : Int ⊕ (Int ⊕ Nat)), L[k]? = some (some v) → ls[k]? = some (.val (cv ρ (some v)))
def SM (mt : MI) (s : State) (A : Nat → Prop) (D : va_G) (ρ0 : Nat → Nat) (ca0 : Nat → ClassId) (N0 : Nat) (H : Heap) (locs : List Loc) (ls : Array Slot) (ρ : Nat → Nat) (ca : Nat → ClassId) (L : List AV) (I : II) (R : RR) (N : Nat) : Prop :=
  va_P D vwCl (wsW ρ ca I R N) H ∧ va_D A (wsW ρ ca I R N) ∧ va_S A s.heap H locs ∧ LR ρ ls mt.2.2.1 L ∧ arK D ca N s ∧ agr ρ ρ0 N0 N ∧ agr ca ca0 N0 N ∧ N0 ≤ N
def stk (ρ : Nat → Nat) (rv : AV) : List Value := match rv with
  | none => []
  | some v => [cv ρ (some v)]
def okret (ret : Option FieldType) (rv : AV) : Prop := match ret, rv with
  | none, none => True
  | some .int, some (.inl _) => True
  | some .boolean, some (.inl x) => x = 0 ∨ x = 1
  | some .long, some (.inr (.inl _)) => True
  | _, _ => False
def retAt (mt : MI) (pc : Nat) (rv : AV) : Prop := okret mt.2.2.2.1 rv ∧ match rv with
  | none => decode mt.2.1 pc = .ok (.return_, 1)
  | some (.inl _) => decode mt.2.1 pc = .ok (.ireturn, 1)
  | some (.inr _) => decode mt.2.1 pc = .ok (.lreturn, 1)
def good (K : KT) (mt : MI) (Q : QT) (p : Program) (l : Launch) (e : Env) (Rm : Room) (s : State) (m : MethodId) (args : Array Value) (below : List Frame) (meth : Method) (c : Code) (A : Nat → Prop) (D : va_G) (ρ0 : Nat → Nat) (ca0 : Nat → ClassId) (N0 : Nat) (QQ : State → Prop) : Prop :=
  p.tables.exec = Jvm.exec ∧ c.code = mt.2.1 ∧ c.maxLocals = mt.2.2.1 ∧ s.vm.findClass mt.1.cls = some m.cls ∧ (∀ w ∈ TB, w.before args s = true) ∧ (∀ q, s.heap.size ≤ q → A q) ∧ va_K D vwCl [] s ∧ (mt.2.2.2.2.1 ≤ Rm.frames ∧ mt.2.2.2.2.2 ≤ Rm.locals ∧ K.1 - N0 ≤ Rm.cells ∧ cum K.1 - cum N0 ≤ Rm.slots) ∧ (meth.name = mt.1.name ∧ nbw s) ∧
  (K.2.1 = 0 ∨ (va_X (ρ0 1000) K.2.1 K.2.2 s s.heap ∧ ρ0 1000 < s.heap.size ∧ ¬ A (ρ0 1000) ∧ K.2.1 < 2 ^ 31)) ∧ K.1 < 1000 ∧
  ∀ (pc : Nat) (H : Heap) (locs : List Loc) (ls : Array Slot) (ρ : Nat → Nat) (ca : Nat → ClassId) (L : List AV) (rv : AV) (I : II) (R : RR), retAt mt pc rv → Q rv I R → SM mt s A D ρ0 ca0 N0 H locs ls ρ ca L I R K.1 →
    W p l e Rm s m args below meth c H locs (K.1 - N0) (cum K.1 - cum N0) QQ (F0 m pc ls (stk ρ rv))
/-- from here the method goes on to an end with Q -/
def wp (K : KT) (mt : MI) (Q : QT) (pc : Nat) (L S : List AV) (I : II) (R : RR) (N : Nat) : Prop :=
  ∀ (p : Program) (l : Launch) (e : Env) (Rm : Room) (s : State) (m : MethodId) (args : Array Value) (below : List Frame) (meth : Method) (c : Code) (A : Nat → Prop) (D : va_G) (ρ0 : Nat → Nat) (ca0 : Nat → ClassId) (N0 : Nat) (QQ : State → Prop),
  good K mt Q p l e Rm s m args below meth c A D ρ0 ca0 N0 QQ → ∀ (H : Heap) (locs : List Loc) (ls : Array Slot) (ρ : Nat → Nat) (ca : Nat → ClassId), SM mt s A D ρ0 ca0 N0 H locs ls ρ ca L I R N →
    W p l e Rm s m args below meth c H locs (N - N0) (cum N - cum N0) QQ (F0 m pc ls (S.map (cv ρ)))

/-! numbers -/
theorem i32_toInt {x : Int} (h : InI x) : (i32 x).toInt = x := Int32.toInt_ofInt_of_le (by unfold InI at h; omega) (by unfold InI at h; omega)
theorem i64_toInt {x : Int} (h : InL x) : (i64 x).toInt = x := Int64.toInt_ofInt_of_le (by unfold InL at h; omega) (by unfold InL at h; omega)
theorem i32_lt {a b : Int} (ha : InI a) (hb : InI b) : (i32 a < i32 b) ↔ a < b := by rw [Int32.lt_iff_toInt_lt, i32_toInt ha, i32_toInt hb]
theorem i32_le {a b : Int} (ha : InI a) (hb : InI b) : (i32 a ≤ i32 b) ↔ a ≤ b := by rw [Int32.le_iff_toInt_le, i32_toInt ha, i32_toInt hb]
theorem i32_eq {a b : Int} (ha : InI a) (hb : InI b) : (i32 a = i32 b) ↔ a = b := by rw [← Int32.toInt_inj, i32_toInt ha, i32_toInt hb]
theorem i32_0 : (0 : Int32) = i32 0 := by decide
theorem InI_0 : InI 0 := by unfold InI; omega
theorem i32_add (a b : Int) : i32 a + i32 b = i32 (a + b) := (Int32.ofInt_add a b).symm
theorem i32_sub (a b : Int) : i32 a - i32 b = i32 (a - b) := (Int32.ofInt_sub a b).symm
theorem i32_mul (a b : Int) : i32 a * i32 b = i32 (a * b) := (Int32.ofInt_mul a b).symm
theorem i32_neg (a : Int) : - i32 a = i32 (-a) := (Int32.ofInt_neg a).symm
theorem i64_add (a b : Int) : i64 a + i64 b = i64 (a + b) := (Int64.ofInt_add a b).symm
theorem i64_sub (a b : Int) : i64 a - i64 b = i64 (a - b) := (Int64.ofInt_sub a b).symm
theorem i64_mul (a b : Int) : i64 a * i64 b = i64 (a * b) := (Int64.ofInt_mul a b).symm
theorem i32_of (x : Int32) : i32 x.toInt = x := Int32.ofInt_toInt x
theorem i64_of (x : Int64) : i64 x.toInt = x := Int64.ofInt_toInt x
theorem i32_cl {x : Int} (h0 : 0 ≤ x) (h : x < 2147483648) : (i32 x).toNatClampNeg = x.toNat := by rw [← Int32.toNat_toInt, i32_toInt ⟨by omega, by omega⟩]
theorem i32_in {x : Int} {n : Nat} (h0 : 0 ≤ x) (h : x < (n : Int)) (hn : n ≤ 1000) : vp_in (i32 x) n := by
  rw [vp_in_iff, i32_toInt ⟨by omega, by omega⟩]; exact ⟨h0, h⟩
theorem i32_div {a b : Int} (ha : 0 ≤ a) (ha2 : a ≤ 2147483647) (hb : 0 < b) (hb2 : b ≤ 2147483647) : i32 a / i32 b = i32 (a / b) := by
  have h1 : 0 ≤ a / b := Int.ediv_nonneg ha (by omega)
  have h2 : a / b ≤ a := Int.ediv_le_self b ha
  apply Int32.toInt_inj.mp
  rw [Int32.toInt_div_of_ne_right, i32_toInt ⟨by omega, by omega⟩, i32_toInt ⟨by omega, by omega⟩, i32_toInt ⟨by omega, by omega⟩, Int.tdiv_eq_ediv_of_nonneg ha]
  intro h
  have := congrArg Int32.toInt h
  rw [i32_toInt ⟨by omega, by omega⟩] at this
  have e : (-1 : Int32).toInt = -1 := by decide
  omega
theorem i32_rem {a b : Int} (ha : 0 ≤ a) (ha2 : a ≤ 2147483647) (hb : 0 < b) (hb2 : b ≤ 2147483647) : i32 a - i32 a / i32 b * i32 b = i32 (a % b) := by
  rw [i32_div ha ha2 hb hb2, i32_mul, i32_sub]
  congr 1
  have := Int.emod_add_mul_ediv a b
  rw [Int.mul_comm b] at this
  omega
theorem i32_ne0 {b : Int} (hb : 0 < b) (hb2 : b ≤ 2147483647) : ¬ i32 b = 0 := by
  rw [i32_0, i32_eq ⟨by omega, by omega⟩ InI_0]; omega
theorem i64_div {a b : Int} (ha : 0 ≤ a) (ha2 : a ≤ 9223372036854775807) (hb : 0 < b) (hb2 : b ≤ 9223372036854775807) : i64 a / i64 b = i64 (a / b) := by
  have h1 : 0 ≤ a / b := Int.ediv_nonneg ha (by omega)
  have h2 : a / b ≤ a := Int.ediv_le_self b ha
  apply Int64.toInt_inj.mp
  rw [Int64.toInt_div_of_ne_right, i64_toInt ⟨by omega, by omega⟩, i64_toInt ⟨by omega, by omega⟩, i64_toInt ⟨by omega, by omega⟩, Int.tdiv_eq_ediv_of_nonneg ha]
  intro h
  have := congrArg Int64.toInt h
  rw [i64_toInt ⟨by omega, by omega⟩] at this
  have e : (-1 : Int64).toInt = -1 := by decide
  omega
theorem i64_rem {a b : Int} (ha : 0 ≤ a) (ha2 : a ≤ 9223372036854775807) (hb : 0 < b) (hb2 : b ≤ 9223372036854775807) : i64 a - i64 a / i64 b * i64 b = i64 (a % b) := by
  rw [i64_div ha ha2 hb hb2, i64_mul, i64_sub]
  congr 1
  have := Int.emod_add_mul_ediv a b
  rw [Int.mul_comm b] at this
  omega
theorem i64_ne0 {b : Int} (hb : 0 < b) (hb2 : b ≤ 9223372036854775807) : ¬ i64 b = 0 := by
  intro h
  have := congrArg Int64.toInt h
  rw [i64_toInt ⟨by omega, by omega⟩, Int64.toInt_zero] at this
  omega
theorem i32_i2l {x : Int} (h : InI x) : (i32 x).toInt64 = i64 x := by
  apply Int64.toInt_inj.mp
  rw [Int32.toInt_toInt64, i32_toInt h, i64_toInt ⟨by unfold InI at h; omega, by unfold InI at h; omega⟩]
theorem i64_l2i (x : Int) : (i64 x).toInt32 = i32 x := Int64.toInt32_ofInt
theorem i64_cmp {a b : Int} (ha : InL a) (hb : InL b) : lg_cmp (i64 a) (i64 b) = i32 (if b < a then 1 else if a = b then 0 else -1) := by
  unfold lg_cmp
  simp only [gt_iff_lt, Int64.lt_iff_toInt_lt, ← Int64.toInt_inj, i64_toInt ha, i64_toInt hb]
  repeat' split
  all_goals rfl
/-! the listed values of a method's slots -/
def asc (ρ : Nat → Nat) (L : List AV) : List (Nat × Value) := (List.range L.length).filterMap (fun k => match L[k]? with
  | some (some v) => some (k, cv ρ (some v))
  | _ => none)
theorem asc_mem {ρ : Nat → Nat} {L : List AV} {k : Nat} {v : Int ⊕ (Int ⊕ Nat)} (h : L[k]? = some (some v)) : (k, cv ρ (some v)) ∈ asc ρ L := by
  refine List.mem_filterMap.mpr ⟨k, List.mem_range.mpr (List.getElem?_eq_some_iff.mp h).1, ?_⟩
  rw [h]
theorem asc_of {ρ : Nat → Nat} {L : List AV} {q : Nat × Value} (h : q ∈ asc ρ L) : ∃ v, L[q.1]? = some (some v) ∧ q.2 = cv ρ (some v) := by
  obtain ⟨k, -, hk⟩ := List.mem_filterMap.mp h
  cases hL : L[k]? with
  | none => rw [hL] at hk; cases hk
  | some o =>
    rw [hL] at hk
    cases o with
    | none => cases hk
    | some v => cases hk; exact ⟨v, hL, rfl⟩
theorem LR.has {ρ : Nat → Nat} {ls : Array Slot} {nL : Nat} {L : List AV} (h : LR ρ ls nL L) : lv_has ls nL (asc ρ L) := by
  refine ⟨h.1, h.2.1, fun q hq => ?_⟩
  obtain ⟨v, h1, h2⟩ := asc_of hq
  rw [h2]
  exact h.2.2 _ _ h1
/-- no long begins one place ahead -/
def okst (L : List AV) (i : Nat) : Bool := match i with
  | 0 => true
  | j + 1 => match L[j]? with
    | some (some (.inr (.inl _))) => false
    | _ => true
theorem cv_cat1 {ρ : Nat → Nat} {x : Int} : (cv ρ (vI x)).category = 1 := rfl
theorem cv_catR {ρ : Nat → Nat} {r : Nat} : (cv ρ (vR r)).category = 1 := by
  show (va_rf (rfv ρ r)).category = 1
  unfold rfv; split <;> rfl
theorem cv_cat2 {ρ : Nat → Nat} {v : Int ⊕ (Int ⊕ Nat)} (h : (cv ρ (some v)).category = 2) : ∃ x, v = .inr (.inl x) := by
  rcases v with x | x | r
  · cases h
  · exact ⟨x, rfl⟩
  · have := cv_catR (ρ := ρ) (r := r)
    rw [show cv ρ (some (.inr (.inr r))) = cv ρ (vR r) from rfl] at h
    omega
theorem LR.set1 {ρ : Nat → Nat} {ls ls' : Array Slot} {nL i : Nat} {L : List AV} {v : Int ⊕ (Int ⊕ Nat)} (h : LR ρ ls nL L) (ok : okst L i = true)
    (h' : lv_has ls' nL ((i, cv ρ (some v)) :: (asc ρ L).filter (fun q => !(q.1 == i) && !(q.1 + 1 == i && q.2.category == 2)))) : LR ρ ls' nL (L.set i (some v)) := by
  refine ⟨h'.1, h'.2.1, fun k w hk => ?_⟩
  by_cases hki : i = k
  · subst hki
    by_cases hl : i < L.length
    · rw [List.getElem?_set_self hl] at hk
      cases hk
      exact h'.2.2 _ List.mem_cons_self
    · have := (List.getElem?_eq_some_iff.mp hk).1
      rw [List.length_set] at this
      omega
  · rw [List.getElem?_set_ne hki] at hk
    refine h'.2.2 (k, cv ρ (some w)) (List.mem_cons_of_mem _ (List.mem_filter.mpr ⟨asc_mem hk, ?_⟩))
    simp only [Bool.and_eq_true, Bool.not_eq_true', beq_eq_false_iff_ne, ne_eq, Bool.and_eq_false_iff]
    refine ⟨fun e => hki e.symm, ?_⟩
    by_cases hk1 : k + 1 = i
    · right
      intro hc
      obtain ⟨x, rfl⟩ := cv_cat2 hc
      subst hk1
      simp [okst, hk] at ok
    · exact Or.inl hk1
theorem LR.set2 {ρ : Nat → Nat} {ls ls' : Array Slot} {nL i : Nat} {L : List AV} {x : Int} (h : LR ρ ls nL L) (ok : okst L i = true)
    (h' : lv_has ls' nL ((i, .long (i64 x)) :: (asc ρ L).filter (fun q => !(q.1 == i) && (!(q.1 == i + 1) && !(q.1 + 1 == i && q.2.category == 2))))) : LR ρ ls' nL ((L.set i (vL x)).set (i + 1) none) := by
  refine ⟨h'.1, h'.2.1, fun k w hk => ?_⟩
  by_cases hk2 : i + 1 = k
  · subst hk2
    by_cases hl : i + 1 < (L.set i (vL x)).length
    · rw [List.getElem?_set_self hl] at hk
      cases hk
    · have := (List.getElem?_eq_some_iff.mp hk).1
      rw [List.length_set] at this
      omega
  · rw [List.getElem?_set_ne hk2] at hk
    by_cases hki : i = k
    · subst hki
      by_cases hl : i < L.length
      · rw [List.getElem?_set_self hl] at hk
        cases hk
        exact h'.2.2 _ List.mem_cons_self
      · have := (List.getElem?_eq_some_iff.mp hk).1
        rw [List.length_set] at this
        omega
    · rw [List.getElem?_set_ne hki] at hk
      refine h'.2.2 (k, cv ρ (some w)) (List.mem_cons_of_mem _ (List.mem_filter.mpr ⟨asc_mem hk, ?_⟩))
      simp only [Bool.and_eq_true, Bool.not_eq_true', beq_eq_false_iff_ne, ne_eq, Bool.and_eq_false_iff]
      refine ⟨fun e => hki e.symm, fun e => hk2 e.symm, ?_⟩
      by_cases hk1 : k + 1 = i
      · right
        intro hc
        obtain ⟨x, rfl⟩ := cv_cat2 hc
        subst hk1
        simp [okst, hk] at ok
      · exact Or.inl hk1
theorem LR.at {ρ : Nat → Nat} {ls : Array Slot} {nL i : Nat} {L : List AV} {v : Int ⊕ (Int ⊕ Nat)} (h : LR ρ ls nL L) (hi : L[i]? = some (some v)) : ls[i]? = some (.val (cv ρ (some v))) := h.2.2 _ _ hi
/-- fewer values -/
def leL : List AV → List AV → Bool
  | [], _ => true
  | none :: a, _ :: b => leL a b
  | some x :: a, some y :: b => decide (x = y) && leL a b
  | none :: a, [] => leL a []
  | some _ :: _, _ => false
theorem leL_at : ∀ {a b : List AV} {k : Nat} {v : Int ⊕ (Int ⊕ Nat)}, leL a b = true → a[k]? = some (some v) → b[k]? = some (some v)
  | [], _, _, _, _, h => by simp at h
  | none :: a, y :: b, 0, _, _, h => by simp at h
  | none :: a, y :: b, k + 1, v, hl, h => by
    have hl : leL a b = true := hl
    simpa using leL_at hl (by simpa using h)
  | none :: a, [], 0, _, _, h => by simp at h
  | none :: a, [], k + 1, v, hl, h => by
    have hl : leL a [] = true := hl
    have := leL_at hl (by simpa using h)
    simp at this
  | some x :: a, some y :: b, 0, v, hl, h => by
    simp only [leL, Bool.and_eq_true, decide_eq_true_eq] at hl
    simp at h
    simp [← hl.1, h]
  | some x :: a, some y :: b, k + 1, v, hl, h => by
    simp only [leL, Bool.and_eq_true] at hl
    simpa using leL_at hl.2 (by simpa using h)
  | some x :: a, none :: b, _, _, hl, _ => by simp [leL] at hl
  | some x :: a, [], _, _, hl, _ => by simp [leL] at hl
theorem LR.le {ρ : Nat → Nat} {ls : Array Slot} {nL : Nat} {L L' : List AV} (h : LR ρ ls nL L) (hl : leL L' L = true) : LR ρ ls nL L' := ⟨h.1, h.2.1, fun k v hk => h.2.2 k v (leL_at hl hk)⟩
/-! the world's list -/
theorem set_mr {α : Type} (n k : Nat) (f : Nat → α) (v : α) : ((List.range n).map f).set k v = (List.range n).map (fun j => if j = k then v else f j) := by
  apply List.ext_getElem
  · simp
  · intro i h1 h2
    rw [List.getElem_set]
    simp only [List.getElem_map, List.getElem_range]
    by_cases h : k = i
    · rw [if_pos h, if_pos h.symm]
    · rw [if_neg h, if_neg (fun e => h e.symm)]
theorem ws_at {ρ : Nat → Nat} {ca : Nat → ClassId} {I : II} {R : RR} {N r : Nat} (h0 : 0 < r) (hN : r ≤ N) : (wsW ρ ca I R N)[r - 1]? = some (ρ r, cellE ρ ca I R r) := by
  unfold wsW
  rw [List.getElem?_map, List.getElem?_range (by omega)]
  simp only [Option.map_some]
  rw [show r - 1 + 1 = r by omega]
theorem ws_set {ρ : Nat → Nat} {ca : Nat → ClassId} {I I' : II} {R R' : RR} {N r : Nat} {e : va_E} (h0 : 0 < r) (he : cellE ρ ca I' R' r = e) (ho : ∀ i, i ≠ r → cellE ρ ca I' R' i = cellE ρ ca I R i) : (wsW ρ ca I R N).set (r - 1) (ρ r, e) = wsW ρ ca I' R' N := by
  unfold wsW
  rw [set_mr]
  apply List.map_congr_left
  intro j _
  by_cases h : j = r - 1
  · rw [if_pos h]
    subst he
    rw [show j + 1 = r by omega]
  · rw [if_neg h, ho (j + 1) (by omega)]
theorem cell_obj {ρ : Nat → Nat} {ca : Nat → ClassId} {I : II} {R : RR} {r c : Nat} (h : sh r = (0, c)) : cellE ρ ca I R r = .inr (c, (List.range (nfc c)).map (fval ρ I R c r)) := by
  unfold cellE; rw [h]; rfl
theorem cell_int {ρ : Nat → Nat} {ca : Nat → ClassId} {I : II} {R : RR} {r k n : Nat} (h : sh r = (k, n)) (h1 : 0 < k) (h2 : k ≤ 2) : cellE ρ ca I R r = .inl (ca r, n, .inl (fun j => i32 (I r j))) := by
  unfold cellE; rw [h, if_neg (by show ¬ k = 0; omega), if_pos h2]
theorem cell_ref {ρ : Nat → Nat} {ca : Nat → ClassId} {I : II} {R : RR} {r k n : Nat} (h : sh r = (k, n)) (h1 : 2 < k) : cellE ρ ca I R r = .inl (ca r, n, .inr (.inr (.inr (.inr (fun j => rfv ρ (R r j)))))) := by
  unfold cellE; rw [h, if_neg (by show ¬ k = 0; omega), if_neg (by show ¬ k ≤ 2; omega)]
theorem cell_congr {ρ : Nat → Nat} {ca : Nat → ClassId} {I I' : II} {R R' : RR} {i : Nat} (hI : ∀ j, I' i j = I i j) (hR : ∀ j, R' i j = R i j) : cellE ρ ca I' R' i = cellE ρ ca I R i := by
  have h1 : I' i = I i := funext hI
  have h2 : R' i = R i := funext hR
  unfold cellE
  have h3 : fval ρ I' R' (sh i).2 i = fval ρ I R (sh i).2 i := by
    funext k
    unfold fval
    rw [hI, hR]
  rw [h3, h1, h2]
theorem up2_ne {α : Type} {f : Nat → Nat → α} {r j a b : Nat} {v : α} (h : a ≠ r) : up2 f r j v a b = f a b := by
  unfold up2; rw [if_neg (fun q => h q.1)]
theorem up2_self {α : Type} {f : Nat → Nat → α} {r j : Nat} {v : α} : up2 f r j v r j = v := by
  unfold up2; rw [if_pos ⟨rfl, rfl⟩]
theorem up2_nj {α : Type} {f : Nat → Nat → α} {r j a b : Nat} {v : α} (h : b ≠ j) : up2 f r j v a b = f a b := by
  unfold up2; rw [if_neg (fun q => h q.2)]
theorem cell_up_I {ρ : Nat → Nat} {ca : Nat → ClassId} {I : II} {R : RR} {r k : Nat} {x : Int} (i : Nat) (h : i ≠ r) : cellE ρ ca (up2 I r k x) R i = cellE ρ ca I R i := cell_congr (fun _ => up2_ne h) (fun _ => rfl)
theorem cell_up_R {ρ : Nat → Nat} {ca : Nat → ClassId} {I : II} {R : RR} {r k : Nat} {x : Nat} (i : Nat) (h : i ≠ r) : cellE ρ ca I (up2 R r k x) i = cellE ρ ca I R i := cell_congr (fun _ => rfl) (fun _ => up2_ne h)
theorem fval_at {ρ : Nat → Nat} {I : II} {R : RR} {c r k n : Nat} (h : k < n) : ((List.range n).map (fval ρ I R c r))[k]? = some (fval ρ I R c r k) := by
  rw [List.getElem?_map, List.getElem?_range h]; rfl
theorem fval_I {ρ : Nat → Nat} {I : II} {R : RR} {c r k : Nat} (h : fref c k = false) : fval ρ I R c r k = .int (i32 (I r k)) := by
  unfold fval; rw [h]; rfl
theorem fval_R {ρ : Nat → Nat} {I : II} {R : RR} {c r k : Nat} (h : fref c k = true) : fval ρ I R c r k = va_rf (rfv ρ (R r k)) := by
  unfold fval; rw [if_pos h]
theorem obj_set_I {ρ : Nat → Nat} {I : II} {R : RR} {c r k n : Nat} {x : Int} (h : fref c k = false) : ((List.range n).map (fval ρ I R c r)).set k (.int (i32 x)) = (List.range n).map (fval ρ (up2 I r k x) R c r) := by
  rw [set_mr]
  apply List.map_congr_left
  intro j _
  by_cases hj : j = k
  · subst hj
    rw [if_pos rfl, fval_I h, up2_self]
  · rw [if_neg hj]
    unfold fval
    rw [up2_nj hj]
theorem obj_set_R {ρ : Nat → Nat} {I : II} {R : RR} {c r k n x : Nat} (h : fref c k = true) : ((List.range n).map (fval ρ I R c r)).set k (va_rf (rfv ρ x)) = (List.range n).map (fval ρ I (up2 R r k x) c r) := by
  rw [set_mr]
  apply List.map_congr_left
  intro j _
  by_cases hj : j = k
  · subst hj
    rw [if_pos rfl, fval_R h, up2_self]
  · rw [if_neg hj]
    unfold fval
    rw [up2_nj hj]
theorem rfv_pos {ρ : Nat → Nat} {r : Nat} (h : 0 < r) : rfv ρ r = some (ρ r) := by unfold rfv; rw [if_neg (by omega)]
theorem cv_pos {ρ : Nat → Nat} {r : Nat} (h : 0 < r) : cv ρ (vR r) = .ref (ρ r) := by
  show va_rf (rfv ρ r) = _
  rw [rfv_pos h]; rfl
theorem sh_ok : ∀ i, (sh i).2 ≤ 1000 := by
  intro i
  unfold sh
  by_cases h : i < shL.length
  · have : ∀ q ∈ shL, q.2 ≤ 1000 := by decide +kernel
    rw [List.getD_eq_getElem?_getD, List.getElem?_eq_getElem h]
    exact this _ (List.getElem_mem h)
  · rw [List.getD_eq_getElem?_getD, List.getElem?_eq_none (by omega)]
    decide
theorem nfc_of {c n : Nat} {C : String} {T : u_T} (h : vwCl[c]? = some (C, T, n)) : nfc c = n := by unfold nfc; rw [h]; rfl
theorem vw_lt {c : Nat} {q : vw_C} (h : vwCl[c]? = some q) : c < 11 := (List.getElem?_eq_some_iff.mp h).1
end
section
/-! the words that calls, fields and methods rest on, by their places in the tables -/
theorem vc0 : vwCl[0]? = some (RX0, TX0, 2) := rfl
theorem vc1 : vwCl[1]? = some (RX1, TX1, 2) := rfl
theorem vc2 : vwCl[2]? = some (RX2, TX2, 4) := rfl
theorem vc3 : vwCl[3]? = some (RX3, TX3, 6) := rfl
theorem vc4 : vwCl[4]? = some (RX4, TX4, 5) := rfl
theorem vc5 : vwCl[5]? = some (RX5, TX5, 3) := rfl
theorem vc6 : vwCl[6]? = some (RX6, TX6, 13) := rfl
theorem vc7 : vwCl[7]? = some (RX7, TX7, 14) := rfl
theorem vc8 : vwCl[8]? = some (RX8, TX8, 2) := rfl
theorem vc9 : vwCl[9]? = some (RX10, TX10, 12) := rfl
theorem vc10 : vwCl[10]? = some (RX11, TX11, 34) := rfl
def mX0_init : MI := (yX0_init, cX0_init, 1, none, 1, 20)
def mX0_choose : MI := (yX0_choose, cX0_choose, 10, none, 2, 45)
def mX0_offer : MI := (yX0_offer, cX0_offer, 4, none, 1, 21)
def mX1_init : MI := (yX1_init, cX1_init, 1, none, 2, 40)
def mX1_hold : MI := (yX1_hold, cX1_hold, 3, none, 2, 55)
def mX1_giveBack : MI := (yX1_giveBack, cX1_giveBack, 3, none, 2, 55)
def mX2_init : MI := (yX2_init, cX2_init, 2, none, 1, 20)
def mX2_add : MI := (yX2_add, cX2_add, 4, none, 0, 0)
def mX2_ahead : MI := (yX2_ahead, cX2_ahead, 4, (some .int), 0, 0)
def mX2_sum : MI := (yX2_sum, cX2_sum, 5, (some .int), 1, 21)
def mX2_holds : MI := (yX2_holds, cX2_holds, 4, (some .boolean), 0, 0)
def mX3_init : MI := (yX3_init, cX3_init, 1, none, 2, 41)
def mX3_empty : MI := (yX3_empty, cX3_empty, 1, none, 0, 0)
def mX3_put : MI := (yX3_put, cX3_put, 4, none, 1, 23)
def mX3_meet : MI := (yX3_meet, cX3_meet, 4, none, 3, 67)
def mX3_cross : MI := (yX3_cross, cX3_cross, 3, none, 2, 45)
def mX3_price : MI := (yX3_price, cX3_price, 2, none, 1, 21)
def mX3_trades : MI := (yX3_trades, cX3_trades, 3, (some .boolean), 1, 23)
def mX4_init : MI := (yX4_init, cX4_init, 1, none, 1, 20)
def mX4_add : MI := (yX4_add, cX4_add, 5, none, 0, 0)
def mX4_copy : MI := (yX4_copy, cX4_copy, 2, none, 1, 34)
def mX4_seenOf : MI := (yX4_seenOf, cX4_seenOf, 6, (some .int), 1, 21)
def mX4_mayBeBy : MI := (yX4_mayBeBy, cX4_mayBeBy, 8, (some .boolean), 3, 74)
def mX5_init : MI := (yX5_init, cX5_init, 1, none, 1, 20)
def mX5_read : MI := (yX5_read, cX5_read, 5, (some .int), 3, 68)
def mX5_split : MI := (yX5_split, cX5_split, 7, (some .boolean), 0, 0)
def mX5_take : MI := (yX5_take, cX5_take, 3, (some .boolean), 2, 46)
def mX6_init : MI := (yX6_init, cX6_init, 1, none, 1, 20)
def mX6_empty : MI := (yX6_empty, cX6_empty, 1, none, 0, 0)
def mX6_has : MI := (yX6_has, cX6_has, 2, (some .boolean), 0, 0)
def mX6_addPerson : MI := (yX6_addPerson, cX6_addPerson, 5, (some .boolean), 1, 22)
def mX6_set : MI := (yX6_set, cX6_set, 3, (some .boolean), 1, 22)
def mX7_init : MI := (yX7_init, cX7_init, 1, none, 3, 61)
def mX7_play : MI := (yX7_play, cX7_play, 6, none, 5, 126)
def mX7_wanders : MI := (yX7_wanders, cX7_wanders, 1, (some .int), 0, 0)
def mX7_draw : MI := (yX7_draw, cX7_draw, 5, (some .int), 0, 0)
def mX7_rest : MI := (yX7_rest, cX7_rest, 2, (some .int), 0, 0)
def mX7_tells : MI := (yX7_tells, cX7_tells, 7, (some .int), 3, 74)
def mX7_trade : MI := (yX7_trade, cX7_trade, 6, none, 1, 21)
def mX7_playShouts : MI := (yX7_playShouts, cX7_playShouts, 6, none, 4, 100)
def mX7_hearBid : MI := (yX7_hearBid, cX7_hearBid, 5, none, 2, 46)
def mX7_hearOffer : MI := (yX7_hearOffer, cX7_hearOffer, 5, none, 2, 46)
def mX7_playPairs : MI := (yX7_playPairs, cX7_playPairs, 7, none, 4, 100)
def mX7_playPosted : MI := (yX7_playPosted, cX7_playPosted, 5, none, 4, 100)
def mX7_cheapestLeft : MI := (yX7_cheapestLeft, cX7_cheapestLeft, 6, (some .int), 1, 22)
def mX7_playBell : MI := (yX7_playBell, cX7_playBell, 4, none, 4, 100)
def mX8_init : MI := (yX8_init, cX8_init, 1, none, 1, 20)
def mX8_add : MI := (yX8_add, cX8_add, 2, none, 0, 0)
def mX9_span : MI := (yX9_span, cX9_span, 4, (some .int), 0, 0)
def mX9_by : MI := (yX9_by, cX9_by, 9, (some .int), 2, 46)
def mX9_near : MI := (yX9_near, cX9_near, 6, (some .int), 1, 21)
def mX9_share : MI := (yX9_share, cX9_share, 3, (some .int), 0, 0)
def mX9_underLid : MI := (yX9_underLid, cX9_underLid, 3, (some .int), 1, 21)
def mX9_isHeard : MI := (yX9_isHeard, cX9_isHeard, 3, (some .boolean), 0, 0)
def mX10_init : MI := (yX10_init, cX10_init, 2, none, 4, 81)
def mX10_write : MI := (yX10_write, cX10_write, 5, (some .int), 1, 22)
def mX10_wipe : MI := (yX10_wipe, cX10_wipe, 2, (some .int), 0, 0)
def mX10_fault : MI := (yX10_fault, cX10_fault, 1, (some .int), 4, 92)
def mX10_lay : MI := (yX10_lay, cX10_lay, 2, (some .int), 4, 92)
def mX10_person : MI := (yX10_person, cX10_person, 3, (some .int), 1, 22)
def mX10_law : MI := (yX10_law, cX10_law, 4, (some .int), 1, 22)
def mX10_lines : MI := (yX10_lines, cX10_lines, 2, (some .int), 4, 90)
def mX10_served : MI := (yX10_served, cX10_served, 7, (some .int), 4, 90)
def mX10_pairs : MI := (yX10_pairs, cX10_pairs, 6, (some .long), 1, 25)
def mX10_bell : MI := (yX10_bell, cX10_bell, 3, (some .int), 4, 90)
def mX10_best : MI := (yX10_best, cX10_best, 9, (some .int), 4, 90)
def mX10_round : MI := (yX10_round, cX10_round, 4, (some .int), 6, 151)
def mX10_of : MI := (yX10_of, cX10_of, 4, (some .int), 6, 151)
def mX10_means : MI := (yX10_means, cX10_means, 4, (some .int), 7, 175)
def mX10_rules : MI := (yX10_rules, cX10_rules, 4, (some .int), 7, 175)
def mX10_shout : MI := (yX10_shout, cX10_shout, 3, (some .int), 1, 22)
def mX10_known : MI := (yX10_known, cX10_known, 2, (some .int), 2, 46)
def mX10_least : MI := (yX10_least, cX10_least, 3, (some .int), 3, 67)
def mX10_laws : MI := (yX10_laws, cX10_laws, 4, (some .int), 4, 101)
def mX10_two : MI := (yX10_two, cX10_two, 6, (some .int), 3, 74)
def mX10_keep : MI := (yX10_keep, cX10_keep, 1, (some .int), 3, 77)
def mX10_back : MI := (yX10_back, cX10_back, 1, (some .int), 3, 77)
def mX10_count : MI := (yX10_count, cX10_count, 2, (some .int), 0, 0)
def mX10_within : MI := (yX10_within, cX10_within, 3, (some .boolean), 0, 0)
def mX10_gainOfAllMeetings : MI := (yX10_gainOfAllMeetings, cX10_gainOfAllMeetings, 6, (some .int), 0, 0)
def mX10_gainOfTelling : MI := (yX10_gainOfTelling, cX10_gainOfTelling, 4, (some .int), 3, 67)
def mX10_sumUp : MI := (yX10_sumUp, cX10_sumUp, 5, none, 6, 151)
def mX10_bestBy : MI := (yX10_bestBy, cX10_bestBy, 5, (some .int), 0, 0)
def mX11_init : MI := (yX11_init, cX11_init, 1, none, 1, 21)
def mX11_in : MI := (yX11_in, cX11_in, 6, (some .boolean), 0, 0)
def mX11_noRoom : MI := (yX11_noRoom, cX11_noRoom, 2, none, 0, 0)
def mX11_write : MI := (yX11_write, cX11_write, 5, (some .int), 1, 25)
def mX11_wipe : MI := (yX11_wipe, cX11_wipe, 2, (some .int), 0, 0)
def mX11_byteAt : MI := (yX11_byteAt, cX11_byteAt, 2, (some .int), 0, 0)
def mX11_figures : MI := (yX11_figures, cX11_figures, 5, (some .boolean), 1, 25)
def mX11_readMany : MI := (yX11_readMany, cX11_readMany, 4, (some .int), 0, 0)
def mX11_personItem : MI := (yX11_personItem, cX11_personItem, 2, (some .boolean), 2, 49)
def mX11_numberItem : MI := (yX11_numberItem, cX11_numberItem, 4, (some .boolean), 2, 49)
def mX11_item : MI := (yX11_item, cX11_item, 2, (some .boolean), 3, 72)
def mX11_readAll : MI := (yX11_readAll, cX11_readAll, 2, (some .int), 4, 93)
def mX11_fault : MI := (yX11_fault, cX11_fault, 1, (some .int), 5, 114)
def mX11_lay : MI := (yX11_lay, cX11_lay, 2, (some .int), 5, 114)
def mX11_isPerson : MI := (yX11_isPerson, cX11_isPerson, 2, (some .boolean), 1, 25)
def mX11_manyOf : MI := (yX11_manyOf, cX11_manyOf, 4, (some .int), 0, 0)
def mX11_person : MI := (yX11_person, cX11_person, 3, (some .int), 2, 46)
def mX11_law : MI := (yX11_law, cX11_law, 4, (some .int), 2, 46)
def mX11_showTrue : MI := (yX11_showTrue, cX11_showTrue, 2, none, 0, 0)
def mX11_layLines : MI := (yX11_layLines, cX11_layLines, 3, none, 0, 0)
def mX11_worth : MI := (yX11_worth, cX11_worth, 2, (some .int), 0, 0)
def mX11_costs : MI := (yX11_costs, cX11_costs, 2, (some .int), 0, 0)
def mX11_quantity : MI := (yX11_quantity, cX11_quantity, 3, (some .int), 1, 21)
def mX11_gainOf : MI := (yX11_gainOf, cX11_gainOf, 4, (some .int), 1, 21)
def mX11_lowest : MI := (yX11_lowest, cX11_lowest, 4, (some .int), 1, 21)
def mX11_highest : MI := (yX11_highest, cX11_highest, 4, (some .int), 1, 21)
def mX11_lines : MI := (yX11_lines, cX11_lines, 4, (some .int), 2, 44)
def mX11_served : MI := (yX11_served, cX11_served, 12, (some .int), 2, 44)
def mX11_common : MI := (yX11_common, cX11_common, 10, (some .long), 0, 0)
def mX11_pairs : MI := (yX11_pairs, cX11_pairs, 7, (some .long), 1, 29)
def mX11_isFirst : MI := (yX11_isFirst, cX11_isFirst, 5, (some .boolean), 0, 0)
def mX11_bellOf : MI := (yX11_bellOf, cX11_bellOf, 6, (some .int), 2, 44)
def mX11_bell : MI := (yX11_bell, cX11_bell, 3, (some .int), 3, 69)
def mX11_best : MI := (yX11_best, cX11_best, 8, (some .int), 3, 69)
def mX11_draw : MI := (yX11_draw, cX11_draw, 5, (some .int), 0, 0)
def mX11_shoutBy : MI := (yX11_shoutBy, cX11_shoutBy, 10, (some .int), 0, 0)
def mX11_shoutOf : MI := (yX11_shoutOf, cX11_shoutOf, 5, (some .int), 1, 29)
def mX11_trade : MI := (yX11_trade, cX11_trade, 5, none, 0, 0)
def mX11_note : MI := (yX11_note, cX11_note, 4, none, 0, 0)
def mX11_goShouts : MI := (yX11_goShouts, cX11_goShouts, 9, none, 2, 53)
def mX11_personOf : MI := (yX11_personOf, cX11_personOf, 5, (some .int), 0, 0)
def mX11_goPairs : MI := (yX11_goPairs, cX11_goPairs, 5, none, 2, 53)
def mX11_goPosted : MI := (yX11_goPosted, cX11_goPosted, 6, none, 2, 53)
def mX11_goBell : MI := (yX11_goBell, cX11_goBell, 4, none, 2, 53)
def mX11_goRound : MI := (yX11_goRound, cX11_goRound, 5, none, 3, 81)
def mX11_isRound : MI := (yX11_isRound, cX11_isRound, 2, (some .boolean), 1, 25)
def mX11_round : MI := (yX11_round, cX11_round, 4, (some .int), 4, 105)
def mX11_of : MI := (yX11_of, cX11_of, 4, (some .int), 4, 105)
def mX11_layMeans : MI := (yX11_layMeans, cX11_layMeans, 4, none, 4, 105)
def mX11_means : MI := (yX11_means, cX11_means, 4, (some .int), 5, 128)
def mX11_bestBy : MI := (yX11_bestBy, cX11_bestBy, 5, (some .int), 0, 0)
def mX11_rules : MI := (yX11_rules, cX11_rules, 4, (some .int), 5, 128)
def mX11_shout : MI := (yX11_shout, cX11_shout, 3, (some .int), 1, 25)
def mX11_knownOf : MI := (yX11_knownOf, cX11_knownOf, 5, (some .int), 0, 0)
def mX11_known : MI := (yX11_known, cX11_known, 2, (some .int), 2, 46)
def mX11_least : MI := (yX11_least, cX11_least, 3, (some .int), 2, 44)
def mX11_mayBe : MI := (yX11_mayBe, cX11_mayBe, 5, (some .boolean), 1, 29)
def mX11_laws : MI := (yX11_laws, cX11_laws, 6, (some .int), 2, 53)
def mX11_layRooms : MI := (yX11_layRooms, cX11_layRooms, 4, none, 1, 22)
def mX11_carried : MI := (yX11_carried, cX11_carried, 9, (some .int), 1, 25)
def mX11_two : MI := (yX11_two, cX11_two, 6, (some .int), 2, 53)
def mX11_copyLog : MI := (yX11_copyLog, cX11_copyLog, 4, none, 0, 0)
def mX11_keep : MI := (yX11_keep, cX11_keep, 2, (some .int), 1, 23)
def mX11_back : MI := (yX11_back, cX11_back, 2, (some .int), 1, 23)
def mX11_count : MI := (yX11_count, cX11_count, 2, (some .int), 1, 23)
def mL_law : MI := (yL_law, cL_law, 4, (some .boolean), 8, 198)
theorem okX0_init : mOK mX0_init 0 := ⟨tb_in 343 (by decide +kernel) rfl, tb_in 63 (by decide +kernel) rfl, by decide +kernel⟩
theorem pyX0_init : plainName mX0_init.1.cls = true := by decide +kernel
theorem inX0_init : Cond.instanceMethod mX0_init.1 ∈ TB := tb_in 342 (by decide +kernel) rfl
theorem okX0_choose : mOK mX0_choose 3 := ⟨tb_in 695 (by decide +kernel) rfl, tb_in 63 (by decide +kernel) rfl, by decide +kernel⟩
theorem pyX0_choose : plainName mX0_choose.1.cls = true := by decide +kernel
theorem inX0_choose : Cond.instanceMethod mX0_choose.1 ∈ TB := tb_in 693 (by decide +kernel) rfl
theorem seX0_choose : Cond.selects mX0_choose.1.cls mX0_choose.1 mX0_choose.1 ∈ TB := tb_in 694 (by decide +kernel) rfl
theorem okX0_offer : mOK mX0_offer 2 := ⟨tb_in 702 (by decide +kernel) rfl, tb_in 63 (by decide +kernel) rfl, by decide +kernel⟩
theorem pyX0_offer : plainName mX0_offer.1.cls = true := by decide +kernel
theorem inX0_offer : Cond.instanceMethod mX0_offer.1 ∈ TB := tb_in 701 (by decide +kernel) rfl
theorem seX0_offer : Cond.selects mX0_offer.1.cls mX0_offer.1 mX0_offer.1 ∈ TB := tb_in 15 (by decide +kernel) rfl
theorem okX1_init : mOK mX1_init 0 := ⟨tb_in 359 (by decide +kernel) rfl, tb_in 64 (by decide +kernel) rfl, by decide +kernel⟩
theorem pyX1_init : plainName mX1_init.1.cls = true := by decide +kernel
theorem inX1_init : Cond.instanceMethod mX1_init.1 ∈ TB := tb_in 358 (by decide +kernel) rfl
theorem okX1_hold : mOK mX1_hold 2 := ⟨tb_in 710 (by decide +kernel) rfl, tb_in 64 (by decide +kernel) rfl, by decide +kernel⟩
theorem pyX1_hold : plainName mX1_hold.1.cls = true := by decide +kernel
theorem inX1_hold : Cond.instanceMethod mX1_hold.1 ∈ TB := tb_in 708 (by decide +kernel) rfl
theorem seX1_hold : Cond.selects mX1_hold.1.cls mX1_hold.1 mX1_hold.1 ∈ TB := tb_in 709 (by decide +kernel) rfl
theorem okX1_giveBack : mOK mX1_giveBack 2 := ⟨tb_in 726 (by decide +kernel) rfl, tb_in 64 (by decide +kernel) rfl, by decide +kernel⟩
theorem pyX1_giveBack : plainName mX1_giveBack.1.cls = true := by decide +kernel
theorem inX1_giveBack : Cond.instanceMethod mX1_giveBack.1 ∈ TB := tb_in 724 (by decide +kernel) rfl
theorem seX1_giveBack : Cond.selects mX1_giveBack.1.cls mX1_giveBack.1 mX1_giveBack.1 ∈ TB := tb_in 725 (by decide +kernel) rfl
theorem okX2_init : mOK mX2_init 1 := ⟨tb_in 234 (by decide +kernel) rfl, tb_in 61 (by decide +kernel) rfl, by decide +kernel⟩
theorem pyX2_init : plainName mX2_init.1.cls = true := by decide +kernel
theorem inX2_init : Cond.instanceMethod mX2_init.1 ∈ TB := tb_in 233 (by decide +kernel) rfl
theorem okX2_add : mOK mX2_add 2 := ⟨tb_in 484 (by decide +kernel) rfl, tb_in 61 (by decide +kernel) rfl, by decide +kernel⟩
theorem pyX2_add : plainName mX2_add.1.cls = true := by decide +kernel
theorem inX2_add : Cond.instanceMethod mX2_add.1 ∈ TB := tb_in 482 (by decide +kernel) rfl
theorem seX2_add : Cond.selects mX2_add.1.cls mX2_add.1 mX2_add.1 ∈ TB := tb_in 483 (by decide +kernel) rfl
theorem okX2_ahead : mOK mX2_ahead 1 := ⟨tb_in 511 (by decide +kernel) rfl, tb_in 61 (by decide +kernel) rfl, by decide +kernel⟩
theorem pyX2_ahead : plainName mX2_ahead.1.cls = true := by decide +kernel
theorem inX2_ahead : Cond.instanceMethod mX2_ahead.1 ∈ TB := tb_in 509 (by decide +kernel) rfl
theorem seX2_ahead : Cond.selects mX2_ahead.1.cls mX2_ahead.1 mX2_ahead.1 ∈ TB := tb_in 510 (by decide +kernel) rfl
theorem okX2_sum : mOK mX2_sum 2 := ⟨tb_in 495 (by decide +kernel) rfl, tb_in 61 (by decide +kernel) rfl, by decide +kernel⟩
theorem pyX2_sum : plainName mX2_sum.1.cls = true := by decide +kernel
theorem inX2_sum : Cond.instanceMethod mX2_sum.1 ∈ TB := tb_in 493 (by decide +kernel) rfl
theorem seX2_sum : Cond.selects mX2_sum.1.cls mX2_sum.1 mX2_sum.1 ∈ TB := tb_in 494 (by decide +kernel) rfl
theorem okX2_holds : mOK mX2_holds 2 := ⟨tb_in 542 (by decide +kernel) rfl, tb_in 61 (by decide +kernel) rfl, by decide +kernel⟩
theorem pyX2_holds : plainName mX2_holds.1.cls = true := by decide +kernel
theorem inX2_holds : Cond.instanceMethod mX2_holds.1 ∈ TB := tb_in 540 (by decide +kernel) rfl
theorem seX2_holds : Cond.selects mX2_holds.1.cls mX2_holds.1 mX2_holds.1 ∈ TB := tb_in 541 (by decide +kernel) rfl
theorem okX3_init : mOK mX3_init 0 := ⟨tb_in 228 (by decide +kernel) rfl, tb_in 60 (by decide +kernel) rfl, by decide +kernel⟩
theorem pyX3_init : plainName mX3_init.1.cls = true := by decide +kernel
theorem inX3_init : Cond.instanceMethod mX3_init.1 ∈ TB := tb_in 227 (by decide +kernel) rfl
theorem okX3_empty : mOK mX3_empty 0 := ⟨tb_in 476 (by decide +kernel) rfl, tb_in 60 (by decide +kernel) rfl, by decide +kernel⟩
theorem pyX3_empty : plainName mX3_empty.1.cls = true := by decide +kernel
theorem inX3_empty : Cond.instanceMethod mX3_empty.1 ∈ TB := tb_in 474 (by decide +kernel) rfl
theorem seX3_empty : Cond.selects mX3_empty.1.cls mX3_empty.1 mX3_empty.1 ∈ TB := tb_in 475 (by decide +kernel) rfl
theorem okX3_put : mOK mX3_put 3 := ⟨tb_in 480 (by decide +kernel) rfl, tb_in 60 (by decide +kernel) rfl, by decide +kernel⟩
theorem pyX3_put : plainName mX3_put.1.cls = true := by decide +kernel
theorem inX3_put : Cond.instanceMethod mX3_put.1 ∈ TB := tb_in 478 (by decide +kernel) rfl
theorem seX3_put : Cond.selects mX3_put.1.cls mX3_put.1 mX3_put.1 ∈ TB := tb_in 479 (by decide +kernel) rfl
theorem okX3_meet : mOK mX3_meet 2 := ⟨tb_in 472 (by decide +kernel) rfl, tb_in 60 (by decide +kernel) rfl, by decide +kernel⟩
theorem pyX3_meet : plainName mX3_meet.1.cls = true := by decide +kernel
theorem inX3_meet : Cond.instanceMethod mX3_meet.1 ∈ TB := tb_in 470 (by decide +kernel) rfl
theorem seX3_meet : Cond.selects mX3_meet.1.cls mX3_meet.1 mX3_meet.1 ∈ TB := tb_in 471 (by decide +kernel) rfl
theorem okX3_cross : mOK mX3_cross 1 := ⟨tb_in 488 (by decide +kernel) rfl, tb_in 60 (by decide +kernel) rfl, by decide +kernel⟩
theorem pyX3_cross : plainName mX3_cross.1.cls = true := by decide +kernel
theorem inX3_cross : Cond.instanceMethod mX3_cross.1 ∈ TB := tb_in 486 (by decide +kernel) rfl
theorem seX3_cross : Cond.selects mX3_cross.1.cls mX3_cross.1 mX3_cross.1 ∈ TB := tb_in 487 (by decide +kernel) rfl
theorem okX3_price : mOK mX3_price 1 := ⟨tb_in 502 (by decide +kernel) rfl, tb_in 60 (by decide +kernel) rfl, by decide +kernel⟩
theorem pyX3_price : plainName mX3_price.1.cls = true := by decide +kernel
theorem inX3_price : Cond.instanceMethod mX3_price.1 ∈ TB := tb_in 501 (by decide +kernel) rfl
theorem seX3_price : Cond.selects mX3_price.1.cls mX3_price.1 mX3_price.1 ∈ TB := tb_in 0 (by decide +kernel) rfl
theorem okX3_trades : mOK mX3_trades 2 := ⟨tb_in 538 (by decide +kernel) rfl, tb_in 60 (by decide +kernel) rfl, by decide +kernel⟩
theorem pyX3_trades : plainName mX3_trades.1.cls = true := by decide +kernel
theorem inX3_trades : Cond.instanceMethod mX3_trades.1 ∈ TB := tb_in 536 (by decide +kernel) rfl
theorem seX3_trades : Cond.selects mX3_trades.1.cls mX3_trades.1 mX3_trades.1 ∈ TB := tb_in 537 (by decide +kernel) rfl
theorem okX4_init : mOK mX4_init 0 := ⟨tb_in 198 (by decide +kernel) rfl, tb_in 59 (by decide +kernel) rfl, by decide +kernel⟩
theorem pyX4_init : plainName mX4_init.1.cls = true := by decide +kernel
theorem inX4_init : Cond.instanceMethod mX4_init.1 ∈ TB := tb_in 197 (by decide +kernel) rfl
theorem okX4_add : mOK mX4_add 4 := ⟨tb_in 600 (by decide +kernel) rfl, tb_in 59 (by decide +kernel) rfl, by decide +kernel⟩
theorem pyX4_add : plainName mX4_add.1.cls = true := by decide +kernel
theorem inX4_add : Cond.instanceMethod mX4_add.1 ∈ TB := tb_in 598 (by decide +kernel) rfl
theorem seX4_add : Cond.selects mX4_add.1.cls mX4_add.1 mX4_add.1 ∈ TB := tb_in 599 (by decide +kernel) rfl
theorem okX4_copy : mOK mX4_copy 1 := ⟨tb_in 717 (by decide +kernel) rfl, tb_in 59 (by decide +kernel) rfl, by decide +kernel⟩
theorem pyX4_copy : plainName mX4_copy.1.cls = true := by decide +kernel
theorem inX4_copy : Cond.instanceMethod mX4_copy.1 ∈ TB := tb_in 715 (by decide +kernel) rfl
theorem seX4_copy : Cond.selects mX4_copy.1.cls mX4_copy.1 mX4_copy.1 ∈ TB := tb_in 716 (by decide +kernel) rfl
theorem okX4_seenOf : mOK mX4_seenOf 2 := ⟨tb_in 669 (by decide +kernel) rfl, tb_in 59 (by decide +kernel) rfl, by decide +kernel⟩
theorem pyX4_seenOf : plainName mX4_seenOf.1.cls = true := by decide +kernel
theorem inX4_seenOf : Cond.instanceMethod mX4_seenOf.1 ∈ TB := tb_in 667 (by decide +kernel) rfl
theorem seX4_seenOf : Cond.selects mX4_seenOf.1.cls mX4_seenOf.1 mX4_seenOf.1 ∈ TB := tb_in 668 (by decide +kernel) rfl
theorem okX4_mayBeBy : mOK mX4_mayBeBy 3 := ⟨tb_in 683 (by decide +kernel) rfl, tb_in 59 (by decide +kernel) rfl, by decide +kernel⟩
theorem pyX4_mayBeBy : plainName mX4_mayBeBy.1.cls = true := by decide +kernel
theorem inX4_mayBeBy : Cond.instanceMethod mX4_mayBeBy.1 ∈ TB := tb_in 681 (by decide +kernel) rfl
theorem seX4_mayBeBy : Cond.selects mX4_mayBeBy.1.cls mX4_mayBeBy.1 mX4_mayBeBy.1 ∈ TB := tb_in 682 (by decide +kernel) rfl
theorem okX5_init : mOK mX5_init 0 := ⟨tb_in 98 (by decide +kernel) rfl, tb_in 57 (by decide +kernel) rfl, by decide +kernel⟩
theorem pyX5_init : plainName mX5_init.1.cls = true := by decide +kernel
theorem inX5_init : Cond.instanceMethod mX5_init.1 ∈ TB := tb_in 97 (by decide +kernel) rfl
theorem okX5_read : mOK mX5_read 2 := ⟨tb_in 434 (by decide +kernel) rfl, tb_in 57 (by decide +kernel) rfl, by decide +kernel⟩
theorem pyX5_read : plainName mX5_read.1.cls = true := by decide +kernel
theorem inX5_read : Cond.instanceMethod mX5_read.1 ∈ TB := tb_in 432 (by decide +kernel) rfl
theorem seX5_read : Cond.selects mX5_read.1.cls mX5_read.1 mX5_read.1 ∈ TB := tb_in 433 (by decide +kernel) rfl
theorem okX5_split : mOK mX5_split 2 := ⟨tb_in 439 (by decide +kernel) rfl, tb_in 57 (by decide +kernel) rfl, by decide +kernel⟩
theorem pyX5_split : plainName mX5_split.1.cls = true := by decide +kernel
theorem inX5_split : Cond.instanceMethod mX5_split.1 ∈ TB := tb_in 437 (by decide +kernel) rfl
theorem seX5_split : Cond.selects mX5_split.1.cls mX5_split.1 mX5_split.1 ∈ TB := tb_in 438 (by decide +kernel) rfl
theorem okX5_take : mOK mX5_take 2 := ⟨tb_in 443 (by decide +kernel) rfl, tb_in 57 (by decide +kernel) rfl, by decide +kernel⟩
theorem pyX5_take : plainName mX5_take.1.cls = true := by decide +kernel
theorem inX5_take : Cond.instanceMethod mX5_take.1 ∈ TB := tb_in 441 (by decide +kernel) rfl
theorem seX5_take : Cond.selects mX5_take.1.cls mX5_take.1 mX5_take.1 ∈ TB := tb_in 442 (by decide +kernel) rfl
theorem okX6_init : mOK mX6_init 0 := ⟨tb_in 114 (by decide +kernel) rfl, tb_in 58 (by decide +kernel) rfl, by decide +kernel⟩
theorem pyX6_init : plainName mX6_init.1.cls = true := by decide +kernel
theorem inX6_init : Cond.instanceMethod mX6_init.1 ∈ TB := tb_in 113 (by decide +kernel) rfl
theorem okX6_empty : mOK mX6_empty 0 := ⟨tb_in 119 (by decide +kernel) rfl, tb_in 58 (by decide +kernel) rfl, by decide +kernel⟩
theorem pyX6_empty : plainName mX6_empty.1.cls = true := by decide +kernel
theorem inX6_empty : Cond.instanceMethod mX6_empty.1 ∈ TB := tb_in 117 (by decide +kernel) rfl
theorem seX6_empty : Cond.selects mX6_empty.1.cls mX6_empty.1 mX6_empty.1 ∈ TB := tb_in 118 (by decide +kernel) rfl
theorem okX6_has : mOK mX6_has 1 := ⟨tb_in 460 (by decide +kernel) rfl, tb_in 58 (by decide +kernel) rfl, by decide +kernel⟩
theorem pyX6_has : plainName mX6_has.1.cls = true := by decide +kernel
theorem inX6_has : Cond.instanceMethod mX6_has.1 ∈ TB := tb_in 458 (by decide +kernel) rfl
theorem seX6_has : Cond.selects mX6_has.1.cls mX6_has.1 mX6_has.1 ∈ TB := tb_in 459 (by decide +kernel) rfl
theorem okX6_addPerson : mOK mX6_addPerson 3 := ⟨tb_in 373 (by decide +kernel) rfl, tb_in 58 (by decide +kernel) rfl, by decide +kernel⟩
theorem pyX6_addPerson : plainName mX6_addPerson.1.cls = true := by decide +kernel
theorem inX6_addPerson : Cond.instanceMethod mX6_addPerson.1 ∈ TB := tb_in 371 (by decide +kernel) rfl
theorem seX6_addPerson : Cond.selects mX6_addPerson.1.cls mX6_addPerson.1 mX6_addPerson.1 ∈ TB := tb_in 372 (by decide +kernel) rfl
theorem okX6_set : mOK mX6_set 2 := ⟨tb_in 448 (by decide +kernel) rfl, tb_in 58 (by decide +kernel) rfl, by decide +kernel⟩
theorem pyX6_set : plainName mX6_set.1.cls = true := by decide +kernel
theorem inX6_set : Cond.instanceMethod mX6_set.1 ∈ TB := tb_in 446 (by decide +kernel) rfl
theorem seX6_set : Cond.selects mX6_set.1.cls mX6_set.1 mX6_set.1 ∈ TB := tb_in 447 (by decide +kernel) rfl
theorem okX7_init : mOK mX7_init 0 := ⟨tb_in 288 (by decide +kernel) rfl, tb_in 62 (by decide +kernel) rfl, by decide +kernel⟩
theorem pyX7_init : plainName mX7_init.1.cls = true := by decide +kernel
theorem inX7_init : Cond.instanceMethod mX7_init.1 ∈ TB := tb_in 287 (by decide +kernel) rfl
theorem okX7_play : mOK mX7_play 4 := ⟨tb_in 557 (by decide +kernel) rfl, tb_in 62 (by decide +kernel) rfl, by decide +kernel⟩
theorem pyX7_play : plainName mX7_play.1.cls = true := by decide +kernel
theorem inX7_play : Cond.instanceMethod mX7_play.1 ∈ TB := tb_in 555 (by decide +kernel) rfl
theorem seX7_play : Cond.selects mX7_play.1.cls mX7_play.1 mX7_play.1 ∈ TB := tb_in 556 (by decide +kernel) rfl
theorem okX7_wanders : mOK mX7_wanders 0 := ⟨tb_in 637 (by decide +kernel) rfl, tb_in 62 (by decide +kernel) rfl, by decide +kernel⟩
theorem pyX7_wanders : plainName mX7_wanders.1.cls = true := by decide +kernel
theorem inX7_wanders : Cond.instanceMethod mX7_wanders.1 ∈ TB := tb_in 635 (by decide +kernel) rfl
theorem seX7_wanders : Cond.selects mX7_wanders.1.cls mX7_wanders.1 mX7_wanders.1 ∈ TB := tb_in 636 (by decide +kernel) rfl
theorem okX7_draw : mOK mX7_draw 2 := ⟨tb_in 565 (by decide +kernel) rfl, tb_in 62 (by decide +kernel) rfl, by decide +kernel⟩
theorem pyX7_draw : plainName mX7_draw.1.cls = true := by decide +kernel
theorem inX7_draw : Cond.instanceMethod mX7_draw.1 ∈ TB := tb_in 564 (by decide +kernel) rfl
theorem seX7_draw : Cond.selects mX7_draw.1.cls mX7_draw.1 mX7_draw.1 ∈ TB := tb_in 4 (by decide +kernel) rfl
theorem okX7_rest : mOK mX7_rest 2 := ⟨tb_in 572 (by decide +kernel) rfl, tb_in 62 (by decide +kernel) rfl, by decide +kernel⟩
theorem pyX7_rest : plainName mX7_rest.1.cls = true := by decide +kernel
theorem stX7_rest : Cond.static mX7_rest.1 ∈ TB := tb_in 571 (by decide +kernel) rfl
theorem okX7_tells : mOK mX7_tells 4 := ⟨tb_in 576 (by decide +kernel) rfl, tb_in 62 (by decide +kernel) rfl, by decide +kernel⟩
theorem pyX7_tells : plainName mX7_tells.1.cls = true := by decide +kernel
theorem inX7_tells : Cond.instanceMethod mX7_tells.1 ∈ TB := tb_in 575 (by decide +kernel) rfl
theorem seX7_tells : Cond.selects mX7_tells.1.cls mX7_tells.1 mX7_tells.1 ∈ TB := tb_in 5 (by decide +kernel) rfl
theorem okX7_trade : mOK mX7_trade 5 := ⟨tb_in 608 (by decide +kernel) rfl, tb_in 62 (by decide +kernel) rfl, by decide +kernel⟩
theorem pyX7_trade : plainName mX7_trade.1.cls = true := by decide +kernel
theorem inX7_trade : Cond.instanceMethod mX7_trade.1 ∈ TB := tb_in 607 (by decide +kernel) rfl
theorem seX7_trade : Cond.selects mX7_trade.1.cls mX7_trade.1 mX7_trade.1 ∈ TB := tb_in 7 (by decide +kernel) rfl
theorem okX7_playShouts : mOK mX7_playShouts 2 := ⟨tb_in 561 (by decide +kernel) rfl, tb_in 62 (by decide +kernel) rfl, by decide +kernel⟩
theorem pyX7_playShouts : plainName mX7_playShouts.1.cls = true := by decide +kernel
theorem inX7_playShouts : Cond.instanceMethod mX7_playShouts.1 ∈ TB := tb_in 560 (by decide +kernel) rfl
theorem seX7_playShouts : Cond.selects mX7_playShouts.1.cls mX7_playShouts.1 mX7_playShouts.1 ∈ TB := tb_in 3 (by decide +kernel) rfl
theorem okX7_hearBid : mOK mX7_hearBid 4 := ⟨tb_in 614 (by decide +kernel) rfl, tb_in 62 (by decide +kernel) rfl, by decide +kernel⟩
theorem pyX7_hearBid : plainName mX7_hearBid.1.cls = true := by decide +kernel
theorem inX7_hearBid : Cond.instanceMethod mX7_hearBid.1 ∈ TB := tb_in 613 (by decide +kernel) rfl
theorem seX7_hearBid : Cond.selects mX7_hearBid.1.cls mX7_hearBid.1 mX7_hearBid.1 ∈ TB := tb_in 8 (by decide +kernel) rfl
theorem okX7_hearOffer : mOK mX7_hearOffer 4 := ⟨tb_in 604 (by decide +kernel) rfl, tb_in 62 (by decide +kernel) rfl, by decide +kernel⟩
theorem pyX7_hearOffer : plainName mX7_hearOffer.1.cls = true := by decide +kernel
theorem inX7_hearOffer : Cond.instanceMethod mX7_hearOffer.1 ∈ TB := tb_in 603 (by decide +kernel) rfl
theorem seX7_hearOffer : Cond.selects mX7_hearOffer.1.cls mX7_hearOffer.1 mX7_hearOffer.1 ∈ TB := tb_in 6 (by decide +kernel) rfl
theorem okX7_playPairs : mOK mX7_playPairs 1 := ⟨tb_in 618 (by decide +kernel) rfl, tb_in 62 (by decide +kernel) rfl, by decide +kernel⟩
theorem pyX7_playPairs : plainName mX7_playPairs.1.cls = true := by decide +kernel
theorem inX7_playPairs : Cond.instanceMethod mX7_playPairs.1 ∈ TB := tb_in 617 (by decide +kernel) rfl
theorem seX7_playPairs : Cond.selects mX7_playPairs.1.cls mX7_playPairs.1 mX7_playPairs.1 ∈ TB := tb_in 9 (by decide +kernel) rfl
theorem okX7_playPosted : mOK mX7_playPosted 1 := ⟨tb_in 622 (by decide +kernel) rfl, tb_in 62 (by decide +kernel) rfl, by decide +kernel⟩
theorem pyX7_playPosted : plainName mX7_playPosted.1.cls = true := by decide +kernel
theorem inX7_playPosted : Cond.instanceMethod mX7_playPosted.1 ∈ TB := tb_in 621 (by decide +kernel) rfl
theorem seX7_playPosted : Cond.selects mX7_playPosted.1.cls mX7_playPosted.1 mX7_playPosted.1 ∈ TB := tb_in 10 (by decide +kernel) rfl
theorem okX7_cheapestLeft : mOK mX7_cheapestLeft 1 := ⟨tb_in 626 (by decide +kernel) rfl, tb_in 62 (by decide +kernel) rfl, by decide +kernel⟩
theorem pyX7_cheapestLeft : plainName mX7_cheapestLeft.1.cls = true := by decide +kernel
theorem inX7_cheapestLeft : Cond.instanceMethod mX7_cheapestLeft.1 ∈ TB := tb_in 625 (by decide +kernel) rfl
theorem seX7_cheapestLeft : Cond.selects mX7_cheapestLeft.1.cls mX7_cheapestLeft.1 mX7_cheapestLeft.1 ∈ TB := tb_in 11 (by decide +kernel) rfl
theorem okX7_playBell : mOK mX7_playBell 1 := ⟨tb_in 630 (by decide +kernel) rfl, tb_in 62 (by decide +kernel) rfl, by decide +kernel⟩
theorem pyX7_playBell : plainName mX7_playBell.1.cls = true := by decide +kernel
theorem inX7_playBell : Cond.instanceMethod mX7_playBell.1 ∈ TB := tb_in 629 (by decide +kernel) rfl
theorem seX7_playBell : Cond.selects mX7_playBell.1.cls mX7_playBell.1 mX7_playBell.1 ∈ TB := tb_in 12 (by decide +kernel) rfl
theorem okX8_init : mOK mX8_init 0 := ⟨tb_in 81 (by decide +kernel) rfl, tb_in 56 (by decide +kernel) rfl, by decide +kernel⟩
theorem pyX8_init : plainName mX8_init.1.cls = true := by decide +kernel
theorem inX8_init : Cond.instanceMethod mX8_init.1 ∈ TB := tb_in 80 (by decide +kernel) rfl
theorem okX8_add : mOK mX8_add 1 := ⟨tb_in 422 (by decide +kernel) rfl, tb_in 56 (by decide +kernel) rfl, by decide +kernel⟩
theorem pyX8_add : plainName mX8_add.1.cls = true := by decide +kernel
theorem inX8_add : Cond.instanceMethod mX8_add.1 ∈ TB := tb_in 420 (by decide +kernel) rfl
theorem seX8_add : Cond.selects mX8_add.1.cls mX8_add.1 mX8_add.1 ∈ TB := tb_in 421 (by decide +kernel) rfl
theorem okX9_span : mOK mX9_span 4 := ⟨tb_in 579 (by decide +kernel) rfl, tb_in 67 (by decide +kernel) rfl, by decide +kernel⟩
theorem pyX9_span : plainName mX9_span.1.cls = true := by decide +kernel
theorem stX9_span : Cond.static mX9_span.1 ∈ TB := tb_in 578 (by decide +kernel) rfl
theorem okX9_by : mOK mX9_by 6 := ⟨tb_in 582 (by decide +kernel) rfl, tb_in 67 (by decide +kernel) rfl, by decide +kernel⟩
theorem pyX9_by : plainName mX9_by.1.cls = true := by decide +kernel
theorem stX9_by : Cond.static mX9_by.1 ∈ TB := tb_in 581 (by decide +kernel) rfl
theorem okX9_near : mOK mX9_near 4 := ⟨tb_in 585 (by decide +kernel) rfl, tb_in 67 (by decide +kernel) rfl, by decide +kernel⟩
theorem pyX9_near : plainName mX9_near.1.cls = true := by decide +kernel
theorem stX9_near : Cond.static mX9_near.1 ∈ TB := tb_in 584 (by decide +kernel) rfl
theorem okX9_share : mOK mX9_share 3 := ⟨tb_in 590 (by decide +kernel) rfl, tb_in 67 (by decide +kernel) rfl, by decide +kernel⟩
theorem pyX9_share : plainName mX9_share.1.cls = true := by decide +kernel
theorem stX9_share : Cond.static mX9_share.1 ∈ TB := tb_in 589 (by decide +kernel) rfl
theorem okX9_underLid : mOK mX9_underLid 3 := ⟨tb_in 593 (by decide +kernel) rfl, tb_in 67 (by decide +kernel) rfl, by decide +kernel⟩
theorem pyX9_underLid : plainName mX9_underLid.1.cls = true := by decide +kernel
theorem stX9_underLid : Cond.static mX9_underLid.1 ∈ TB := tb_in 592 (by decide +kernel) rfl
theorem okX9_isHeard : mOK mX9_isHeard 3 := ⟨tb_in 596 (by decide +kernel) rfl, tb_in 67 (by decide +kernel) rfl, by decide +kernel⟩
theorem pyX9_isHeard : plainName mX9_isHeard.1.cls = true := by decide +kernel
theorem stX9_isHeard : Cond.static mX9_isHeard.1 ∈ TB := tb_in 595 (by decide +kernel) rfl
theorem okX10_init : mOK mX10_init 0 := ⟨tb_in 73 (by decide +kernel) rfl, tb_in 55 (by decide +kernel) rfl, by decide +kernel⟩
theorem pyX10_init : plainName mX10_init.1.cls = true := by decide +kernel
theorem inX10_init : Cond.instanceMethod mX10_init.1 ∈ TB := tb_in 72 (by decide +kernel) rfl
theorem okX10_write : mOK mX10_write 2 := ⟨tb_in 417 (by decide +kernel) rfl, tb_in 55 (by decide +kernel) rfl, by decide +kernel⟩
theorem pyX10_write : plainName mX10_write.1.cls = true := by decide +kernel
theorem inX10_write : Cond.instanceMethod mX10_write.1 ∈ TB := tb_in 415 (by decide +kernel) rfl
theorem seX10_write : Cond.selects mX10_write.1.cls mX10_write.1 mX10_write.1 ∈ TB := tb_in 416 (by decide +kernel) rfl
theorem okX10_wipe : mOK mX10_wipe 0 := ⟨tb_in 426 (by decide +kernel) rfl, tb_in 55 (by decide +kernel) rfl, by decide +kernel⟩
theorem pyX10_wipe : plainName mX10_wipe.1.cls = true := by decide +kernel
theorem inX10_wipe : Cond.instanceMethod mX10_wipe.1 ∈ TB := tb_in 424 (by decide +kernel) rfl
theorem seX10_wipe : Cond.selects mX10_wipe.1.cls mX10_wipe.1 mX10_wipe.1 ∈ TB := tb_in 425 (by decide +kernel) rfl
theorem okX10_fault : mOK mX10_fault 0 := ⟨tb_in 430 (by decide +kernel) rfl, tb_in 55 (by decide +kernel) rfl, by decide +kernel⟩
theorem pyX10_fault : plainName mX10_fault.1.cls = true := by decide +kernel
theorem inX10_fault : Cond.instanceMethod mX10_fault.1 ∈ TB := tb_in 428 (by decide +kernel) rfl
theorem seX10_fault : Cond.selects mX10_fault.1.cls mX10_fault.1 mX10_fault.1 ∈ TB := tb_in 429 (by decide +kernel) rfl
theorem okX10_lay : mOK mX10_lay 0 := ⟨tb_in 452 (by decide +kernel) rfl, tb_in 55 (by decide +kernel) rfl, by decide +kernel⟩
theorem pyX10_lay : plainName mX10_lay.1.cls = true := by decide +kernel
theorem inX10_lay : Cond.instanceMethod mX10_lay.1 ∈ TB := tb_in 450 (by decide +kernel) rfl
theorem seX10_lay : Cond.selects mX10_lay.1.cls mX10_lay.1 mX10_lay.1 ∈ TB := tb_in 451 (by decide +kernel) rfl
theorem okX10_person : mOK mX10_person 2 := ⟨tb_in 456 (by decide +kernel) rfl, tb_in 55 (by decide +kernel) rfl, by decide +kernel⟩
theorem pyX10_person : plainName mX10_person.1.cls = true := by decide +kernel
theorem inX10_person : Cond.instanceMethod mX10_person.1 ∈ TB := tb_in 454 (by decide +kernel) rfl
theorem seX10_person : Cond.selects mX10_person.1.cls mX10_person.1 mX10_person.1 ∈ TB := tb_in 455 (by decide +kernel) rfl
theorem okX10_law : mOK mX10_law 2 := ⟨tb_in 464 (by decide +kernel) rfl, tb_in 55 (by decide +kernel) rfl, by decide +kernel⟩
theorem pyX10_law : plainName mX10_law.1.cls = true := by decide +kernel
theorem inX10_law : Cond.instanceMethod mX10_law.1 ∈ TB := tb_in 462 (by decide +kernel) rfl
theorem seX10_law : Cond.selects mX10_law.1.cls mX10_law.1 mX10_law.1 ∈ TB := tb_in 463 (by decide +kernel) rfl
theorem okX10_lines : mOK mX10_lines 1 := ⟨tb_in 468 (by decide +kernel) rfl, tb_in 55 (by decide +kernel) rfl, by decide +kernel⟩
theorem pyX10_lines : plainName mX10_lines.1.cls = true := by decide +kernel
theorem inX10_lines : Cond.instanceMethod mX10_lines.1 ∈ TB := tb_in 466 (by decide +kernel) rfl
theorem seX10_lines : Cond.selects mX10_lines.1.cls mX10_lines.1 mX10_lines.1 ∈ TB := tb_in 467 (by decide +kernel) rfl
theorem okX10_served : mOK mX10_served 1 := ⟨tb_in 507 (by decide +kernel) rfl, tb_in 55 (by decide +kernel) rfl, by decide +kernel⟩
theorem pyX10_served : plainName mX10_served.1.cls = true := by decide +kernel
theorem inX10_served : Cond.instanceMethod mX10_served.1 ∈ TB := tb_in 505 (by decide +kernel) rfl
theorem seX10_served : Cond.selects mX10_served.1.cls mX10_served.1 mX10_served.1 ∈ TB := tb_in 506 (by decide +kernel) rfl
theorem okX10_pairs : mOK mX10_pairs 1 := ⟨tb_in 517 (by decide +kernel) rfl, tb_in 55 (by decide +kernel) rfl, by decide +kernel⟩
theorem pyX10_pairs : plainName mX10_pairs.1.cls = true := by decide +kernel
theorem inX10_pairs : Cond.instanceMethod mX10_pairs.1 ∈ TB := tb_in 515 (by decide +kernel) rfl
theorem seX10_pairs : Cond.selects mX10_pairs.1.cls mX10_pairs.1 mX10_pairs.1 ∈ TB := tb_in 516 (by decide +kernel) rfl
theorem okX10_bell : mOK mX10_bell 2 := ⟨tb_in 527 (by decide +kernel) rfl, tb_in 55 (by decide +kernel) rfl, by decide +kernel⟩
theorem pyX10_bell : plainName mX10_bell.1.cls = true := by decide +kernel
theorem inX10_bell : Cond.instanceMethod mX10_bell.1 ∈ TB := tb_in 525 (by decide +kernel) rfl
theorem seX10_bell : Cond.selects mX10_bell.1.cls mX10_bell.1 mX10_bell.1 ∈ TB := tb_in 526 (by decide +kernel) rfl
theorem okX10_best : mOK mX10_best 2 := ⟨tb_in 546 (by decide +kernel) rfl, tb_in 55 (by decide +kernel) rfl, by decide +kernel⟩
theorem pyX10_best : plainName mX10_best.1.cls = true := by decide +kernel
theorem inX10_best : Cond.instanceMethod mX10_best.1 ∈ TB := tb_in 544 (by decide +kernel) rfl
theorem seX10_best : Cond.selects mX10_best.1.cls mX10_best.1 mX10_best.1 ∈ TB := tb_in 545 (by decide +kernel) rfl
theorem okX10_round : mOK mX10_round 3 := ⟨tb_in 553 (by decide +kernel) rfl, tb_in 55 (by decide +kernel) rfl, by decide +kernel⟩
theorem pyX10_round : plainName mX10_round.1.cls = true := by decide +kernel
theorem inX10_round : Cond.instanceMethod mX10_round.1 ∈ TB := tb_in 551 (by decide +kernel) rfl
theorem seX10_round : Cond.selects mX10_round.1.cls mX10_round.1 mX10_round.1 ∈ TB := tb_in 552 (by decide +kernel) rfl
theorem okX10_of : mOK mX10_of 3 := ⟨tb_in 641 (by decide +kernel) rfl, tb_in 55 (by decide +kernel) rfl, by decide +kernel⟩
theorem pyX10_of : plainName mX10_of.1.cls = true := by decide +kernel
theorem inX10_of : Cond.instanceMethod mX10_of.1 ∈ TB := tb_in 639 (by decide +kernel) rfl
theorem seX10_of : Cond.selects mX10_of.1.cls mX10_of.1 mX10_of.1 ∈ TB := tb_in 640 (by decide +kernel) rfl
theorem okX10_means : mOK mX10_means 3 := ⟨tb_in 645 (by decide +kernel) rfl, tb_in 55 (by decide +kernel) rfl, by decide +kernel⟩
theorem pyX10_means : plainName mX10_means.1.cls = true := by decide +kernel
theorem inX10_means : Cond.instanceMethod mX10_means.1 ∈ TB := tb_in 643 (by decide +kernel) rfl
theorem seX10_means : Cond.selects mX10_means.1.cls mX10_means.1 mX10_means.1 ∈ TB := tb_in 644 (by decide +kernel) rfl
theorem okX10_rules : mOK mX10_rules 2 := ⟨tb_in 653 (by decide +kernel) rfl, tb_in 55 (by decide +kernel) rfl, by decide +kernel⟩
theorem pyX10_rules : plainName mX10_rules.1.cls = true := by decide +kernel
theorem inX10_rules : Cond.instanceMethod mX10_rules.1 ∈ TB := tb_in 651 (by decide +kernel) rfl
theorem seX10_rules : Cond.selects mX10_rules.1.cls mX10_rules.1 mX10_rules.1 ∈ TB := tb_in 652 (by decide +kernel) rfl
theorem okX10_shout : mOK mX10_shout 2 := ⟨tb_in 661 (by decide +kernel) rfl, tb_in 55 (by decide +kernel) rfl, by decide +kernel⟩
theorem pyX10_shout : plainName mX10_shout.1.cls = true := by decide +kernel
theorem inX10_shout : Cond.instanceMethod mX10_shout.1 ∈ TB := tb_in 659 (by decide +kernel) rfl
theorem seX10_shout : Cond.selects mX10_shout.1.cls mX10_shout.1 mX10_shout.1 ∈ TB := tb_in 660 (by decide +kernel) rfl
theorem okX10_known : mOK mX10_known 1 := ⟨tb_in 665 (by decide +kernel) rfl, tb_in 55 (by decide +kernel) rfl, by decide +kernel⟩
theorem pyX10_known : plainName mX10_known.1.cls = true := by decide +kernel
theorem inX10_known : Cond.instanceMethod mX10_known.1 ∈ TB := tb_in 663 (by decide +kernel) rfl
theorem seX10_known : Cond.selects mX10_known.1.cls mX10_known.1 mX10_known.1 ∈ TB := tb_in 664 (by decide +kernel) rfl
theorem okX10_least : mOK mX10_least 1 := ⟨tb_in 675 (by decide +kernel) rfl, tb_in 55 (by decide +kernel) rfl, by decide +kernel⟩
theorem pyX10_least : plainName mX10_least.1.cls = true := by decide +kernel
theorem inX10_least : Cond.instanceMethod mX10_least.1 ∈ TB := tb_in 673 (by decide +kernel) rfl
theorem seX10_least : Cond.selects mX10_least.1.cls mX10_least.1 mX10_least.1 ∈ TB := tb_in 674 (by decide +kernel) rfl
theorem okX10_laws : mOK mX10_laws 1 := ⟨tb_in 679 (by decide +kernel) rfl, tb_in 55 (by decide +kernel) rfl, by decide +kernel⟩
theorem pyX10_laws : plainName mX10_laws.1.cls = true := by decide +kernel
theorem inX10_laws : Cond.instanceMethod mX10_laws.1 ∈ TB := tb_in 677 (by decide +kernel) rfl
theorem seX10_laws : Cond.selects mX10_laws.1.cls mX10_laws.1 mX10_laws.1 ∈ TB := tb_in 678 (by decide +kernel) rfl
theorem okX10_two : mOK mX10_two 3 := ⟨tb_in 691 (by decide +kernel) rfl, tb_in 55 (by decide +kernel) rfl, by decide +kernel⟩
theorem pyX10_two : plainName mX10_two.1.cls = true := by decide +kernel
theorem inX10_two : Cond.instanceMethod mX10_two.1 ∈ TB := tb_in 689 (by decide +kernel) rfl
theorem seX10_two : Cond.selects mX10_two.1.cls mX10_two.1 mX10_two.1 ∈ TB := tb_in 690 (by decide +kernel) rfl
theorem okX10_keep : mOK mX10_keep 0 := ⟨tb_in 706 (by decide +kernel) rfl, tb_in 55 (by decide +kernel) rfl, by decide +kernel⟩
theorem pyX10_keep : plainName mX10_keep.1.cls = true := by decide +kernel
theorem inX10_keep : Cond.instanceMethod mX10_keep.1 ∈ TB := tb_in 704 (by decide +kernel) rfl
theorem seX10_keep : Cond.selects mX10_keep.1.cls mX10_keep.1 mX10_keep.1 ∈ TB := tb_in 705 (by decide +kernel) rfl
theorem okX10_back : mOK mX10_back 0 := ⟨tb_in 722 (by decide +kernel) rfl, tb_in 55 (by decide +kernel) rfl, by decide +kernel⟩
theorem pyX10_back : plainName mX10_back.1.cls = true := by decide +kernel
theorem inX10_back : Cond.instanceMethod mX10_back.1 ∈ TB := tb_in 720 (by decide +kernel) rfl
theorem seX10_back : Cond.selects mX10_back.1.cls mX10_back.1 mX10_back.1 ∈ TB := tb_in 721 (by decide +kernel) rfl
theorem okX10_count : mOK mX10_count 1 := ⟨tb_in 730 (by decide +kernel) rfl, tb_in 55 (by decide +kernel) rfl, by decide +kernel⟩
theorem pyX10_count : plainName mX10_count.1.cls = true := by decide +kernel
theorem inX10_count : Cond.instanceMethod mX10_count.1 ∈ TB := tb_in 728 (by decide +kernel) rfl
theorem seX10_count : Cond.selects mX10_count.1.cls mX10_count.1 mX10_count.1 ∈ TB := tb_in 729 (by decide +kernel) rfl
theorem okX10_within : mOK mX10_within 3 := ⟨tb_in 376 (by decide +kernel) rfl, tb_in 55 (by decide +kernel) rfl, by decide +kernel⟩
theorem pyX10_within : plainName mX10_within.1.cls = true := by decide +kernel
theorem stX10_within : Cond.static mX10_within.1 ∈ TB := tb_in 375 (by decide +kernel) rfl
theorem okX10_gainOfAllMeetings : mOK mX10_gainOfAllMeetings 0 := ⟨tb_in 522 (by decide +kernel) rfl, tb_in 55 (by decide +kernel) rfl, by decide +kernel⟩
theorem pyX10_gainOfAllMeetings : plainName mX10_gainOfAllMeetings.1.cls = true := by decide +kernel
theorem inX10_gainOfAllMeetings : Cond.instanceMethod mX10_gainOfAllMeetings.1 ∈ TB := tb_in 521 (by decide +kernel) rfl
theorem seX10_gainOfAllMeetings : Cond.selects mX10_gainOfAllMeetings.1.cls mX10_gainOfAllMeetings.1 mX10_gainOfAllMeetings.1 ∈ TB := tb_in 1 (by decide +kernel) rfl
theorem okX10_gainOfTelling : mOK mX10_gainOfTelling 2 := ⟨tb_in 531 (by decide +kernel) rfl, tb_in 55 (by decide +kernel) rfl, by decide +kernel⟩
theorem pyX10_gainOfTelling : plainName mX10_gainOfTelling.1.cls = true := by decide +kernel
theorem inX10_gainOfTelling : Cond.instanceMethod mX10_gainOfTelling.1 ∈ TB := tb_in 530 (by decide +kernel) rfl
theorem seX10_gainOfTelling : Cond.selects mX10_gainOfTelling.1.cls mX10_gainOfTelling.1 mX10_gainOfTelling.1 ∈ TB := tb_in 2 (by decide +kernel) rfl
theorem okX10_sumUp : mOK mX10_sumUp 2 := ⟨tb_in 649 (by decide +kernel) rfl, tb_in 55 (by decide +kernel) rfl, by decide +kernel⟩
theorem pyX10_sumUp : plainName mX10_sumUp.1.cls = true := by decide +kernel
theorem inX10_sumUp : Cond.instanceMethod mX10_sumUp.1 ∈ TB := tb_in 648 (by decide +kernel) rfl
theorem seX10_sumUp : Cond.selects mX10_sumUp.1.cls mX10_sumUp.1 mX10_sumUp.1 ∈ TB := tb_in 13 (by decide +kernel) rfl
theorem okX10_bestBy : mOK mX10_bestBy 1 := ⟨tb_in 657 (by decide +kernel) rfl, tb_in 55 (by decide +kernel) rfl, by decide +kernel⟩
theorem pyX10_bestBy : plainName mX10_bestBy.1.cls = true := by decide +kernel
theorem inX10_bestBy : Cond.instanceMethod mX10_bestBy.1 ∈ TB := tb_in 656 (by decide +kernel) rfl
theorem seX10_bestBy : Cond.selects mX10_bestBy.1.cls mX10_bestBy.1 mX10_bestBy.1 ∈ TB := tb_in 14 (by decide +kernel) rfl
theorem okX11_init : mOK mX11_init 0 := ⟨tb_in 735 (by decide +kernel) rfl, tb_in 65 (by decide +kernel) rfl, by decide +kernel⟩
theorem pyX11_init : plainName mX11_init.1.cls = true := by decide +kernel
theorem inX11_init : Cond.instanceMethod mX11_init.1 ∈ TB := tb_in 734 (by decide +kernel) rfl
theorem okX11_in : mOK mX11_in 3 := ⟨tb_in 851 (by decide +kernel) rfl, tb_in 65 (by decide +kernel) rfl, by decide +kernel⟩
theorem pyX11_in : plainName mX11_in.1.cls = true := by decide +kernel
theorem stX11_in : Cond.static mX11_in.1 ∈ TB := tb_in 850 (by decide +kernel) rfl
theorem okX11_noRoom : mOK mX11_noRoom 1 := ⟨tb_in 740 (by decide +kernel) rfl, tb_in 65 (by decide +kernel) rfl, by decide +kernel⟩
theorem pyX11_noRoom : plainName mX11_noRoom.1.cls = true := by decide +kernel
theorem inX11_noRoom : Cond.instanceMethod mX11_noRoom.1 ∈ TB := tb_in 739 (by decide +kernel) rfl
theorem seX11_noRoom : Cond.selects mX11_noRoom.1.cls mX11_noRoom.1 mX11_noRoom.1 ∈ TB := tb_in 16 (by decide +kernel) rfl
theorem okX11_write : mOK mX11_write 2 := ⟨tb_in 847 (by decide +kernel) rfl, tb_in 65 (by decide +kernel) rfl, by decide +kernel⟩
theorem pyX11_write : plainName mX11_write.1.cls = true := by decide +kernel
theorem inX11_write : Cond.instanceMethod mX11_write.1 ∈ TB := tb_in 845 (by decide +kernel) rfl
theorem seX11_write : Cond.selects mX11_write.1.cls mX11_write.1 mX11_write.1 ∈ TB := tb_in 846 (by decide +kernel) rfl
theorem okX11_wipe : mOK mX11_wipe 0 := ⟨tb_in 856 (by decide +kernel) rfl, tb_in 65 (by decide +kernel) rfl, by decide +kernel⟩
theorem pyX11_wipe : plainName mX11_wipe.1.cls = true := by decide +kernel
theorem inX11_wipe : Cond.instanceMethod mX11_wipe.1 ∈ TB := tb_in 854 (by decide +kernel) rfl
theorem seX11_wipe : Cond.selects mX11_wipe.1.cls mX11_wipe.1 mX11_wipe.1 ∈ TB := tb_in 855 (by decide +kernel) rfl
theorem okX11_byteAt : mOK mX11_byteAt 1 := ⟨tb_in 872 (by decide +kernel) rfl, tb_in 65 (by decide +kernel) rfl, by decide +kernel⟩
theorem pyX11_byteAt : plainName mX11_byteAt.1.cls = true := by decide +kernel
theorem inX11_byteAt : Cond.instanceMethod mX11_byteAt.1 ∈ TB := tb_in 871 (by decide +kernel) rfl
theorem seX11_byteAt : Cond.selects mX11_byteAt.1.cls mX11_byteAt.1 mX11_byteAt.1 ∈ TB := tb_in 19 (by decide +kernel) rfl
theorem okX11_figures : mOK mX11_figures 1 := ⟨tb_in 880 (by decide +kernel) rfl, tb_in 65 (by decide +kernel) rfl, by decide +kernel⟩
theorem pyX11_figures : plainName mX11_figures.1.cls = true := by decide +kernel
theorem inX11_figures : Cond.instanceMethod mX11_figures.1 ∈ TB := tb_in 879 (by decide +kernel) rfl
theorem seX11_figures : Cond.selects mX11_figures.1.cls mX11_figures.1 mX11_figures.1 ∈ TB := tb_in 21 (by decide +kernel) rfl
theorem okX11_readMany : mOK mX11_readMany 1 := ⟨tb_in 887 (by decide +kernel) rfl, tb_in 65 (by decide +kernel) rfl, by decide +kernel⟩
theorem pyX11_readMany : plainName mX11_readMany.1.cls = true := by decide +kernel
theorem inX11_readMany : Cond.instanceMethod mX11_readMany.1 ∈ TB := tb_in 886 (by decide +kernel) rfl
theorem seX11_readMany : Cond.selects mX11_readMany.1.cls mX11_readMany.1 mX11_readMany.1 ∈ TB := tb_in 22 (by decide +kernel) rfl
theorem okX11_personItem : mOK mX11_personItem 1 := ⟨tb_in 876 (by decide +kernel) rfl, tb_in 65 (by decide +kernel) rfl, by decide +kernel⟩
theorem pyX11_personItem : plainName mX11_personItem.1.cls = true := by decide +kernel
theorem inX11_personItem : Cond.instanceMethod mX11_personItem.1 ∈ TB := tb_in 875 (by decide +kernel) rfl
theorem seX11_personItem : Cond.selects mX11_personItem.1.cls mX11_personItem.1 mX11_personItem.1 ∈ TB := tb_in 20 (by decide +kernel) rfl
theorem okX11_numberItem : mOK mX11_numberItem 3 := ⟨tb_in 891 (by decide +kernel) rfl, tb_in 65 (by decide +kernel) rfl, by decide +kernel⟩
theorem pyX11_numberItem : plainName mX11_numberItem.1.cls = true := by decide +kernel
theorem inX11_numberItem : Cond.instanceMethod mX11_numberItem.1 ∈ TB := tb_in 890 (by decide +kernel) rfl
theorem seX11_numberItem : Cond.selects mX11_numberItem.1.cls mX11_numberItem.1 mX11_numberItem.1 ∈ TB := tb_in 23 (by decide +kernel) rfl
theorem okX11_item : mOK mX11_item 0 := ⟨tb_in 868 (by decide +kernel) rfl, tb_in 65 (by decide +kernel) rfl, by decide +kernel⟩
theorem pyX11_item : plainName mX11_item.1.cls = true := by decide +kernel
theorem inX11_item : Cond.instanceMethod mX11_item.1 ∈ TB := tb_in 867 (by decide +kernel) rfl
theorem seX11_item : Cond.selects mX11_item.1.cls mX11_item.1 mX11_item.1 ∈ TB := tb_in 18 (by decide +kernel) rfl
theorem okX11_readAll : mOK mX11_readAll 0 := ⟨tb_in 864 (by decide +kernel) rfl, tb_in 65 (by decide +kernel) rfl, by decide +kernel⟩
theorem pyX11_readAll : plainName mX11_readAll.1.cls = true := by decide +kernel
theorem inX11_readAll : Cond.instanceMethod mX11_readAll.1 ∈ TB := tb_in 863 (by decide +kernel) rfl
theorem seX11_readAll : Cond.selects mX11_readAll.1.cls mX11_readAll.1 mX11_readAll.1 ∈ TB := tb_in 17 (by decide +kernel) rfl
theorem okX11_fault : mOK mX11_fault 0 := ⟨tb_in 860 (by decide +kernel) rfl, tb_in 65 (by decide +kernel) rfl, by decide +kernel⟩
theorem pyX11_fault : plainName mX11_fault.1.cls = true := by decide +kernel
theorem inX11_fault : Cond.instanceMethod mX11_fault.1 ∈ TB := tb_in 858 (by decide +kernel) rfl
theorem seX11_fault : Cond.selects mX11_fault.1.cls mX11_fault.1 mX11_fault.1 ∈ TB := tb_in 859 (by decide +kernel) rfl
theorem okX11_lay : mOK mX11_lay 0 := ⟨tb_in 895 (by decide +kernel) rfl, tb_in 65 (by decide +kernel) rfl, by decide +kernel⟩
theorem pyX11_lay : plainName mX11_lay.1.cls = true := by decide +kernel
theorem inX11_lay : Cond.instanceMethod mX11_lay.1 ∈ TB := tb_in 893 (by decide +kernel) rfl
theorem seX11_lay : Cond.selects mX11_lay.1.cls mX11_lay.1 mX11_lay.1 ∈ TB := tb_in 894 (by decide +kernel) rfl
theorem okX11_isPerson : mOK mX11_isPerson 1 := ⟨tb_in 903 (by decide +kernel) rfl, tb_in 65 (by decide +kernel) rfl, by decide +kernel⟩
theorem pyX11_isPerson : plainName mX11_isPerson.1.cls = true := by decide +kernel
theorem inX11_isPerson : Cond.instanceMethod mX11_isPerson.1 ∈ TB := tb_in 902 (by decide +kernel) rfl
theorem seX11_isPerson : Cond.selects mX11_isPerson.1.cls mX11_isPerson.1 mX11_isPerson.1 ∈ TB := tb_in 24 (by decide +kernel) rfl
theorem okX11_manyOf : mOK mX11_manyOf 1 := ⟨tb_in 959 (by decide +kernel) rfl, tb_in 65 (by decide +kernel) rfl, by decide +kernel⟩
theorem pyX11_manyOf : plainName mX11_manyOf.1.cls = true := by decide +kernel
theorem inX11_manyOf : Cond.instanceMethod mX11_manyOf.1 ∈ TB := tb_in 958 (by decide +kernel) rfl
theorem seX11_manyOf : Cond.selects mX11_manyOf.1.cls mX11_manyOf.1 mX11_manyOf.1 ∈ TB := tb_in 33 (by decide +kernel) rfl
theorem okX11_person : mOK mX11_person 2 := ⟨tb_in 899 (by decide +kernel) rfl, tb_in 65 (by decide +kernel) rfl, by decide +kernel⟩
theorem pyX11_person : plainName mX11_person.1.cls = true := by decide +kernel
theorem inX11_person : Cond.instanceMethod mX11_person.1 ∈ TB := tb_in 897 (by decide +kernel) rfl
theorem seX11_person : Cond.selects mX11_person.1.cls mX11_person.1 mX11_person.1 ∈ TB := tb_in 898 (by decide +kernel) rfl
theorem okX11_law : mOK mX11_law 2 := ⟨tb_in 908 (by decide +kernel) rfl, tb_in 65 (by decide +kernel) rfl, by decide +kernel⟩
theorem pyX11_law : plainName mX11_law.1.cls = true := by decide +kernel
theorem inX11_law : Cond.instanceMethod mX11_law.1 ∈ TB := tb_in 906 (by decide +kernel) rfl
theorem seX11_law : Cond.selects mX11_law.1.cls mX11_law.1 mX11_law.1 ∈ TB := tb_in 907 (by decide +kernel) rfl
theorem okX11_showTrue : mOK mX11_showTrue 0 := ⟨tb_in 918 (by decide +kernel) rfl, tb_in 65 (by decide +kernel) rfl, by decide +kernel⟩
theorem pyX11_showTrue : plainName mX11_showTrue.1.cls = true := by decide +kernel
theorem inX11_showTrue : Cond.instanceMethod mX11_showTrue.1 ∈ TB := tb_in 917 (by decide +kernel) rfl
theorem seX11_showTrue : Cond.selects mX11_showTrue.1.cls mX11_showTrue.1 mX11_showTrue.1 ∈ TB := tb_in 25 (by decide +kernel) rfl
theorem okX11_layLines : mOK mX11_layLines 0 := ⟨tb_in 922 (by decide +kernel) rfl, tb_in 65 (by decide +kernel) rfl, by decide +kernel⟩
theorem pyX11_layLines : plainName mX11_layLines.1.cls = true := by decide +kernel
theorem inX11_layLines : Cond.instanceMethod mX11_layLines.1 ∈ TB := tb_in 921 (by decide +kernel) rfl
theorem seX11_layLines : Cond.selects mX11_layLines.1.cls mX11_layLines.1 mX11_layLines.1 ∈ TB := tb_in 26 (by decide +kernel) rfl
theorem okX11_worth : mOK mX11_worth 1 := ⟨tb_in 930 (by decide +kernel) rfl, tb_in 65 (by decide +kernel) rfl, by decide +kernel⟩
theorem pyX11_worth : plainName mX11_worth.1.cls = true := by decide +kernel
theorem inX11_worth : Cond.instanceMethod mX11_worth.1 ∈ TB := tb_in 929 (by decide +kernel) rfl
theorem seX11_worth : Cond.selects mX11_worth.1.cls mX11_worth.1 mX11_worth.1 ∈ TB := tb_in 28 (by decide +kernel) rfl
theorem okX11_costs : mOK mX11_costs 1 := ⟨tb_in 934 (by decide +kernel) rfl, tb_in 65 (by decide +kernel) rfl, by decide +kernel⟩
theorem pyX11_costs : plainName mX11_costs.1.cls = true := by decide +kernel
theorem inX11_costs : Cond.instanceMethod mX11_costs.1 ∈ TB := tb_in 933 (by decide +kernel) rfl
theorem seX11_costs : Cond.selects mX11_costs.1.cls mX11_costs.1 mX11_costs.1 ∈ TB := tb_in 29 (by decide +kernel) rfl
theorem okX11_quantity : mOK mX11_quantity 1 := ⟨tb_in 926 (by decide +kernel) rfl, tb_in 65 (by decide +kernel) rfl, by decide +kernel⟩
theorem pyX11_quantity : plainName mX11_quantity.1.cls = true := by decide +kernel
theorem inX11_quantity : Cond.instanceMethod mX11_quantity.1 ∈ TB := tb_in 925 (by decide +kernel) rfl
theorem seX11_quantity : Cond.selects mX11_quantity.1.cls mX11_quantity.1 mX11_quantity.1 ∈ TB := tb_in 27 (by decide +kernel) rfl
theorem okX11_gainOf : mOK mX11_gainOf 1 := ⟨tb_in 938 (by decide +kernel) rfl, tb_in 65 (by decide +kernel) rfl, by decide +kernel⟩
theorem pyX11_gainOf : plainName mX11_gainOf.1.cls = true := by decide +kernel
theorem inX11_gainOf : Cond.instanceMethod mX11_gainOf.1 ∈ TB := tb_in 937 (by decide +kernel) rfl
theorem seX11_gainOf : Cond.selects mX11_gainOf.1.cls mX11_gainOf.1 mX11_gainOf.1 ∈ TB := tb_in 30 (by decide +kernel) rfl
theorem okX11_lowest : mOK mX11_lowest 2 := ⟨tb_in 942 (by decide +kernel) rfl, tb_in 65 (by decide +kernel) rfl, by decide +kernel⟩
theorem pyX11_lowest : plainName mX11_lowest.1.cls = true := by decide +kernel
theorem inX11_lowest : Cond.instanceMethod mX11_lowest.1 ∈ TB := tb_in 941 (by decide +kernel) rfl
theorem seX11_lowest : Cond.selects mX11_lowest.1.cls mX11_lowest.1 mX11_lowest.1 ∈ TB := tb_in 31 (by decide +kernel) rfl
theorem okX11_highest : mOK mX11_highest 2 := ⟨tb_in 946 (by decide +kernel) rfl, tb_in 65 (by decide +kernel) rfl, by decide +kernel⟩
theorem pyX11_highest : plainName mX11_highest.1.cls = true := by decide +kernel
theorem inX11_highest : Cond.instanceMethod mX11_highest.1 ∈ TB := tb_in 945 (by decide +kernel) rfl
theorem seX11_highest : Cond.selects mX11_highest.1.cls mX11_highest.1 mX11_highest.1 ∈ TB := tb_in 32 (by decide +kernel) rfl
theorem okX11_lines : mOK mX11_lines 1 := ⟨tb_in 913 (by decide +kernel) rfl, tb_in 65 (by decide +kernel) rfl, by decide +kernel⟩
theorem pyX11_lines : plainName mX11_lines.1.cls = true := by decide +kernel
theorem inX11_lines : Cond.instanceMethod mX11_lines.1 ∈ TB := tb_in 911 (by decide +kernel) rfl
theorem seX11_lines : Cond.selects mX11_lines.1.cls mX11_lines.1 mX11_lines.1 ∈ TB := tb_in 912 (by decide +kernel) rfl
theorem okX11_served : mOK mX11_served 1 := ⟨tb_in 950 (by decide +kernel) rfl, tb_in 65 (by decide +kernel) rfl, by decide +kernel⟩
theorem pyX11_served : plainName mX11_served.1.cls = true := by decide +kernel
theorem inX11_served : Cond.instanceMethod mX11_served.1 ∈ TB := tb_in 948 (by decide +kernel) rfl
theorem seX11_served : Cond.selects mX11_served.1.cls mX11_served.1 mX11_served.1 ∈ TB := tb_in 949 (by decide +kernel) rfl
theorem okX11_common : mOK mX11_common 2 := ⟨tb_in 962 (by decide +kernel) rfl, tb_in 65 (by decide +kernel) rfl, by decide +kernel⟩
theorem pyX11_common : plainName mX11_common.1.cls = true := by decide +kernel
theorem stX11_common : Cond.static mX11_common.1 ∈ TB := tb_in 961 (by decide +kernel) rfl
theorem okX11_pairs : mOK mX11_pairs 1 := ⟨tb_in 954 (by decide +kernel) rfl, tb_in 65 (by decide +kernel) rfl, by decide +kernel⟩
theorem pyX11_pairs : plainName mX11_pairs.1.cls = true := by decide +kernel
theorem inX11_pairs : Cond.instanceMethod mX11_pairs.1 ∈ TB := tb_in 952 (by decide +kernel) rfl
theorem seX11_pairs : Cond.selects mX11_pairs.1.cls mX11_pairs.1 mX11_pairs.1 ∈ TB := tb_in 953 (by decide +kernel) rfl
theorem okX11_isFirst : mOK mX11_isFirst 2 := ⟨tb_in 975 (by decide +kernel) rfl, tb_in 65 (by decide +kernel) rfl, by decide +kernel⟩
theorem pyX11_isFirst : plainName mX11_isFirst.1.cls = true := by decide +kernel
theorem inX11_isFirst : Cond.instanceMethod mX11_isFirst.1 ∈ TB := tb_in 974 (by decide +kernel) rfl
theorem seX11_isFirst : Cond.selects mX11_isFirst.1.cls mX11_isFirst.1 mX11_isFirst.1 ∈ TB := tb_in 35 (by decide +kernel) rfl
theorem okX11_bellOf : mOK mX11_bellOf 2 := ⟨tb_in 971 (by decide +kernel) rfl, tb_in 65 (by decide +kernel) rfl, by decide +kernel⟩
theorem pyX11_bellOf : plainName mX11_bellOf.1.cls = true := by decide +kernel
theorem inX11_bellOf : Cond.instanceMethod mX11_bellOf.1 ∈ TB := tb_in 970 (by decide +kernel) rfl
theorem seX11_bellOf : Cond.selects mX11_bellOf.1.cls mX11_bellOf.1 mX11_bellOf.1 ∈ TB := tb_in 34 (by decide +kernel) rfl
theorem okX11_bell : mOK mX11_bell 2 := ⟨tb_in 966 (by decide +kernel) rfl, tb_in 65 (by decide +kernel) rfl, by decide +kernel⟩
theorem pyX11_bell : plainName mX11_bell.1.cls = true := by decide +kernel
theorem inX11_bell : Cond.instanceMethod mX11_bell.1 ∈ TB := tb_in 964 (by decide +kernel) rfl
theorem seX11_bell : Cond.selects mX11_bell.1.cls mX11_bell.1 mX11_bell.1 ∈ TB := tb_in 965 (by decide +kernel) rfl
theorem okX11_best : mOK mX11_best 2 := ⟨tb_in 979 (by decide +kernel) rfl, tb_in 65 (by decide +kernel) rfl, by decide +kernel⟩
theorem pyX11_best : plainName mX11_best.1.cls = true := by decide +kernel
theorem inX11_best : Cond.instanceMethod mX11_best.1 ∈ TB := tb_in 977 (by decide +kernel) rfl
theorem seX11_best : Cond.selects mX11_best.1.cls mX11_best.1 mX11_best.1 ∈ TB := tb_in 978 (by decide +kernel) rfl
theorem okX11_draw : mOK mX11_draw 2 := ⟨tb_in 999 (by decide +kernel) rfl, tb_in 65 (by decide +kernel) rfl, by decide +kernel⟩
theorem pyX11_draw : plainName mX11_draw.1.cls = true := by decide +kernel
theorem inX11_draw : Cond.instanceMethod mX11_draw.1 ∈ TB := tb_in 998 (by decide +kernel) rfl
theorem seX11_draw : Cond.selects mX11_draw.1.cls mX11_draw.1 mX11_draw.1 ∈ TB := tb_in 38 (by decide +kernel) rfl
theorem okX11_shoutBy : mOK mX11_shoutBy 6 := ⟨tb_in 1011 (by decide +kernel) rfl, tb_in 65 (by decide +kernel) rfl, by decide +kernel⟩
theorem pyX11_shoutBy : plainName mX11_shoutBy.1.cls = true := by decide +kernel
theorem inX11_shoutBy : Cond.instanceMethod mX11_shoutBy.1 ∈ TB := tb_in 1010 (by decide +kernel) rfl
theorem seX11_shoutBy : Cond.selects mX11_shoutBy.1.cls mX11_shoutBy.1 mX11_shoutBy.1 ∈ TB := tb_in 40 (by decide +kernel) rfl
theorem okX11_shoutOf : mOK mX11_shoutOf 4 := ⟨tb_in 1007 (by decide +kernel) rfl, tb_in 65 (by decide +kernel) rfl, by decide +kernel⟩
theorem pyX11_shoutOf : plainName mX11_shoutOf.1.cls = true := by decide +kernel
theorem inX11_shoutOf : Cond.instanceMethod mX11_shoutOf.1 ∈ TB := tb_in 1006 (by decide +kernel) rfl
theorem seX11_shoutOf : Cond.selects mX11_shoutOf.1.cls mX11_shoutOf.1 mX11_shoutOf.1 ∈ TB := tb_in 39 (by decide +kernel) rfl
theorem okX11_trade : mOK mX11_trade 4 := ⟨tb_in 1019 (by decide +kernel) rfl, tb_in 65 (by decide +kernel) rfl, by decide +kernel⟩
theorem pyX11_trade : plainName mX11_trade.1.cls = true := by decide +kernel
theorem inX11_trade : Cond.instanceMethod mX11_trade.1 ∈ TB := tb_in 1018 (by decide +kernel) rfl
theorem seX11_trade : Cond.selects mX11_trade.1.cls mX11_trade.1 mX11_trade.1 ∈ TB := tb_in 42 (by decide +kernel) rfl
theorem okX11_note : mOK mX11_note 3 := ⟨tb_in 1015 (by decide +kernel) rfl, tb_in 65 (by decide +kernel) rfl, by decide +kernel⟩
theorem pyX11_note : plainName mX11_note.1.cls = true := by decide +kernel
theorem inX11_note : Cond.instanceMethod mX11_note.1 ∈ TB := tb_in 1014 (by decide +kernel) rfl
theorem seX11_note : Cond.selects mX11_note.1.cls mX11_note.1 mX11_note.1 ∈ TB := tb_in 41 (by decide +kernel) rfl
theorem okX11_goShouts : mOK mX11_goShouts 0 := ⟨tb_in 995 (by decide +kernel) rfl, tb_in 65 (by decide +kernel) rfl, by decide +kernel⟩
theorem pyX11_goShouts : plainName mX11_goShouts.1.cls = true := by decide +kernel
theorem inX11_goShouts : Cond.instanceMethod mX11_goShouts.1 ∈ TB := tb_in 994 (by decide +kernel) rfl
theorem seX11_goShouts : Cond.selects mX11_goShouts.1.cls mX11_goShouts.1 mX11_goShouts.1 ∈ TB := tb_in 37 (by decide +kernel) rfl
theorem okX11_personOf : mOK mX11_personOf 2 := ⟨tb_in 1027 (by decide +kernel) rfl, tb_in 65 (by decide +kernel) rfl, by decide +kernel⟩
theorem pyX11_personOf : plainName mX11_personOf.1.cls = true := by decide +kernel
theorem inX11_personOf : Cond.instanceMethod mX11_personOf.1 ∈ TB := tb_in 1026 (by decide +kernel) rfl
theorem seX11_personOf : Cond.selects mX11_personOf.1.cls mX11_personOf.1 mX11_personOf.1 ∈ TB := tb_in 44 (by decide +kernel) rfl
theorem okX11_goPairs : mOK mX11_goPairs 0 := ⟨tb_in 1023 (by decide +kernel) rfl, tb_in 65 (by decide +kernel) rfl, by decide +kernel⟩
theorem pyX11_goPairs : plainName mX11_goPairs.1.cls = true := by decide +kernel
theorem inX11_goPairs : Cond.instanceMethod mX11_goPairs.1 ∈ TB := tb_in 1022 (by decide +kernel) rfl
theorem seX11_goPairs : Cond.selects mX11_goPairs.1.cls mX11_goPairs.1 mX11_goPairs.1 ∈ TB := tb_in 43 (by decide +kernel) rfl
theorem okX11_goPosted : mOK mX11_goPosted 0 := ⟨tb_in 1031 (by decide +kernel) rfl, tb_in 65 (by decide +kernel) rfl, by decide +kernel⟩
theorem pyX11_goPosted : plainName mX11_goPosted.1.cls = true := by decide +kernel
theorem inX11_goPosted : Cond.instanceMethod mX11_goPosted.1 ∈ TB := tb_in 1030 (by decide +kernel) rfl
theorem seX11_goPosted : Cond.selects mX11_goPosted.1.cls mX11_goPosted.1 mX11_goPosted.1 ∈ TB := tb_in 45 (by decide +kernel) rfl
theorem okX11_goBell : mOK mX11_goBell 0 := ⟨tb_in 1035 (by decide +kernel) rfl, tb_in 65 (by decide +kernel) rfl, by decide +kernel⟩
theorem pyX11_goBell : plainName mX11_goBell.1.cls = true := by decide +kernel
theorem inX11_goBell : Cond.instanceMethod mX11_goBell.1 ∈ TB := tb_in 1034 (by decide +kernel) rfl
theorem seX11_goBell : Cond.selects mX11_goBell.1.cls mX11_goBell.1 mX11_goBell.1 ∈ TB := tb_in 46 (by decide +kernel) rfl
theorem okX11_goRound : mOK mX11_goRound 3 := ⟨tb_in 991 (by decide +kernel) rfl, tb_in 65 (by decide +kernel) rfl, by decide +kernel⟩
theorem pyX11_goRound : plainName mX11_goRound.1.cls = true := by decide +kernel
theorem inX11_goRound : Cond.instanceMethod mX11_goRound.1 ∈ TB := tb_in 990 (by decide +kernel) rfl
theorem seX11_goRound : Cond.selects mX11_goRound.1.cls mX11_goRound.1 mX11_goRound.1 ∈ TB := tb_in 36 (by decide +kernel) rfl
theorem okX11_isRound : mOK mX11_isRound 2 := ⟨tb_in 986 (by decide +kernel) rfl, tb_in 65 (by decide +kernel) rfl, by decide +kernel⟩
theorem pyX11_isRound : plainName mX11_isRound.1.cls = true := by decide +kernel
theorem stX11_isRound : Cond.static mX11_isRound.1 ∈ TB := tb_in 985 (by decide +kernel) rfl
theorem okX11_round : mOK mX11_round 3 := ⟨tb_in 983 (by decide +kernel) rfl, tb_in 65 (by decide +kernel) rfl, by decide +kernel⟩
theorem pyX11_round : plainName mX11_round.1.cls = true := by decide +kernel
theorem inX11_round : Cond.instanceMethod mX11_round.1 ∈ TB := tb_in 981 (by decide +kernel) rfl
theorem seX11_round : Cond.selects mX11_round.1.cls mX11_round.1 mX11_round.1 ∈ TB := tb_in 982 (by decide +kernel) rfl
theorem okX11_of : mOK mX11_of 3 := ⟨tb_in 1039 (by decide +kernel) rfl, tb_in 65 (by decide +kernel) rfl, by decide +kernel⟩
theorem pyX11_of : plainName mX11_of.1.cls = true := by decide +kernel
theorem inX11_of : Cond.instanceMethod mX11_of.1 ∈ TB := tb_in 1037 (by decide +kernel) rfl
theorem seX11_of : Cond.selects mX11_of.1.cls mX11_of.1 mX11_of.1 ∈ TB := tb_in 1038 (by decide +kernel) rfl
theorem okX11_layMeans : mOK mX11_layMeans 2 := ⟨tb_in 1047 (by decide +kernel) rfl, tb_in 65 (by decide +kernel) rfl, by decide +kernel⟩
theorem pyX11_layMeans : plainName mX11_layMeans.1.cls = true := by decide +kernel
theorem inX11_layMeans : Cond.instanceMethod mX11_layMeans.1 ∈ TB := tb_in 1046 (by decide +kernel) rfl
theorem seX11_layMeans : Cond.selects mX11_layMeans.1.cls mX11_layMeans.1 mX11_layMeans.1 ∈ TB := tb_in 47 (by decide +kernel) rfl
theorem okX11_means : mOK mX11_means 3 := ⟨tb_in 1043 (by decide +kernel) rfl, tb_in 65 (by decide +kernel) rfl, by decide +kernel⟩
theorem pyX11_means : plainName mX11_means.1.cls = true := by decide +kernel
theorem inX11_means : Cond.instanceMethod mX11_means.1 ∈ TB := tb_in 1041 (by decide +kernel) rfl
theorem seX11_means : Cond.selects mX11_means.1.cls mX11_means.1 mX11_means.1 ∈ TB := tb_in 1042 (by decide +kernel) rfl
theorem okX11_bestBy : mOK mX11_bestBy 1 := ⟨tb_in 1055 (by decide +kernel) rfl, tb_in 65 (by decide +kernel) rfl, by decide +kernel⟩
theorem pyX11_bestBy : plainName mX11_bestBy.1.cls = true := by decide +kernel
theorem inX11_bestBy : Cond.instanceMethod mX11_bestBy.1 ∈ TB := tb_in 1054 (by decide +kernel) rfl
theorem seX11_bestBy : Cond.selects mX11_bestBy.1.cls mX11_bestBy.1 mX11_bestBy.1 ∈ TB := tb_in 48 (by decide +kernel) rfl
theorem okX11_rules : mOK mX11_rules 2 := ⟨tb_in 1051 (by decide +kernel) rfl, tb_in 65 (by decide +kernel) rfl, by decide +kernel⟩
theorem pyX11_rules : plainName mX11_rules.1.cls = true := by decide +kernel
theorem inX11_rules : Cond.instanceMethod mX11_rules.1 ∈ TB := tb_in 1049 (by decide +kernel) rfl
theorem seX11_rules : Cond.selects mX11_rules.1.cls mX11_rules.1 mX11_rules.1 ∈ TB := tb_in 1050 (by decide +kernel) rfl
theorem okX11_shout : mOK mX11_shout 2 := ⟨tb_in 1059 (by decide +kernel) rfl, tb_in 65 (by decide +kernel) rfl, by decide +kernel⟩
theorem pyX11_shout : plainName mX11_shout.1.cls = true := by decide +kernel
theorem inX11_shout : Cond.instanceMethod mX11_shout.1 ∈ TB := tb_in 1057 (by decide +kernel) rfl
theorem seX11_shout : Cond.selects mX11_shout.1.cls mX11_shout.1 mX11_shout.1 ∈ TB := tb_in 1058 (by decide +kernel) rfl
theorem okX11_knownOf : mOK mX11_knownOf 1 := ⟨tb_in 1067 (by decide +kernel) rfl, tb_in 65 (by decide +kernel) rfl, by decide +kernel⟩
theorem pyX11_knownOf : plainName mX11_knownOf.1.cls = true := by decide +kernel
theorem inX11_knownOf : Cond.instanceMethod mX11_knownOf.1 ∈ TB := tb_in 1066 (by decide +kernel) rfl
theorem seX11_knownOf : Cond.selects mX11_knownOf.1.cls mX11_knownOf.1 mX11_knownOf.1 ∈ TB := tb_in 49 (by decide +kernel) rfl
theorem okX11_known : mOK mX11_known 1 := ⟨tb_in 1063 (by decide +kernel) rfl, tb_in 65 (by decide +kernel) rfl, by decide +kernel⟩
theorem pyX11_known : plainName mX11_known.1.cls = true := by decide +kernel
theorem inX11_known : Cond.instanceMethod mX11_known.1 ∈ TB := tb_in 1061 (by decide +kernel) rfl
theorem seX11_known : Cond.selects mX11_known.1.cls mX11_known.1 mX11_known.1 ∈ TB := tb_in 1062 (by decide +kernel) rfl
theorem okX11_least : mOK mX11_least 1 := ⟨tb_in 1071 (by decide +kernel) rfl, tb_in 65 (by decide +kernel) rfl, by decide +kernel⟩
theorem pyX11_least : plainName mX11_least.1.cls = true := by decide +kernel
theorem inX11_least : Cond.instanceMethod mX11_least.1 ∈ TB := tb_in 1069 (by decide +kernel) rfl
theorem seX11_least : Cond.selects mX11_least.1.cls mX11_least.1 mX11_least.1 ∈ TB := tb_in 1070 (by decide +kernel) rfl
theorem okX11_mayBe : mOK mX11_mayBe 2 := ⟨tb_in 1079 (by decide +kernel) rfl, tb_in 65 (by decide +kernel) rfl, by decide +kernel⟩
theorem pyX11_mayBe : plainName mX11_mayBe.1.cls = true := by decide +kernel
theorem inX11_mayBe : Cond.instanceMethod mX11_mayBe.1 ∈ TB := tb_in 1078 (by decide +kernel) rfl
theorem seX11_mayBe : Cond.selects mX11_mayBe.1.cls mX11_mayBe.1 mX11_mayBe.1 ∈ TB := tb_in 50 (by decide +kernel) rfl
theorem okX11_laws : mOK mX11_laws 1 := ⟨tb_in 1075 (by decide +kernel) rfl, tb_in 65 (by decide +kernel) rfl, by decide +kernel⟩
theorem pyX11_laws : plainName mX11_laws.1.cls = true := by decide +kernel
theorem inX11_laws : Cond.instanceMethod mX11_laws.1 ∈ TB := tb_in 1073 (by decide +kernel) rfl
theorem seX11_laws : Cond.selects mX11_laws.1.cls mX11_laws.1 mX11_laws.1 ∈ TB := tb_in 1074 (by decide +kernel) rfl
theorem okX11_layRooms : mOK mX11_layRooms 1 := ⟨tb_in 1087 (by decide +kernel) rfl, tb_in 65 (by decide +kernel) rfl, by decide +kernel⟩
theorem pyX11_layRooms : plainName mX11_layRooms.1.cls = true := by decide +kernel
theorem inX11_layRooms : Cond.instanceMethod mX11_layRooms.1 ∈ TB := tb_in 1086 (by decide +kernel) rfl
theorem seX11_layRooms : Cond.selects mX11_layRooms.1.cls mX11_layRooms.1 mX11_layRooms.1 ∈ TB := tb_in 51 (by decide +kernel) rfl
theorem okX11_carried : mOK mX11_carried 2 := ⟨tb_in 1091 (by decide +kernel) rfl, tb_in 65 (by decide +kernel) rfl, by decide +kernel⟩
theorem pyX11_carried : plainName mX11_carried.1.cls = true := by decide +kernel
theorem inX11_carried : Cond.instanceMethod mX11_carried.1 ∈ TB := tb_in 1090 (by decide +kernel) rfl
theorem seX11_carried : Cond.selects mX11_carried.1.cls mX11_carried.1 mX11_carried.1 ∈ TB := tb_in 52 (by decide +kernel) rfl
theorem okX11_two : mOK mX11_two 3 := ⟨tb_in 1083 (by decide +kernel) rfl, tb_in 65 (by decide +kernel) rfl, by decide +kernel⟩
theorem pyX11_two : plainName mX11_two.1.cls = true := by decide +kernel
theorem inX11_two : Cond.instanceMethod mX11_two.1 ∈ TB := tb_in 1081 (by decide +kernel) rfl
theorem seX11_two : Cond.selects mX11_two.1.cls mX11_two.1 mX11_two.1 ∈ TB := tb_in 1082 (by decide +kernel) rfl
theorem okX11_copyLog : mOK mX11_copyLog 2 := ⟨tb_in 1099 (by decide +kernel) rfl, tb_in 65 (by decide +kernel) rfl, by decide +kernel⟩
theorem pyX11_copyLog : plainName mX11_copyLog.1.cls = true := by decide +kernel
theorem inX11_copyLog : Cond.instanceMethod mX11_copyLog.1 ∈ TB := tb_in 1098 (by decide +kernel) rfl
theorem seX11_copyLog : Cond.selects mX11_copyLog.1.cls mX11_copyLog.1 mX11_copyLog.1 ∈ TB := tb_in 53 (by decide +kernel) rfl
theorem okX11_keep : mOK mX11_keep 0 := ⟨tb_in 1095 (by decide +kernel) rfl, tb_in 65 (by decide +kernel) rfl, by decide +kernel⟩
theorem pyX11_keep : plainName mX11_keep.1.cls = true := by decide +kernel
theorem inX11_keep : Cond.instanceMethod mX11_keep.1 ∈ TB := tb_in 1093 (by decide +kernel) rfl
theorem seX11_keep : Cond.selects mX11_keep.1.cls mX11_keep.1 mX11_keep.1 ∈ TB := tb_in 1094 (by decide +kernel) rfl
theorem okX11_back : mOK mX11_back 0 := ⟨tb_in 1103 (by decide +kernel) rfl, tb_in 65 (by decide +kernel) rfl, by decide +kernel⟩
theorem pyX11_back : plainName mX11_back.1.cls = true := by decide +kernel
theorem inX11_back : Cond.instanceMethod mX11_back.1 ∈ TB := tb_in 1101 (by decide +kernel) rfl
theorem seX11_back : Cond.selects mX11_back.1.cls mX11_back.1 mX11_back.1 ∈ TB := tb_in 1102 (by decide +kernel) rfl
theorem okX11_count : mOK mX11_count 1 := ⟨tb_in 1107 (by decide +kernel) rfl, tb_in 65 (by decide +kernel) rfl, by decide +kernel⟩
theorem pyX11_count : plainName mX11_count.1.cls = true := by decide +kernel
theorem inX11_count : Cond.instanceMethod mX11_count.1 ∈ TB := tb_in 1105 (by decide +kernel) rfl
theorem seX11_count : Cond.selects mX11_count.1.cls mX11_count.1 mX11_count.1 ∈ TB := tb_in 1106 (by decide +kernel) rfl
theorem lkL_9 : Cond.methodLink RL 9 mX10_init.1 ∈ TB := tb_in 71 (by decide +kernel) rfl
theorem lkX10_1 : Cond.methodLink RX10 1 objectInit ∈ TB := tb_in 74 (by decide +kernel) rfl
theorem lkX8_3 : Cond.methodLink RX8 3 objectInit ∈ TB := tb_in 82 (by decide +kernel) rfl
theorem lkX5_3 : Cond.methodLink RX5 3 objectInit ∈ TB := tb_in 99 (by decide +kernel) rfl
theorem lkX10_25 : Cond.methodLink RX10 25 mX6_init.1 ∈ TB := tb_in 112 (by decide +kernel) rfl
theorem lkX6_3 : Cond.methodLink RX6 3 objectInit ∈ TB := tb_in 115 (by decide +kernel) rfl
theorem lkX6_28 : Cond.methodLink RX6 28 mX6_empty.1 ∈ TB := tb_in 116 (by decide +kernel) rfl
theorem lkX4_3 : Cond.methodLink RX4 3 objectInit ∈ TB := tb_in 199 (by decide +kernel) rfl
theorem lkX3_3 : Cond.methodLink RX3 3 objectInit ∈ TB := tb_in 229 (by decide +kernel) rfl
theorem lkX3_11 : Cond.methodLink RX3 11 mX2_init.1 ∈ TB := tb_in 232 (by decide +kernel) rfl
theorem lkX2_3 : Cond.methodLink RX2 3 objectInit ∈ TB := tb_in 235 (by decide +kernel) rfl
theorem lkX7_3 : Cond.methodLink RX7 3 objectInit ∈ TB := tb_in 289 (by decide +kernel) rfl
theorem lkX0_1 : Cond.methodLink RX0 1 objectInit ∈ TB := tb_in 344 (by decide +kernel) rfl
theorem lkX1_3 : Cond.methodLink RX1 3 objectInit ∈ TB := tb_in 360 (by decide +kernel) rfl
theorem lkX10_80 : Cond.methodLink RX10 80 mX6_addPerson.1 ∈ TB := tb_in 370 (by decide +kernel) rfl
theorem lkL_15 : Cond.methodLink RL 15 mX10_write.1 ∈ TB := tb_in 414 (by decide +kernel) rfl
theorem lkX10_84 : Cond.methodLink RX10 84 mX10_within.1 ∈ TB := tb_in 418 (by decide +kernel) rfl
theorem lkX10_91 : Cond.methodLink RX10 91 mX8_add.1 ∈ TB := tb_in 419 (by decide +kernel) rfl
theorem lkL_20 : Cond.methodLink RL 20 mX10_wipe.1 ∈ TB := tb_in 423 (by decide +kernel) rfl
theorem lkL_25 : Cond.methodLink RL 25 mX10_fault.1 ∈ TB := tb_in 427 (by decide +kernel) rfl
theorem lkX10_95 : Cond.methodLink RX10 95 mX5_read.1 ∈ TB := tb_in 431 (by decide +kernel) rfl
theorem lkX5_22 : Cond.methodLink RX5 22 mX6_empty.1 ∈ TB := tb_in 435 (by decide +kernel) rfl
theorem lkX5_32 : Cond.methodLink RX5 32 mX5_split.1 ∈ TB := tb_in 436 (by decide +kernel) rfl
theorem lkX5_39 : Cond.methodLink RX5 39 mX5_take.1 ∈ TB := tb_in 440 (by decide +kernel) rfl
theorem lkX5_43 : Cond.methodLink RX5 43 mX6_addPerson.1 ∈ TB := tb_in 444 (by decide +kernel) rfl
theorem lkX5_47 : Cond.methodLink RX5 47 mX6_set.1 ∈ TB := tb_in 445 (by decide +kernel) rfl
theorem lkL_29 : Cond.methodLink RL 29 mX10_lay.1 ∈ TB := tb_in 449 (by decide +kernel) rfl
theorem lkL_33 : Cond.methodLink RL 33 mX10_person.1 ∈ TB := tb_in 453 (by decide +kernel) rfl
theorem lkX10_109 : Cond.methodLink RX10 109 mX6_has.1 ∈ TB := tb_in 457 (by decide +kernel) rfl
theorem lkL_38 : Cond.methodLink RL 38 mX10_law.1 ∈ TB := tb_in 461 (by decide +kernel) rfl
theorem lkL_42 : Cond.methodLink RL 42 mX10_lines.1 ∈ TB := tb_in 465 (by decide +kernel) rfl
theorem lkX10_127 : Cond.methodLink RX10 127 mX3_meet.1 ∈ TB := tb_in 469 (by decide +kernel) rfl
theorem lkX3_37 : Cond.methodLink RX3 37 mX3_empty.1 ∈ TB := tb_in 473 (by decide +kernel) rfl
theorem lkX3_47 : Cond.methodLink RX3 47 mX3_put.1 ∈ TB := tb_in 477 (by decide +kernel) rfl
theorem lkX3_33 : Cond.methodLink RX3 33 mX2_add.1 ∈ TB := tb_in 481 (by decide +kernel) rfl
theorem lkX3_51 : Cond.methodLink RX3 51 mX3_cross.1 ∈ TB := tb_in 485 (by decide +kernel) rfl
theorem lkX3_55 : Cond.methodLink RX3 55 Lib.Math.min.name ∈ TB := tb_in 489 (by decide +kernel) rfl
theorem lkX3_65 : Cond.methodLink RX3 65 mX2_sum.1 ∈ TB := tb_in 492 (by decide +kernel) rfl
theorem lkX2_26 : Cond.methodLink RX2 26 Lib.Math.max.name ∈ TB := tb_in 496 (by decide +kernel) rfl
theorem lkX3_77 : Cond.methodLink RX3 77 mX3_price.1 ∈ TB := tb_in 499 (by decide +kernel) rfl
theorem lkX3_80 : Cond.methodLink RX3 80 Lib.Math.max.name ∈ TB := tb_in 503 (by decide +kernel) rfl
theorem lkL_47 : Cond.methodLink RL 47 mX10_served.1 ∈ TB := tb_in 504 (by decide +kernel) rfl
theorem lkX10_149 : Cond.methodLink RX10 149 mX2_ahead.1 ∈ TB := tb_in 508 (by decide +kernel) rfl
theorem lkX10_157 : Cond.methodLink RX10 157 Lib.Math.min.name ∈ TB := tb_in 512 (by decide +kernel) rfl
theorem lkX10_163 : Cond.methodLink RX10 163 mX2_sum.1 ∈ TB := tb_in 513 (by decide +kernel) rfl
theorem lkL_51 : Cond.methodLink RL 51 mX10_pairs.1 ∈ TB := tb_in 514 (by decide +kernel) rfl
theorem lkX10_168 : Cond.methodLink RX10 168 mX10_gainOfAllMeetings.1 ∈ TB := tb_in 519 (by decide +kernel) rfl
theorem lkX10_172 : Cond.methodLink RX10 172 Lib.Math.max.name ∈ TB := tb_in 523 (by decide +kernel) rfl
theorem lkL_56 : Cond.methodLink RL 56 mX10_bell.1 ∈ TB := tb_in 524 (by decide +kernel) rfl
theorem lkX10_175 : Cond.methodLink RX10 175 mX10_gainOfTelling.1 ∈ TB := tb_in 528 (by decide +kernel) rfl
theorem lkX10_221 : Cond.methodLink RX10 221 mX3_empty.1 ∈ TB := tb_in 532 (by decide +kernel) rfl
theorem lkX10_224 : Cond.methodLink RX10 224 mX3_put.1 ∈ TB := tb_in 533 (by decide +kernel) rfl
theorem lkX10_228 : Cond.methodLink RX10 228 mX3_cross.1 ∈ TB := tb_in 534 (by decide +kernel) rfl
theorem lkX10_259 : Cond.methodLink RX10 259 mX3_trades.1 ∈ TB := tb_in 535 (by decide +kernel) rfl
theorem lkX3_83 : Cond.methodLink RX3 83 mX2_holds.1 ∈ TB := tb_in 539 (by decide +kernel) rfl
theorem lkL_60 : Cond.methodLink RL 60 mX10_best.1 ∈ TB := tb_in 543 (by decide +kernel) rfl
theorem lkX10_178 : Cond.methodLink RX10 178 Lib.Math.abs.name ∈ TB := tb_in 547 (by decide +kernel) rfl
theorem lkL_64 : Cond.methodLink RL 64 mX10_round.1 ∈ TB := tb_in 550 (by decide +kernel) rfl
theorem lkX10_181 : Cond.methodLink RX10 181 mX7_play.1 ∈ TB := tb_in 554 (by decide +kernel) rfl
theorem lkX7_47 : Cond.methodLink RX7 47 mX7_playShouts.1 ∈ TB := tb_in 558 (by decide +kernel) rfl
theorem lkX7_117 : Cond.methodLink RX7 117 mX7_draw.1 ∈ TB := tb_in 562 (by decide +kernel) rfl
theorem lkX7_80 : Cond.methodLink RX7 80 mX7_rest.1 ∈ TB := tb_in 570 (by decide +kernel) rfl
theorem lkX7_123 : Cond.methodLink RX7 123 mX7_tells.1 ∈ TB := tb_in 573 (by decide +kernel) rfl
theorem lkX7_74 : Cond.methodLink RX7 74 mX9_span.1 ∈ TB := tb_in 577 (by decide +kernel) rfl
theorem lkX7_84 : Cond.methodLink RX7 84 mX9_by.1 ∈ TB := tb_in 580 (by decide +kernel) rfl
theorem lkX9_26 : Cond.methodLink RX9 26 mX9_near.1 ∈ TB := tb_in 583 (by decide +kernel) rfl
theorem lkX9_38 : Cond.methodLink RX9 38 Lib.Math.max.name ∈ TB := tb_in 586 (by decide +kernel) rfl
theorem lkX9_44 : Cond.methodLink RX9 44 Lib.Math.min.name ∈ TB := tb_in 587 (by decide +kernel) rfl
theorem lkX9_31 : Cond.methodLink RX9 31 mX9_share.1 ∈ TB := tb_in 588 (by decide +kernel) rfl
theorem lkX7_88 : Cond.methodLink RX7 88 mX9_underLid.1 ∈ TB := tb_in 591 (by decide +kernel) rfl
theorem lkX7_126 : Cond.methodLink RX7 126 mX9_isHeard.1 ∈ TB := tb_in 594 (by decide +kernel) rfl
theorem lkX7_130 : Cond.methodLink RX7 130 mX4_add.1 ∈ TB := tb_in 597 (by decide +kernel) rfl
theorem lkX7_138 : Cond.methodLink RX7 138 mX7_hearOffer.1 ∈ TB := tb_in 601 (by decide +kernel) rfl
theorem lkX7_151 : Cond.methodLink RX7 151 mX7_trade.1 ∈ TB := tb_in 605 (by decide +kernel) rfl
theorem lkX7_92 : Cond.methodLink RX7 92 Lib.Math.min.name ∈ TB := tb_in 609 (by decide +kernel) rfl
theorem lkX7_97 : Cond.methodLink RX7 97 Lib.Math.max.name ∈ TB := tb_in 610 (by decide +kernel) rfl
theorem lkX7_142 : Cond.methodLink RX7 142 mX7_hearBid.1 ∈ TB := tb_in 611 (by decide +kernel) rfl
theorem lkX7_51 : Cond.methodLink RX7 51 mX7_playPairs.1 ∈ TB := tb_in 615 (by decide +kernel) rfl
theorem lkX7_55 : Cond.methodLink RX7 55 mX7_playPosted.1 ∈ TB := tb_in 619 (by decide +kernel) rfl
theorem lkX7_170 : Cond.methodLink RX7 170 mX7_cheapestLeft.1 ∈ TB := tb_in 623 (by decide +kernel) rfl
theorem lkX7_58 : Cond.methodLink RX7 58 mX7_playBell.1 ∈ TB := tb_in 627 (by decide +kernel) rfl
theorem lkX7_174 : Cond.methodLink RX7 174 mX3_empty.1 ∈ TB := tb_in 631 (by decide +kernel) rfl
theorem lkX7_177 : Cond.methodLink RX7 177 mX3_put.1 ∈ TB := tb_in 632 (by decide +kernel) rfl
theorem lkX7_181 : Cond.methodLink RX7 181 mX3_cross.1 ∈ TB := tb_in 633 (by decide +kernel) rfl
theorem lkX10_194 : Cond.methodLink RX10 194 mX7_wanders.1 ∈ TB := tb_in 634 (by decide +kernel) rfl
theorem lkL_69 : Cond.methodLink RL 69 mX10_of.1 ∈ TB := tb_in 638 (by decide +kernel) rfl
theorem lkL_73 : Cond.methodLink RL 73 mX10_means.1 ∈ TB := tb_in 642 (by decide +kernel) rfl
theorem lkX10_200 : Cond.methodLink RX10 200 mX10_sumUp.1 ∈ TB := tb_in 646 (by decide +kernel) rfl
theorem lkL_77 : Cond.methodLink RL 77 mX10_rules.1 ∈ TB := tb_in 650 (by decide +kernel) rfl
theorem lkX10_204 : Cond.methodLink RX10 204 mX10_bestBy.1 ∈ TB := tb_in 654 (by decide +kernel) rfl
theorem lkL_81 : Cond.methodLink RL 81 mX10_shout.1 ∈ TB := tb_in 658 (by decide +kernel) rfl
theorem lkL_85 : Cond.methodLink RL 85 mX10_known.1 ∈ TB := tb_in 662 (by decide +kernel) rfl
theorem lkX10_217 : Cond.methodLink RX10 217 mX4_seenOf.1 ∈ TB := tb_in 666 (by decide +kernel) rfl
theorem lkX4_40 : Cond.methodLink RX4 40 Lib.Math.min.name ∈ TB := tb_in 670 (by decide +kernel) rfl
theorem lkX4_46 : Cond.methodLink RX4 46 Lib.Math.max.name ∈ TB := tb_in 671 (by decide +kernel) rfl
theorem lkL_89 : Cond.methodLink RL 89 mX10_least.1 ∈ TB := tb_in 672 (by decide +kernel) rfl
theorem lkL_93 : Cond.methodLink RL 93 mX10_laws.1 ∈ TB := tb_in 676 (by decide +kernel) rfl
theorem lkX10_231 : Cond.methodLink RX10 231 mX4_mayBeBy.1 ∈ TB := tb_in 680 (by decide +kernel) rfl
theorem lkX4_49 : Cond.methodLink RX4 49 mX9_span.1 ∈ TB := tb_in 684 (by decide +kernel) rfl
theorem lkX4_55 : Cond.methodLink RX4 55 mX9_by.1 ∈ TB := tb_in 685 (by decide +kernel) rfl
theorem lkX4_59 : Cond.methodLink RX4 59 mX9_underLid.1 ∈ TB := tb_in 686 (by decide +kernel) rfl
theorem lkL_97 : Cond.methodLink RL 97 mX10_two.1 ∈ TB := tb_in 688 (by decide +kernel) rfl
theorem lkX10_235 : Cond.methodLink RX10 235 mX0_choose.1 ∈ TB := tb_in 692 (by decide +kernel) rfl
theorem lkX0_36 : Cond.methodLink RX0 36 mX2_sum.1 ∈ TB := tb_in 697 (by decide +kernel) rfl
theorem lkX0_40 : Cond.methodLink RX0 40 Lib.Math.abs.name ∈ TB := tb_in 698 (by decide +kernel) rfl
theorem lkX0_46 : Cond.methodLink RX0 46 mX0_offer.1 ∈ TB := tb_in 699 (by decide +kernel) rfl
theorem lkL_101 : Cond.methodLink RL 101 mX10_keep.1 ∈ TB := tb_in 703 (by decide +kernel) rfl
theorem lkX10_243 : Cond.methodLink RX10 243 mX1_hold.1 ∈ TB := tb_in 707 (by decide +kernel) rfl
theorem lkX1_25 : Cond.methodLink RX1 25 arraycopyName ∈ TB := tb_in 711 (by decide +kernel) rfl
theorem lkX1_31 : Cond.methodLink RX1 31 mX4_copy.1 ∈ TB := tb_in 714 (by decide +kernel) rfl
theorem lkX4_28 : Cond.methodLink RX4 28 arraycopyName ∈ TB := tb_in 718 (by decide +kernel) rfl
theorem lkL_105 : Cond.methodLink RL 105 mX10_back.1 ∈ TB := tb_in 719 (by decide +kernel) rfl
theorem lkX10_247 : Cond.methodLink RX10 247 mX1_giveBack.1 ∈ TB := tb_in 723 (by decide +kernel) rfl
theorem lkL_109 : Cond.methodLink RL 109 mX10_count.1 ∈ TB := tb_in 727 (by decide +kernel) rfl
theorem lkL_12 : Cond.methodLink RL 12 mX11_init.1 ∈ TB := tb_in 733 (by decide +kernel) rfl
theorem lkX11_1 : Cond.methodLink RX11 1 objectInit ∈ TB := tb_in 736 (by decide +kernel) rfl
theorem lkX11_73 : Cond.methodLink RX11 73 mX11_noRoom.1 ∈ TB := tb_in 737 (by decide +kernel) rfl
theorem lkL_19 : Cond.methodLink RL 19 mX11_write.1 ∈ TB := tb_in 844 (by decide +kernel) rfl
theorem lkX11_79 : Cond.methodLink RX11 79 mX11_in.1 ∈ TB := tb_in 849 (by decide +kernel) rfl
theorem lkL_24 : Cond.methodLink RL 24 mX11_wipe.1 ∈ TB := tb_in 853 (by decide +kernel) rfl
theorem lkL_28 : Cond.methodLink RL 28 mX11_fault.1 ∈ TB := tb_in 857 (by decide +kernel) rfl
theorem lkX11_120 : Cond.methodLink RX11 120 mX11_readAll.1 ∈ TB := tb_in 861 (by decide +kernel) rfl
theorem lkX11_116 : Cond.methodLink RX11 116 mX11_item.1 ∈ TB := tb_in 865 (by decide +kernel) rfl
theorem lkX11_92 : Cond.methodLink RX11 92 mX11_byteAt.1 ∈ TB := tb_in 869 (by decide +kernel) rfl
theorem lkX11_109 : Cond.methodLink RX11 109 mX11_personItem.1 ∈ TB := tb_in 873 (by decide +kernel) rfl
theorem lkX11_102 : Cond.methodLink RX11 102 mX11_figures.1 ∈ TB := tb_in 877 (by decide +kernel) rfl
theorem lkX11_106 : Cond.methodLink RX11 106 mX11_readMany.1 ∈ TB := tb_in 884 (by decide +kernel) rfl
theorem lkX11_112 : Cond.methodLink RX11 112 mX11_numberItem.1 ∈ TB := tb_in 888 (by decide +kernel) rfl
theorem lkL_32 : Cond.methodLink RL 32 mX11_lay.1 ∈ TB := tb_in 892 (by decide +kernel) rfl
theorem lkL_37 : Cond.methodLink RL 37 mX11_person.1 ∈ TB := tb_in 896 (by decide +kernel) rfl
theorem lkX11_127 : Cond.methodLink RX11 127 mX11_isPerson.1 ∈ TB := tb_in 900 (by decide +kernel) rfl
theorem lkL_41 : Cond.methodLink RL 41 mX11_law.1 ∈ TB := tb_in 905 (by decide +kernel) rfl
theorem lkL_46 : Cond.methodLink RL 46 mX11_lines.1 ∈ TB := tb_in 910 (by decide +kernel) rfl
theorem lkX11_148 : Cond.methodLink RX11 148 mX11_showTrue.1 ∈ TB := tb_in 915 (by decide +kernel) rfl
theorem lkX11_151 : Cond.methodLink RX11 151 mX11_layLines.1 ∈ TB := tb_in 919 (by decide +kernel) rfl
theorem lkX11_154 : Cond.methodLink RX11 154 mX11_quantity.1 ∈ TB := tb_in 923 (by decide +kernel) rfl
theorem lkX11_140 : Cond.methodLink RX11 140 mX11_worth.1 ∈ TB := tb_in 927 (by decide +kernel) rfl
theorem lkX11_143 : Cond.methodLink RX11 143 mX11_costs.1 ∈ TB := tb_in 931 (by decide +kernel) rfl
theorem lkX11_157 : Cond.methodLink RX11 157 mX11_gainOf.1 ∈ TB := tb_in 935 (by decide +kernel) rfl
theorem lkX11_160 : Cond.methodLink RX11 160 mX11_lowest.1 ∈ TB := tb_in 939 (by decide +kernel) rfl
theorem lkX11_164 : Cond.methodLink RX11 164 mX11_highest.1 ∈ TB := tb_in 943 (by decide +kernel) rfl
theorem lkL_50 : Cond.methodLink RL 50 mX11_served.1 ∈ TB := tb_in 947 (by decide +kernel) rfl
theorem lkL_55 : Cond.methodLink RL 55 mX11_pairs.1 ∈ TB := tb_in 951 (by decide +kernel) rfl
theorem lkX11_169 : Cond.methodLink RX11 169 mX11_manyOf.1 ∈ TB := tb_in 956 (by decide +kernel) rfl
theorem lkX11_172 : Cond.methodLink RX11 172 mX11_common.1 ∈ TB := tb_in 960 (by decide +kernel) rfl
theorem lkL_59 : Cond.methodLink RL 59 mX11_bell.1 ∈ TB := tb_in 963 (by decide +kernel) rfl
theorem lkX11_182 : Cond.methodLink RX11 182 mX11_bellOf.1 ∈ TB := tb_in 968 (by decide +kernel) rfl
theorem lkX11_176 : Cond.methodLink RX11 176 mX11_isFirst.1 ∈ TB := tb_in 972 (by decide +kernel) rfl
theorem lkL_63 : Cond.methodLink RL 63 mX11_best.1 ∈ TB := tb_in 976 (by decide +kernel) rfl
theorem lkL_68 : Cond.methodLink RL 68 mX11_round.1 ∈ TB := tb_in 980 (by decide +kernel) rfl
theorem lkX11_254 : Cond.methodLink RX11 254 mX11_isRound.1 ∈ TB := tb_in 984 (by decide +kernel) rfl
theorem lkX11_257 : Cond.methodLink RX11 257 mX11_goRound.1 ∈ TB := tb_in 988 (by decide +kernel) rfl
theorem lkX11_240 : Cond.methodLink RX11 240 mX11_goShouts.1 ∈ TB := tb_in 992 (by decide +kernel) rfl
theorem lkX11_199 : Cond.methodLink RX11 199 mX11_draw.1 ∈ TB := tb_in 996 (by decide +kernel) rfl
theorem lkX11_225 : Cond.methodLink RX11 225 mX11_shoutOf.1 ∈ TB := tb_in 1004 (by decide +kernel) rfl
theorem lkX11_202 : Cond.methodLink RX11 202 mX11_shoutBy.1 ∈ TB := tb_in 1008 (by decide +kernel) rfl
theorem lkX11_229 : Cond.methodLink RX11 229 mX11_note.1 ∈ TB := tb_in 1012 (by decide +kernel) rfl
theorem lkX11_233 : Cond.methodLink RX11 233 mX11_trade.1 ∈ TB := tb_in 1016 (by decide +kernel) rfl
theorem lkX11_243 : Cond.methodLink RX11 243 mX11_goPairs.1 ∈ TB := tb_in 1020 (by decide +kernel) rfl
theorem lkX11_237 : Cond.methodLink RX11 237 mX11_personOf.1 ∈ TB := tb_in 1024 (by decide +kernel) rfl
theorem lkX11_246 : Cond.methodLink RX11 246 mX11_goPosted.1 ∈ TB := tb_in 1028 (by decide +kernel) rfl
theorem lkX11_249 : Cond.methodLink RX11 249 mX11_goBell.1 ∈ TB := tb_in 1032 (by decide +kernel) rfl
theorem lkL_72 : Cond.methodLink RL 72 mX11_of.1 ∈ TB := tb_in 1036 (by decide +kernel) rfl
theorem lkL_76 : Cond.methodLink RL 76 mX11_means.1 ∈ TB := tb_in 1040 (by decide +kernel) rfl
theorem lkX11_261 : Cond.methodLink RX11 261 mX11_layMeans.1 ∈ TB := tb_in 1044 (by decide +kernel) rfl
theorem lkL_80 : Cond.methodLink RL 80 mX11_rules.1 ∈ TB := tb_in 1048 (by decide +kernel) rfl
theorem lkX11_265 : Cond.methodLink RX11 265 mX11_bestBy.1 ∈ TB := tb_in 1052 (by decide +kernel) rfl
theorem lkL_84 : Cond.methodLink RL 84 mX11_shout.1 ∈ TB := tb_in 1056 (by decide +kernel) rfl
theorem lkL_88 : Cond.methodLink RL 88 mX11_known.1 ∈ TB := tb_in 1060 (by decide +kernel) rfl
theorem lkX11_268 : Cond.methodLink RX11 268 mX11_knownOf.1 ∈ TB := tb_in 1064 (by decide +kernel) rfl
theorem lkL_92 : Cond.methodLink RL 92 mX11_least.1 ∈ TB := tb_in 1068 (by decide +kernel) rfl
theorem lkL_96 : Cond.methodLink RL 96 mX11_laws.1 ∈ TB := tb_in 1072 (by decide +kernel) rfl
theorem lkX11_271 : Cond.methodLink RX11 271 mX11_mayBe.1 ∈ TB := tb_in 1076 (by decide +kernel) rfl
theorem lkL_100 : Cond.methodLink RL 100 mX11_two.1 ∈ TB := tb_in 1080 (by decide +kernel) rfl
theorem lkX11_274 : Cond.methodLink RX11 274 mX11_layRooms.1 ∈ TB := tb_in 1084 (by decide +kernel) rfl
theorem lkX11_277 : Cond.methodLink RX11 277 mX11_carried.1 ∈ TB := tb_in 1088 (by decide +kernel) rfl
theorem lkL_104 : Cond.methodLink RL 104 mX11_keep.1 ∈ TB := tb_in 1092 (by decide +kernel) rfl
theorem lkX11_280 : Cond.methodLink RX11 280 mX11_copyLog.1 ∈ TB := tb_in 1096 (by decide +kernel) rfl
theorem lkL_108 : Cond.methodLink RL 108 mX11_back.1 ∈ TB := tb_in 1100 (by decide +kernel) rfl
theorem lkL_112 : Cond.methodLink RL 112 mX11_count.1 ∈ TB := tb_in 1104 (by decide +kernel) rfl
theorem lnX10_9 : Cond.methodLinkNest RX10 9 mX8_init.1 "ShoutedPrices" ∈ NB := nb_in 79 (by decide +kernel) rfl
theorem lnX10_18 : Cond.methodLinkNest RX10 18 mX5_init.1 "ShoutedPrices" ∈ NB := nb_in 96 (by decide +kernel) rfl
theorem lnX10_35 : Cond.methodLinkNest RX10 35 mX4_init.1 "ShoutedPrices" ∈ NB := nb_in 196 (by decide +kernel) rfl
theorem lnX10_52 : Cond.methodLinkNest RX10 52 mX3_init.1 "ShoutedPrices" ∈ NB := nb_in 226 (by decide +kernel) rfl
theorem lnX10_62 : Cond.methodLinkNest RX10 62 mX7_init.1 "ShoutedPrices" ∈ NB := nb_in 286 (by decide +kernel) rfl
theorem lnX7_20 : Cond.methodLinkNest RX7 20 mX3_init.1 "ShoutedPrices" ∈ NB := nb_in 291 (by decide +kernel) rfl
theorem lnX10_69 : Cond.methodLinkNest RX10 69 mX0_init.1 "ShoutedPrices" ∈ NB := nb_in 341 (by decide +kernel) rfl
theorem lnX10_79 : Cond.methodLinkNest RX10 79 mX1_init.1 "ShoutedPrices" ∈ NB := nb_in 357 (by decide +kernel) rfl
theorem lnX1_17 : Cond.methodLinkNest RX1 17 mX4_init.1 "ShoutedPrices" ∈ NB := nb_in 362 (by decide +kernel) rfl
theorem lnX6_56 : Cond.methodLinkNest RX6 56 mX10_within.1 "ShoutedPrices" ∈ NB := nb_in 374 (by decide +kernel) rfl
theorem lnX4_63 : Cond.methodLinkNest RX4 63 mX10_within.1 "ShoutedPrices" ∈ NB := nb_in 687 (by decide +kernel) rfl
theorem lnX0_30 : Cond.methodLinkNest RX0 30 mX10_within.1 "ShoutedPrices" ∈ NB := nb_in 696 (by decide +kernel) rfl
theorem lfX8_9 : Cond.fieldLink RX8 9 "ShoutedPrices$Text" "bytes" "[I" ∈ TB := tb_in 83 (by decide +kernel) rfl
theorem lfX5_36 : Cond.fieldLink RX5 36 "ShoutedPrices$Text" "bytes" "[I" ∈ TB := tb_in 84 (by decide +kernel) rfl
theorem lfX8_15 : Cond.fieldLink RX8 15 "ShoutedPrices$Text" "size" "I" ∈ TB := tb_in 85 (by decide +kernel) rfl
theorem lfX10_88 : Cond.fieldLink RX10 88 "ShoutedPrices$Text" "size" "I" ∈ TB := tb_in 86 (by decide +kernel) rfl
theorem lfX5_27 : Cond.fieldLink RX5 27 "ShoutedPrices$Text" "size" "I" ∈ TB := tb_in 87 (by decide +kernel) rfl
theorem lfX5_11 : Cond.fieldLink RX5 11 "ShoutedPrices$Reader" "number" "[I" ∈ TB := tb_in 100 (by decide +kernel) rfl
theorem lfX5_15 : Cond.fieldLink RX5 15 "ShoutedPrices$Reader" "numbers" "I" ∈ TB := tb_in 101 (by decide +kernel) rfl
theorem lfX5_19 : Cond.fieldLink RX5 19 "ShoutedPrices$Reader" "behind" "I" ∈ TB := tb_in 102 (by decide +kernel) rfl
theorem lfX6_9 : Cond.fieldLink RX6 9 "ShoutedPrices$Room" "sells" "[Z" ∈ TB := tb_in 120 (by decide +kernel) rfl
theorem lfX9_15 : Cond.fieldLink RX9 15 "ShoutedPrices$Room" "sells" "[Z" ∈ TB := tb_in 121 (by decide +kernel) rfl
theorem lfX3_27 : Cond.fieldLink RX3 27 "ShoutedPrices$Room" "sells" "[Z" ∈ TB := tb_in 122 (by decide +kernel) rfl
theorem lfX4_34 : Cond.fieldLink RX4 34 "ShoutedPrices$Room" "sells" "[Z" ∈ TB := tb_in 123 (by decide +kernel) rfl
theorem lfX10_113 : Cond.fieldLink RX10 113 "ShoutedPrices$Room" "sells" "[Z" ∈ TB := tb_in 124 (by decide +kernel) rfl
theorem lfX7_134 : Cond.fieldLink RX7 134 "ShoutedPrices$Room" "sells" "[Z" ∈ TB := tb_in 125 (by decide +kernel) rfl
theorem lfX6_15 : Cond.fieldLink RX6 15 "ShoutedPrices$Room" "card" "[I" ∈ TB := tb_in 126 (by decide +kernel) rfl
theorem lfX9_19 : Cond.fieldLink RX9 19 "ShoutedPrices$Room" "card" "[I" ∈ TB := tb_in 127 (by decide +kernel) rfl
theorem lfX3_43 : Cond.fieldLink RX3 43 "ShoutedPrices$Room" "card" "[I" ∈ TB := tb_in 128 (by decide +kernel) rfl
theorem lfX10_117 : Cond.fieldLink RX10 117 "ShoutedPrices$Room" "card" "[I" ∈ TB := tb_in 129 (by decide +kernel) rfl
theorem lfX7_100 : Cond.fieldLink RX7 100 "ShoutedPrices$Room" "card" "[I" ∈ TB := tb_in 130 (by decide +kernel) rfl
theorem lfX6_19 : Cond.fieldLink RX6 19 "ShoutedPrices$Room" "law" "[I" ∈ TB := tb_in 131 (by decide +kernel) rfl
theorem lfX1_22 : Cond.fieldLink RX1 22 "ShoutedPrices$Room" "law" "[I" ∈ TB := tb_in 132 (by decide +kernel) rfl
theorem lfX7_69 : Cond.fieldLink RX7 69 "ShoutedPrices$Room" "law" "[I" ∈ TB := tb_in 133 (by decide +kernel) rfl
theorem lfX10_121 : Cond.fieldLink RX10 121 "ShoutedPrices$Room" "law" "[I" ∈ TB := tb_in 134 (by decide +kernel) rfl
theorem lfX6_22 : Cond.fieldLink RX6 22 "ShoutedPrices$Room" "buyer" "[I" ∈ TB := tb_in 135 (by decide +kernel) rfl
theorem lfX7_158 : Cond.fieldLink RX7 158 "ShoutedPrices$Room" "buyer" "[I" ∈ TB := tb_in 136 (by decide +kernel) rfl
theorem lfX10_253 : Cond.fieldLink RX10 253 "ShoutedPrices$Room" "buyer" "[I" ∈ TB := tb_in 137 (by decide +kernel) rfl
theorem lfX6_25 : Cond.fieldLink RX6 25 "ShoutedPrices$Room" "seller" "[I" ∈ TB := tb_in 138 (by decide +kernel) rfl
theorem lfX7_164 : Cond.fieldLink RX7 164 "ShoutedPrices$Room" "seller" "[I" ∈ TB := tb_in 139 (by decide +kernel) rfl
theorem lfX10_256 : Cond.fieldLink RX10 256 "ShoutedPrices$Room" "seller" "[I" ∈ TB := tb_in 140 (by decide +kernel) rfl
theorem lfX6_31 : Cond.fieldLink RX6 31 "ShoutedPrices$Room" "people" "I" ∈ TB := tb_in 141 (by decide +kernel) rfl
theorem lfX3_40 : Cond.fieldLink RX3 40 "ShoutedPrices$Room" "people" "I" ∈ TB := tb_in 142 (by decide +kernel) rfl
theorem lfX10_106 : Cond.fieldLink RX10 106 "ShoutedPrices$Room" "people" "I" ∈ TB := tb_in 143 (by decide +kernel) rfl
theorem lfX7_120 : Cond.fieldLink RX7 120 "ShoutedPrices$Room" "people" "I" ∈ TB := tb_in 144 (by decide +kernel) rfl
theorem lfX6_35 : Cond.fieldLink RX6 35 "ShoutedPrices$Room" "buyers" "I" ∈ TB := tb_in 145 (by decide +kernel) rfl
theorem lfX10_99 : Cond.fieldLink RX10 99 "ShoutedPrices$Room" "buyers" "I" ∈ TB := tb_in 146 (by decide +kernel) rfl
theorem lfX7_161 : Cond.fieldLink RX7 161 "ShoutedPrices$Room" "buyers" "I" ∈ TB := tb_in 147 (by decide +kernel) rfl
theorem lfX6_38 : Cond.fieldLink RX6 38 "ShoutedPrices$Room" "sellers" "I" ∈ TB := tb_in 148 (by decide +kernel) rfl
theorem lfX10_102 : Cond.fieldLink RX10 102 "ShoutedPrices$Room" "sellers" "I" ∈ TB := tb_in 149 (by decide +kernel) rfl
theorem lfX7_167 : Cond.fieldLink RX7 167 "ShoutedPrices$Room" "sellers" "I" ∈ TB := tb_in 150 (by decide +kernel) rfl
theorem lfX6_41 : Cond.fieldLink RX6 41 "ShoutedPrices$Room" "steps" "I" ∈ TB := tb_in 151 (by decide +kernel) rfl
theorem lfX9_23 : Cond.fieldLink RX9 23 "ShoutedPrices$Room" "steps" "I" ∈ TB := tb_in 152 (by decide +kernel) rfl
theorem lfX7_114 : Cond.fieldLink RX7 114 "ShoutedPrices$Room" "steps" "I" ∈ TB := tb_in 153 (by decide +kernel) rfl
theorem lfX10_250 : Cond.fieldLink RX10 250 "ShoutedPrices$Room" "steps" "I" ∈ TB := tb_in 154 (by decide +kernel) rfl
theorem lfX6_44 : Cond.fieldLink RX6 44 "ShoutedPrices$Room" "tax" "I" ∈ TB := tb_in 155 (by decide +kernel) rfl
theorem lfX9_50 : Cond.fieldLink RX9 50 "ShoutedPrices$Room" "tax" "I" ∈ TB := tb_in 156 (by decide +kernel) rfl
theorem lfX10_124 : Cond.fieldLink RX10 124 "ShoutedPrices$Room" "tax" "I" ∈ TB := tb_in 157 (by decide +kernel) rfl
theorem lfX7_148 : Cond.fieldLink RX7 148 "ShoutedPrices$Room" "tax" "I" ∈ TB := tb_in 158 (by decide +kernel) rfl
theorem lfX6_47 : Cond.fieldLink RX6 47 "ShoutedPrices$Room" "lid" "I" ∈ TB := tb_in 159 (by decide +kernel) rfl
theorem lfX9_47 : Cond.fieldLink RX9 47 "ShoutedPrices$Room" "lid" "I" ∈ TB := tb_in 160 (by decide +kernel) rfl
theorem lfX10_143 : Cond.fieldLink RX10 143 "ShoutedPrices$Room" "lid" "I" ∈ TB := tb_in 161 (by decide +kernel) rfl
theorem lfX9_9 : Cond.fieldLink RX9 9 "ShoutedPrices$Room" "near" "I" ∈ TB := tb_in 162 (by decide +kernel) rfl
theorem lfX6_50 : Cond.fieldLink RX6 50 "ShoutedPrices$Room" "near" "I" ∈ TB := tb_in 163 (by decide +kernel) rfl
theorem lfX6_53 : Cond.fieldLink RX6 53 "ShoutedPrices$Room" "hold" "I" ∈ TB := tb_in 164 (by decide +kernel) rfl
theorem lfX9_35 : Cond.fieldLink RX9 35 "ShoutedPrices$Room" "hold" "I" ∈ TB := tb_in 165 (by decide +kernel) rfl
theorem lfX4_9 : Cond.fieldLink RX4 9 "ShoutedPrices$Log" "person" "[I" ∈ TB := tb_in 200 (by decide +kernel) rfl
theorem lfX10_207 : Cond.fieldLink RX10 207 "ShoutedPrices$Log" "person" "[I" ∈ TB := tb_in 201 (by decide +kernel) rfl
theorem lfX4_15 : Cond.fieldLink RX4 15 "ShoutedPrices$Log" "price" "[I" ∈ TB := tb_in 202 (by decide +kernel) rfl
theorem lfX10_210 : Cond.fieldLink RX10 210 "ShoutedPrices$Log" "price" "[I" ∈ TB := tb_in 203 (by decide +kernel) rfl
theorem lfX4_18 : Cond.fieldLink RX4 18 "ShoutedPrices$Log" "step" "[I" ∈ TB := tb_in 204 (by decide +kernel) rfl
theorem lfX10_211 : Cond.fieldLink RX10 211 "ShoutedPrices$Log" "step" "[I" ∈ TB := tb_in 205 (by decide +kernel) rfl
theorem lfX4_21 : Cond.fieldLink RX4 21 "ShoutedPrices$Log" "last" "[I" ∈ TB := tb_in 206 (by decide +kernel) rfl
theorem lfX10_214 : Cond.fieldLink RX10 214 "ShoutedPrices$Log" "last" "[I" ∈ TB := tb_in 207 (by decide +kernel) rfl
theorem lfX4_24 : Cond.fieldLink RX4 24 "ShoutedPrices$Log" "size" "I" ∈ TB := tb_in 208 (by decide +kernel) rfl
theorem lfX10_105 : Cond.fieldLink RX10 105 "ShoutedPrices$Log" "size" "I" ∈ TB := tb_in 209 (by decide +kernel) rfl
theorem lfX7_103 : Cond.fieldLink RX7 103 "ShoutedPrices$Log" "size" "I" ∈ TB := tb_in 210 (by decide +kernel) rfl
theorem lfX2_22 : Cond.fieldLink RX2 22 "ShoutedPrices$Line" "rising" "Z" ∈ TB := tb_in 236 (by decide +kernel) rfl
theorem lfX2_9 : Cond.fieldLink RX2 9 "ShoutedPrices$Line" "whose" "[I" ∈ TB := tb_in 237 (by decide +kernel) rfl
theorem lfX7_191 : Cond.fieldLink RX7 191 "ShoutedPrices$Line" "whose" "[I" ∈ TB := tb_in 238 (by decide +kernel) rfl
theorem lfX2_15 : Cond.fieldLink RX2 15 "ShoutedPrices$Line" "card" "[I" ∈ TB := tb_in 239 (by decide +kernel) rfl
theorem lfX3_64 : Cond.fieldLink RX3 64 "ShoutedPrices$Line" "card" "[I" ∈ TB := tb_in 240 (by decide +kernel) rfl
theorem lfX2_18 : Cond.fieldLink RX2 18 "ShoutedPrices$Line" "size" "I" ∈ TB := tb_in 241 (by decide +kernel) rfl
theorem lfX3_23 : Cond.fieldLink RX3 23 "ShoutedPrices$Line" "size" "I" ∈ TB := tb_in 242 (by decide +kernel) rfl
theorem lfX0_22 : Cond.fieldLink RX0 22 "ShoutedPrices$Line" "size" "I" ∈ TB := tb_in 243 (by decide +kernel) rfl
theorem lfX3_14 : Cond.fieldLink RX3 14 "ShoutedPrices$Lines" "buyers" "LShoutedPrices$Line;" ∈ TB := tb_in 253 (by decide +kernel) rfl
theorem lfX0_16 : Cond.fieldLink RX0 16 "ShoutedPrices$Lines" "buyers" "LShoutedPrices$Line;" ∈ TB := tb_in 254 (by decide +kernel) rfl
theorem lfX10_146 : Cond.fieldLink RX10 146 "ShoutedPrices$Lines" "buyers" "LShoutedPrices$Line;" ∈ TB := tb_in 255 (by decide +kernel) rfl
theorem lfX7_188 : Cond.fieldLink RX7 188 "ShoutedPrices$Lines" "buyers" "LShoutedPrices$Line;" ∈ TB := tb_in 256 (by decide +kernel) rfl
theorem lfX3_20 : Cond.fieldLink RX3 20 "ShoutedPrices$Lines" "sellers" "LShoutedPrices$Line;" ∈ TB := tb_in 257 (by decide +kernel) rfl
theorem lfX0_27 : Cond.fieldLink RX0 27 "ShoutedPrices$Lines" "sellers" "LShoutedPrices$Line;" ∈ TB := tb_in 258 (by decide +kernel) rfl
theorem lfX10_155 : Cond.fieldLink RX10 155 "ShoutedPrices$Lines" "sellers" "LShoutedPrices$Line;" ∈ TB := tb_in 259 (by decide +kernel) rfl
theorem lfX7_196 : Cond.fieldLink RX7 196 "ShoutedPrices$Lines" "sellers" "LShoutedPrices$Line;" ∈ TB := tb_in 260 (by decide +kernel) rfl
theorem lfX3_61 : Cond.fieldLink RX3 61 "ShoutedPrices$Lines" "quantity" "I" ∈ TB := tb_in 261 (by decide +kernel) rfl
theorem lfX10_131 : Cond.fieldLink RX10 131 "ShoutedPrices$Lines" "quantity" "I" ∈ TB := tb_in 262 (by decide +kernel) rfl
theorem lfX7_185 : Cond.fieldLink RX7 185 "ShoutedPrices$Lines" "quantity" "I" ∈ TB := tb_in 263 (by decide +kernel) rfl
theorem lfX3_68 : Cond.fieldLink RX3 68 "ShoutedPrices$Lines" "most" "I" ∈ TB := tb_in 264 (by decide +kernel) rfl
theorem lfX10_134 : Cond.fieldLink RX10 134 "ShoutedPrices$Lines" "most" "I" ∈ TB := tb_in 265 (by decide +kernel) rfl
theorem lfX3_71 : Cond.fieldLink RX3 71 "ShoutedPrices$Lines" "lowest" "I" ∈ TB := tb_in 266 (by decide +kernel) rfl
theorem lfX10_137 : Cond.fieldLink RX10 137 "ShoutedPrices$Lines" "lowest" "I" ∈ TB := tb_in 267 (by decide +kernel) rfl
theorem lfX7_198 : Cond.fieldLink RX7 198 "ShoutedPrices$Lines" "lowest" "I" ∈ TB := tb_in 268 (by decide +kernel) rfl
theorem lfX3_74 : Cond.fieldLink RX3 74 "ShoutedPrices$Lines" "highest" "I" ∈ TB := tb_in 269 (by decide +kernel) rfl
theorem lfX10_140 : Cond.fieldLink RX10 140 "ShoutedPrices$Lines" "highest" "I" ∈ TB := tb_in 270 (by decide +kernel) rfl
theorem lfX7_9 : Cond.fieldLink RX7 9 "ShoutedPrices$Round" "price" "[I" ∈ TB := tb_in 292 (by decide +kernel) rfl
theorem lfX10_197 : Cond.fieldLink RX10 197 "ShoutedPrices$Round" "price" "[I" ∈ TB := tb_in 293 (by decide +kernel) rfl
theorem lfX7_15 : Cond.fieldLink RX7 15 "ShoutedPrices$Round" "posted" "[I" ∈ TB := tb_in 294 (by decide +kernel) rfl
theorem lfX7_21 : Cond.fieldLink RX7 21 "ShoutedPrices$Round" "told" "LShoutedPrices$Lines;" ∈ TB := tb_in 295 (by decide +kernel) rfl
theorem lfX7_25 : Cond.fieldLink RX7 25 "ShoutedPrices$Round" "z" "I" ∈ TB := tb_in 296 (by decide +kernel) rfl
theorem lfX7_29 : Cond.fieldLink RX7 29 "ShoutedPrices$Round" "last" "I" ∈ TB := tb_in 297 (by decide +kernel) rfl
theorem lfX7_32 : Cond.fieldLink RX7 32 "ShoutedPrices$Round" "lowest" "I" ∈ TB := tb_in 298 (by decide +kernel) rfl
theorem lfX7_35 : Cond.fieldLink RX7 35 "ShoutedPrices$Round" "highest" "I" ∈ TB := tb_in 299 (by decide +kernel) rfl
theorem lfX7_38 : Cond.fieldLink RX7 38 "ShoutedPrices$Round" "traded" "I" ∈ TB := tb_in 300 (by decide +kernel) rfl
theorem lfX10_185 : Cond.fieldLink RX10 185 "ShoutedPrices$Round" "traded" "I" ∈ TB := tb_in 301 (by decide +kernel) rfl
theorem lfX7_41 : Cond.fieldLink RX7 41 "ShoutedPrices$Round" "gain" "I" ∈ TB := tb_in 302 (by decide +kernel) rfl
theorem lfX10_188 : Cond.fieldLink RX10 188 "ShoutedPrices$Round" "gain" "I" ∈ TB := tb_in 303 (by decide +kernel) rfl
theorem lfX7_44 : Cond.fieldLink RX7 44 "ShoutedPrices$Round" "soon" "I" ∈ TB := tb_in 304 (by decide +kernel) rfl
theorem lfX10_191 : Cond.fieldLink RX10 191 "ShoutedPrices$Round" "soon" "I" ∈ TB := tb_in 305 (by decide +kernel) rfl
theorem lfX7_108 : Cond.fieldLink RX7 108 "ShoutedPrices$Round" "bidder" "I" ∈ TB := tb_in 306 (by decide +kernel) rfl
theorem lfX7_111 : Cond.fieldLink RX7 111 "ShoutedPrices$Round" "asker" "I" ∈ TB := tb_in 307 (by decide +kernel) rfl
theorem lfX7_155 : Cond.fieldLink RX7 155 "ShoutedPrices$Round" "bid" "I" ∈ TB := tb_in 308 (by decide +kernel) rfl
theorem lfX7_145 : Cond.fieldLink RX7 145 "ShoutedPrices$Round" "offer" "I" ∈ TB := tb_in 309 (by decide +kernel) rfl
theorem lfX0_7 : Cond.fieldLink RX0 7 "ShoutedPrices$Carriers" "gain" "I" ∈ TB := tb_in 345 (by decide +kernel) rfl
theorem lfX10_239 : Cond.fieldLink RX10 239 "ShoutedPrices$Carriers" "gain" "I" ∈ TB := tb_in 346 (by decide +kernel) rfl
theorem lfX0_13 : Cond.fieldLink RX0 13 "ShoutedPrices$Carriers" "carried" "I" ∈ TB := tb_in 347 (by decide +kernel) rfl
theorem lfX10_240 : Cond.fieldLink RX10 240 "ShoutedPrices$Carriers" "carried" "I" ∈ TB := tb_in 348 (by decide +kernel) rfl
theorem lfX1_9 : Cond.fieldLink RX1 9 "ShoutedPrices$Kept" "law" "[I" ∈ TB := tb_in 363 (by decide +kernel) rfl
theorem lfX1_18 : Cond.fieldLink RX1 18 "ShoutedPrices$Kept" "log" "LShoutedPrices$Log;" ∈ TB := tb_in 364 (by decide +kernel) rfl
theorem lfX10_10 : Cond.fieldLink RX10 10 "ShoutedPrices" "text" "LShoutedPrices$Text;" ∈ TB := tb_in 377 (by decide +kernel) rfl
theorem lfX10_19 : Cond.fieldLink RX10 19 "ShoutedPrices" "reader" "LShoutedPrices$Reader;" ∈ TB := tb_in 378 (by decide +kernel) rfl
theorem lfX10_26 : Cond.fieldLink RX10 26 "ShoutedPrices" "room" "LShoutedPrices$Room;" ∈ TB := tb_in 379 (by decide +kernel) rfl
theorem lfX10_30 : Cond.fieldLink RX10 30 "ShoutedPrices" "spare" "LShoutedPrices$Room;" ∈ TB := tb_in 380 (by decide +kernel) rfl
theorem lfX10_36 : Cond.fieldLink RX10 36 "ShoutedPrices" "log" "LShoutedPrices$Log;" ∈ TB := tb_in 381 (by decide +kernel) rfl
theorem lfX10_42 : Cond.fieldLink RX10 42 "ShoutedPrices" "kept" "[LShoutedPrices$Kept;" ∈ TB := tb_in 382 (by decide +kernel) rfl
theorem lfX10_46 : Cond.fieldLink RX10 46 "ShoutedPrices" "keptSize" "I" ∈ TB := tb_in 383 (by decide +kernel) rfl
theorem lfX10_53 : Cond.fieldLink RX10 53 "ShoutedPrices" "lines" "LShoutedPrices$Lines;" ∈ TB := tb_in 384 (by decide +kernel) rfl
theorem lfX10_57 : Cond.fieldLink RX10 57 "ShoutedPrices" "others" "LShoutedPrices$Lines;" ∈ TB := tb_in 385 (by decide +kernel) rfl
theorem lfX10_63 : Cond.fieldLink RX10 63 "ShoutedPrices" "round" "LShoutedPrices$Round;" ∈ TB := tb_in 386 (by decide +kernel) rfl
theorem lfX10_70 : Cond.fieldLink RX10 70 "ShoutedPrices" "carriers" "LShoutedPrices$Carriers;" ∈ TB := tb_in 387 (by decide +kernel) rfl
theorem lfX10_76 : Cond.fieldLink RX10 76 "ShoutedPrices" "sums" "[[I" ∈ TB := tb_in 388 (by decide +kernel) rfl
theorem lfX11_83 : Cond.fieldLink RX11 83 "ShoutedPricesModel" "length" "I" ∈ TB := tb_in 741 (by decide +kernel) rfl
theorem lfX11_7 : Cond.fieldLink RX11 7 "ShoutedPricesModel" "text" "[I" ∈ TB := tb_in 742 (by decide +kernel) rfl
theorem lfX11_13 : Cond.fieldLink RX11 13 "ShoutedPricesModel" "many" "[I" ∈ TB := tb_in 743 (by decide +kernel) rfl
theorem lfX11_16 : Cond.fieldLink RX11 16 "ShoutedPricesModel" "sides" "[I" ∈ TB := tb_in 744 (by decide +kernel) rfl
theorem lfX11_19 : Cond.fieldLink RX11 19 "ShoutedPricesModel" "cards" "[I" ∈ TB := tb_in 745 (by decide +kernel) rfl
theorem lfX11_22 : Cond.fieldLink RX11 22 "ShoutedPricesModel" "laws" "[I" ∈ TB := tb_in 746 (by decide +kernel) rfl
theorem lfX11_25 : Cond.fieldLink RX11 25 "ShoutedPricesModel" "numbers" "[I" ∈ TB := tb_in 747 (by decide +kernel) rfl
theorem lfX11_28 : Cond.fieldLink RX11 28 "ShoutedPricesModel" "logMany" "[I" ∈ TB := tb_in 748 (by decide +kernel) rfl
theorem lfX11_31 : Cond.fieldLink RX11 31 "ShoutedPricesModel" "logPerson" "[I" ∈ TB := tb_in 749 (by decide +kernel) rfl
theorem lfX11_34 : Cond.fieldLink RX11 34 "ShoutedPricesModel" "logPrice" "[I" ∈ TB := tb_in 750 (by decide +kernel) rfl
theorem lfX11_37 : Cond.fieldLink RX11 37 "ShoutedPricesModel" "logStep" "[I" ∈ TB := tb_in 751 (by decide +kernel) rfl
theorem lfX11_40 : Cond.fieldLink RX11 40 "ShoutedPricesModel" "logLast" "[I" ∈ TB := tb_in 752 (by decide +kernel) rfl
theorem lfX11_43 : Cond.fieldLink RX11 43 "ShoutedPricesModel" "keptLaws" "[I" ∈ TB := tb_in 753 (by decide +kernel) rfl
theorem lfX11_124 : Cond.fieldLink RX11 124 "ShoutedPricesModel" "keptMany" "I" ∈ TB := tb_in 754 (by decide +kernel) rfl
theorem lfX11_89 : Cond.fieldLink RX11 89 "ShoutedPricesModel" "place" "I" ∈ TB := tb_in 755 (by decide +kernel) rfl
theorem lfX11_46 : Cond.fieldLink RX11 46 "ShoutedPricesModel" "told" "[I" ∈ TB := tb_in 756 (by decide +kernel) rfl
theorem lfX11_49 : Cond.fieldLink RX11 49 "ShoutedPricesModel" "shown" "[I" ∈ TB := tb_in 757 (by decide +kernel) rfl
theorem lfX11_52 : Cond.fieldLink RX11 52 "ShoutedPricesModel" "buyers" "[I" ∈ TB := tb_in 758 (by decide +kernel) rfl
theorem lfX11_55 : Cond.fieldLink RX11 55 "ShoutedPricesModel" "sellers" "[I" ∈ TB := tb_in 759 (by decide +kernel) rfl
theorem lfX11_134 : Cond.fieldLink RX11 134 "ShoutedPricesModel" "buyerMany" "I" ∈ TB := tb_in 760 (by decide +kernel) rfl
theorem lfX11_137 : Cond.fieldLink RX11 137 "ShoutedPricesModel" "sellerMany" "I" ∈ TB := tb_in 761 (by decide +kernel) rfl
theorem lfX11_187 : Cond.fieldLink RX11 187 "ShoutedPricesModel" "seed" "I" ∈ TB := tb_in 762 (by decide +kernel) rfl
theorem lfX11_196 : Cond.fieldLink RX11 196 "ShoutedPricesModel" "last" "I" ∈ TB := tb_in 763 (by decide +kernel) rfl
theorem lfX11_58 : Cond.fieldLink RX11 58 "ShoutedPricesModel" "paid" "[I" ∈ TB := tb_in 764 (by decide +kernel) rfl
theorem lfX11_209 : Cond.fieldLink RX11 209 "ShoutedPricesModel" "traded" "I" ∈ TB := tb_in 765 (by decide +kernel) rfl
theorem lfX11_206 : Cond.fieldLink RX11 206 "ShoutedPricesModel" "gain" "I" ∈ TB := tb_in 766 (by decide +kernel) rfl
theorem lfX11_218 : Cond.fieldLink RX11 218 "ShoutedPricesModel" "soon" "I" ∈ TB := tb_in 767 (by decide +kernel) rfl
theorem lfX11_212 : Cond.fieldLink RX11 212 "ShoutedPricesModel" "low" "I" ∈ TB := tb_in 768 (by decide +kernel) rfl
theorem lfX11_215 : Cond.fieldLink RX11 215 "ShoutedPricesModel" "high" "I" ∈ TB := tb_in 769 (by decide +kernel) rfl
theorem lfX11_221 : Cond.fieldLink RX11 221 "ShoutedPricesModel" "logs" "Z" ∈ TB := tb_in 770 (by decide +kernel) rfl
theorem lfX11_61 : Cond.fieldLink RX11 61 "ShoutedPricesModel" "posted" "[I" ∈ TB := tb_in 771 (by decide +kernel) rfl
theorem lfX11_64 : Cond.fieldLink RX11 64 "ShoutedPricesModel" "sums" "[I" ∈ TB := tb_in 772 (by decide +kernel) rfl
theorem lfX11_67 : Cond.fieldLink RX11 67 "ShoutedPricesModel" "room" "[I" ∈ TB := tb_in 773 (by decide +kernel) rfl
theorem lfX11_70 : Cond.fieldLink RX11 70 "ShoutedPricesModel" "roomMany" "[I" ∈ TB := tb_in 774 (by decide +kernel) rfl
theorem lcX10_166 : Cond.constantLong RX10 166 (-1 : Int64) ∈ TB := tb_in 518 (by decide +kernel) rfl
theorem lcX7_61 : Cond.constantLong RX7 61 (7919 : Int64) ∈ TB := tb_in 566 (by decide +kernel) rfl
theorem lcX7_63 : Cond.constantLong RX7 63 (6151 : Int64) ∈ TB := tb_in 567 (by decide +kernel) rfl
theorem lcX7_65 : Cond.constantLong RX7 65 (3571 : Int64) ∈ TB := tb_in 568 (by decide +kernel) rfl
theorem lcX7_67 : Cond.constantLong RX7 67 (65521 : Int64) ∈ TB := tb_in 569 (by decide +kernel) rfl
theorem lcX11_77 : Cond.constantLong RX11 77 (8 : Int64) ∈ TB := tb_in 848 (by decide +kernel) rfl
theorem lcX11_87 : Cond.constantLong RX11 87 (255 : Int64) ∈ TB := tb_in 852 (by decide +kernel) rfl
theorem lcX11_96 : Cond.constantLong RX11 96 (48 : Int64) ∈ TB := tb_in 881 (by decide +kernel) rfl
theorem lcX11_98 : Cond.constantLong RX11 98 (57 : Int64) ∈ TB := tb_in 882 (by decide +kernel) rfl
theorem lcX11_100 : Cond.constantLong RX11 100 (3 : Int64) ∈ TB := tb_in 883 (by decide +kernel) rfl
theorem lcX11_130 : Cond.constantLong RX11 130 (2 : Int64) ∈ TB := tb_in 904 (by decide +kernel) rfl
theorem lcX11_132 : Cond.constantLong RX11 132 (5 : Int64) ∈ TB := tb_in 909 (by decide +kernel) rfl
theorem lcX11_146 : Cond.constantLong RX11 146 (4 : Int64) ∈ TB := tb_in 914 (by decide +kernel) rfl
theorem lcX11_167 : Cond.constantLong RX11 167 (-1 : Int64) ∈ TB := tb_in 955 (by decide +kernel) rfl
theorem lcX11_180 : Cond.constantLong RX11 180 (99 : Int64) ∈ TB := tb_in 967 (by decide +kernel) rfl
theorem lcX11_252 : Cond.constantLong RX11 252 (9999 : Int64) ∈ TB := tb_in 987 (by decide +kernel) rfl
theorem lcX11_185 : Cond.constantLong RX11 185 (7919 : Int64) ∈ TB := tb_in 1000 (by decide +kernel) rfl
theorem lcX11_190 : Cond.constantLong RX11 190 (6151 : Int64) ∈ TB := tb_in 1001 (by decide +kernel) rfl
theorem lcX11_192 : Cond.constantLong RX11 192 (3571 : Int64) ∈ TB := tb_in 1002 (by decide +kernel) rfl
theorem lcX11_194 : Cond.constantLong RX11 194 (65521 : Int64) ∈ TB := tb_in 1003 (by decide +kernel) rfl
theorem lcL_13 : Cond.constantLong RL 13 (4294967295 : Int64) ∈ TB := tb_in 1108 (by decide +kernel) rfl
theorem llL_7 : Cond.classLink RL 7 "ShoutedPrices" ∈ TB := tb_in 69 (by decide +kernel) rfl
theorem llX10_7 : Cond.classLink RX10 7 "ShoutedPrices$Text" ∈ TB := tb_in 77 (by decide +kernel) rfl
theorem llX10_16 : Cond.classLink RX10 16 "ShoutedPrices$Reader" ∈ TB := tb_in 94 (by decide +kernel) rfl
theorem llX10_23 : Cond.classLink RX10 23 "ShoutedPrices$Room" ∈ TB := tb_in 110 (by decide +kernel) rfl
theorem llX10_33 : Cond.classLink RX10 33 "ShoutedPrices$Log" ∈ TB := tb_in 194 (by decide +kernel) rfl
theorem llX10_40 : Cond.classLink RX10 40 "ShoutedPrices$Kept" ∈ TB := tb_in 222 (by decide +kernel) rfl
theorem llX10_50 : Cond.classLink RX10 50 "ShoutedPrices$Lines" ∈ TB := tb_in 224 (by decide +kernel) rfl
theorem llX3_9 : Cond.classLink RX3 9 "ShoutedPrices$Line" ∈ TB := tb_in 230 (by decide +kernel) rfl
theorem llX10_60 : Cond.classLink RX10 60 "ShoutedPrices$Round" ∈ TB := tb_in 284 (by decide +kernel) rfl
theorem llX7_18 : Cond.classLink RX7 18 "ShoutedPrices$Lines" ∈ TB := tb_in 290 (by decide +kernel) rfl
theorem llX10_67 : Cond.classLink RX10 67 "ShoutedPrices$Carriers" ∈ TB := tb_in 339 (by decide +kernel) rfl
theorem llX10_74 : Cond.classLink RX10 74 "[[I" ∈ TB := tb_in 354 (by decide +kernel) rfl
theorem llX1_15 : Cond.classLink RX1 15 "ShoutedPrices$Log" ∈ TB := tb_in 361 (by decide +kernel) rfl
theorem llL_10 : Cond.classLink RL 10 "ShoutedPricesModel" ∈ TB := tb_in 731 (by decide +kernel) rfl
theorem iaX10 : Cond.instantiable RX10 12 ∈ TB := tb_in 70 (by decide +kernel) rfl
theorem iaX8 : Cond.instantiable RX8 2 ∈ TB := tb_in 78 (by decide +kernel) rfl
theorem iaX5 : Cond.instantiable RX5 3 ∈ TB := tb_in 95 (by decide +kernel) rfl
theorem iaX6 : Cond.instantiable RX6 13 ∈ TB := tb_in 111 (by decide +kernel) rfl
theorem iaX4 : Cond.instantiable RX4 5 ∈ TB := tb_in 195 (by decide +kernel) rfl
theorem iaX3 : Cond.instantiable RX3 6 ∈ TB := tb_in 225 (by decide +kernel) rfl
theorem iaX2 : Cond.instantiable RX2 4 ∈ TB := tb_in 231 (by decide +kernel) rfl
theorem iaX7 : Cond.instantiable RX7 14 ∈ TB := tb_in 285 (by decide +kernel) rfl
theorem iaX0 : Cond.instantiable RX0 2 ∈ TB := tb_in 340 (by decide +kernel) rfl
theorem iaX1 : Cond.instantiable RX1 2 ∈ TB := tb_in 356 (by decide +kernel) rfl
theorem iaX11 : Cond.instantiable RX11 34 ∈ TB := tb_in 732 (by decide +kernel) rfl
theorem iiX10 : Cond.initialized RX10 ∈ TB := tb_in 55 (by decide +kernel) rfl
theorem iiX8 : Cond.initialized RX8 ∈ TB := tb_in 56 (by decide +kernel) rfl
theorem iiX5 : Cond.initialized RX5 ∈ TB := tb_in 57 (by decide +kernel) rfl
theorem iiX6 : Cond.initialized RX6 ∈ TB := tb_in 58 (by decide +kernel) rfl
theorem iiX4 : Cond.initialized RX4 ∈ TB := tb_in 59 (by decide +kernel) rfl
theorem iiX3 : Cond.initialized RX3 ∈ TB := tb_in 60 (by decide +kernel) rfl
theorem iiX2 : Cond.initialized RX2 ∈ TB := tb_in 61 (by decide +kernel) rfl
theorem iiX7 : Cond.initialized RX7 ∈ TB := tb_in 62 (by decide +kernel) rfl
theorem iiX0 : Cond.initialized RX0 ∈ TB := tb_in 63 (by decide +kernel) rfl
theorem iiX1 : Cond.initialized RX1 ∈ TB := tb_in 64 (by decide +kernel) rfl
theorem iiX11 : Cond.initialized RX11 ∈ TB := tb_in 65 (by decide +kernel) rfl
theorem iiX9 : Cond.initialized RX9 ∈ TB := tb_in 67 (by decide +kernel) rfl
theorem iiMath : Cond.initialized "java/lang/Math" ∈ TB := tb_in 66 (by decide +kernel) rfl
theorem iiSystem : Cond.initialized "java/lang/System" ∈ TB := tb_in 68 (by decide +kernel) rfl
theorem mc_max : Cond.code Lib.Math.max.name Lib.Math.max.code 2 (some .int) ∈ TB := tb_in 498 (by decide +kernel) rfl
theorem ms_max : Cond.static Lib.Math.max.name ∈ TB := tb_in 497 (by decide +kernel) rfl
theorem mc_min : Cond.code Lib.Math.min.name Lib.Math.min.code 2 (some .int) ∈ TB := tb_in 491 (by decide +kernel) rfl
theorem ms_min : Cond.static Lib.Math.min.name ∈ TB := tb_in 490 (by decide +kernel) rfl
theorem mc_abs : Cond.code Lib.Math.abs.name Lib.Math.abs.code 1 (some .int) ∈ TB := tb_in 549 (by decide +kernel) rfl
theorem ms_abs : Cond.static Lib.Math.abs.name ∈ TB := tb_in 548 (by decide +kernel) rfl
theorem oi_code : Cond.code objectInit ⟨#[0xb1]⟩ 1 none ∈ TB := tb_in 76 (by decide +kernel) rfl
theorem oi_inst : Cond.instanceMethod objectInit ∈ TB := tb_in 75 (by decide +kernel) rfl
theorem ac_nat : Cond.native arraycopyName ∈ TB := tb_in 713 (by decide +kernel) rfl
theorem ac_st : Cond.static arraycopyName ∈ TB := tb_in 712 (by decide +kernel) rfl
theorem ay_int : Cond.arrayClass (newarray.typeOf .int) ∈ TB := tb_in 93 (by decide +kernel) rfl
theorem ay_boolean : Cond.arrayClass (newarray.typeOf .boolean) ∈ TB := tb_in 193 (by decide +kernel) rfl
theorem ao_K : Cond.arrayOver (.object RX1) ∈ lw_tbl := List.mem_of_getElem? (i := 223) (by decide +kernel)
theorem ao_I : Cond.arrayOver (.array .int) ∈ lw_tbl := List.mem_of_getElem? (i := 355) (by decide +kernel)
end
section
theorem dX0_init_0 : decode cX0_init 0 = .ok (.aload_n 0, 1) := by decide +kernel
theorem dX0_init_1 : decode cX0_init 1 = .ok (.invokespecial 1, 3) := by decide +kernel
theorem dX0_init_4 : decode cX0_init 4 = .ok (.return_, 1) := by decide +kernel
theorem dX0_choose_0 : decode cX0_choose 0 = .ok (.aload_n 0, 1) := by decide +kernel
theorem dX0_choose_1 : decode cX0_choose 1 = .ok (.iconst 0, 1) := by decide +kernel
theorem dX0_choose_2 : decode cX0_choose 2 = .ok (.putfield 7, 3) := by decide +kernel
theorem dX0_choose_5 : decode cX0_choose 5 = .ok (.aload_n 0, 1) := by decide +kernel
theorem dX0_choose_6 : decode cX0_choose 6 = .ok (.iconst 0, 1) := by decide +kernel
theorem dX0_choose_7 : decode cX0_choose 7 = .ok (.putfield 13, 3) := by decide +kernel
theorem dX0_choose_10 : decode cX0_choose 10 = .ok (.iconst 0, 1) := by decide +kernel
theorem dX0_choose_11 : decode cX0_choose 11 = .ok (.istore 4, 2) := by decide +kernel
theorem dX0_choose_13 : decode cX0_choose 13 = .ok (.iload 4, 2) := by decide +kernel
theorem dX0_choose_15 : decode cX0_choose 15 = .ok (.aload_n 1, 1) := by decide +kernel
theorem dX0_choose_16 : decode cX0_choose 16 = .ok (.getfield 16, 3) := by decide +kernel
theorem dX0_choose_19 : decode cX0_choose 19 = .ok (.getfield 22, 3) := by decide +kernel
theorem dX0_choose_22 : decode cX0_choose 22 = .ok (.if_icmp .gt 148, 3) := by decide +kernel
theorem dX0_choose_25 : decode cX0_choose 25 = .ok (.iconst 0, 1) := by decide +kernel
theorem dX0_choose_26 : decode cX0_choose 26 = .ok (.istore 5, 2) := by decide +kernel
theorem dX0_choose_28 : decode cX0_choose 28 = .ok (.iload 5, 2) := by decide +kernel
theorem dX0_choose_30 : decode cX0_choose 30 = .ok (.aload_n 1, 1) := by decide +kernel
theorem dX0_choose_31 : decode cX0_choose 31 = .ok (.getfield 27, 3) := by decide +kernel
theorem dX0_choose_34 : decode cX0_choose 34 = .ok (.getfield 22, 3) := by decide +kernel
theorem dX0_choose_37 : decode cX0_choose 37 = .ok (.if_icmp .gt 127, 3) := by decide +kernel
theorem dX0_choose_40 : decode cX0_choose 40 = .ok (.iconst 0, 1) := by decide +kernel
theorem dX0_choose_41 : decode cX0_choose 41 = .ok (.istore 6, 2) := by decide +kernel
theorem dX0_choose_43 : decode cX0_choose 43 = .ok (.iload 6, 2) := by decide +kernel
theorem dX0_choose_45 : decode cX0_choose 45 = .ok (.aload_n 2, 1) := by decide +kernel
theorem dX0_choose_46 : decode cX0_choose 46 = .ok (.getfield 16, 3) := by decide +kernel
theorem dX0_choose_49 : decode cX0_choose 49 = .ok (.getfield 22, 3) := by decide +kernel
theorem dX0_choose_52 : decode cX0_choose 52 = .ok (.if_icmp .gt 106, 3) := by decide +kernel
theorem dX0_choose_55 : decode cX0_choose 55 = .ok (.iload 4, 2) := by decide +kernel
theorem dX0_choose_57 : decode cX0_choose 57 = .ok (.iload 6, 2) := by decide +kernel
theorem dX0_choose_59 : decode cX0_choose 59 = .ok (.iadd, 1) := by decide +kernel
theorem dX0_choose_60 : decode cX0_choose 60 = .ok (.iload 5, 2) := by decide +kernel
theorem dX0_choose_62 : decode cX0_choose 62 = .ok (.isub, 1) := by decide +kernel
theorem dX0_choose_63 : decode cX0_choose 63 = .ok (.istore 7, 2) := by decide +kernel
theorem dX0_choose_65 : decode cX0_choose 65 = .ok (.iload 7, 2) := by decide +kernel
theorem dX0_choose_67 : decode cX0_choose 67 = .ok (.iconst 0, 1) := by decide +kernel
theorem dX0_choose_68 : decode cX0_choose 68 = .ok (.aload_n 2, 1) := by decide +kernel
theorem dX0_choose_69 : decode cX0_choose 69 = .ok (.getfield 27, 3) := by decide +kernel
theorem dX0_choose_72 : decode cX0_choose 72 = .ok (.getfield 22, 3) := by decide +kernel
theorem dX0_choose_75 : decode cX0_choose 75 = .ok (.invokestatic 30, 3) := by decide +kernel
theorem dX0_choose_78 : decode cX0_choose 78 = .ok (.ifCond .eq 74, 3) := by decide +kernel
theorem dX0_choose_81 : decode cX0_choose 81 = .ok (.aload_n 1, 1) := by decide +kernel
theorem dX0_choose_82 : decode cX0_choose 82 = .ok (.getfield 16, 3) := by decide +kernel
theorem dX0_choose_85 : decode cX0_choose 85 = .ok (.iconst 0, 1) := by decide +kernel
theorem dX0_choose_86 : decode cX0_choose 86 = .ok (.iload 4, 2) := by decide +kernel
theorem dX0_choose_88 : decode cX0_choose 88 = .ok (.invokevirtual 36, 3) := by decide +kernel
theorem dX0_choose_91 : decode cX0_choose 91 = .ok (.aload_n 2, 1) := by decide +kernel
theorem dX0_choose_92 : decode cX0_choose 92 = .ok (.getfield 16, 3) := by decide +kernel
theorem dX0_choose_95 : decode cX0_choose 95 = .ok (.iconst 0, 1) := by decide +kernel
theorem dX0_choose_96 : decode cX0_choose 96 = .ok (.iload 6, 2) := by decide +kernel
theorem dX0_choose_98 : decode cX0_choose 98 = .ok (.invokevirtual 36, 3) := by decide +kernel
theorem dX0_choose_101 : decode cX0_choose 101 = .ok (.iadd, 1) := by decide +kernel
theorem dX0_choose_102 : decode cX0_choose 102 = .ok (.istore 8, 2) := by decide +kernel
theorem dX0_choose_104 : decode cX0_choose 104 = .ok (.aload_n 1, 1) := by decide +kernel
theorem dX0_choose_105 : decode cX0_choose 105 = .ok (.getfield 27, 3) := by decide +kernel
theorem dX0_choose_108 : decode cX0_choose 108 = .ok (.iconst 0, 1) := by decide +kernel
theorem dX0_choose_109 : decode cX0_choose 109 = .ok (.iload 5, 2) := by decide +kernel
theorem dX0_choose_111 : decode cX0_choose 111 = .ok (.invokevirtual 36, 3) := by decide +kernel
theorem dX0_choose_114 : decode cX0_choose 114 = .ok (.aload_n 2, 1) := by decide +kernel
theorem dX0_choose_115 : decode cX0_choose 115 = .ok (.getfield 27, 3) := by decide +kernel
theorem dX0_choose_118 : decode cX0_choose 118 = .ok (.iconst 0, 1) := by decide +kernel
theorem dX0_choose_119 : decode cX0_choose 119 = .ok (.iload 7, 2) := by decide +kernel
theorem dX0_choose_121 : decode cX0_choose 121 = .ok (.invokevirtual 36, 3) := by decide +kernel
theorem dX0_choose_124 : decode cX0_choose 124 = .ok (.iadd, 1) := by decide +kernel
theorem dX0_choose_125 : decode cX0_choose 125 = .ok (.istore 9, 2) := by decide +kernel
theorem dX0_choose_127 : decode cX0_choose 127 = .ok (.aload_n 0, 1) := by decide +kernel
theorem dX0_choose_128 : decode cX0_choose 128 = .ok (.iload 8, 2) := by decide +kernel
theorem dX0_choose_130 : decode cX0_choose 130 = .ok (.iload 9, 2) := by decide +kernel
theorem dX0_choose_132 : decode cX0_choose 132 = .ok (.isub, 1) := by decide +kernel
theorem dX0_choose_133 : decode cX0_choose 133 = .ok (.iload_n 3, 1) := by decide +kernel
theorem dX0_choose_134 : decode cX0_choose 134 = .ok (.iload 5, 2) := by decide +kernel
theorem dX0_choose_136 : decode cX0_choose 136 = .ok (.iload 4, 2) := by decide +kernel
theorem dX0_choose_138 : decode cX0_choose 138 = .ok (.isub, 1) := by decide +kernel
theorem dX0_choose_139 : decode cX0_choose 139 = .ok (.invokestatic 40, 3) := by decide +kernel
theorem dX0_choose_142 : decode cX0_choose 142 = .ok (.imul, 1) := by decide +kernel
theorem dX0_choose_143 : decode cX0_choose 143 = .ok (.isub, 1) := by decide +kernel
theorem dX0_choose_144 : decode cX0_choose 144 = .ok (.iload 5, 2) := by decide +kernel
theorem dX0_choose_146 : decode cX0_choose 146 = .ok (.iload 4, 2) := by decide +kernel
theorem dX0_choose_148 : decode cX0_choose 148 = .ok (.isub, 1) := by decide +kernel
theorem dX0_choose_149 : decode cX0_choose 149 = .ok (.invokevirtual 46, 3) := by decide +kernel
theorem dX0_choose_152 : decode cX0_choose 152 = .ok (.iinc 6 1, 3) := by decide +kernel
theorem dX0_choose_155 : decode cX0_choose 155 = .ok (.goto (-112), 3) := by decide +kernel
theorem dX0_choose_158 : decode cX0_choose 158 = .ok (.iinc 5 1, 3) := by decide +kernel
theorem dX0_choose_161 : decode cX0_choose 161 = .ok (.goto (-133), 3) := by decide +kernel
theorem dX0_choose_164 : decode cX0_choose 164 = .ok (.iinc 4 1, 3) := by decide +kernel
theorem dX0_choose_167 : decode cX0_choose 167 = .ok (.goto (-154), 3) := by decide +kernel
theorem dX0_choose_170 : decode cX0_choose 170 = .ok (.return_, 1) := by decide +kernel
theorem dX0_offer_0 : decode cX0_offer 0 = .ok (.aload_n 0, 1) := by decide +kernel
theorem dX0_offer_1 : decode cX0_offer 1 = .ok (.getfield 13, 3) := by decide +kernel
theorem dX0_offer_4 : decode cX0_offer 4 = .ok (.invokestatic 40, 3) := by decide +kernel
theorem dX0_offer_7 : decode cX0_offer 7 = .ok (.iload_n 2, 1) := by decide +kernel
theorem dX0_offer_8 : decode cX0_offer 8 = .ok (.invokestatic 40, 3) := by decide +kernel
theorem dX0_offer_11 : decode cX0_offer 11 = .ok (.isub, 1) := by decide +kernel
theorem dX0_offer_12 : decode cX0_offer 12 = .ok (.istore_n 3, 1) := by decide +kernel
theorem dX0_offer_13 : decode cX0_offer 13 = .ok (.iload_n 1, 1) := by decide +kernel
theorem dX0_offer_14 : decode cX0_offer 14 = .ok (.aload_n 0, 1) := by decide +kernel
theorem dX0_offer_15 : decode cX0_offer 15 = .ok (.getfield 7, 3) := by decide +kernel
theorem dX0_offer_18 : decode cX0_offer 18 = .ok (.if_icmp .gt 27, 3) := by decide +kernel
theorem dX0_offer_21 : decode cX0_offer 21 = .ok (.iload_n 1, 1) := by decide +kernel
theorem dX0_offer_22 : decode cX0_offer 22 = .ok (.aload_n 0, 1) := by decide +kernel
theorem dX0_offer_23 : decode cX0_offer 23 = .ok (.getfield 7, 3) := by decide +kernel
theorem dX0_offer_26 : decode cX0_offer 26 = .ok (.if_icmp .ne 29, 3) := by decide +kernel
theorem dX0_offer_29 : decode cX0_offer 29 = .ok (.iload_n 3, 1) := by decide +kernel
theorem dX0_offer_30 : decode cX0_offer 30 = .ok (.ifCond .gt 15, 3) := by decide +kernel
theorem dX0_offer_33 : decode cX0_offer 33 = .ok (.iload_n 3, 1) := by decide +kernel
theorem dX0_offer_34 : decode cX0_offer 34 = .ok (.ifCond .ne 21, 3) := by decide +kernel
theorem dX0_offer_37 : decode cX0_offer 37 = .ok (.iload_n 2, 1) := by decide +kernel
theorem dX0_offer_38 : decode cX0_offer 38 = .ok (.aload_n 0, 1) := by decide +kernel
theorem dX0_offer_39 : decode cX0_offer 39 = .ok (.getfield 13, 3) := by decide +kernel
theorem dX0_offer_42 : decode cX0_offer 42 = .ok (.if_icmp .le 13, 3) := by decide +kernel
theorem dX0_offer_45 : decode cX0_offer 45 = .ok (.aload_n 0, 1) := by decide +kernel
theorem dX0_offer_46 : decode cX0_offer 46 = .ok (.iload_n 1, 1) := by decide +kernel
theorem dX0_offer_47 : decode cX0_offer 47 = .ok (.putfield 7, 3) := by decide +kernel
theorem dX0_offer_50 : decode cX0_offer 50 = .ok (.aload_n 0, 1) := by decide +kernel
theorem dX0_offer_51 : decode cX0_offer 51 = .ok (.iload_n 2, 1) := by decide +kernel
theorem dX0_offer_52 : decode cX0_offer 52 = .ok (.putfield 13, 3) := by decide +kernel
theorem dX0_offer_55 : decode cX0_offer 55 = .ok (.return_, 1) := by decide +kernel
theorem dX1_init_0 : decode cX1_init 0 = .ok (.aload_n 0, 1) := by decide +kernel
theorem dX1_init_1 : decode cX1_init 1 = .ok (.invokespecial 3, 3) := by decide +kernel
theorem dX1_init_4 : decode cX1_init 4 = .ok (.aload_n 0, 1) := by decide +kernel
theorem dX1_init_5 : decode cX1_init 5 = .ok (.bipush 20, 2) := by decide +kernel
theorem dX1_init_7 : decode cX1_init 7 = .ok (.newarray .int, 2) := by decide +kernel
theorem dX1_init_9 : decode cX1_init 9 = .ok (.putfield 9, 3) := by decide +kernel
theorem dX1_init_12 : decode cX1_init 12 = .ok (.aload_n 0, 1) := by decide +kernel
theorem dX1_init_13 : decode cX1_init 13 = .ok (.new 15, 3) := by decide +kernel
theorem dX1_init_16 : decode cX1_init 16 = .ok (.dup, 1) := by decide +kernel
theorem dX1_init_17 : decode cX1_init 17 = .ok (.invokespecial 17, 3) := by decide +kernel
theorem dX1_init_20 : decode cX1_init 20 = .ok (.putfield 18, 3) := by decide +kernel
theorem dX1_init_23 : decode cX1_init 23 = .ok (.return_, 1) := by decide +kernel
theorem dX1_hold_0 : decode cX1_hold 0 = .ok (.aload_n 1, 1) := by decide +kernel
theorem dX1_hold_1 : decode cX1_hold 1 = .ok (.getfield 22, 3) := by decide +kernel
theorem dX1_hold_4 : decode cX1_hold 4 = .ok (.iconst 0, 1) := by decide +kernel
theorem dX1_hold_5 : decode cX1_hold 5 = .ok (.aload_n 0, 1) := by decide +kernel
theorem dX1_hold_6 : decode cX1_hold 6 = .ok (.getfield 9, 3) := by decide +kernel
theorem dX1_hold_9 : decode cX1_hold 9 = .ok (.iconst 0, 1) := by decide +kernel
theorem dX1_hold_10 : decode cX1_hold 10 = .ok (.bipush 20, 2) := by decide +kernel
theorem dX1_hold_12 : decode cX1_hold 12 = .ok (.invokestatic 25, 3) := by decide +kernel
theorem dX1_hold_15 : decode cX1_hold 15 = .ok (.aload_n 0, 1) := by decide +kernel
theorem dX1_hold_16 : decode cX1_hold 16 = .ok (.getfield 18, 3) := by decide +kernel
theorem dX1_hold_19 : decode cX1_hold 19 = .ok (.aload_n 2, 1) := by decide +kernel
theorem dX1_hold_20 : decode cX1_hold 20 = .ok (.invokevirtual 31, 3) := by decide +kernel
theorem dX1_hold_23 : decode cX1_hold 23 = .ok (.return_, 1) := by decide +kernel
theorem dX1_giveBack_0 : decode cX1_giveBack 0 = .ok (.aload_n 0, 1) := by decide +kernel
theorem dX1_giveBack_1 : decode cX1_giveBack 1 = .ok (.getfield 9, 3) := by decide +kernel
theorem dX1_giveBack_4 : decode cX1_giveBack 4 = .ok (.iconst 0, 1) := by decide +kernel
theorem dX1_giveBack_5 : decode cX1_giveBack 5 = .ok (.aload_n 1, 1) := by decide +kernel
theorem dX1_giveBack_6 : decode cX1_giveBack 6 = .ok (.getfield 22, 3) := by decide +kernel
theorem dX1_giveBack_9 : decode cX1_giveBack 9 = .ok (.iconst 0, 1) := by decide +kernel
theorem dX1_giveBack_10 : decode cX1_giveBack 10 = .ok (.bipush 20, 2) := by decide +kernel
theorem dX1_giveBack_12 : decode cX1_giveBack 12 = .ok (.invokestatic 25, 3) := by decide +kernel
theorem dX1_giveBack_15 : decode cX1_giveBack 15 = .ok (.aload_n 2, 1) := by decide +kernel
theorem dX1_giveBack_16 : decode cX1_giveBack 16 = .ok (.aload_n 0, 1) := by decide +kernel
theorem dX1_giveBack_17 : decode cX1_giveBack 17 = .ok (.getfield 18, 3) := by decide +kernel
theorem dX1_giveBack_20 : decode cX1_giveBack 20 = .ok (.invokevirtual 31, 3) := by decide +kernel
theorem dX1_giveBack_23 : decode cX1_giveBack 23 = .ok (.return_, 1) := by decide +kernel
theorem dX2_init_0 : decode cX2_init 0 = .ok (.aload_n 0, 1) := by decide +kernel
theorem dX2_init_1 : decode cX2_init 1 = .ok (.invokespecial 3, 3) := by decide +kernel
theorem dX2_init_4 : decode cX2_init 4 = .ok (.aload_n 0, 1) := by decide +kernel
theorem dX2_init_5 : decode cX2_init 5 = .ok (.bipush 10, 2) := by decide +kernel
theorem dX2_init_7 : decode cX2_init 7 = .ok (.newarray .int, 2) := by decide +kernel
theorem dX2_init_9 : decode cX2_init 9 = .ok (.putfield 9, 3) := by decide +kernel
theorem dX2_init_12 : decode cX2_init 12 = .ok (.aload_n 0, 1) := by decide +kernel
theorem dX2_init_13 : decode cX2_init 13 = .ok (.bipush 10, 2) := by decide +kernel
theorem dX2_init_15 : decode cX2_init 15 = .ok (.newarray .int, 2) := by decide +kernel
theorem dX2_init_17 : decode cX2_init 17 = .ok (.putfield 15, 3) := by decide +kernel
theorem dX2_init_20 : decode cX2_init 20 = .ok (.aload_n 0, 1) := by decide +kernel
theorem dX2_init_21 : decode cX2_init 21 = .ok (.iconst 0, 1) := by decide +kernel
theorem dX2_init_22 : decode cX2_init 22 = .ok (.putfield 18, 3) := by decide +kernel
theorem dX2_init_25 : decode cX2_init 25 = .ok (.aload_n 0, 1) := by decide +kernel
theorem dX2_init_26 : decode cX2_init 26 = .ok (.iload_n 1, 1) := by decide +kernel
theorem dX2_init_27 : decode cX2_init 27 = .ok (.putfield 22, 3) := by decide +kernel
theorem dX2_init_30 : decode cX2_init 30 = .ok (.return_, 1) := by decide +kernel
theorem dX2_add_0 : decode cX2_add 0 = .ok (.aload_n 0, 1) := by decide +kernel
theorem dX2_add_1 : decode cX2_add 1 = .ok (.getfield 18, 3) := by decide +kernel
theorem dX2_add_4 : decode cX2_add 4 = .ok (.bipush 10, 2) := by decide +kernel
theorem dX2_add_6 : decode cX2_add 6 = .ok (.if_icmp .lt 4, 3) := by decide +kernel
theorem dX2_add_9 : decode cX2_add 9 = .ok (.return_, 1) := by decide +kernel
theorem dX2_add_10 : decode cX2_add 10 = .ok (.aload_n 0, 1) := by decide +kernel
theorem dX2_add_11 : decode cX2_add 11 = .ok (.getfield 18, 3) := by decide +kernel
theorem dX2_add_14 : decode cX2_add 14 = .ok (.istore_n 3, 1) := by decide +kernel
theorem dX2_add_15 : decode cX2_add 15 = .ok (.iload_n 3, 1) := by decide +kernel
theorem dX2_add_16 : decode cX2_add 16 = .ok (.ifCond .le 71, 3) := by decide +kernel
theorem dX2_add_19 : decode cX2_add 19 = .ok (.aload_n 0, 1) := by decide +kernel
theorem dX2_add_20 : decode cX2_add 20 = .ok (.getfield 22, 3) := by decide +kernel
theorem dX2_add_23 : decode cX2_add 23 = .ok (.ifCond .eq 18, 3) := by decide +kernel
theorem dX2_add_26 : decode cX2_add 26 = .ok (.aload_n 0, 1) := by decide +kernel
theorem dX2_add_27 : decode cX2_add 27 = .ok (.getfield 15, 3) := by decide +kernel
theorem dX2_add_30 : decode cX2_add 30 = .ok (.iload_n 3, 1) := by decide +kernel
theorem dX2_add_31 : decode cX2_add 31 = .ok (.iconst 1, 1) := by decide +kernel
theorem dX2_add_32 : decode cX2_add 32 = .ok (.isub, 1) := by decide +kernel
theorem dX2_add_33 : decode cX2_add 33 = .ok (.iaload, 1) := by decide +kernel
theorem dX2_add_34 : decode cX2_add 34 = .ok (.iload_n 2, 1) := by decide +kernel
theorem dX2_add_35 : decode cX2_add 35 = .ok (.if_icmp .le 52, 3) := by decide +kernel
theorem dX2_add_38 : decode cX2_add 38 = .ok (.goto 15, 3) := by decide +kernel
theorem dX2_add_41 : decode cX2_add 41 = .ok (.aload_n 0, 1) := by decide +kernel
theorem dX2_add_42 : decode cX2_add 42 = .ok (.getfield 15, 3) := by decide +kernel
theorem dX2_add_45 : decode cX2_add 45 = .ok (.iload_n 3, 1) := by decide +kernel
theorem dX2_add_46 : decode cX2_add 46 = .ok (.iconst 1, 1) := by decide +kernel
theorem dX2_add_47 : decode cX2_add 47 = .ok (.isub, 1) := by decide +kernel
theorem dX2_add_48 : decode cX2_add 48 = .ok (.iaload, 1) := by decide +kernel
theorem dX2_add_49 : decode cX2_add 49 = .ok (.iload_n 2, 1) := by decide +kernel
theorem dX2_add_50 : decode cX2_add 50 = .ok (.if_icmp .ge 37, 3) := by decide +kernel
theorem dX2_add_53 : decode cX2_add 53 = .ok (.aload_n 0, 1) := by decide +kernel
theorem dX2_add_54 : decode cX2_add 54 = .ok (.getfield 15, 3) := by decide +kernel
theorem dX2_add_57 : decode cX2_add 57 = .ok (.iload_n 3, 1) := by decide +kernel
theorem dX2_add_58 : decode cX2_add 58 = .ok (.aload_n 0, 1) := by decide +kernel
theorem dX2_add_59 : decode cX2_add 59 = .ok (.getfield 15, 3) := by decide +kernel
theorem dX2_add_62 : decode cX2_add 62 = .ok (.iload_n 3, 1) := by decide +kernel
theorem dX2_add_63 : decode cX2_add 63 = .ok (.iconst 1, 1) := by decide +kernel
theorem dX2_add_64 : decode cX2_add 64 = .ok (.isub, 1) := by decide +kernel
theorem dX2_add_65 : decode cX2_add 65 = .ok (.iaload, 1) := by decide +kernel
theorem dX2_add_66 : decode cX2_add 66 = .ok (.iastore, 1) := by decide +kernel
theorem dX2_add_67 : decode cX2_add 67 = .ok (.aload_n 0, 1) := by decide +kernel
theorem dX2_add_68 : decode cX2_add 68 = .ok (.getfield 9, 3) := by decide +kernel
theorem dX2_add_71 : decode cX2_add 71 = .ok (.iload_n 3, 1) := by decide +kernel
theorem dX2_add_72 : decode cX2_add 72 = .ok (.aload_n 0, 1) := by decide +kernel
theorem dX2_add_73 : decode cX2_add 73 = .ok (.getfield 9, 3) := by decide +kernel
theorem dX2_add_76 : decode cX2_add 76 = .ok (.iload_n 3, 1) := by decide +kernel
theorem dX2_add_77 : decode cX2_add 77 = .ok (.iconst 1, 1) := by decide +kernel
theorem dX2_add_78 : decode cX2_add 78 = .ok (.isub, 1) := by decide +kernel
theorem dX2_add_79 : decode cX2_add 79 = .ok (.iaload, 1) := by decide +kernel
theorem dX2_add_80 : decode cX2_add 80 = .ok (.iastore, 1) := by decide +kernel
theorem dX2_add_81 : decode cX2_add 81 = .ok (.iinc 3 (-1), 3) := by decide +kernel
theorem dX2_add_84 : decode cX2_add 84 = .ok (.goto (-69), 3) := by decide +kernel
theorem dX2_add_87 : decode cX2_add 87 = .ok (.aload_n 0, 1) := by decide +kernel
theorem dX2_add_88 : decode cX2_add 88 = .ok (.getfield 15, 3) := by decide +kernel
theorem dX2_add_91 : decode cX2_add 91 = .ok (.iload_n 3, 1) := by decide +kernel
theorem dX2_add_92 : decode cX2_add 92 = .ok (.iload_n 2, 1) := by decide +kernel
theorem dX2_add_93 : decode cX2_add 93 = .ok (.iastore, 1) := by decide +kernel
theorem dX2_add_94 : decode cX2_add 94 = .ok (.aload_n 0, 1) := by decide +kernel
theorem dX2_add_95 : decode cX2_add 95 = .ok (.getfield 9, 3) := by decide +kernel
theorem dX2_add_98 : decode cX2_add 98 = .ok (.iload_n 3, 1) := by decide +kernel
theorem dX2_add_99 : decode cX2_add 99 = .ok (.iload_n 1, 1) := by decide +kernel
theorem dX2_add_100 : decode cX2_add 100 = .ok (.iastore, 1) := by decide +kernel
theorem dX2_add_101 : decode cX2_add 101 = .ok (.aload_n 0, 1) := by decide +kernel
theorem dX2_add_102 : decode cX2_add 102 = .ok (.dup, 1) := by decide +kernel
theorem dX2_add_103 : decode cX2_add 103 = .ok (.getfield 18, 3) := by decide +kernel
theorem dX2_add_106 : decode cX2_add 106 = .ok (.iconst 1, 1) := by decide +kernel
theorem dX2_add_107 : decode cX2_add 107 = .ok (.iadd, 1) := by decide +kernel
theorem dX2_add_108 : decode cX2_add 108 = .ok (.putfield 18, 3) := by decide +kernel
theorem dX2_add_111 : decode cX2_add 111 = .ok (.return_, 1) := by decide +kernel
theorem dX2_ahead_0 : decode cX2_ahead 0 = .ok (.iconst 0, 1) := by decide +kernel
theorem dX2_ahead_1 : decode cX2_ahead 1 = .ok (.istore_n 2, 1) := by decide +kernel
theorem dX2_ahead_2 : decode cX2_ahead 2 = .ok (.iconst 0, 1) := by decide +kernel
theorem dX2_ahead_3 : decode cX2_ahead 3 = .ok (.istore_n 3, 1) := by decide +kernel
theorem dX2_ahead_4 : decode cX2_ahead 4 = .ok (.iload_n 3, 1) := by decide +kernel
theorem dX2_ahead_5 : decode cX2_ahead 5 = .ok (.aload_n 0, 1) := by decide +kernel
theorem dX2_ahead_6 : decode cX2_ahead 6 = .ok (.getfield 18, 3) := by decide +kernel
theorem dX2_ahead_9 : decode cX2_ahead 9 = .ok (.if_icmp .ge 42, 3) := by decide +kernel
theorem dX2_ahead_12 : decode cX2_ahead 12 = .ok (.aload_n 0, 1) := by decide +kernel
theorem dX2_ahead_13 : decode cX2_ahead 13 = .ok (.getfield 22, 3) := by decide +kernel
theorem dX2_ahead_16 : decode cX2_ahead 16 = .ok (.ifCond .eq 16, 3) := by decide +kernel
theorem dX2_ahead_19 : decode cX2_ahead 19 = .ok (.aload_n 0, 1) := by decide +kernel
theorem dX2_ahead_20 : decode cX2_ahead 20 = .ok (.getfield 15, 3) := by decide +kernel
theorem dX2_ahead_23 : decode cX2_ahead 23 = .ok (.iload_n 3, 1) := by decide +kernel
theorem dX2_ahead_24 : decode cX2_ahead 24 = .ok (.iaload, 1) := by decide +kernel
theorem dX2_ahead_25 : decode cX2_ahead 25 = .ok (.iload_n 1, 1) := by decide +kernel
theorem dX2_ahead_26 : decode cX2_ahead 26 = .ok (.if_icmp .gt 19, 3) := by decide +kernel
theorem dX2_ahead_29 : decode cX2_ahead 29 = .ok (.goto 13, 3) := by decide +kernel
theorem dX2_ahead_32 : decode cX2_ahead 32 = .ok (.aload_n 0, 1) := by decide +kernel
theorem dX2_ahead_33 : decode cX2_ahead 33 = .ok (.getfield 15, 3) := by decide +kernel
theorem dX2_ahead_36 : decode cX2_ahead 36 = .ok (.iload_n 3, 1) := by decide +kernel
theorem dX2_ahead_37 : decode cX2_ahead 37 = .ok (.iaload, 1) := by decide +kernel
theorem dX2_ahead_38 : decode cX2_ahead 38 = .ok (.iload_n 1, 1) := by decide +kernel
theorem dX2_ahead_39 : decode cX2_ahead 39 = .ok (.if_icmp .lt 6, 3) := by decide +kernel
theorem dX2_ahead_42 : decode cX2_ahead 42 = .ok (.iinc 2 1, 3) := by decide +kernel
theorem dX2_ahead_45 : decode cX2_ahead 45 = .ok (.iinc 3 1, 3) := by decide +kernel
theorem dX2_ahead_48 : decode cX2_ahead 48 = .ok (.goto (-44), 3) := by decide +kernel
theorem dX2_ahead_51 : decode cX2_ahead 51 = .ok (.iload_n 2, 1) := by decide +kernel
theorem dX2_ahead_52 : decode cX2_ahead 52 = .ok (.ireturn, 1) := by decide +kernel
theorem dX2_sum_0 : decode cX2_sum 0 = .ok (.iconst 0, 1) := by decide +kernel
theorem dX2_sum_1 : decode cX2_sum 1 = .ok (.istore_n 3, 1) := by decide +kernel
theorem dX2_sum_2 : decode cX2_sum 2 = .ok (.iload_n 1, 1) := by decide +kernel
theorem dX2_sum_3 : decode cX2_sum 3 = .ok (.iconst 0, 1) := by decide +kernel
theorem dX2_sum_4 : decode cX2_sum 4 = .ok (.invokestatic 26, 3) := by decide +kernel
theorem dX2_sum_7 : decode cX2_sum 7 = .ok (.istore 4, 2) := by decide +kernel
theorem dX2_sum_9 : decode cX2_sum 9 = .ok (.iload 4, 2) := by decide +kernel
theorem dX2_sum_11 : decode cX2_sum 11 = .ok (.iload_n 2, 1) := by decide +kernel
theorem dX2_sum_12 : decode cX2_sum 12 = .ok (.if_icmp .ge 28, 3) := by decide +kernel
theorem dX2_sum_15 : decode cX2_sum 15 = .ok (.iload 4, 2) := by decide +kernel
theorem dX2_sum_17 : decode cX2_sum 17 = .ok (.aload_n 0, 1) := by decide +kernel
theorem dX2_sum_18 : decode cX2_sum 18 = .ok (.getfield 18, 3) := by decide +kernel
theorem dX2_sum_21 : decode cX2_sum 21 = .ok (.if_icmp .ge 19, 3) := by decide +kernel
theorem dX2_sum_24 : decode cX2_sum 24 = .ok (.iload_n 3, 1) := by decide +kernel
theorem dX2_sum_25 : decode cX2_sum 25 = .ok (.aload_n 0, 1) := by decide +kernel
theorem dX2_sum_26 : decode cX2_sum 26 = .ok (.getfield 15, 3) := by decide +kernel
theorem dX2_sum_29 : decode cX2_sum 29 = .ok (.iload 4, 2) := by decide +kernel
theorem dX2_sum_31 : decode cX2_sum 31 = .ok (.iaload, 1) := by decide +kernel
theorem dX2_sum_32 : decode cX2_sum 32 = .ok (.iadd, 1) := by decide +kernel
theorem dX2_sum_33 : decode cX2_sum 33 = .ok (.istore_n 3, 1) := by decide +kernel
theorem dX2_sum_34 : decode cX2_sum 34 = .ok (.iinc 4 1, 3) := by decide +kernel
theorem dX2_sum_37 : decode cX2_sum 37 = .ok (.goto (-28), 3) := by decide +kernel
theorem dX2_sum_40 : decode cX2_sum 40 = .ok (.iload_n 3, 1) := by decide +kernel
theorem dX2_sum_41 : decode cX2_sum 41 = .ok (.ireturn, 1) := by decide +kernel
theorem dX2_holds_0 : decode cX2_holds 0 = .ok (.iconst 0, 1) := by decide +kernel
theorem dX2_holds_1 : decode cX2_holds 1 = .ok (.istore_n 3, 1) := by decide +kernel
theorem dX2_holds_2 : decode cX2_holds 2 = .ok (.iload_n 3, 1) := by decide +kernel
theorem dX2_holds_3 : decode cX2_holds 3 = .ok (.iload_n 2, 1) := by decide +kernel
theorem dX2_holds_4 : decode cX2_holds 4 = .ok (.if_icmp .ge 29, 3) := by decide +kernel
theorem dX2_holds_7 : decode cX2_holds 7 = .ok (.iload_n 3, 1) := by decide +kernel
theorem dX2_holds_8 : decode cX2_holds 8 = .ok (.aload_n 0, 1) := by decide +kernel
theorem dX2_holds_9 : decode cX2_holds 9 = .ok (.getfield 18, 3) := by decide +kernel
theorem dX2_holds_12 : decode cX2_holds 12 = .ok (.if_icmp .ge 21, 3) := by decide +kernel
theorem dX2_holds_15 : decode cX2_holds 15 = .ok (.aload_n 0, 1) := by decide +kernel
theorem dX2_holds_16 : decode cX2_holds 16 = .ok (.getfield 9, 3) := by decide +kernel
theorem dX2_holds_19 : decode cX2_holds 19 = .ok (.iload_n 3, 1) := by decide +kernel
theorem dX2_holds_20 : decode cX2_holds 20 = .ok (.iaload, 1) := by decide +kernel
theorem dX2_holds_21 : decode cX2_holds 21 = .ok (.iload_n 1, 1) := by decide +kernel
theorem dX2_holds_22 : decode cX2_holds 22 = .ok (.if_icmp .ne 5, 3) := by decide +kernel
theorem dX2_holds_25 : decode cX2_holds 25 = .ok (.iconst 1, 1) := by decide +kernel
theorem dX2_holds_26 : decode cX2_holds 26 = .ok (.ireturn, 1) := by decide +kernel
theorem dX2_holds_27 : decode cX2_holds 27 = .ok (.iinc 3 1, 3) := by decide +kernel
theorem dX2_holds_30 : decode cX2_holds 30 = .ok (.goto (-28), 3) := by decide +kernel
theorem dX2_holds_33 : decode cX2_holds 33 = .ok (.iconst 0, 1) := by decide +kernel
theorem dX2_holds_34 : decode cX2_holds 34 = .ok (.ireturn, 1) := by decide +kernel
theorem dX3_init_0 : decode cX3_init 0 = .ok (.aload_n 0, 1) := by decide +kernel
theorem dX3_init_1 : decode cX3_init 1 = .ok (.invokespecial 3, 3) := by decide +kernel
theorem dX3_init_4 : decode cX3_init 4 = .ok (.aload_n 0, 1) := by decide +kernel
theorem dX3_init_5 : decode cX3_init 5 = .ok (.new 9, 3) := by decide +kernel
theorem dX3_init_8 : decode cX3_init 8 = .ok (.dup, 1) := by decide +kernel
theorem dX3_init_9 : decode cX3_init 9 = .ok (.iconst 0, 1) := by decide +kernel
theorem dX3_init_10 : decode cX3_init 10 = .ok (.invokespecial 11, 3) := by decide +kernel
theorem dX3_init_13 : decode cX3_init 13 = .ok (.putfield 14, 3) := by decide +kernel
theorem dX3_init_16 : decode cX3_init 16 = .ok (.aload_n 0, 1) := by decide +kernel
theorem dX3_init_17 : decode cX3_init 17 = .ok (.new 9, 3) := by decide +kernel
theorem dX3_init_20 : decode cX3_init 20 = .ok (.dup, 1) := by decide +kernel
theorem dX3_init_21 : decode cX3_init 21 = .ok (.iconst 1, 1) := by decide +kernel
theorem dX3_init_22 : decode cX3_init 22 = .ok (.invokespecial 11, 3) := by decide +kernel
theorem dX3_init_25 : decode cX3_init 25 = .ok (.putfield 20, 3) := by decide +kernel
theorem dX3_init_28 : decode cX3_init 28 = .ok (.return_, 1) := by decide +kernel
theorem dX3_empty_0 : decode cX3_empty 0 = .ok (.aload_n 0, 1) := by decide +kernel
theorem dX3_empty_1 : decode cX3_empty 1 = .ok (.getfield 14, 3) := by decide +kernel
theorem dX3_empty_4 : decode cX3_empty 4 = .ok (.iconst 0, 1) := by decide +kernel
theorem dX3_empty_5 : decode cX3_empty 5 = .ok (.putfield 23, 3) := by decide +kernel
theorem dX3_empty_8 : decode cX3_empty 8 = .ok (.aload_n 0, 1) := by decide +kernel
theorem dX3_empty_9 : decode cX3_empty 9 = .ok (.getfield 20, 3) := by decide +kernel
theorem dX3_empty_12 : decode cX3_empty 12 = .ok (.iconst 0, 1) := by decide +kernel
theorem dX3_empty_13 : decode cX3_empty 13 = .ok (.putfield 23, 3) := by decide +kernel
theorem dX3_empty_16 : decode cX3_empty 16 = .ok (.return_, 1) := by decide +kernel
theorem dX3_put_0 : decode cX3_put 0 = .ok (.aload_n 1, 1) := by decide +kernel
theorem dX3_put_1 : decode cX3_put 1 = .ok (.getfield 27, 3) := by decide +kernel
theorem dX3_put_4 : decode cX3_put 4 = .ok (.iload_n 2, 1) := by decide +kernel
theorem dX3_put_5 : decode cX3_put 5 = .ok (.baload, 1) := by decide +kernel
theorem dX3_put_6 : decode cX3_put 6 = .ok (.ifCond .eq 15, 3) := by decide +kernel
theorem dX3_put_9 : decode cX3_put 9 = .ok (.aload_n 0, 1) := by decide +kernel
theorem dX3_put_10 : decode cX3_put 10 = .ok (.getfield 20, 3) := by decide +kernel
theorem dX3_put_13 : decode cX3_put 13 = .ok (.iload_n 2, 1) := by decide +kernel
theorem dX3_put_14 : decode cX3_put 14 = .ok (.iload_n 3, 1) := by decide +kernel
theorem dX3_put_15 : decode cX3_put 15 = .ok (.invokevirtual 33, 3) := by decide +kernel
theorem dX3_put_18 : decode cX3_put 18 = .ok (.goto 12, 3) := by decide +kernel
theorem dX3_put_21 : decode cX3_put 21 = .ok (.aload_n 0, 1) := by decide +kernel
theorem dX3_put_22 : decode cX3_put 22 = .ok (.getfield 14, 3) := by decide +kernel
theorem dX3_put_25 : decode cX3_put 25 = .ok (.iload_n 2, 1) := by decide +kernel
theorem dX3_put_26 : decode cX3_put 26 = .ok (.iload_n 3, 1) := by decide +kernel
theorem dX3_put_27 : decode cX3_put 27 = .ok (.invokevirtual 33, 3) := by decide +kernel
theorem dX3_put_30 : decode cX3_put 30 = .ok (.return_, 1) := by decide +kernel
theorem dX3_meet_0 : decode cX3_meet 0 = .ok (.aload_n 0, 1) := by decide +kernel
theorem dX3_meet_1 : decode cX3_meet 1 = .ok (.invokevirtual 37, 3) := by decide +kernel
theorem dX3_meet_4 : decode cX3_meet 4 = .ok (.iconst 0, 1) := by decide +kernel
theorem dX3_meet_5 : decode cX3_meet 5 = .ok (.istore_n 3, 1) := by decide +kernel
theorem dX3_meet_6 : decode cX3_meet 6 = .ok (.iload_n 3, 1) := by decide +kernel
theorem dX3_meet_7 : decode cX3_meet 7 = .ok (.aload_n 1, 1) := by decide +kernel
theorem dX3_meet_8 : decode cX3_meet 8 = .ok (.getfield 40, 3) := by decide +kernel
theorem dX3_meet_11 : decode cX3_meet 11 = .ok (.if_icmp .ge 21, 3) := by decide +kernel
theorem dX3_meet_14 : decode cX3_meet 14 = .ok (.aload_n 0, 1) := by decide +kernel
theorem dX3_meet_15 : decode cX3_meet 15 = .ok (.aload_n 1, 1) := by decide +kernel
theorem dX3_meet_16 : decode cX3_meet 16 = .ok (.iload_n 3, 1) := by decide +kernel
theorem dX3_meet_17 : decode cX3_meet 17 = .ok (.aload_n 1, 1) := by decide +kernel
theorem dX3_meet_18 : decode cX3_meet 18 = .ok (.getfield 43, 3) := by decide +kernel
theorem dX3_meet_21 : decode cX3_meet 21 = .ok (.iload_n 3, 1) := by decide +kernel
theorem dX3_meet_22 : decode cX3_meet 22 = .ok (.iaload, 1) := by decide +kernel
theorem dX3_meet_23 : decode cX3_meet 23 = .ok (.invokevirtual 47, 3) := by decide +kernel
theorem dX3_meet_26 : decode cX3_meet 26 = .ok (.iinc 3 1, 3) := by decide +kernel
theorem dX3_meet_29 : decode cX3_meet 29 = .ok (.goto (-23), 3) := by decide +kernel
theorem dX3_meet_32 : decode cX3_meet 32 = .ok (.aload_n 0, 1) := by decide +kernel
theorem dX3_meet_33 : decode cX3_meet 33 = .ok (.iload_n 2, 1) := by decide +kernel
theorem dX3_meet_34 : decode cX3_meet 34 = .ok (.invokevirtual 51, 3) := by decide +kernel
theorem dX3_meet_37 : decode cX3_meet 37 = .ok (.return_, 1) := by decide +kernel
theorem dX3_cross_0 : decode cX3_cross 0 = .ok (.aload_n 0, 1) := by decide +kernel
theorem dX3_cross_1 : decode cX3_cross 1 = .ok (.getfield 14, 3) := by decide +kernel
theorem dX3_cross_4 : decode cX3_cross 4 = .ok (.getfield 23, 3) := by decide +kernel
theorem dX3_cross_7 : decode cX3_cross 7 = .ok (.aload_n 0, 1) := by decide +kernel
theorem dX3_cross_8 : decode cX3_cross 8 = .ok (.getfield 20, 3) := by decide +kernel
theorem dX3_cross_11 : decode cX3_cross 11 = .ok (.getfield 23, 3) := by decide +kernel
theorem dX3_cross_14 : decode cX3_cross 14 = .ok (.invokestatic 55, 3) := by decide +kernel
theorem dX3_cross_17 : decode cX3_cross 17 = .ok (.istore_n 2, 1) := by decide +kernel
theorem dX3_cross_18 : decode cX3_cross 18 = .ok (.aload_n 0, 1) := by decide +kernel
theorem dX3_cross_19 : decode cX3_cross 19 = .ok (.iconst 0, 1) := by decide +kernel
theorem dX3_cross_20 : decode cX3_cross 20 = .ok (.putfield 61, 3) := by decide +kernel
theorem dX3_cross_23 : decode cX3_cross 23 = .ok (.aload_n 0, 1) := by decide +kernel
theorem dX3_cross_24 : decode cX3_cross 24 = .ok (.getfield 61, 3) := by decide +kernel
theorem dX3_cross_27 : decode cX3_cross 27 = .ok (.iload_n 2, 1) := by decide +kernel
theorem dX3_cross_28 : decode cX3_cross 28 = .ok (.if_icmp .ge 45, 3) := by decide +kernel
theorem dX3_cross_31 : decode cX3_cross 31 = .ok (.aload_n 0, 1) := by decide +kernel
theorem dX3_cross_32 : decode cX3_cross 32 = .ok (.getfield 14, 3) := by decide +kernel
theorem dX3_cross_35 : decode cX3_cross 35 = .ok (.getfield 64, 3) := by decide +kernel
theorem dX3_cross_38 : decode cX3_cross 38 = .ok (.aload_n 0, 1) := by decide +kernel
theorem dX3_cross_39 : decode cX3_cross 39 = .ok (.getfield 61, 3) := by decide +kernel
theorem dX3_cross_42 : decode cX3_cross 42 = .ok (.iaload, 1) := by decide +kernel
theorem dX3_cross_43 : decode cX3_cross 43 = .ok (.aload_n 0, 1) := by decide +kernel
theorem dX3_cross_44 : decode cX3_cross 44 = .ok (.getfield 20, 3) := by decide +kernel
theorem dX3_cross_47 : decode cX3_cross 47 = .ok (.getfield 64, 3) := by decide +kernel
theorem dX3_cross_50 : decode cX3_cross 50 = .ok (.aload_n 0, 1) := by decide +kernel
theorem dX3_cross_51 : decode cX3_cross 51 = .ok (.getfield 61, 3) := by decide +kernel
theorem dX3_cross_54 : decode cX3_cross 54 = .ok (.iaload, 1) := by decide +kernel
theorem dX3_cross_55 : decode cX3_cross 55 = .ok (.iload_n 1, 1) := by decide +kernel
theorem dX3_cross_56 : decode cX3_cross 56 = .ok (.iadd, 1) := by decide +kernel
theorem dX3_cross_57 : decode cX3_cross 57 = .ok (.if_icmp .lt 16, 3) := by decide +kernel
theorem dX3_cross_60 : decode cX3_cross 60 = .ok (.aload_n 0, 1) := by decide +kernel
theorem dX3_cross_61 : decode cX3_cross 61 = .ok (.dup, 1) := by decide +kernel
theorem dX3_cross_62 : decode cX3_cross 62 = .ok (.getfield 61, 3) := by decide +kernel
theorem dX3_cross_65 : decode cX3_cross 65 = .ok (.iconst 1, 1) := by decide +kernel
theorem dX3_cross_66 : decode cX3_cross 66 = .ok (.iadd, 1) := by decide +kernel
theorem dX3_cross_67 : decode cX3_cross 67 = .ok (.putfield 61, 3) := by decide +kernel
theorem dX3_cross_70 : decode cX3_cross 70 = .ok (.goto (-47), 3) := by decide +kernel
theorem dX3_cross_73 : decode cX3_cross 73 = .ok (.aload_n 0, 1) := by decide +kernel
theorem dX3_cross_74 : decode cX3_cross 74 = .ok (.aload_n 0, 1) := by decide +kernel
theorem dX3_cross_75 : decode cX3_cross 75 = .ok (.getfield 14, 3) := by decide +kernel
theorem dX3_cross_78 : decode cX3_cross 78 = .ok (.iconst 0, 1) := by decide +kernel
theorem dX3_cross_79 : decode cX3_cross 79 = .ok (.aload_n 0, 1) := by decide +kernel
theorem dX3_cross_80 : decode cX3_cross 80 = .ok (.getfield 61, 3) := by decide +kernel
theorem dX3_cross_83 : decode cX3_cross 83 = .ok (.invokevirtual 65, 3) := by decide +kernel
theorem dX3_cross_86 : decode cX3_cross 86 = .ok (.aload_n 0, 1) := by decide +kernel
theorem dX3_cross_87 : decode cX3_cross 87 = .ok (.getfield 20, 3) := by decide +kernel
theorem dX3_cross_90 : decode cX3_cross 90 = .ok (.iconst 0, 1) := by decide +kernel
theorem dX3_cross_91 : decode cX3_cross 91 = .ok (.aload_n 0, 1) := by decide +kernel
theorem dX3_cross_92 : decode cX3_cross 92 = .ok (.getfield 61, 3) := by decide +kernel
theorem dX3_cross_95 : decode cX3_cross 95 = .ok (.invokevirtual 65, 3) := by decide +kernel
theorem dX3_cross_98 : decode cX3_cross 98 = .ok (.isub, 1) := by decide +kernel
theorem dX3_cross_99 : decode cX3_cross 99 = .ok (.putfield 68, 3) := by decide +kernel
theorem dX3_cross_102 : decode cX3_cross 102 = .ok (.aload_n 0, 1) := by decide +kernel
theorem dX3_cross_103 : decode cX3_cross 103 = .ok (.bipush (-4), 2) := by decide +kernel
theorem dX3_cross_105 : decode cX3_cross 105 = .ok (.putfield 71, 3) := by decide +kernel
theorem dX3_cross_108 : decode cX3_cross 108 = .ok (.aload_n 0, 1) := by decide +kernel
theorem dX3_cross_109 : decode cX3_cross 109 = .ok (.bipush (-4), 2) := by decide +kernel
theorem dX3_cross_111 : decode cX3_cross 111 = .ok (.putfield 74, 3) := by decide +kernel
theorem dX3_cross_114 : decode cX3_cross 114 = .ok (.aload_n 0, 1) := by decide +kernel
theorem dX3_cross_115 : decode cX3_cross 115 = .ok (.getfield 61, 3) := by decide +kernel
theorem dX3_cross_118 : decode cX3_cross 118 = .ok (.ifCond .le 8, 3) := by decide +kernel
theorem dX3_cross_121 : decode cX3_cross 121 = .ok (.aload_n 0, 1) := by decide +kernel
theorem dX3_cross_122 : decode cX3_cross 122 = .ok (.iload_n 1, 1) := by decide +kernel
theorem dX3_cross_123 : decode cX3_cross 123 = .ok (.invokevirtual 77, 3) := by decide +kernel
theorem dX3_cross_126 : decode cX3_cross 126 = .ok (.return_, 1) := by decide +kernel
theorem dX3_price_0 : decode cX3_price 0 = .ok (.aload_n 0, 1) := by decide +kernel
theorem dX3_price_1 : decode cX3_price 1 = .ok (.aload_n 0, 1) := by decide +kernel
theorem dX3_price_2 : decode cX3_price 2 = .ok (.getfield 20, 3) := by decide +kernel
theorem dX3_price_5 : decode cX3_price 5 = .ok (.getfield 64, 3) := by decide +kernel
theorem dX3_price_8 : decode cX3_price 8 = .ok (.aload_n 0, 1) := by decide +kernel
theorem dX3_price_9 : decode cX3_price 9 = .ok (.getfield 61, 3) := by decide +kernel
theorem dX3_price_12 : decode cX3_price 12 = .ok (.iconst 1, 1) := by decide +kernel
theorem dX3_price_13 : decode cX3_price 13 = .ok (.isub, 1) := by decide +kernel
theorem dX3_price_14 : decode cX3_price 14 = .ok (.iaload, 1) := by decide +kernel
theorem dX3_price_15 : decode cX3_price 15 = .ok (.iload_n 1, 1) := by decide +kernel
theorem dX3_price_16 : decode cX3_price 16 = .ok (.iadd, 1) := by decide +kernel
theorem dX3_price_17 : decode cX3_price 17 = .ok (.putfield 71, 3) := by decide +kernel
theorem dX3_price_20 : decode cX3_price 20 = .ok (.aload_n 0, 1) := by decide +kernel
theorem dX3_price_21 : decode cX3_price 21 = .ok (.aload_n 0, 1) := by decide +kernel
theorem dX3_price_22 : decode cX3_price 22 = .ok (.getfield 14, 3) := by decide +kernel
theorem dX3_price_25 : decode cX3_price 25 = .ok (.getfield 64, 3) := by decide +kernel
theorem dX3_price_28 : decode cX3_price 28 = .ok (.aload_n 0, 1) := by decide +kernel
theorem dX3_price_29 : decode cX3_price 29 = .ok (.getfield 61, 3) := by decide +kernel
theorem dX3_price_32 : decode cX3_price 32 = .ok (.iconst 1, 1) := by decide +kernel
theorem dX3_price_33 : decode cX3_price 33 = .ok (.isub, 1) := by decide +kernel
theorem dX3_price_34 : decode cX3_price 34 = .ok (.iaload, 1) := by decide +kernel
theorem dX3_price_35 : decode cX3_price 35 = .ok (.putfield 74, 3) := by decide +kernel
theorem dX3_price_38 : decode cX3_price 38 = .ok (.aload_n 0, 1) := by decide +kernel
theorem dX3_price_39 : decode cX3_price 39 = .ok (.getfield 61, 3) := by decide +kernel
theorem dX3_price_42 : decode cX3_price 42 = .ok (.aload_n 0, 1) := by decide +kernel
theorem dX3_price_43 : decode cX3_price 43 = .ok (.getfield 14, 3) := by decide +kernel
theorem dX3_price_46 : decode cX3_price 46 = .ok (.getfield 23, 3) := by decide +kernel
theorem dX3_price_49 : decode cX3_price 49 = .ok (.if_icmp .ge 26, 3) := by decide +kernel
theorem dX3_price_52 : decode cX3_price 52 = .ok (.aload_n 0, 1) := by decide +kernel
theorem dX3_price_53 : decode cX3_price 53 = .ok (.aload_n 0, 1) := by decide +kernel
theorem dX3_price_54 : decode cX3_price 54 = .ok (.getfield 71, 3) := by decide +kernel
theorem dX3_price_57 : decode cX3_price 57 = .ok (.aload_n 0, 1) := by decide +kernel
theorem dX3_price_58 : decode cX3_price 58 = .ok (.getfield 14, 3) := by decide +kernel
theorem dX3_price_61 : decode cX3_price 61 = .ok (.getfield 64, 3) := by decide +kernel
theorem dX3_price_64 : decode cX3_price 64 = .ok (.aload_n 0, 1) := by decide +kernel
theorem dX3_price_65 : decode cX3_price 65 = .ok (.getfield 61, 3) := by decide +kernel
theorem dX3_price_68 : decode cX3_price 68 = .ok (.iaload, 1) := by decide +kernel
theorem dX3_price_69 : decode cX3_price 69 = .ok (.invokestatic 80, 3) := by decide +kernel
theorem dX3_price_72 : decode cX3_price 72 = .ok (.putfield 71, 3) := by decide +kernel
theorem dX3_price_75 : decode cX3_price 75 = .ok (.aload_n 0, 1) := by decide +kernel
theorem dX3_price_76 : decode cX3_price 76 = .ok (.getfield 61, 3) := by decide +kernel
theorem dX3_price_79 : decode cX3_price 79 = .ok (.aload_n 0, 1) := by decide +kernel
theorem dX3_price_80 : decode cX3_price 80 = .ok (.getfield 20, 3) := by decide +kernel
theorem dX3_price_83 : decode cX3_price 83 = .ok (.getfield 23, 3) := by decide +kernel
theorem dX3_price_86 : decode cX3_price 86 = .ok (.if_icmp .ge 28, 3) := by decide +kernel
theorem dX3_price_89 : decode cX3_price 89 = .ok (.aload_n 0, 1) := by decide +kernel
theorem dX3_price_90 : decode cX3_price 90 = .ok (.aload_n 0, 1) := by decide +kernel
theorem dX3_price_91 : decode cX3_price 91 = .ok (.getfield 74, 3) := by decide +kernel
theorem dX3_price_94 : decode cX3_price 94 = .ok (.aload_n 0, 1) := by decide +kernel
theorem dX3_price_95 : decode cX3_price 95 = .ok (.getfield 20, 3) := by decide +kernel
theorem dX3_price_98 : decode cX3_price 98 = .ok (.getfield 64, 3) := by decide +kernel
theorem dX3_price_101 : decode cX3_price 101 = .ok (.aload_n 0, 1) := by decide +kernel
theorem dX3_price_102 : decode cX3_price 102 = .ok (.getfield 61, 3) := by decide +kernel
theorem dX3_price_105 : decode cX3_price 105 = .ok (.iaload, 1) := by decide +kernel
theorem dX3_price_106 : decode cX3_price 106 = .ok (.iload_n 1, 1) := by decide +kernel
theorem dX3_price_107 : decode cX3_price 107 = .ok (.iadd, 1) := by decide +kernel
theorem dX3_price_108 : decode cX3_price 108 = .ok (.invokestatic 55, 3) := by decide +kernel
theorem dX3_price_111 : decode cX3_price 111 = .ok (.putfield 74, 3) := by decide +kernel
theorem dX3_price_114 : decode cX3_price 114 = .ok (.return_, 1) := by decide +kernel
theorem dX3_trades_0 : decode cX3_trades 0 = .ok (.iload_n 1, 1) := by decide +kernel
theorem dX3_trades_1 : decode cX3_trades 1 = .ok (.ifCond .eq 18, 3) := by decide +kernel
theorem dX3_trades_4 : decode cX3_trades 4 = .ok (.aload_n 0, 1) := by decide +kernel
theorem dX3_trades_5 : decode cX3_trades 5 = .ok (.getfield 20, 3) := by decide +kernel
theorem dX3_trades_8 : decode cX3_trades 8 = .ok (.iload_n 2, 1) := by decide +kernel
theorem dX3_trades_9 : decode cX3_trades 9 = .ok (.aload_n 0, 1) := by decide +kernel
theorem dX3_trades_10 : decode cX3_trades 10 = .ok (.getfield 61, 3) := by decide +kernel
theorem dX3_trades_13 : decode cX3_trades 13 = .ok (.invokevirtual 83, 3) := by decide +kernel
theorem dX3_trades_16 : decode cX3_trades 16 = .ok (.goto 15, 3) := by decide +kernel
theorem dX3_trades_19 : decode cX3_trades 19 = .ok (.aload_n 0, 1) := by decide +kernel
theorem dX3_trades_20 : decode cX3_trades 20 = .ok (.getfield 14, 3) := by decide +kernel
theorem dX3_trades_23 : decode cX3_trades 23 = .ok (.iload_n 2, 1) := by decide +kernel
theorem dX3_trades_24 : decode cX3_trades 24 = .ok (.aload_n 0, 1) := by decide +kernel
theorem dX3_trades_25 : decode cX3_trades 25 = .ok (.getfield 61, 3) := by decide +kernel
theorem dX3_trades_28 : decode cX3_trades 28 = .ok (.invokevirtual 83, 3) := by decide +kernel
theorem dX3_trades_31 : decode cX3_trades 31 = .ok (.ireturn, 1) := by decide +kernel
theorem dX4_init_0 : decode cX4_init 0 = .ok (.aload_n 0, 1) := by decide +kernel
theorem dX4_init_1 : decode cX4_init 1 = .ok (.invokespecial 3, 3) := by decide +kernel
theorem dX4_init_4 : decode cX4_init 4 = .ok (.aload_n 0, 1) := by decide +kernel
theorem dX4_init_5 : decode cX4_init 5 = .ok (.sipush 200, 3) := by decide +kernel
theorem dX4_init_8 : decode cX4_init 8 = .ok (.newarray .int, 2) := by decide +kernel
theorem dX4_init_10 : decode cX4_init 10 = .ok (.putfield 9, 3) := by decide +kernel
theorem dX4_init_13 : decode cX4_init 13 = .ok (.aload_n 0, 1) := by decide +kernel
theorem dX4_init_14 : decode cX4_init 14 = .ok (.sipush 200, 3) := by decide +kernel
theorem dX4_init_17 : decode cX4_init 17 = .ok (.newarray .int, 2) := by decide +kernel
theorem dX4_init_19 : decode cX4_init 19 = .ok (.putfield 15, 3) := by decide +kernel
theorem dX4_init_22 : decode cX4_init 22 = .ok (.aload_n 0, 1) := by decide +kernel
theorem dX4_init_23 : decode cX4_init 23 = .ok (.sipush 200, 3) := by decide +kernel
theorem dX4_init_26 : decode cX4_init 26 = .ok (.newarray .int, 2) := by decide +kernel
theorem dX4_init_28 : decode cX4_init 28 = .ok (.putfield 18, 3) := by decide +kernel
theorem dX4_init_31 : decode cX4_init 31 = .ok (.aload_n 0, 1) := by decide +kernel
theorem dX4_init_32 : decode cX4_init 32 = .ok (.sipush 200, 3) := by decide +kernel
theorem dX4_init_35 : decode cX4_init 35 = .ok (.newarray .int, 2) := by decide +kernel
theorem dX4_init_37 : decode cX4_init 37 = .ok (.putfield 21, 3) := by decide +kernel
theorem dX4_init_40 : decode cX4_init 40 = .ok (.aload_n 0, 1) := by decide +kernel
theorem dX4_init_41 : decode cX4_init 41 = .ok (.iconst 0, 1) := by decide +kernel
theorem dX4_init_42 : decode cX4_init 42 = .ok (.putfield 24, 3) := by decide +kernel
theorem dX4_init_45 : decode cX4_init 45 = .ok (.return_, 1) := by decide +kernel
theorem dX4_add_0 : decode cX4_add 0 = .ok (.aload_n 0, 1) := by decide +kernel
theorem dX4_add_1 : decode cX4_add 1 = .ok (.getfield 24, 3) := by decide +kernel
theorem dX4_add_4 : decode cX4_add 4 = .ok (.sipush 200, 3) := by decide +kernel
theorem dX4_add_7 : decode cX4_add 7 = .ok (.if_icmp .ge 54, 3) := by decide +kernel
theorem dX4_add_10 : decode cX4_add 10 = .ok (.aload_n 0, 1) := by decide +kernel
theorem dX4_add_11 : decode cX4_add 11 = .ok (.getfield 9, 3) := by decide +kernel
theorem dX4_add_14 : decode cX4_add 14 = .ok (.aload_n 0, 1) := by decide +kernel
theorem dX4_add_15 : decode cX4_add 15 = .ok (.getfield 24, 3) := by decide +kernel
theorem dX4_add_18 : decode cX4_add 18 = .ok (.iload_n 1, 1) := by decide +kernel
theorem dX4_add_19 : decode cX4_add 19 = .ok (.iastore, 1) := by decide +kernel
theorem dX4_add_20 : decode cX4_add 20 = .ok (.aload_n 0, 1) := by decide +kernel
theorem dX4_add_21 : decode cX4_add 21 = .ok (.getfield 15, 3) := by decide +kernel
theorem dX4_add_24 : decode cX4_add 24 = .ok (.aload_n 0, 1) := by decide +kernel
theorem dX4_add_25 : decode cX4_add 25 = .ok (.getfield 24, 3) := by decide +kernel
theorem dX4_add_28 : decode cX4_add 28 = .ok (.iload_n 2, 1) := by decide +kernel
theorem dX4_add_29 : decode cX4_add 29 = .ok (.iastore, 1) := by decide +kernel
theorem dX4_add_30 : decode cX4_add 30 = .ok (.aload_n 0, 1) := by decide +kernel
theorem dX4_add_31 : decode cX4_add 31 = .ok (.getfield 18, 3) := by decide +kernel
theorem dX4_add_34 : decode cX4_add 34 = .ok (.aload_n 0, 1) := by decide +kernel
theorem dX4_add_35 : decode cX4_add 35 = .ok (.getfield 24, 3) := by decide +kernel
theorem dX4_add_38 : decode cX4_add 38 = .ok (.iload_n 3, 1) := by decide +kernel
theorem dX4_add_39 : decode cX4_add 39 = .ok (.iastore, 1) := by decide +kernel
theorem dX4_add_40 : decode cX4_add 40 = .ok (.aload_n 0, 1) := by decide +kernel
theorem dX4_add_41 : decode cX4_add 41 = .ok (.getfield 21, 3) := by decide +kernel
theorem dX4_add_44 : decode cX4_add 44 = .ok (.aload_n 0, 1) := by decide +kernel
theorem dX4_add_45 : decode cX4_add 45 = .ok (.getfield 24, 3) := by decide +kernel
theorem dX4_add_48 : decode cX4_add 48 = .ok (.iload 4, 2) := by decide +kernel
theorem dX4_add_50 : decode cX4_add 50 = .ok (.iastore, 1) := by decide +kernel
theorem dX4_add_51 : decode cX4_add 51 = .ok (.aload_n 0, 1) := by decide +kernel
theorem dX4_add_52 : decode cX4_add 52 = .ok (.dup, 1) := by decide +kernel
theorem dX4_add_53 : decode cX4_add 53 = .ok (.getfield 24, 3) := by decide +kernel
theorem dX4_add_56 : decode cX4_add 56 = .ok (.iconst 1, 1) := by decide +kernel
theorem dX4_add_57 : decode cX4_add 57 = .ok (.iadd, 1) := by decide +kernel
theorem dX4_add_58 : decode cX4_add 58 = .ok (.putfield 24, 3) := by decide +kernel
theorem dX4_add_61 : decode cX4_add 61 = .ok (.return_, 1) := by decide +kernel
theorem dX4_copy_0 : decode cX4_copy 0 = .ok (.aload_n 1, 1) := by decide +kernel
theorem dX4_copy_1 : decode cX4_copy 1 = .ok (.getfield 9, 3) := by decide +kernel
theorem dX4_copy_4 : decode cX4_copy 4 = .ok (.iconst 0, 1) := by decide +kernel
theorem dX4_copy_5 : decode cX4_copy 5 = .ok (.aload_n 0, 1) := by decide +kernel
theorem dX4_copy_6 : decode cX4_copy 6 = .ok (.getfield 9, 3) := by decide +kernel
theorem dX4_copy_9 : decode cX4_copy 9 = .ok (.iconst 0, 1) := by decide +kernel
theorem dX4_copy_10 : decode cX4_copy 10 = .ok (.aload_n 1, 1) := by decide +kernel
theorem dX4_copy_11 : decode cX4_copy 11 = .ok (.getfield 24, 3) := by decide +kernel
theorem dX4_copy_14 : decode cX4_copy 14 = .ok (.invokestatic 28, 3) := by decide +kernel
theorem dX4_copy_17 : decode cX4_copy 17 = .ok (.aload_n 1, 1) := by decide +kernel
theorem dX4_copy_18 : decode cX4_copy 18 = .ok (.getfield 15, 3) := by decide +kernel
theorem dX4_copy_21 : decode cX4_copy 21 = .ok (.iconst 0, 1) := by decide +kernel
theorem dX4_copy_22 : decode cX4_copy 22 = .ok (.aload_n 0, 1) := by decide +kernel
theorem dX4_copy_23 : decode cX4_copy 23 = .ok (.getfield 15, 3) := by decide +kernel
theorem dX4_copy_26 : decode cX4_copy 26 = .ok (.iconst 0, 1) := by decide +kernel
theorem dX4_copy_27 : decode cX4_copy 27 = .ok (.aload_n 1, 1) := by decide +kernel
theorem dX4_copy_28 : decode cX4_copy 28 = .ok (.getfield 24, 3) := by decide +kernel
theorem dX4_copy_31 : decode cX4_copy 31 = .ok (.invokestatic 28, 3) := by decide +kernel
theorem dX4_copy_34 : decode cX4_copy 34 = .ok (.aload_n 1, 1) := by decide +kernel
theorem dX4_copy_35 : decode cX4_copy 35 = .ok (.getfield 18, 3) := by decide +kernel
theorem dX4_copy_38 : decode cX4_copy 38 = .ok (.iconst 0, 1) := by decide +kernel
theorem dX4_copy_39 : decode cX4_copy 39 = .ok (.aload_n 0, 1) := by decide +kernel
theorem dX4_copy_40 : decode cX4_copy 40 = .ok (.getfield 18, 3) := by decide +kernel
theorem dX4_copy_43 : decode cX4_copy 43 = .ok (.iconst 0, 1) := by decide +kernel
theorem dX4_copy_44 : decode cX4_copy 44 = .ok (.aload_n 1, 1) := by decide +kernel
theorem dX4_copy_45 : decode cX4_copy 45 = .ok (.getfield 24, 3) := by decide +kernel
theorem dX4_copy_48 : decode cX4_copy 48 = .ok (.invokestatic 28, 3) := by decide +kernel
theorem dX4_copy_51 : decode cX4_copy 51 = .ok (.aload_n 1, 1) := by decide +kernel
theorem dX4_copy_52 : decode cX4_copy 52 = .ok (.getfield 21, 3) := by decide +kernel
theorem dX4_copy_55 : decode cX4_copy 55 = .ok (.iconst 0, 1) := by decide +kernel
theorem dX4_copy_56 : decode cX4_copy 56 = .ok (.aload_n 0, 1) := by decide +kernel
theorem dX4_copy_57 : decode cX4_copy 57 = .ok (.getfield 21, 3) := by decide +kernel
theorem dX4_copy_60 : decode cX4_copy 60 = .ok (.iconst 0, 1) := by decide +kernel
theorem dX4_copy_61 : decode cX4_copy 61 = .ok (.aload_n 1, 1) := by decide +kernel
theorem dX4_copy_62 : decode cX4_copy 62 = .ok (.getfield 24, 3) := by decide +kernel
theorem dX4_copy_65 : decode cX4_copy 65 = .ok (.invokestatic 28, 3) := by decide +kernel
theorem dX4_copy_68 : decode cX4_copy 68 = .ok (.aload_n 0, 1) := by decide +kernel
theorem dX4_copy_69 : decode cX4_copy 69 = .ok (.aload_n 1, 1) := by decide +kernel
theorem dX4_copy_70 : decode cX4_copy 70 = .ok (.getfield 24, 3) := by decide +kernel
theorem dX4_copy_73 : decode cX4_copy 73 = .ok (.putfield 24, 3) := by decide +kernel
theorem dX4_copy_76 : decode cX4_copy 76 = .ok (.return_, 1) := by decide +kernel
theorem dX4_seenOf_0 : decode cX4_seenOf 0 = .ok (.aload_n 1, 1) := by decide +kernel
theorem dX4_seenOf_1 : decode cX4_seenOf 1 = .ok (.getfield 34, 3) := by decide +kernel
theorem dX4_seenOf_4 : decode cX4_seenOf 4 = .ok (.iload_n 2, 1) := by decide +kernel
theorem dX4_seenOf_5 : decode cX4_seenOf 5 = .ok (.baload, 1) := by decide +kernel
theorem dX4_seenOf_6 : decode cX4_seenOf 6 = .ok (.istore_n 3, 1) := by decide +kernel
theorem dX4_seenOf_7 : decode cX4_seenOf 7 = .ok (.iload_n 3, 1) := by decide +kernel
theorem dX4_seenOf_8 : decode cX4_seenOf 8 = .ok (.ifCond .eq 8, 3) := by decide +kernel
theorem dX4_seenOf_11 : decode cX4_seenOf 11 = .ok (.bipush 99, 2) := by decide +kernel
theorem dX4_seenOf_13 : decode cX4_seenOf 13 = .ok (.goto 4, 3) := by decide +kernel
theorem dX4_seenOf_16 : decode cX4_seenOf 16 = .ok (.iconst 0, 1) := by decide +kernel
theorem dX4_seenOf_17 : decode cX4_seenOf 17 = .ok (.istore 4, 2) := by decide +kernel
theorem dX4_seenOf_19 : decode cX4_seenOf 19 = .ok (.iconst 0, 1) := by decide +kernel
theorem dX4_seenOf_20 : decode cX4_seenOf 20 = .ok (.istore 5, 2) := by decide +kernel
theorem dX4_seenOf_22 : decode cX4_seenOf 22 = .ok (.iload 5, 2) := by decide +kernel
theorem dX4_seenOf_24 : decode cX4_seenOf 24 = .ok (.aload_n 0, 1) := by decide +kernel
theorem dX4_seenOf_25 : decode cX4_seenOf 25 = .ok (.getfield 24, 3) := by decide +kernel
theorem dX4_seenOf_28 : decode cX4_seenOf 28 = .ok (.if_icmp .ge 53, 3) := by decide +kernel
theorem dX4_seenOf_31 : decode cX4_seenOf 31 = .ok (.aload_n 0, 1) := by decide +kernel
theorem dX4_seenOf_32 : decode cX4_seenOf 32 = .ok (.getfield 9, 3) := by decide +kernel
theorem dX4_seenOf_35 : decode cX4_seenOf 35 = .ok (.iload 5, 2) := by decide +kernel
theorem dX4_seenOf_37 : decode cX4_seenOf 37 = .ok (.iaload, 1) := by decide +kernel
theorem dX4_seenOf_38 : decode cX4_seenOf 38 = .ok (.iload_n 2, 1) := by decide +kernel
theorem dX4_seenOf_39 : decode cX4_seenOf 39 = .ok (.if_icmp .ne 36, 3) := by decide +kernel
theorem dX4_seenOf_42 : decode cX4_seenOf 42 = .ok (.iload_n 3, 1) := by decide +kernel
theorem dX4_seenOf_43 : decode cX4_seenOf 43 = .ok (.ifCond .eq 18, 3) := by decide +kernel
theorem dX4_seenOf_46 : decode cX4_seenOf 46 = .ok (.iload 4, 2) := by decide +kernel
theorem dX4_seenOf_48 : decode cX4_seenOf 48 = .ok (.aload_n 0, 1) := by decide +kernel
theorem dX4_seenOf_49 : decode cX4_seenOf 49 = .ok (.getfield 15, 3) := by decide +kernel
theorem dX4_seenOf_52 : decode cX4_seenOf 52 = .ok (.iload 5, 2) := by decide +kernel
theorem dX4_seenOf_54 : decode cX4_seenOf 54 = .ok (.iaload, 1) := by decide +kernel
theorem dX4_seenOf_55 : decode cX4_seenOf 55 = .ok (.invokestatic 40, 3) := by decide +kernel
theorem dX4_seenOf_58 : decode cX4_seenOf 58 = .ok (.goto 15, 3) := by decide +kernel
theorem dX4_seenOf_61 : decode cX4_seenOf 61 = .ok (.iload 4, 2) := by decide +kernel
theorem dX4_seenOf_63 : decode cX4_seenOf 63 = .ok (.aload_n 0, 1) := by decide +kernel
theorem dX4_seenOf_64 : decode cX4_seenOf 64 = .ok (.getfield 15, 3) := by decide +kernel
theorem dX4_seenOf_67 : decode cX4_seenOf 67 = .ok (.iload 5, 2) := by decide +kernel
theorem dX4_seenOf_69 : decode cX4_seenOf 69 = .ok (.iaload, 1) := by decide +kernel
theorem dX4_seenOf_70 : decode cX4_seenOf 70 = .ok (.invokestatic 46, 3) := by decide +kernel
theorem dX4_seenOf_73 : decode cX4_seenOf 73 = .ok (.istore 4, 2) := by decide +kernel
theorem dX4_seenOf_75 : decode cX4_seenOf 75 = .ok (.iinc 5 1, 3) := by decide +kernel
theorem dX4_seenOf_78 : decode cX4_seenOf 78 = .ok (.goto (-56), 3) := by decide +kernel
theorem dX4_seenOf_81 : decode cX4_seenOf 81 = .ok (.iload 4, 2) := by decide +kernel
theorem dX4_seenOf_83 : decode cX4_seenOf 83 = .ok (.ireturn, 1) := by decide +kernel
theorem dX4_mayBeBy_0 : decode cX4_mayBeBy 0 = .ok (.iconst 0, 1) := by decide +kernel
theorem dX4_mayBeBy_1 : decode cX4_mayBeBy 1 = .ok (.istore 4, 2) := by decide +kernel
theorem dX4_mayBeBy_3 : decode cX4_mayBeBy 3 = .ok (.iload 4, 2) := by decide +kernel
theorem dX4_mayBeBy_5 : decode cX4_mayBeBy 5 = .ok (.aload_n 0, 1) := by decide +kernel
theorem dX4_mayBeBy_6 : decode cX4_mayBeBy 6 = .ok (.getfield 24, 3) := by decide +kernel
theorem dX4_mayBeBy_9 : decode cX4_mayBeBy 9 = .ok (.if_icmp .ge 116, 3) := by decide +kernel
theorem dX4_mayBeBy_12 : decode cX4_mayBeBy 12 = .ok (.aload_n 0, 1) := by decide +kernel
theorem dX4_mayBeBy_13 : decode cX4_mayBeBy 13 = .ok (.getfield 9, 3) := by decide +kernel
theorem dX4_mayBeBy_16 : decode cX4_mayBeBy 16 = .ok (.iload 4, 2) := by decide +kernel
theorem dX4_mayBeBy_18 : decode cX4_mayBeBy 18 = .ok (.iaload, 1) := by decide +kernel
theorem dX4_mayBeBy_19 : decode cX4_mayBeBy 19 = .ok (.iload_n 2, 1) := by decide +kernel
theorem dX4_mayBeBy_20 : decode cX4_mayBeBy 20 = .ok (.if_icmp .eq 6, 3) := by decide +kernel
theorem dX4_mayBeBy_23 : decode cX4_mayBeBy 23 = .ok (.goto 96, 3) := by decide +kernel
theorem dX4_mayBeBy_26 : decode cX4_mayBeBy 26 = .ok (.aload_n 1, 1) := by decide +kernel
theorem dX4_mayBeBy_27 : decode cX4_mayBeBy 27 = .ok (.iload_n 2, 1) := by decide +kernel
theorem dX4_mayBeBy_28 : decode cX4_mayBeBy 28 = .ok (.iload_n 3, 1) := by decide +kernel
theorem dX4_mayBeBy_29 : decode cX4_mayBeBy 29 = .ok (.aload_n 0, 1) := by decide +kernel
theorem dX4_mayBeBy_30 : decode cX4_mayBeBy 30 = .ok (.getfield 21, 3) := by decide +kernel
theorem dX4_mayBeBy_33 : decode cX4_mayBeBy 33 = .ok (.iload 4, 2) := by decide +kernel
theorem dX4_mayBeBy_35 : decode cX4_mayBeBy 35 = .ok (.iaload, 1) := by decide +kernel
theorem dX4_mayBeBy_36 : decode cX4_mayBeBy 36 = .ok (.invokestatic 49, 3) := by decide +kernel
theorem dX4_mayBeBy_39 : decode cX4_mayBeBy 39 = .ok (.iconst 1, 1) := by decide +kernel
theorem dX4_mayBeBy_40 : decode cX4_mayBeBy 40 = .ok (.isub, 1) := by decide +kernel
theorem dX4_mayBeBy_41 : decode cX4_mayBeBy 41 = .ok (.istore 5, 2) := by decide +kernel
theorem dX4_mayBeBy_43 : decode cX4_mayBeBy 43 = .ok (.aload_n 1, 1) := by decide +kernel
theorem dX4_mayBeBy_44 : decode cX4_mayBeBy 44 = .ok (.iload_n 2, 1) := by decide +kernel
theorem dX4_mayBeBy_45 : decode cX4_mayBeBy 45 = .ok (.iload_n 3, 1) := by decide +kernel
theorem dX4_mayBeBy_46 : decode cX4_mayBeBy 46 = .ok (.aload_n 0, 1) := by decide +kernel
theorem dX4_mayBeBy_47 : decode cX4_mayBeBy 47 = .ok (.getfield 18, 3) := by decide +kernel
theorem dX4_mayBeBy_50 : decode cX4_mayBeBy 50 = .ok (.iload 4, 2) := by decide +kernel
theorem dX4_mayBeBy_52 : decode cX4_mayBeBy 52 = .ok (.iaload, 1) := by decide +kernel
theorem dX4_mayBeBy_53 : decode cX4_mayBeBy 53 = .ok (.aload_n 0, 1) := by decide +kernel
theorem dX4_mayBeBy_54 : decode cX4_mayBeBy 54 = .ok (.getfield 21, 3) := by decide +kernel
theorem dX4_mayBeBy_57 : decode cX4_mayBeBy 57 = .ok (.iload 4, 2) := by decide +kernel
theorem dX4_mayBeBy_59 : decode cX4_mayBeBy 59 = .ok (.iaload, 1) := by decide +kernel
theorem dX4_mayBeBy_60 : decode cX4_mayBeBy 60 = .ok (.iconst 0, 1) := by decide +kernel
theorem dX4_mayBeBy_61 : decode cX4_mayBeBy 61 = .ok (.invokestatic 55, 3) := by decide +kernel
theorem dX4_mayBeBy_64 : decode cX4_mayBeBy 64 = .ok (.istore 6, 2) := by decide +kernel
theorem dX4_mayBeBy_66 : decode cX4_mayBeBy 66 = .ok (.aload_n 1, 1) := by decide +kernel
theorem dX4_mayBeBy_67 : decode cX4_mayBeBy 67 = .ok (.iload_n 2, 1) := by decide +kernel
theorem dX4_mayBeBy_68 : decode cX4_mayBeBy 68 = .ok (.iload_n 3, 1) := by decide +kernel
theorem dX4_mayBeBy_69 : decode cX4_mayBeBy 69 = .ok (.aload_n 0, 1) := by decide +kernel
theorem dX4_mayBeBy_70 : decode cX4_mayBeBy 70 = .ok (.getfield 18, 3) := by decide +kernel
theorem dX4_mayBeBy_73 : decode cX4_mayBeBy 73 = .ok (.iload 4, 2) := by decide +kernel
theorem dX4_mayBeBy_75 : decode cX4_mayBeBy 75 = .ok (.iaload, 1) := by decide +kernel
theorem dX4_mayBeBy_76 : decode cX4_mayBeBy 76 = .ok (.aload_n 0, 1) := by decide +kernel
theorem dX4_mayBeBy_77 : decode cX4_mayBeBy 77 = .ok (.getfield 21, 3) := by decide +kernel
theorem dX4_mayBeBy_80 : decode cX4_mayBeBy 80 = .ok (.iload 4, 2) := by decide +kernel
theorem dX4_mayBeBy_82 : decode cX4_mayBeBy 82 = .ok (.iaload, 1) := by decide +kernel
theorem dX4_mayBeBy_83 : decode cX4_mayBeBy 83 = .ok (.iload 5, 2) := by decide +kernel
theorem dX4_mayBeBy_85 : decode cX4_mayBeBy 85 = .ok (.invokestatic 55, 3) := by decide +kernel
theorem dX4_mayBeBy_88 : decode cX4_mayBeBy 88 = .ok (.istore 7, 2) := by decide +kernel
theorem dX4_mayBeBy_90 : decode cX4_mayBeBy 90 = .ok (.aload_n 0, 1) := by decide +kernel
theorem dX4_mayBeBy_91 : decode cX4_mayBeBy 91 = .ok (.getfield 15, 3) := by decide +kernel
theorem dX4_mayBeBy_94 : decode cX4_mayBeBy 94 = .ok (.iload 4, 2) := by decide +kernel
theorem dX4_mayBeBy_96 : decode cX4_mayBeBy 96 = .ok (.iaload, 1) := by decide +kernel
theorem dX4_mayBeBy_97 : decode cX4_mayBeBy 97 = .ok (.aload_n 1, 1) := by decide +kernel
theorem dX4_mayBeBy_98 : decode cX4_mayBeBy 98 = .ok (.iload_n 2, 1) := by decide +kernel
theorem dX4_mayBeBy_99 : decode cX4_mayBeBy 99 = .ok (.iload 6, 2) := by decide +kernel
theorem dX4_mayBeBy_101 : decode cX4_mayBeBy 101 = .ok (.invokestatic 59, 3) := by decide +kernel
theorem dX4_mayBeBy_104 : decode cX4_mayBeBy 104 = .ok (.aload_n 1, 1) := by decide +kernel
theorem dX4_mayBeBy_105 : decode cX4_mayBeBy 105 = .ok (.iload_n 2, 1) := by decide +kernel
theorem dX4_mayBeBy_106 : decode cX4_mayBeBy 106 = .ok (.iload 7, 2) := by decide +kernel
theorem dX4_mayBeBy_108 : decode cX4_mayBeBy 108 = .ok (.invokestatic 59, 3) := by decide +kernel
theorem dX4_mayBeBy_111 : decode cX4_mayBeBy 111 = .ok (.invokestatic 63, 3) := by decide +kernel
theorem dX4_mayBeBy_114 : decode cX4_mayBeBy 114 = .ok (.ifCond .ne 5, 3) := by decide +kernel
theorem dX4_mayBeBy_117 : decode cX4_mayBeBy 117 = .ok (.iconst 0, 1) := by decide +kernel
theorem dX4_mayBeBy_118 : decode cX4_mayBeBy 118 = .ok (.ireturn, 1) := by decide +kernel
theorem dX4_mayBeBy_119 : decode cX4_mayBeBy 119 = .ok (.iinc 4 1, 3) := by decide +kernel
theorem dX4_mayBeBy_122 : decode cX4_mayBeBy 122 = .ok (.goto (-119), 3) := by decide +kernel
theorem dX4_mayBeBy_125 : decode cX4_mayBeBy 125 = .ok (.iconst 1, 1) := by decide +kernel
theorem dX4_mayBeBy_126 : decode cX4_mayBeBy 126 = .ok (.ireturn, 1) := by decide +kernel
theorem dX5_init_0 : decode cX5_init 0 = .ok (.aload_n 0, 1) := by decide +kernel
theorem dX5_init_1 : decode cX5_init 1 = .ok (.invokespecial 3, 3) := by decide +kernel
theorem dX5_init_4 : decode cX5_init 4 = .ok (.aload_n 0, 1) := by decide +kernel
theorem dX5_init_5 : decode cX5_init 5 = .ok (.iconst 2, 1) := by decide +kernel
theorem dX5_init_6 : decode cX5_init 6 = .ok (.newarray .int, 2) := by decide +kernel
theorem dX5_init_8 : decode cX5_init 8 = .ok (.putfield 11, 3) := by decide +kernel
theorem dX5_init_11 : decode cX5_init 11 = .ok (.aload_n 0, 1) := by decide +kernel
theorem dX5_init_12 : decode cX5_init 12 = .ok (.iconst 0, 1) := by decide +kernel
theorem dX5_init_13 : decode cX5_init 13 = .ok (.putfield 15, 3) := by decide +kernel
theorem dX5_init_16 : decode cX5_init 16 = .ok (.aload_n 0, 1) := by decide +kernel
theorem dX5_init_17 : decode cX5_init 17 = .ok (.iconst 0, 1) := by decide +kernel
theorem dX5_init_18 : decode cX5_init 18 = .ok (.putfield 19, 3) := by decide +kernel
theorem dX5_init_21 : decode cX5_init 21 = .ok (.return_, 1) := by decide +kernel
theorem dX5_read_0 : decode cX5_read 0 = .ok (.aload_n 2, 1) := by decide +kernel
theorem dX5_read_1 : decode cX5_read 1 = .ok (.invokevirtual 22, 3) := by decide +kernel
theorem dX5_read_4 : decode cX5_read 4 = .ok (.iconst 0, 1) := by decide +kernel
theorem dX5_read_5 : decode cX5_read 5 = .ok (.istore_n 3, 1) := by decide +kernel
theorem dX5_read_6 : decode cX5_read 6 = .ok (.iconst 0, 1) := by decide +kernel
theorem dX5_read_7 : decode cX5_read 7 = .ok (.istore 4, 2) := by decide +kernel
theorem dX5_read_9 : decode cX5_read 9 = .ok (.iload 4, 2) := by decide +kernel
theorem dX5_read_11 : decode cX5_read 11 = .ok (.sipush 300, 3) := by decide +kernel
theorem dX5_read_14 : decode cX5_read 14 = .ok (.if_icmp .ge 47, 3) := by decide +kernel
theorem dX5_read_17 : decode cX5_read 17 = .ok (.iload_n 3, 1) := by decide +kernel
theorem dX5_read_18 : decode cX5_read 18 = .ok (.aload_n 1, 1) := by decide +kernel
theorem dX5_read_19 : decode cX5_read 19 = .ok (.getfield 27, 3) := by decide +kernel
theorem dX5_read_22 : decode cX5_read 22 = .ok (.if_icmp .ge 39, 3) := by decide +kernel
theorem dX5_read_25 : decode cX5_read 25 = .ok (.aload_n 0, 1) := by decide +kernel
theorem dX5_read_26 : decode cX5_read 26 = .ok (.aload_n 1, 1) := by decide +kernel
theorem dX5_read_27 : decode cX5_read 27 = .ok (.iload_n 3, 1) := by decide +kernel
theorem dX5_read_28 : decode cX5_read 28 = .ok (.invokevirtual 32, 3) := by decide +kernel
theorem dX5_read_31 : decode cX5_read 31 = .ok (.ifCond .eq 17, 3) := by decide +kernel
theorem dX5_read_34 : decode cX5_read 34 = .ok (.aload_n 0, 1) := by decide +kernel
theorem dX5_read_35 : decode cX5_read 35 = .ok (.aload_n 1, 1) := by decide +kernel
theorem dX5_read_36 : decode cX5_read 36 = .ok (.getfield 36, 3) := by decide +kernel
theorem dX5_read_39 : decode cX5_read 39 = .ok (.iload_n 3, 1) := by decide +kernel
theorem dX5_read_40 : decode cX5_read 40 = .ok (.iaload, 1) := by decide +kernel
theorem dX5_read_41 : decode cX5_read 41 = .ok (.aload_n 2, 1) := by decide +kernel
theorem dX5_read_42 : decode cX5_read 42 = .ok (.invokevirtual 39, 3) := by decide +kernel
theorem dX5_read_45 : decode cX5_read 45 = .ok (.ifCond .ne 5, 3) := by decide +kernel
theorem dX5_read_48 : decode cX5_read 48 = .ok (.iload_n 3, 1) := by decide +kernel
theorem dX5_read_49 : decode cX5_read 49 = .ok (.ireturn, 1) := by decide +kernel
theorem dX5_read_50 : decode cX5_read 50 = .ok (.aload_n 0, 1) := by decide +kernel
theorem dX5_read_51 : decode cX5_read 51 = .ok (.getfield 19, 3) := by decide +kernel
theorem dX5_read_54 : decode cX5_read 54 = .ok (.istore_n 3, 1) := by decide +kernel
theorem dX5_read_55 : decode cX5_read 55 = .ok (.iinc 4 1, 3) := by decide +kernel
theorem dX5_read_58 : decode cX5_read 58 = .ok (.goto (-49), 3) := by decide +kernel
theorem dX5_read_61 : decode cX5_read 61 = .ok (.bipush (-4), 2) := by decide +kernel
theorem dX5_read_63 : decode cX5_read 63 = .ok (.ireturn, 1) := by decide +kernel
theorem dX5_split_0 : decode cX5_split 0 = .ok (.aload_n 0, 1) := by decide +kernel
theorem dX5_split_1 : decode cX5_split 1 = .ok (.iconst 0, 1) := by decide +kernel
theorem dX5_split_2 : decode cX5_split 2 = .ok (.putfield 15, 3) := by decide +kernel
theorem dX5_split_5 : decode cX5_split 5 = .ok (.iconst 0, 1) := by decide +kernel
theorem dX5_split_6 : decode cX5_split 6 = .ok (.istore_n 3, 1) := by decide +kernel
theorem dX5_split_7 : decode cX5_split 7 = .ok (.iconst 0, 1) := by decide +kernel
theorem dX5_split_8 : decode cX5_split 8 = .ok (.istore 4, 2) := by decide +kernel
theorem dX5_split_10 : decode cX5_split 10 = .ok (.iload_n 2, 1) := by decide +kernel
theorem dX5_split_11 : decode cX5_split 11 = .ok (.iconst 1, 1) := by decide +kernel
theorem dX5_split_12 : decode cX5_split 12 = .ok (.iadd, 1) := by decide +kernel
theorem dX5_split_13 : decode cX5_split 13 = .ok (.istore 5, 2) := by decide +kernel
theorem dX5_split_15 : decode cX5_split 15 = .ok (.iload 5, 2) := by decide +kernel
theorem dX5_split_17 : decode cX5_split 17 = .ok (.aload_n 1, 1) := by decide +kernel
theorem dX5_split_18 : decode cX5_split 18 = .ok (.getfield 27, 3) := by decide +kernel
theorem dX5_split_21 : decode cX5_split 21 = .ok (.if_icmp .ge 130, 3) := by decide +kernel
theorem dX5_split_24 : decode cX5_split 24 = .ok (.aload_n 1, 1) := by decide +kernel
theorem dX5_split_25 : decode cX5_split 25 = .ok (.getfield 36, 3) := by decide +kernel
theorem dX5_split_28 : decode cX5_split 28 = .ok (.iload 5, 2) := by decide +kernel
theorem dX5_split_30 : decode cX5_split 30 = .ok (.iaload, 1) := by decide +kernel
theorem dX5_split_31 : decode cX5_split 31 = .ok (.istore 6, 2) := by decide +kernel
theorem dX5_split_33 : decode cX5_split 33 = .ok (.iload 6, 2) := by decide +kernel
theorem dX5_split_35 : decode cX5_split 35 = .ok (.bipush 48, 2) := by decide +kernel
theorem dX5_split_37 : decode cX5_split 37 = .ok (.if_icmp .lt 34, 3) := by decide +kernel
theorem dX5_split_40 : decode cX5_split 40 = .ok (.iload 6, 2) := by decide +kernel
theorem dX5_split_42 : decode cX5_split 42 = .ok (.bipush 57, 2) := by decide +kernel
theorem dX5_split_44 : decode cX5_split 44 = .ok (.if_icmp .gt 27, 3) := by decide +kernel
theorem dX5_split_47 : decode cX5_split 47 = .ok (.iload_n 3, 1) := by decide +kernel
theorem dX5_split_48 : decode cX5_split 48 = .ok (.iconst 3, 1) := by decide +kernel
theorem dX5_split_49 : decode cX5_split 49 = .ok (.if_icmp .ge 22, 3) := by decide +kernel
theorem dX5_split_52 : decode cX5_split 52 = .ok (.bipush 10, 2) := by decide +kernel
theorem dX5_split_54 : decode cX5_split 54 = .ok (.iload 4, 2) := by decide +kernel
theorem dX5_split_56 : decode cX5_split 56 = .ok (.imul, 1) := by decide +kernel
theorem dX5_split_57 : decode cX5_split 57 = .ok (.iload 6, 2) := by decide +kernel
theorem dX5_split_59 : decode cX5_split 59 = .ok (.iadd, 1) := by decide +kernel
theorem dX5_split_60 : decode cX5_split 60 = .ok (.bipush 48, 2) := by decide +kernel
theorem dX5_split_62 : decode cX5_split 62 = .ok (.isub, 1) := by decide +kernel
theorem dX5_split_63 : decode cX5_split 63 = .ok (.istore 4, 2) := by decide +kernel
theorem dX5_split_65 : decode cX5_split 65 = .ok (.iinc 3 1, 3) := by decide +kernel
theorem dX5_split_68 : decode cX5_split 68 = .ok (.goto 77, 3) := by decide +kernel
theorem dX5_split_71 : decode cX5_split 71 = .ok (.iload 6, 2) := by decide +kernel
theorem dX5_split_73 : decode cX5_split 73 = .ok (.bipush 44, 2) := by decide +kernel
theorem dX5_split_75 : decode cX5_split 75 = .ok (.if_icmp .eq 10, 3) := by decide +kernel
theorem dX5_split_78 : decode cX5_split 78 = .ok (.iload 6, 2) := by decide +kernel
theorem dX5_split_80 : decode cX5_split 80 = .ok (.bipush 59, 2) := by decide +kernel
theorem dX5_split_82 : decode cX5_split 82 = .ok (.if_icmp .ne 61, 3) := by decide +kernel
theorem dX5_split_85 : decode cX5_split 85 = .ok (.iload_n 3, 1) := by decide +kernel
theorem dX5_split_86 : decode cX5_split 86 = .ok (.ifCond .le 57, 3) := by decide +kernel
theorem dX5_split_89 : decode cX5_split 89 = .ok (.aload_n 0, 1) := by decide +kernel
theorem dX5_split_90 : decode cX5_split 90 = .ok (.getfield 15, 3) := by decide +kernel
theorem dX5_split_93 : decode cX5_split 93 = .ok (.iconst 2, 1) := by decide +kernel
theorem dX5_split_94 : decode cX5_split 94 = .ok (.if_icmp .ge 49, 3) := by decide +kernel
theorem dX5_split_97 : decode cX5_split 97 = .ok (.aload_n 0, 1) := by decide +kernel
theorem dX5_split_98 : decode cX5_split 98 = .ok (.getfield 11, 3) := by decide +kernel
theorem dX5_split_101 : decode cX5_split 101 = .ok (.aload_n 0, 1) := by decide +kernel
theorem dX5_split_102 : decode cX5_split 102 = .ok (.getfield 15, 3) := by decide +kernel
theorem dX5_split_105 : decode cX5_split 105 = .ok (.iload 4, 2) := by decide +kernel
theorem dX5_split_107 : decode cX5_split 107 = .ok (.iastore, 1) := by decide +kernel
theorem dX5_split_108 : decode cX5_split 108 = .ok (.aload_n 0, 1) := by decide +kernel
theorem dX5_split_109 : decode cX5_split 109 = .ok (.dup, 1) := by decide +kernel
theorem dX5_split_110 : decode cX5_split 110 = .ok (.getfield 15, 3) := by decide +kernel
theorem dX5_split_113 : decode cX5_split 113 = .ok (.iconst 1, 1) := by decide +kernel
theorem dX5_split_114 : decode cX5_split 114 = .ok (.iadd, 1) := by decide +kernel
theorem dX5_split_115 : decode cX5_split 115 = .ok (.putfield 15, 3) := by decide +kernel
theorem dX5_split_118 : decode cX5_split 118 = .ok (.iload 6, 2) := by decide +kernel
theorem dX5_split_120 : decode cX5_split 120 = .ok (.bipush 59, 2) := by decide +kernel
theorem dX5_split_122 : decode cX5_split 122 = .ok (.if_icmp .ne 13, 3) := by decide +kernel
theorem dX5_split_125 : decode cX5_split 125 = .ok (.aload_n 0, 1) := by decide +kernel
theorem dX5_split_126 : decode cX5_split 126 = .ok (.iload 5, 2) := by decide +kernel
theorem dX5_split_128 : decode cX5_split 128 = .ok (.iconst 1, 1) := by decide +kernel
theorem dX5_split_129 : decode cX5_split 129 = .ok (.iadd, 1) := by decide +kernel
theorem dX5_split_130 : decode cX5_split 130 = .ok (.putfield 19, 3) := by decide +kernel
theorem dX5_split_133 : decode cX5_split 133 = .ok (.iconst 1, 1) := by decide +kernel
theorem dX5_split_134 : decode cX5_split 134 = .ok (.ireturn, 1) := by decide +kernel
theorem dX5_split_135 : decode cX5_split 135 = .ok (.iconst 0, 1) := by decide +kernel
theorem dX5_split_136 : decode cX5_split 136 = .ok (.istore_n 3, 1) := by decide +kernel
theorem dX5_split_137 : decode cX5_split 137 = .ok (.iconst 0, 1) := by decide +kernel
theorem dX5_split_138 : decode cX5_split 138 = .ok (.istore 4, 2) := by decide +kernel
theorem dX5_split_140 : decode cX5_split 140 = .ok (.goto 5, 3) := by decide +kernel
theorem dX5_split_143 : decode cX5_split 143 = .ok (.iconst 0, 1) := by decide +kernel
theorem dX5_split_144 : decode cX5_split 144 = .ok (.ireturn, 1) := by decide +kernel
theorem dX5_split_145 : decode cX5_split 145 = .ok (.iinc 5 1, 3) := by decide +kernel
theorem dX5_split_148 : decode cX5_split 148 = .ok (.goto (-133), 3) := by decide +kernel
theorem dX5_split_151 : decode cX5_split 151 = .ok (.iconst 0, 1) := by decide +kernel
theorem dX5_split_152 : decode cX5_split 152 = .ok (.ireturn, 1) := by decide +kernel
theorem dX5_take_0 : decode cX5_take 0 = .ok (.iload_n 1, 1) := by decide +kernel
theorem dX5_take_1 : decode cX5_take 1 = .ok (.bipush 118, 2) := by decide +kernel
theorem dX5_take_3 : decode cX5_take 3 = .ok (.if_icmp .eq 9, 3) := by decide +kernel
theorem dX5_take_6 : decode cX5_take 6 = .ok (.iload_n 1, 1) := by decide +kernel
theorem dX5_take_7 : decode cX5_take 7 = .ok (.bipush 99, 2) := by decide +kernel
theorem dX5_take_9 : decode cX5_take 9 = .ok (.if_icmp .ne 47, 3) := by decide +kernel
theorem dX5_take_12 : decode cX5_take 12 = .ok (.aload_n 0, 1) := by decide +kernel
theorem dX5_take_13 : decode cX5_take 13 = .ok (.getfield 15, 3) := by decide +kernel
theorem dX5_take_16 : decode cX5_take 16 = .ok (.iconst 2, 1) := by decide +kernel
theorem dX5_take_17 : decode cX5_take 17 = .ok (.if_icmp .ne 37, 3) := by decide +kernel
theorem dX5_take_20 : decode cX5_take 20 = .ok (.aload_n 2, 1) := by decide +kernel
theorem dX5_take_21 : decode cX5_take 21 = .ok (.iload_n 1, 1) := by decide +kernel
theorem dX5_take_22 : decode cX5_take 22 = .ok (.bipush 99, 2) := by decide +kernel
theorem dX5_take_24 : decode cX5_take 24 = .ok (.if_icmp .ne 7, 3) := by decide +kernel
theorem dX5_take_27 : decode cX5_take 27 = .ok (.iconst 1, 1) := by decide +kernel
theorem dX5_take_28 : decode cX5_take 28 = .ok (.goto 4, 3) := by decide +kernel
theorem dX5_take_31 : decode cX5_take 31 = .ok (.iconst 0, 1) := by decide +kernel
theorem dX5_take_32 : decode cX5_take 32 = .ok (.aload_n 0, 1) := by decide +kernel
theorem dX5_take_33 : decode cX5_take 33 = .ok (.getfield 11, 3) := by decide +kernel
theorem dX5_take_36 : decode cX5_take 36 = .ok (.iconst 0, 1) := by decide +kernel
theorem dX5_take_37 : decode cX5_take 37 = .ok (.iaload, 1) := by decide +kernel
theorem dX5_take_38 : decode cX5_take 38 = .ok (.aload_n 0, 1) := by decide +kernel
theorem dX5_take_39 : decode cX5_take 39 = .ok (.getfield 11, 3) := by decide +kernel
theorem dX5_take_42 : decode cX5_take 42 = .ok (.iconst 1, 1) := by decide +kernel
theorem dX5_take_43 : decode cX5_take 43 = .ok (.iaload, 1) := by decide +kernel
theorem dX5_take_44 : decode cX5_take 44 = .ok (.invokevirtual 43, 3) := by decide +kernel
theorem dX5_take_47 : decode cX5_take 47 = .ok (.ifCond .eq 7, 3) := by decide +kernel
theorem dX5_take_50 : decode cX5_take 50 = .ok (.iconst 1, 1) := by decide +kernel
theorem dX5_take_51 : decode cX5_take 51 = .ok (.goto 4, 3) := by decide +kernel
theorem dX5_take_54 : decode cX5_take 54 = .ok (.iconst 0, 1) := by decide +kernel
theorem dX5_take_55 : decode cX5_take 55 = .ok (.ireturn, 1) := by decide +kernel
theorem dX5_take_56 : decode cX5_take 56 = .ok (.aload_n 0, 1) := by decide +kernel
theorem dX5_take_57 : decode cX5_take 57 = .ok (.getfield 15, 3) := by decide +kernel
theorem dX5_take_60 : decode cX5_take 60 = .ok (.iconst 1, 1) := by decide +kernel
theorem dX5_take_61 : decode cX5_take 61 = .ok (.if_icmp .ne 21, 3) := by decide +kernel
theorem dX5_take_64 : decode cX5_take 64 = .ok (.aload_n 2, 1) := by decide +kernel
theorem dX5_take_65 : decode cX5_take 65 = .ok (.iload_n 1, 1) := by decide +kernel
theorem dX5_take_66 : decode cX5_take 66 = .ok (.aload_n 0, 1) := by decide +kernel
theorem dX5_take_67 : decode cX5_take 67 = .ok (.getfield 11, 3) := by decide +kernel
theorem dX5_take_70 : decode cX5_take 70 = .ok (.iconst 0, 1) := by decide +kernel
theorem dX5_take_71 : decode cX5_take 71 = .ok (.iaload, 1) := by decide +kernel
theorem dX5_take_72 : decode cX5_take 72 = .ok (.invokevirtual 47, 3) := by decide +kernel
theorem dX5_take_75 : decode cX5_take 75 = .ok (.ifCond .eq 7, 3) := by decide +kernel
theorem dX5_take_78 : decode cX5_take 78 = .ok (.iconst 1, 1) := by decide +kernel
theorem dX5_take_79 : decode cX5_take 79 = .ok (.goto 4, 3) := by decide +kernel
theorem dX5_take_82 : decode cX5_take 82 = .ok (.iconst 0, 1) := by decide +kernel
theorem dX5_take_83 : decode cX5_take 83 = .ok (.ireturn, 1) := by decide +kernel
theorem dX6_init_0 : decode cX6_init 0 = .ok (.aload_n 0, 1) := by decide +kernel
theorem dX6_init_1 : decode cX6_init 1 = .ok (.invokespecial 3, 3) := by decide +kernel
theorem dX6_init_4 : decode cX6_init 4 = .ok (.aload_n 0, 1) := by decide +kernel
theorem dX6_init_5 : decode cX6_init 5 = .ok (.bipush 20, 2) := by decide +kernel
theorem dX6_init_7 : decode cX6_init 7 = .ok (.newarray .boolean, 2) := by decide +kernel
theorem dX6_init_9 : decode cX6_init 9 = .ok (.putfield 9, 3) := by decide +kernel
theorem dX6_init_12 : decode cX6_init 12 = .ok (.aload_n 0, 1) := by decide +kernel
theorem dX6_init_13 : decode cX6_init 13 = .ok (.bipush 20, 2) := by decide +kernel
theorem dX6_init_15 : decode cX6_init 15 = .ok (.newarray .int, 2) := by decide +kernel
theorem dX6_init_17 : decode cX6_init 17 = .ok (.putfield 15, 3) := by decide +kernel
theorem dX6_init_20 : decode cX6_init 20 = .ok (.aload_n 0, 1) := by decide +kernel
theorem dX6_init_21 : decode cX6_init 21 = .ok (.bipush 20, 2) := by decide +kernel
theorem dX6_init_23 : decode cX6_init 23 = .ok (.newarray .int, 2) := by decide +kernel
theorem dX6_init_25 : decode cX6_init 25 = .ok (.putfield 19, 3) := by decide +kernel
theorem dX6_init_28 : decode cX6_init 28 = .ok (.aload_n 0, 1) := by decide +kernel
theorem dX6_init_29 : decode cX6_init 29 = .ok (.bipush 10, 2) := by decide +kernel
theorem dX6_init_31 : decode cX6_init 31 = .ok (.newarray .int, 2) := by decide +kernel
theorem dX6_init_33 : decode cX6_init 33 = .ok (.putfield 22, 3) := by decide +kernel
theorem dX6_init_36 : decode cX6_init 36 = .ok (.aload_n 0, 1) := by decide +kernel
theorem dX6_init_37 : decode cX6_init 37 = .ok (.bipush 10, 2) := by decide +kernel
theorem dX6_init_39 : decode cX6_init 39 = .ok (.newarray .int, 2) := by decide +kernel
theorem dX6_init_41 : decode cX6_init 41 = .ok (.putfield 25, 3) := by decide +kernel
theorem dX6_init_44 : decode cX6_init 44 = .ok (.aload_n 0, 1) := by decide +kernel
theorem dX6_init_45 : decode cX6_init 45 = .ok (.invokevirtual 28, 3) := by decide +kernel
theorem dX6_init_48 : decode cX6_init 48 = .ok (.return_, 1) := by decide +kernel
theorem dX6_empty_0 : decode cX6_empty 0 = .ok (.aload_n 0, 1) := by decide +kernel
theorem dX6_empty_1 : decode cX6_empty 1 = .ok (.iconst 0, 1) := by decide +kernel
theorem dX6_empty_2 : decode cX6_empty 2 = .ok (.putfield 31, 3) := by decide +kernel
theorem dX6_empty_5 : decode cX6_empty 5 = .ok (.aload_n 0, 1) := by decide +kernel
theorem dX6_empty_6 : decode cX6_empty 6 = .ok (.iconst 0, 1) := by decide +kernel
theorem dX6_empty_7 : decode cX6_empty 7 = .ok (.putfield 35, 3) := by decide +kernel
theorem dX6_empty_10 : decode cX6_empty 10 = .ok (.aload_n 0, 1) := by decide +kernel
theorem dX6_empty_11 : decode cX6_empty 11 = .ok (.iconst 0, 1) := by decide +kernel
theorem dX6_empty_12 : decode cX6_empty 12 = .ok (.putfield 38, 3) := by decide +kernel
theorem dX6_empty_15 : decode cX6_empty 15 = .ok (.aload_n 0, 1) := by decide +kernel
theorem dX6_empty_16 : decode cX6_empty 16 = .ok (.bipush 60, 2) := by decide +kernel
theorem dX6_empty_18 : decode cX6_empty 18 = .ok (.putfield 41, 3) := by decide +kernel
theorem dX6_empty_21 : decode cX6_empty 21 = .ok (.aload_n 0, 1) := by decide +kernel
theorem dX6_empty_22 : decode cX6_empty 22 = .ok (.iconst 0, 1) := by decide +kernel
theorem dX6_empty_23 : decode cX6_empty 23 = .ok (.putfield 44, 3) := by decide +kernel
theorem dX6_empty_26 : decode cX6_empty 26 = .ok (.aload_n 0, 1) := by decide +kernel
theorem dX6_empty_27 : decode cX6_empty 27 = .ok (.bipush 99, 2) := by decide +kernel
theorem dX6_empty_29 : decode cX6_empty 29 = .ok (.putfield 47, 3) := by decide +kernel
theorem dX6_empty_32 : decode cX6_empty 32 = .ok (.aload_n 0, 1) := by decide +kernel
theorem dX6_empty_33 : decode cX6_empty 33 = .ok (.iconst 5, 1) := by decide +kernel
theorem dX6_empty_34 : decode cX6_empty 34 = .ok (.putfield 50, 3) := by decide +kernel
theorem dX6_empty_37 : decode cX6_empty 37 = .ok (.aload_n 0, 1) := by decide +kernel
theorem dX6_empty_38 : decode cX6_empty 38 = .ok (.bipush 50, 2) := by decide +kernel
theorem dX6_empty_40 : decode cX6_empty 40 = .ok (.putfield 53, 3) := by decide +kernel
theorem dX6_empty_43 : decode cX6_empty 43 = .ok (.return_, 1) := by decide +kernel
theorem dX6_has_0 : decode cX6_has 0 = .ok (.iload_n 1, 1) := by decide +kernel
theorem dX6_has_1 : decode cX6_has 1 = .ok (.ifCond .lt 15, 3) := by decide +kernel
theorem dX6_has_4 : decode cX6_has 4 = .ok (.iload_n 1, 1) := by decide +kernel
theorem dX6_has_5 : decode cX6_has 5 = .ok (.aload_n 0, 1) := by decide +kernel
theorem dX6_has_6 : decode cX6_has 6 = .ok (.getfield 31, 3) := by decide +kernel
theorem dX6_has_9 : decode cX6_has 9 = .ok (.if_icmp .ge 7, 3) := by decide +kernel
theorem dX6_has_12 : decode cX6_has 12 = .ok (.iconst 1, 1) := by decide +kernel
theorem dX6_has_13 : decode cX6_has 13 = .ok (.goto 4, 3) := by decide +kernel
theorem dX6_has_16 : decode cX6_has 16 = .ok (.iconst 0, 1) := by decide +kernel
theorem dX6_has_17 : decode cX6_has 17 = .ok (.ireturn, 1) := by decide +kernel
theorem dX6_addPerson_0 : decode cX6_addPerson 0 = .ok (.iload_n 1, 1) := by decide +kernel
theorem dX6_addPerson_1 : decode cX6_addPerson 1 = .ok (.ifCond .eq 10, 3) := by decide +kernel
theorem dX6_addPerson_4 : decode cX6_addPerson 4 = .ok (.aload_n 0, 1) := by decide +kernel
theorem dX6_addPerson_5 : decode cX6_addPerson 5 = .ok (.getfield 38, 3) := by decide +kernel
theorem dX6_addPerson_8 : decode cX6_addPerson 8 = .ok (.goto 7, 3) := by decide +kernel
theorem dX6_addPerson_11 : decode cX6_addPerson 11 = .ok (.aload_n 0, 1) := by decide +kernel
theorem dX6_addPerson_12 : decode cX6_addPerson 12 = .ok (.getfield 35, 3) := by decide +kernel
theorem dX6_addPerson_15 : decode cX6_addPerson 15 = .ok (.istore 4, 2) := by decide +kernel
theorem dX6_addPerson_17 : decode cX6_addPerson 17 = .ok (.iload 4, 2) := by decide +kernel
theorem dX6_addPerson_19 : decode cX6_addPerson 19 = .ok (.bipush 10, 2) := by decide +kernel
theorem dX6_addPerson_21 : decode cX6_addPerson 21 = .ok (.if_icmp .ge 22, 3) := by decide +kernel
theorem dX6_addPerson_24 : decode cX6_addPerson 24 = .ok (.iload_n 2, 1) := by decide +kernel
theorem dX6_addPerson_25 : decode cX6_addPerson 25 = .ok (.iconst 0, 1) := by decide +kernel
theorem dX6_addPerson_26 : decode cX6_addPerson 26 = .ok (.bipush 99, 2) := by decide +kernel
theorem dX6_addPerson_28 : decode cX6_addPerson 28 = .ok (.invokestatic 56, 3) := by decide +kernel
theorem dX6_addPerson_31 : decode cX6_addPerson 31 = .ok (.ifCond .eq 12, 3) := by decide +kernel
theorem dX6_addPerson_34 : decode cX6_addPerson 34 = .ok (.iload_n 3, 1) := by decide +kernel
theorem dX6_addPerson_35 : decode cX6_addPerson 35 = .ok (.iconst 0, 1) := by decide +kernel
theorem dX6_addPerson_36 : decode cX6_addPerson 36 = .ok (.iconst 5, 1) := by decide +kernel
theorem dX6_addPerson_37 : decode cX6_addPerson 37 = .ok (.invokestatic 56, 3) := by decide +kernel
theorem dX6_addPerson_40 : decode cX6_addPerson 40 = .ok (.ifCond .ne 5, 3) := by decide +kernel
theorem dX6_addPerson_43 : decode cX6_addPerson 43 = .ok (.iconst 0, 1) := by decide +kernel
theorem dX6_addPerson_44 : decode cX6_addPerson 44 = .ok (.ireturn, 1) := by decide +kernel
theorem dX6_addPerson_45 : decode cX6_addPerson 45 = .ok (.iload_n 1, 1) := by decide +kernel
theorem dX6_addPerson_46 : decode cX6_addPerson 46 = .ok (.ifCond .eq 29, 3) := by decide +kernel
theorem dX6_addPerson_49 : decode cX6_addPerson 49 = .ok (.aload_n 0, 1) := by decide +kernel
theorem dX6_addPerson_50 : decode cX6_addPerson 50 = .ok (.getfield 25, 3) := by decide +kernel
theorem dX6_addPerson_53 : decode cX6_addPerson 53 = .ok (.aload_n 0, 1) := by decide +kernel
theorem dX6_addPerson_54 : decode cX6_addPerson 54 = .ok (.getfield 38, 3) := by decide +kernel
theorem dX6_addPerson_57 : decode cX6_addPerson 57 = .ok (.aload_n 0, 1) := by decide +kernel
theorem dX6_addPerson_58 : decode cX6_addPerson 58 = .ok (.getfield 31, 3) := by decide +kernel
theorem dX6_addPerson_61 : decode cX6_addPerson 61 = .ok (.iastore, 1) := by decide +kernel
theorem dX6_addPerson_62 : decode cX6_addPerson 62 = .ok (.aload_n 0, 1) := by decide +kernel
theorem dX6_addPerson_63 : decode cX6_addPerson 63 = .ok (.dup, 1) := by decide +kernel
theorem dX6_addPerson_64 : decode cX6_addPerson 64 = .ok (.getfield 38, 3) := by decide +kernel
theorem dX6_addPerson_67 : decode cX6_addPerson 67 = .ok (.iconst 1, 1) := by decide +kernel
theorem dX6_addPerson_68 : decode cX6_addPerson 68 = .ok (.iadd, 1) := by decide +kernel
theorem dX6_addPerson_69 : decode cX6_addPerson 69 = .ok (.putfield 38, 3) := by decide +kernel
theorem dX6_addPerson_72 : decode cX6_addPerson 72 = .ok (.goto 26, 3) := by decide +kernel
theorem dX6_addPerson_75 : decode cX6_addPerson 75 = .ok (.aload_n 0, 1) := by decide +kernel
theorem dX6_addPerson_76 : decode cX6_addPerson 76 = .ok (.getfield 22, 3) := by decide +kernel
theorem dX6_addPerson_79 : decode cX6_addPerson 79 = .ok (.aload_n 0, 1) := by decide +kernel
theorem dX6_addPerson_80 : decode cX6_addPerson 80 = .ok (.getfield 35, 3) := by decide +kernel
theorem dX6_addPerson_83 : decode cX6_addPerson 83 = .ok (.aload_n 0, 1) := by decide +kernel
theorem dX6_addPerson_84 : decode cX6_addPerson 84 = .ok (.getfield 31, 3) := by decide +kernel
theorem dX6_addPerson_87 : decode cX6_addPerson 87 = .ok (.iastore, 1) := by decide +kernel
theorem dX6_addPerson_88 : decode cX6_addPerson 88 = .ok (.aload_n 0, 1) := by decide +kernel
theorem dX6_addPerson_89 : decode cX6_addPerson 89 = .ok (.dup, 1) := by decide +kernel
theorem dX6_addPerson_90 : decode cX6_addPerson 90 = .ok (.getfield 35, 3) := by decide +kernel
theorem dX6_addPerson_93 : decode cX6_addPerson 93 = .ok (.iconst 1, 1) := by decide +kernel
theorem dX6_addPerson_94 : decode cX6_addPerson 94 = .ok (.iadd, 1) := by decide +kernel
theorem dX6_addPerson_95 : decode cX6_addPerson 95 = .ok (.putfield 35, 3) := by decide +kernel
theorem dX6_addPerson_98 : decode cX6_addPerson 98 = .ok (.aload_n 0, 1) := by decide +kernel
theorem dX6_addPerson_99 : decode cX6_addPerson 99 = .ok (.getfield 9, 3) := by decide +kernel
theorem dX6_addPerson_102 : decode cX6_addPerson 102 = .ok (.aload_n 0, 1) := by decide +kernel
theorem dX6_addPerson_103 : decode cX6_addPerson 103 = .ok (.getfield 31, 3) := by decide +kernel
theorem dX6_addPerson_106 : decode cX6_addPerson 106 = .ok (.iload_n 1, 1) := by decide +kernel
theorem dX6_addPerson_107 : decode cX6_addPerson 107 = .ok (.bastore, 1) := by decide +kernel
theorem dX6_addPerson_108 : decode cX6_addPerson 108 = .ok (.aload_n 0, 1) := by decide +kernel
theorem dX6_addPerson_109 : decode cX6_addPerson 109 = .ok (.getfield 15, 3) := by decide +kernel
theorem dX6_addPerson_112 : decode cX6_addPerson 112 = .ok (.aload_n 0, 1) := by decide +kernel
theorem dX6_addPerson_113 : decode cX6_addPerson 113 = .ok (.getfield 31, 3) := by decide +kernel
theorem dX6_addPerson_116 : decode cX6_addPerson 116 = .ok (.iload_n 2, 1) := by decide +kernel
theorem dX6_addPerson_117 : decode cX6_addPerson 117 = .ok (.iastore, 1) := by decide +kernel
theorem dX6_addPerson_118 : decode cX6_addPerson 118 = .ok (.aload_n 0, 1) := by decide +kernel
theorem dX6_addPerson_119 : decode cX6_addPerson 119 = .ok (.getfield 19, 3) := by decide +kernel
theorem dX6_addPerson_122 : decode cX6_addPerson 122 = .ok (.aload_n 0, 1) := by decide +kernel
theorem dX6_addPerson_123 : decode cX6_addPerson 123 = .ok (.getfield 31, 3) := by decide +kernel
theorem dX6_addPerson_126 : decode cX6_addPerson 126 = .ok (.iload_n 3, 1) := by decide +kernel
theorem dX6_addPerson_127 : decode cX6_addPerson 127 = .ok (.iastore, 1) := by decide +kernel
theorem dX6_addPerson_128 : decode cX6_addPerson 128 = .ok (.aload_n 0, 1) := by decide +kernel
theorem dX6_addPerson_129 : decode cX6_addPerson 129 = .ok (.dup, 1) := by decide +kernel
theorem dX6_addPerson_130 : decode cX6_addPerson 130 = .ok (.getfield 31, 3) := by decide +kernel
theorem dX6_addPerson_133 : decode cX6_addPerson 133 = .ok (.iconst 1, 1) := by decide +kernel
theorem dX6_addPerson_134 : decode cX6_addPerson 134 = .ok (.iadd, 1) := by decide +kernel
theorem dX6_addPerson_135 : decode cX6_addPerson 135 = .ok (.putfield 31, 3) := by decide +kernel
theorem dX6_addPerson_138 : decode cX6_addPerson 138 = .ok (.iconst 1, 1) := by decide +kernel
theorem dX6_addPerson_139 : decode cX6_addPerson 139 = .ok (.ireturn, 1) := by decide +kernel
theorem dX6_set_0 : decode cX6_set 0 = .ok (.iload_n 1, 1) := by decide +kernel
theorem dX6_set_1 : decode cX6_set 1 = .ok (.lookupswitch 117 #[(104, 104), (108, 78), (110, 51), (116, 65), (120, 91)], 51) := by decide +kernel
theorem dX6_set_52 : decode cX6_set 52 = .ok (.aload_n 0, 1) := by decide +kernel
theorem dX6_set_53 : decode cX6_set 53 = .ok (.iload_n 2, 1) := by decide +kernel
theorem dX6_set_54 : decode cX6_set 54 = .ok (.putfield 41, 3) := by decide +kernel
theorem dX6_set_57 : decode cX6_set 57 = .ok (.iload_n 2, 1) := by decide +kernel
theorem dX6_set_58 : decode cX6_set 58 = .ok (.iconst 1, 1) := by decide +kernel
theorem dX6_set_59 : decode cX6_set 59 = .ok (.sipush 200, 3) := by decide +kernel
theorem dX6_set_62 : decode cX6_set 62 = .ok (.invokestatic 56, 3) := by decide +kernel
theorem dX6_set_65 : decode cX6_set 65 = .ok (.ireturn, 1) := by decide +kernel
theorem dX6_set_66 : decode cX6_set 66 = .ok (.aload_n 0, 1) := by decide +kernel
theorem dX6_set_67 : decode cX6_set 67 = .ok (.iload_n 2, 1) := by decide +kernel
theorem dX6_set_68 : decode cX6_set 68 = .ok (.putfield 44, 3) := by decide +kernel
theorem dX6_set_71 : decode cX6_set 71 = .ok (.iload_n 2, 1) := by decide +kernel
theorem dX6_set_72 : decode cX6_set 72 = .ok (.iconst 0, 1) := by decide +kernel
theorem dX6_set_73 : decode cX6_set 73 = .ok (.bipush 50, 2) := by decide +kernel
theorem dX6_set_75 : decode cX6_set 75 = .ok (.invokestatic 56, 3) := by decide +kernel
theorem dX6_set_78 : decode cX6_set 78 = .ok (.ireturn, 1) := by decide +kernel
theorem dX6_set_79 : decode cX6_set 79 = .ok (.aload_n 0, 1) := by decide +kernel
theorem dX6_set_80 : decode cX6_set 80 = .ok (.iload_n 2, 1) := by decide +kernel
theorem dX6_set_81 : decode cX6_set 81 = .ok (.putfield 47, 3) := by decide +kernel
theorem dX6_set_84 : decode cX6_set 84 = .ok (.iload_n 2, 1) := by decide +kernel
theorem dX6_set_85 : decode cX6_set 85 = .ok (.iconst 0, 1) := by decide +kernel
theorem dX6_set_86 : decode cX6_set 86 = .ok (.bipush 99, 2) := by decide +kernel
theorem dX6_set_88 : decode cX6_set 88 = .ok (.invokestatic 56, 3) := by decide +kernel
theorem dX6_set_91 : decode cX6_set 91 = .ok (.ireturn, 1) := by decide +kernel
theorem dX6_set_92 : decode cX6_set 92 = .ok (.aload_n 0, 1) := by decide +kernel
theorem dX6_set_93 : decode cX6_set 93 = .ok (.iload_n 2, 1) := by decide +kernel
theorem dX6_set_94 : decode cX6_set 94 = .ok (.putfield 50, 3) := by decide +kernel
theorem dX6_set_97 : decode cX6_set 97 = .ok (.iload_n 2, 1) := by decide +kernel
theorem dX6_set_98 : decode cX6_set 98 = .ok (.iconst 0, 1) := by decide +kernel
theorem dX6_set_99 : decode cX6_set 99 = .ok (.bipush 50, 2) := by decide +kernel
theorem dX6_set_101 : decode cX6_set 101 = .ok (.invokestatic 56, 3) := by decide +kernel
theorem dX6_set_104 : decode cX6_set 104 = .ok (.ireturn, 1) := by decide +kernel
theorem dX6_set_105 : decode cX6_set 105 = .ok (.aload_n 0, 1) := by decide +kernel
theorem dX6_set_106 : decode cX6_set 106 = .ok (.iload_n 2, 1) := by decide +kernel
theorem dX6_set_107 : decode cX6_set 107 = .ok (.putfield 53, 3) := by decide +kernel
theorem dX6_set_110 : decode cX6_set 110 = .ok (.iload_n 2, 1) := by decide +kernel
theorem dX6_set_111 : decode cX6_set 111 = .ok (.iconst 0, 1) := by decide +kernel
theorem dX6_set_112 : decode cX6_set 112 = .ok (.bipush 99, 2) := by decide +kernel
theorem dX6_set_114 : decode cX6_set 114 = .ok (.invokestatic 56, 3) := by decide +kernel
theorem dX6_set_117 : decode cX6_set 117 = .ok (.ireturn, 1) := by decide +kernel
theorem dX6_set_118 : decode cX6_set 118 = .ok (.iconst 0, 1) := by decide +kernel
theorem dX6_set_119 : decode cX6_set 119 = .ok (.ireturn, 1) := by decide +kernel
theorem dX7_init_0 : decode cX7_init 0 = .ok (.aload_n 0, 1) := by decide +kernel
theorem dX7_init_1 : decode cX7_init 1 = .ok (.invokespecial 3, 3) := by decide +kernel
theorem dX7_init_4 : decode cX7_init 4 = .ok (.aload_n 0, 1) := by decide +kernel
theorem dX7_init_5 : decode cX7_init 5 = .ok (.bipush 20, 2) := by decide +kernel
theorem dX7_init_7 : decode cX7_init 7 = .ok (.newarray .int, 2) := by decide +kernel
theorem dX7_init_9 : decode cX7_init 9 = .ok (.putfield 9, 3) := by decide +kernel
theorem dX7_init_12 : decode cX7_init 12 = .ok (.aload_n 0, 1) := by decide +kernel
theorem dX7_init_13 : decode cX7_init 13 = .ok (.bipush 20, 2) := by decide +kernel
theorem dX7_init_15 : decode cX7_init 15 = .ok (.newarray .int, 2) := by decide +kernel
theorem dX7_init_17 : decode cX7_init 17 = .ok (.putfield 15, 3) := by decide +kernel
theorem dX7_init_20 : decode cX7_init 20 = .ok (.aload_n 0, 1) := by decide +kernel
theorem dX7_init_21 : decode cX7_init 21 = .ok (.new 18, 3) := by decide +kernel
theorem dX7_init_24 : decode cX7_init 24 = .ok (.dup, 1) := by decide +kernel
theorem dX7_init_25 : decode cX7_init 25 = .ok (.invokespecial 20, 3) := by decide +kernel
theorem dX7_init_28 : decode cX7_init 28 = .ok (.putfield 21, 3) := by decide +kernel
theorem dX7_init_31 : decode cX7_init 31 = .ok (.return_, 1) := by decide +kernel
theorem dX7_play_0 : decode cX7_play 0 = .ok (.aload_n 0, 1) := by decide +kernel
theorem dX7_play_1 : decode cX7_play 1 = .ok (.iload_n 3, 1) := by decide +kernel
theorem dX7_play_2 : decode cX7_play 2 = .ok (.putfield 25, 3) := by decide +kernel
theorem dX7_play_5 : decode cX7_play 5 = .ok (.aload_n 0, 1) := by decide +kernel
theorem dX7_play_6 : decode cX7_play 6 = .ok (.bipush (-4), 2) := by decide +kernel
theorem dX7_play_8 : decode cX7_play 8 = .ok (.putfield 29, 3) := by decide +kernel
theorem dX7_play_11 : decode cX7_play 11 = .ok (.aload_n 0, 1) := by decide +kernel
theorem dX7_play_12 : decode cX7_play 12 = .ok (.iconst 0, 1) := by decide +kernel
theorem dX7_play_13 : decode cX7_play 13 = .ok (.putfield 32, 3) := by decide +kernel
theorem dX7_play_16 : decode cX7_play 16 = .ok (.aload_n 0, 1) := by decide +kernel
theorem dX7_play_17 : decode cX7_play 17 = .ok (.iconst 0, 1) := by decide +kernel
theorem dX7_play_18 : decode cX7_play 18 = .ok (.putfield 35, 3) := by decide +kernel
theorem dX7_play_21 : decode cX7_play 21 = .ok (.aload_n 0, 1) := by decide +kernel
theorem dX7_play_22 : decode cX7_play 22 = .ok (.iconst 0, 1) := by decide +kernel
theorem dX7_play_23 : decode cX7_play 23 = .ok (.putfield 38, 3) := by decide +kernel
theorem dX7_play_26 : decode cX7_play 26 = .ok (.aload_n 0, 1) := by decide +kernel
theorem dX7_play_27 : decode cX7_play 27 = .ok (.iconst 0, 1) := by decide +kernel
theorem dX7_play_28 : decode cX7_play 28 = .ok (.putfield 41, 3) := by decide +kernel
theorem dX7_play_31 : decode cX7_play 31 = .ok (.aload_n 0, 1) := by decide +kernel
theorem dX7_play_32 : decode cX7_play 32 = .ok (.iconst 0, 1) := by decide +kernel
theorem dX7_play_33 : decode cX7_play 33 = .ok (.putfield 44, 3) := by decide +kernel
theorem dX7_play_36 : decode cX7_play 36 = .ok (.iconst 0, 1) := by decide +kernel
theorem dX7_play_37 : decode cX7_play 37 = .ok (.istore 5, 2) := by decide +kernel
theorem dX7_play_39 : decode cX7_play 39 = .ok (.iload 5, 2) := by decide +kernel
theorem dX7_play_41 : decode cX7_play 41 = .ok (.bipush 20, 2) := by decide +kernel
theorem dX7_play_43 : decode cX7_play 43 = .ok (.if_icmp .ge 18, 3) := by decide +kernel
theorem dX7_play_46 : decode cX7_play 46 = .ok (.aload_n 0, 1) := by decide +kernel
theorem dX7_play_47 : decode cX7_play 47 = .ok (.getfield 9, 3) := by decide +kernel
theorem dX7_play_50 : decode cX7_play 50 = .ok (.iload 5, 2) := by decide +kernel
theorem dX7_play_52 : decode cX7_play 52 = .ok (.bipush (-4), 2) := by decide +kernel
theorem dX7_play_54 : decode cX7_play 54 = .ok (.iastore, 1) := by decide +kernel
theorem dX7_play_55 : decode cX7_play 55 = .ok (.iinc 5 1, 3) := by decide +kernel
theorem dX7_play_58 : decode cX7_play 58 = .ok (.goto (-19), 3) := by decide +kernel
theorem dX7_play_61 : decode cX7_play 61 = .ok (.iload_n 2, 1) := by decide +kernel
theorem dX7_play_62 : decode cX7_play 62 = .ok (.ifCond .ne 13, 3) := by decide +kernel
theorem dX7_play_65 : decode cX7_play 65 = .ok (.aload_n 0, 1) := by decide +kernel
theorem dX7_play_66 : decode cX7_play 66 = .ok (.aload_n 1, 1) := by decide +kernel
theorem dX7_play_67 : decode cX7_play 67 = .ok (.aload 4, 2) := by decide +kernel
theorem dX7_play_69 : decode cX7_play 69 = .ok (.invokevirtual 47, 3) := by decide +kernel
theorem dX7_play_72 : decode cX7_play 72 = .ok (.goto 34, 3) := by decide +kernel
theorem dX7_play_75 : decode cX7_play 75 = .ok (.iload_n 2, 1) := by decide +kernel
theorem dX7_play_76 : decode cX7_play 76 = .ok (.iconst 1, 1) := by decide +kernel
theorem dX7_play_77 : decode cX7_play 77 = .ok (.if_icmp .ne 11, 3) := by decide +kernel
theorem dX7_play_80 : decode cX7_play 80 = .ok (.aload_n 0, 1) := by decide +kernel
theorem dX7_play_81 : decode cX7_play 81 = .ok (.aload_n 1, 1) := by decide +kernel
theorem dX7_play_82 : decode cX7_play 82 = .ok (.invokevirtual 51, 3) := by decide +kernel
theorem dX7_play_85 : decode cX7_play 85 = .ok (.goto 21, 3) := by decide +kernel
theorem dX7_play_88 : decode cX7_play 88 = .ok (.iload_n 2, 1) := by decide +kernel
theorem dX7_play_89 : decode cX7_play 89 = .ok (.iconst 2, 1) := by decide +kernel
theorem dX7_play_90 : decode cX7_play 90 = .ok (.if_icmp .ne 11, 3) := by decide +kernel
theorem dX7_play_93 : decode cX7_play 93 = .ok (.aload_n 0, 1) := by decide +kernel
theorem dX7_play_94 : decode cX7_play 94 = .ok (.aload_n 1, 1) := by decide +kernel
theorem dX7_play_95 : decode cX7_play 95 = .ok (.invokevirtual 55, 3) := by decide +kernel
theorem dX7_play_98 : decode cX7_play 98 = .ok (.goto 8, 3) := by decide +kernel
theorem dX7_play_101 : decode cX7_play 101 = .ok (.aload_n 0, 1) := by decide +kernel
theorem dX7_play_102 : decode cX7_play 102 = .ok (.aload_n 1, 1) := by decide +kernel
theorem dX7_play_103 : decode cX7_play 103 = .ok (.invokevirtual 58, 3) := by decide +kernel
theorem dX7_play_106 : decode cX7_play 106 = .ok (.return_, 1) := by decide +kernel
theorem dX7_wanders_0 : decode cX7_wanders 0 = .ok (.aload_n 0, 1) := by decide +kernel
theorem dX7_wanders_1 : decode cX7_wanders 1 = .ok (.getfield 35, 3) := by decide +kernel
theorem dX7_wanders_4 : decode cX7_wanders 4 = .ok (.aload_n 0, 1) := by decide +kernel
theorem dX7_wanders_5 : decode cX7_wanders 5 = .ok (.getfield 32, 3) := by decide +kernel
theorem dX7_wanders_8 : decode cX7_wanders 8 = .ok (.isub, 1) := by decide +kernel
theorem dX7_wanders_9 : decode cX7_wanders 9 = .ok (.ireturn, 1) := by decide +kernel
theorem dX7_draw_0 : decode cX7_draw 0 = .ok (.ldc2_w 61, 3) := by decide +kernel
theorem dX7_draw_3 : decode cX7_draw 3 = .ok (.aload_n 0, 1) := by decide +kernel
theorem dX7_draw_4 : decode cX7_draw 4 = .ok (.getfield 25, 3) := by decide +kernel
theorem dX7_draw_7 : decode cX7_draw 7 = .ok (.i2l, 1) := by decide +kernel
theorem dX7_draw_8 : decode cX7_draw 8 = .ok (.lmul, 1) := by decide +kernel
theorem dX7_draw_9 : decode cX7_draw 9 = .ok (.ldc2_w 63, 3) := by decide +kernel
theorem dX7_draw_12 : decode cX7_draw 12 = .ok (.iload_n 1, 1) := by decide +kernel
theorem dX7_draw_13 : decode cX7_draw 13 = .ok (.i2l, 1) := by decide +kernel
theorem dX7_draw_14 : decode cX7_draw 14 = .ok (.lmul, 1) := by decide +kernel
theorem dX7_draw_15 : decode cX7_draw 15 = .ok (.ladd, 1) := by decide +kernel
theorem dX7_draw_16 : decode cX7_draw 16 = .ok (.ldc2_w 65, 3) := by decide +kernel
theorem dX7_draw_19 : decode cX7_draw 19 = .ok (.iload_n 2, 1) := by decide +kernel
theorem dX7_draw_20 : decode cX7_draw 20 = .ok (.i2l, 1) := by decide +kernel
theorem dX7_draw_21 : decode cX7_draw 21 = .ok (.lmul, 1) := by decide +kernel
theorem dX7_draw_22 : decode cX7_draw 22 = .ok (.ladd, 1) := by decide +kernel
theorem dX7_draw_23 : decode cX7_draw 23 = .ok (.lconst 1, 1) := by decide +kernel
theorem dX7_draw_24 : decode cX7_draw 24 = .ok (.ladd, 1) := by decide +kernel
theorem dX7_draw_25 : decode cX7_draw 25 = .ok (.lstore_n 3, 1) := by decide +kernel
theorem dX7_draw_26 : decode cX7_draw 26 = .ok (.lload_n 3, 1) := by decide +kernel
theorem dX7_draw_27 : decode cX7_draw 27 = .ok (.lload_n 3, 1) := by decide +kernel
theorem dX7_draw_28 : decode cX7_draw 28 = .ok (.lmul, 1) := by decide +kernel
theorem dX7_draw_29 : decode cX7_draw 29 = .ok (.ldc2_w 67, 3) := by decide +kernel
theorem dX7_draw_32 : decode cX7_draw 32 = .ok (.lrem, 1) := by decide +kernel
theorem dX7_draw_33 : decode cX7_draw 33 = .ok (.l2i, 1) := by decide +kernel
theorem dX7_draw_34 : decode cX7_draw 34 = .ok (.ireturn, 1) := by decide +kernel
theorem dX7_rest_0 : decode cX7_rest 0 = .ok (.iload_n 1, 1) := by decide +kernel
theorem dX7_rest_1 : decode cX7_rest 1 = .ok (.ifCond .le 9, 3) := by decide +kernel
theorem dX7_rest_4 : decode cX7_rest 4 = .ok (.iload_n 0, 1) := by decide +kernel
theorem dX7_rest_5 : decode cX7_rest 5 = .ok (.iload_n 1, 1) := by decide +kernel
theorem dX7_rest_6 : decode cX7_rest 6 = .ok (.irem, 1) := by decide +kernel
theorem dX7_rest_7 : decode cX7_rest 7 = .ok (.goto 4, 3) := by decide +kernel
theorem dX7_rest_10 : decode cX7_rest 10 = .ok (.iconst 0, 1) := by decide +kernel
theorem dX7_rest_11 : decode cX7_rest 11 = .ok (.ireturn, 1) := by decide +kernel
theorem dX7_tells_0 : decode cX7_tells 0 = .ok (.aload_n 1, 1) := by decide +kernel
theorem dX7_tells_1 : decode cX7_tells 1 = .ok (.getfield 69, 3) := by decide +kernel
theorem dX7_tells_4 : decode cX7_tells 4 = .ok (.iload_n 2, 1) := by decide +kernel
theorem dX7_tells_5 : decode cX7_tells 5 = .ok (.iaload, 1) := by decide +kernel
theorem dX7_tells_6 : decode cX7_tells 6 = .ok (.istore 5, 2) := by decide +kernel
theorem dX7_tells_8 : decode cX7_tells 8 = .ok (.iload 4, 2) := by decide +kernel
theorem dX7_tells_10 : decode cX7_tells 10 = .ok (.aload_n 1, 1) := by decide +kernel
theorem dX7_tells_11 : decode cX7_tells 11 = .ok (.iload_n 2, 1) := by decide +kernel
theorem dX7_tells_12 : decode cX7_tells 12 = .ok (.iload 5, 2) := by decide +kernel
theorem dX7_tells_14 : decode cX7_tells 14 = .ok (.aload_n 0, 1) := by decide +kernel
theorem dX7_tells_15 : decode cX7_tells 15 = .ok (.getfield 29, 3) := by decide +kernel
theorem dX7_tells_18 : decode cX7_tells 18 = .ok (.invokestatic 74, 3) := by decide +kernel
theorem dX7_tells_21 : decode cX7_tells 21 = .ok (.invokestatic 80, 3) := by decide +kernel
theorem dX7_tells_24 : decode cX7_tells 24 = .ok (.istore 6, 2) := by decide +kernel
theorem dX7_tells_26 : decode cX7_tells 26 = .ok (.aload_n 1, 1) := by decide +kernel
theorem dX7_tells_27 : decode cX7_tells 27 = .ok (.iload_n 2, 1) := by decide +kernel
theorem dX7_tells_28 : decode cX7_tells 28 = .ok (.aload_n 1, 1) := by decide +kernel
theorem dX7_tells_29 : decode cX7_tells 29 = .ok (.iload_n 2, 1) := by decide +kernel
theorem dX7_tells_30 : decode cX7_tells 30 = .ok (.iload 5, 2) := by decide +kernel
theorem dX7_tells_32 : decode cX7_tells 32 = .ok (.iload_n 3, 1) := by decide +kernel
theorem dX7_tells_33 : decode cX7_tells 33 = .ok (.aload_n 0, 1) := by decide +kernel
theorem dX7_tells_34 : decode cX7_tells 34 = .ok (.getfield 29, 3) := by decide +kernel
theorem dX7_tells_37 : decode cX7_tells 37 = .ok (.iload 6, 2) := by decide +kernel
theorem dX7_tells_39 : decode cX7_tells 39 = .ok (.invokestatic 84, 3) := by decide +kernel
theorem dX7_tells_42 : decode cX7_tells 42 = .ok (.invokestatic 88, 3) := by decide +kernel
theorem dX7_tells_45 : decode cX7_tells 45 = .ok (.ireturn, 1) := by decide +kernel
theorem dX7_trade_0 : decode cX7_trade 0 = .ok (.aload_n 0, 1) := by decide +kernel
theorem dX7_trade_1 : decode cX7_trade 1 = .ok (.getfield 9, 3) := by decide +kernel
theorem dX7_trade_4 : decode cX7_trade 4 = .ok (.iload_n 2, 1) := by decide +kernel
theorem dX7_trade_5 : decode cX7_trade 5 = .ok (.iload 4, 2) := by decide +kernel
theorem dX7_trade_7 : decode cX7_trade 7 = .ok (.iastore, 1) := by decide +kernel
theorem dX7_trade_8 : decode cX7_trade 8 = .ok (.aload_n 0, 1) := by decide +kernel
theorem dX7_trade_9 : decode cX7_trade 9 = .ok (.getfield 9, 3) := by decide +kernel
theorem dX7_trade_12 : decode cX7_trade 12 = .ok (.iload_n 3, 1) := by decide +kernel
theorem dX7_trade_13 : decode cX7_trade 13 = .ok (.iload 4, 2) := by decide +kernel
theorem dX7_trade_15 : decode cX7_trade 15 = .ok (.iastore, 1) := by decide +kernel
theorem dX7_trade_16 : decode cX7_trade 16 = .ok (.aload_n 0, 1) := by decide +kernel
theorem dX7_trade_17 : decode cX7_trade 17 = .ok (.aload_n 0, 1) := by decide +kernel
theorem dX7_trade_18 : decode cX7_trade 18 = .ok (.getfield 38, 3) := by decide +kernel
theorem dX7_trade_21 : decode cX7_trade 21 = .ok (.ifCond .ne 8, 3) := by decide +kernel
theorem dX7_trade_24 : decode cX7_trade 24 = .ok (.iload 4, 2) := by decide +kernel
theorem dX7_trade_26 : decode cX7_trade 26 = .ok (.goto 12, 3) := by decide +kernel
theorem dX7_trade_29 : decode cX7_trade 29 = .ok (.aload_n 0, 1) := by decide +kernel
theorem dX7_trade_30 : decode cX7_trade 30 = .ok (.getfield 32, 3) := by decide +kernel
theorem dX7_trade_33 : decode cX7_trade 33 = .ok (.iload 4, 2) := by decide +kernel
theorem dX7_trade_35 : decode cX7_trade 35 = .ok (.invokestatic 92, 3) := by decide +kernel
theorem dX7_trade_38 : decode cX7_trade 38 = .ok (.putfield 32, 3) := by decide +kernel
theorem dX7_trade_41 : decode cX7_trade 41 = .ok (.aload_n 0, 1) := by decide +kernel
theorem dX7_trade_42 : decode cX7_trade 42 = .ok (.aload_n 0, 1) := by decide +kernel
theorem dX7_trade_43 : decode cX7_trade 43 = .ok (.getfield 38, 3) := by decide +kernel
theorem dX7_trade_46 : decode cX7_trade 46 = .ok (.ifCond .ne 8, 3) := by decide +kernel
theorem dX7_trade_49 : decode cX7_trade 49 = .ok (.iload 4, 2) := by decide +kernel
theorem dX7_trade_51 : decode cX7_trade 51 = .ok (.goto 12, 3) := by decide +kernel
theorem dX7_trade_54 : decode cX7_trade 54 = .ok (.aload_n 0, 1) := by decide +kernel
theorem dX7_trade_55 : decode cX7_trade 55 = .ok (.getfield 35, 3) := by decide +kernel
theorem dX7_trade_58 : decode cX7_trade 58 = .ok (.iload 4, 2) := by decide +kernel
theorem dX7_trade_60 : decode cX7_trade 60 = .ok (.invokestatic 97, 3) := by decide +kernel
theorem dX7_trade_63 : decode cX7_trade 63 = .ok (.putfield 35, 3) := by decide +kernel
theorem dX7_trade_66 : decode cX7_trade 66 = .ok (.aload_n 0, 1) := by decide +kernel
theorem dX7_trade_67 : decode cX7_trade 67 = .ok (.dup, 1) := by decide +kernel
theorem dX7_trade_68 : decode cX7_trade 68 = .ok (.getfield 38, 3) := by decide +kernel
theorem dX7_trade_71 : decode cX7_trade 71 = .ok (.iconst 1, 1) := by decide +kernel
theorem dX7_trade_72 : decode cX7_trade 72 = .ok (.iadd, 1) := by decide +kernel
theorem dX7_trade_73 : decode cX7_trade 73 = .ok (.putfield 38, 3) := by decide +kernel
theorem dX7_trade_76 : decode cX7_trade 76 = .ok (.aload_n 0, 1) := by decide +kernel
theorem dX7_trade_77 : decode cX7_trade 77 = .ok (.dup, 1) := by decide +kernel
theorem dX7_trade_78 : decode cX7_trade 78 = .ok (.getfield 41, 3) := by decide +kernel
theorem dX7_trade_81 : decode cX7_trade 81 = .ok (.aload_n 1, 1) := by decide +kernel
theorem dX7_trade_82 : decode cX7_trade 82 = .ok (.getfield 100, 3) := by decide +kernel
theorem dX7_trade_85 : decode cX7_trade 85 = .ok (.iload_n 2, 1) := by decide +kernel
theorem dX7_trade_86 : decode cX7_trade 86 = .ok (.iaload, 1) := by decide +kernel
theorem dX7_trade_87 : decode cX7_trade 87 = .ok (.aload_n 1, 1) := by decide +kernel
theorem dX7_trade_88 : decode cX7_trade 88 = .ok (.getfield 100, 3) := by decide +kernel
theorem dX7_trade_91 : decode cX7_trade 91 = .ok (.iload_n 3, 1) := by decide +kernel
theorem dX7_trade_92 : decode cX7_trade 92 = .ok (.iaload, 1) := by decide +kernel
theorem dX7_trade_93 : decode cX7_trade 93 = .ok (.isub, 1) := by decide +kernel
theorem dX7_trade_94 : decode cX7_trade 94 = .ok (.iadd, 1) := by decide +kernel
theorem dX7_trade_95 : decode cX7_trade 95 = .ok (.putfield 41, 3) := by decide +kernel
theorem dX7_trade_98 : decode cX7_trade 98 = .ok (.aload_n 0, 1) := by decide +kernel
theorem dX7_trade_99 : decode cX7_trade 99 = .ok (.iload 5, 2) := by decide +kernel
theorem dX7_trade_101 : decode cX7_trade 101 = .ok (.iconst 1, 1) := by decide +kernel
theorem dX7_trade_102 : decode cX7_trade 102 = .ok (.iadd, 1) := by decide +kernel
theorem dX7_trade_103 : decode cX7_trade 103 = .ok (.putfield 44, 3) := by decide +kernel
theorem dX7_trade_106 : decode cX7_trade 106 = .ok (.aload_n 0, 1) := by decide +kernel
theorem dX7_trade_107 : decode cX7_trade 107 = .ok (.iload 4, 2) := by decide +kernel
theorem dX7_trade_109 : decode cX7_trade 109 = .ok (.putfield 29, 3) := by decide +kernel
theorem dX7_trade_112 : decode cX7_trade 112 = .ok (.return_, 1) := by decide +kernel
theorem dX7_playShouts_0 : decode cX7_playShouts 0 = .ok (.aload_n 2, 1) := by decide +kernel
theorem dX7_playShouts_1 : decode cX7_playShouts 1 = .ok (.ifnull 8, 3) := by decide +kernel
theorem dX7_playShouts_4 : decode cX7_playShouts 4 = .ok (.aload_n 2, 1) := by decide +kernel
theorem dX7_playShouts_5 : decode cX7_playShouts 5 = .ok (.iconst 0, 1) := by decide +kernel
theorem dX7_playShouts_6 : decode cX7_playShouts 6 = .ok (.putfield 103, 3) := by decide +kernel
theorem dX7_playShouts_9 : decode cX7_playShouts 9 = .ok (.aload_n 0, 1) := by decide +kernel
theorem dX7_playShouts_10 : decode cX7_playShouts 10 = .ok (.bipush (-4), 2) := by decide +kernel
theorem dX7_playShouts_12 : decode cX7_playShouts 12 = .ok (.putfield 108, 3) := by decide +kernel
theorem dX7_playShouts_15 : decode cX7_playShouts 15 = .ok (.aload_n 0, 1) := by decide +kernel
theorem dX7_playShouts_16 : decode cX7_playShouts 16 = .ok (.bipush (-4), 2) := by decide +kernel
theorem dX7_playShouts_18 : decode cX7_playShouts 18 = .ok (.putfield 111, 3) := by decide +kernel
theorem dX7_playShouts_21 : decode cX7_playShouts 21 = .ok (.iconst 0, 1) := by decide +kernel
theorem dX7_playShouts_22 : decode cX7_playShouts 22 = .ok (.istore_n 3, 1) := by decide +kernel
theorem dX7_playShouts_23 : decode cX7_playShouts 23 = .ok (.iload_n 3, 1) := by decide +kernel
theorem dX7_playShouts_24 : decode cX7_playShouts 24 = .ok (.aload_n 1, 1) := by decide +kernel
theorem dX7_playShouts_25 : decode cX7_playShouts 25 = .ok (.getfield 114, 3) := by decide +kernel
theorem dX7_playShouts_28 : decode cX7_playShouts 28 = .ok (.if_icmp .ge 119, 3) := by decide +kernel
theorem dX7_playShouts_31 : decode cX7_playShouts 31 = .ok (.aload_n 0, 1) := by decide +kernel
theorem dX7_playShouts_32 : decode cX7_playShouts 32 = .ok (.iload_n 3, 1) := by decide +kernel
theorem dX7_playShouts_33 : decode cX7_playShouts 33 = .ok (.iconst 0, 1) := by decide +kernel
theorem dX7_playShouts_34 : decode cX7_playShouts 34 = .ok (.invokevirtual 117, 3) := by decide +kernel
theorem dX7_playShouts_37 : decode cX7_playShouts 37 = .ok (.aload_n 1, 1) := by decide +kernel
theorem dX7_playShouts_38 : decode cX7_playShouts 38 = .ok (.getfield 120, 3) := by decide +kernel
theorem dX7_playShouts_41 : decode cX7_playShouts 41 = .ok (.invokestatic 80, 3) := by decide +kernel
theorem dX7_playShouts_44 : decode cX7_playShouts 44 = .ok (.istore 4, 2) := by decide +kernel
theorem dX7_playShouts_46 : decode cX7_playShouts 46 = .ok (.aload_n 0, 1) := by decide +kernel
theorem dX7_playShouts_47 : decode cX7_playShouts 47 = .ok (.getfield 9, 3) := by decide +kernel
theorem dX7_playShouts_50 : decode cX7_playShouts 50 = .ok (.iload 4, 2) := by decide +kernel
theorem dX7_playShouts_52 : decode cX7_playShouts 52 = .ok (.iaload, 1) := by decide +kernel
theorem dX7_playShouts_53 : decode cX7_playShouts 53 = .ok (.bipush (-4), 2) := by decide +kernel
theorem dX7_playShouts_55 : decode cX7_playShouts 55 = .ok (.if_icmp .eq 6, 3) := by decide +kernel
theorem dX7_playShouts_58 : decode cX7_playShouts 58 = .ok (.goto 83, 3) := by decide +kernel
theorem dX7_playShouts_61 : decode cX7_playShouts 61 = .ok (.aload_n 0, 1) := by decide +kernel
theorem dX7_playShouts_62 : decode cX7_playShouts 62 = .ok (.aload_n 1, 1) := by decide +kernel
theorem dX7_playShouts_63 : decode cX7_playShouts 63 = .ok (.iload 4, 2) := by decide +kernel
theorem dX7_playShouts_65 : decode cX7_playShouts 65 = .ok (.iload_n 3, 1) := by decide +kernel
theorem dX7_playShouts_66 : decode cX7_playShouts 66 = .ok (.aload_n 0, 1) := by decide +kernel
theorem dX7_playShouts_67 : decode cX7_playShouts 67 = .ok (.iload_n 3, 1) := by decide +kernel
theorem dX7_playShouts_68 : decode cX7_playShouts 68 = .ok (.iconst 1, 1) := by decide +kernel
theorem dX7_playShouts_69 : decode cX7_playShouts 69 = .ok (.invokevirtual 117, 3) := by decide +kernel
theorem dX7_playShouts_72 : decode cX7_playShouts 72 = .ok (.invokevirtual 123, 3) := by decide +kernel
theorem dX7_playShouts_75 : decode cX7_playShouts 75 = .ok (.istore 5, 2) := by decide +kernel
theorem dX7_playShouts_77 : decode cX7_playShouts 77 = .ok (.aload_n 1, 1) := by decide +kernel
theorem dX7_playShouts_78 : decode cX7_playShouts 78 = .ok (.iload 4, 2) := by decide +kernel
theorem dX7_playShouts_80 : decode cX7_playShouts 80 = .ok (.iload 5, 2) := by decide +kernel
theorem dX7_playShouts_82 : decode cX7_playShouts 82 = .ok (.invokestatic 126, 3) := by decide +kernel
theorem dX7_playShouts_85 : decode cX7_playShouts 85 = .ok (.ifCond .ne 6, 3) := by decide +kernel
theorem dX7_playShouts_88 : decode cX7_playShouts 88 = .ok (.goto 53, 3) := by decide +kernel
theorem dX7_playShouts_91 : decode cX7_playShouts 91 = .ok (.aload_n 2, 1) := by decide +kernel
theorem dX7_playShouts_92 : decode cX7_playShouts 92 = .ok (.ifnull 16, 3) := by decide +kernel
theorem dX7_playShouts_95 : decode cX7_playShouts 95 = .ok (.aload_n 2, 1) := by decide +kernel
theorem dX7_playShouts_96 : decode cX7_playShouts 96 = .ok (.iload 4, 2) := by decide +kernel
theorem dX7_playShouts_98 : decode cX7_playShouts 98 = .ok (.iload 5, 2) := by decide +kernel
theorem dX7_playShouts_100 : decode cX7_playShouts 100 = .ok (.iload_n 3, 1) := by decide +kernel
theorem dX7_playShouts_101 : decode cX7_playShouts 101 = .ok (.aload_n 0, 1) := by decide +kernel
theorem dX7_playShouts_102 : decode cX7_playShouts 102 = .ok (.getfield 29, 3) := by decide +kernel
theorem dX7_playShouts_105 : decode cX7_playShouts 105 = .ok (.invokevirtual 130, 3) := by decide +kernel
theorem dX7_playShouts_108 : decode cX7_playShouts 108 = .ok (.aload_n 1, 1) := by decide +kernel
theorem dX7_playShouts_109 : decode cX7_playShouts 109 = .ok (.getfield 134, 3) := by decide +kernel
theorem dX7_playShouts_112 : decode cX7_playShouts 112 = .ok (.iload 4, 2) := by decide +kernel
theorem dX7_playShouts_114 : decode cX7_playShouts 114 = .ok (.baload, 1) := by decide +kernel
theorem dX7_playShouts_115 : decode cX7_playShouts 115 = .ok (.ifCond .eq 16, 3) := by decide +kernel
theorem dX7_playShouts_118 : decode cX7_playShouts 118 = .ok (.aload_n 0, 1) := by decide +kernel
theorem dX7_playShouts_119 : decode cX7_playShouts 119 = .ok (.aload_n 1, 1) := by decide +kernel
theorem dX7_playShouts_120 : decode cX7_playShouts 120 = .ok (.iload 4, 2) := by decide +kernel
theorem dX7_playShouts_122 : decode cX7_playShouts 122 = .ok (.iload 5, 2) := by decide +kernel
theorem dX7_playShouts_124 : decode cX7_playShouts 124 = .ok (.iload_n 3, 1) := by decide +kernel
theorem dX7_playShouts_125 : decode cX7_playShouts 125 = .ok (.invokevirtual 138, 3) := by decide +kernel
theorem dX7_playShouts_128 : decode cX7_playShouts 128 = .ok (.goto 13, 3) := by decide +kernel
theorem dX7_playShouts_131 : decode cX7_playShouts 131 = .ok (.aload_n 0, 1) := by decide +kernel
theorem dX7_playShouts_132 : decode cX7_playShouts 132 = .ok (.aload_n 1, 1) := by decide +kernel
theorem dX7_playShouts_133 : decode cX7_playShouts 133 = .ok (.iload 4, 2) := by decide +kernel
theorem dX7_playShouts_135 : decode cX7_playShouts 135 = .ok (.iload 5, 2) := by decide +kernel
theorem dX7_playShouts_137 : decode cX7_playShouts 137 = .ok (.iload_n 3, 1) := by decide +kernel
theorem dX7_playShouts_138 : decode cX7_playShouts 138 = .ok (.invokevirtual 142, 3) := by decide +kernel
theorem dX7_playShouts_141 : decode cX7_playShouts 141 = .ok (.iinc 3 1, 3) := by decide +kernel
theorem dX7_playShouts_144 : decode cX7_playShouts 144 = .ok (.goto (-121), 3) := by decide +kernel
theorem dX7_playShouts_147 : decode cX7_playShouts 147 = .ok (.return_, 1) := by decide +kernel
theorem dX7_hearBid_0 : decode cX7_hearBid 0 = .ok (.aload_n 0, 1) := by decide +kernel
theorem dX7_hearBid_1 : decode cX7_hearBid 1 = .ok (.getfield 111, 3) := by decide +kernel
theorem dX7_hearBid_4 : decode cX7_hearBid 4 = .ok (.bipush (-4), 2) := by decide +kernel
theorem dX7_hearBid_6 : decode cX7_hearBid 6 = .ok (.if_icmp .eq 52, 3) := by decide +kernel
theorem dX7_hearBid_9 : decode cX7_hearBid 9 = .ok (.iload_n 3, 1) := by decide +kernel
theorem dX7_hearBid_10 : decode cX7_hearBid 10 = .ok (.aload_n 0, 1) := by decide +kernel
theorem dX7_hearBid_11 : decode cX7_hearBid 11 = .ok (.getfield 145, 3) := by decide +kernel
theorem dX7_hearBid_14 : decode cX7_hearBid 14 = .ok (.aload_n 1, 1) := by decide +kernel
theorem dX7_hearBid_15 : decode cX7_hearBid 15 = .ok (.getfield 148, 3) := by decide +kernel
theorem dX7_hearBid_18 : decode cX7_hearBid 18 = .ok (.iadd, 1) := by decide +kernel
theorem dX7_hearBid_19 : decode cX7_hearBid 19 = .ok (.if_icmp .lt 39, 3) := by decide +kernel
theorem dX7_hearBid_22 : decode cX7_hearBid 22 = .ok (.aload_n 0, 1) := by decide +kernel
theorem dX7_hearBid_23 : decode cX7_hearBid 23 = .ok (.aload_n 1, 1) := by decide +kernel
theorem dX7_hearBid_24 : decode cX7_hearBid 24 = .ok (.iload_n 2, 1) := by decide +kernel
theorem dX7_hearBid_25 : decode cX7_hearBid 25 = .ok (.aload_n 0, 1) := by decide +kernel
theorem dX7_hearBid_26 : decode cX7_hearBid 26 = .ok (.getfield 111, 3) := by decide +kernel
theorem dX7_hearBid_29 : decode cX7_hearBid 29 = .ok (.aload_n 0, 1) := by decide +kernel
theorem dX7_hearBid_30 : decode cX7_hearBid 30 = .ok (.getfield 145, 3) := by decide +kernel
theorem dX7_hearBid_33 : decode cX7_hearBid 33 = .ok (.aload_n 1, 1) := by decide +kernel
theorem dX7_hearBid_34 : decode cX7_hearBid 34 = .ok (.getfield 148, 3) := by decide +kernel
theorem dX7_hearBid_37 : decode cX7_hearBid 37 = .ok (.iadd, 1) := by decide +kernel
theorem dX7_hearBid_38 : decode cX7_hearBid 38 = .ok (.iload 4, 2) := by decide +kernel
theorem dX7_hearBid_40 : decode cX7_hearBid 40 = .ok (.invokevirtual 151, 3) := by decide +kernel
theorem dX7_hearBid_43 : decode cX7_hearBid 43 = .ok (.aload_n 0, 1) := by decide +kernel
theorem dX7_hearBid_44 : decode cX7_hearBid 44 = .ok (.bipush (-4), 2) := by decide +kernel
theorem dX7_hearBid_46 : decode cX7_hearBid 46 = .ok (.putfield 108, 3) := by decide +kernel
theorem dX7_hearBid_49 : decode cX7_hearBid 49 = .ok (.aload_n 0, 1) := by decide +kernel
theorem dX7_hearBid_50 : decode cX7_hearBid 50 = .ok (.bipush (-4), 2) := by decide +kernel
theorem dX7_hearBid_52 : decode cX7_hearBid 52 = .ok (.putfield 111, 3) := by decide +kernel
theorem dX7_hearBid_55 : decode cX7_hearBid 55 = .ok (.goto 30, 3) := by decide +kernel
theorem dX7_hearBid_58 : decode cX7_hearBid 58 = .ok (.aload_n 0, 1) := by decide +kernel
theorem dX7_hearBid_59 : decode cX7_hearBid 59 = .ok (.getfield 108, 3) := by decide +kernel
theorem dX7_hearBid_62 : decode cX7_hearBid 62 = .ok (.bipush (-4), 2) := by decide +kernel
theorem dX7_hearBid_64 : decode cX7_hearBid 64 = .ok (.if_icmp .eq 11, 3) := by decide +kernel
theorem dX7_hearBid_67 : decode cX7_hearBid 67 = .ok (.iload_n 3, 1) := by decide +kernel
theorem dX7_hearBid_68 : decode cX7_hearBid 68 = .ok (.aload_n 0, 1) := by decide +kernel
theorem dX7_hearBid_69 : decode cX7_hearBid 69 = .ok (.getfield 155, 3) := by decide +kernel
theorem dX7_hearBid_72 : decode cX7_hearBid 72 = .ok (.if_icmp .le 13, 3) := by decide +kernel
theorem dX7_hearBid_75 : decode cX7_hearBid 75 = .ok (.aload_n 0, 1) := by decide +kernel
theorem dX7_hearBid_76 : decode cX7_hearBid 76 = .ok (.iload_n 2, 1) := by decide +kernel
theorem dX7_hearBid_77 : decode cX7_hearBid 77 = .ok (.putfield 108, 3) := by decide +kernel
theorem dX7_hearBid_80 : decode cX7_hearBid 80 = .ok (.aload_n 0, 1) := by decide +kernel
theorem dX7_hearBid_81 : decode cX7_hearBid 81 = .ok (.iload_n 3, 1) := by decide +kernel
theorem dX7_hearBid_82 : decode cX7_hearBid 82 = .ok (.putfield 155, 3) := by decide +kernel
theorem dX7_hearBid_85 : decode cX7_hearBid 85 = .ok (.return_, 1) := by decide +kernel
theorem dX7_hearOffer_0 : decode cX7_hearOffer 0 = .ok (.aload_n 0, 1) := by decide +kernel
theorem dX7_hearOffer_1 : decode cX7_hearOffer 1 = .ok (.getfield 108, 3) := by decide +kernel
theorem dX7_hearOffer_4 : decode cX7_hearOffer 4 = .ok (.bipush (-4), 2) := by decide +kernel
theorem dX7_hearOffer_6 : decode cX7_hearOffer 6 = .ok (.if_icmp .eq 47, 3) := by decide +kernel
theorem dX7_hearOffer_9 : decode cX7_hearOffer 9 = .ok (.iload_n 3, 1) := by decide +kernel
theorem dX7_hearOffer_10 : decode cX7_hearOffer 10 = .ok (.aload_n 1, 1) := by decide +kernel
theorem dX7_hearOffer_11 : decode cX7_hearOffer 11 = .ok (.getfield 148, 3) := by decide +kernel
theorem dX7_hearOffer_14 : decode cX7_hearOffer 14 = .ok (.iadd, 1) := by decide +kernel
theorem dX7_hearOffer_15 : decode cX7_hearOffer 15 = .ok (.aload_n 0, 1) := by decide +kernel
theorem dX7_hearOffer_16 : decode cX7_hearOffer 16 = .ok (.getfield 155, 3) := by decide +kernel
theorem dX7_hearOffer_19 : decode cX7_hearOffer 19 = .ok (.if_icmp .gt 34, 3) := by decide +kernel
theorem dX7_hearOffer_22 : decode cX7_hearOffer 22 = .ok (.aload_n 0, 1) := by decide +kernel
theorem dX7_hearOffer_23 : decode cX7_hearOffer 23 = .ok (.aload_n 1, 1) := by decide +kernel
theorem dX7_hearOffer_24 : decode cX7_hearOffer 24 = .ok (.aload_n 0, 1) := by decide +kernel
theorem dX7_hearOffer_25 : decode cX7_hearOffer 25 = .ok (.getfield 108, 3) := by decide +kernel
theorem dX7_hearOffer_28 : decode cX7_hearOffer 28 = .ok (.iload_n 2, 1) := by decide +kernel
theorem dX7_hearOffer_29 : decode cX7_hearOffer 29 = .ok (.aload_n 0, 1) := by decide +kernel
theorem dX7_hearOffer_30 : decode cX7_hearOffer 30 = .ok (.getfield 155, 3) := by decide +kernel
theorem dX7_hearOffer_33 : decode cX7_hearOffer 33 = .ok (.iload 4, 2) := by decide +kernel
theorem dX7_hearOffer_35 : decode cX7_hearOffer 35 = .ok (.invokevirtual 151, 3) := by decide +kernel
theorem dX7_hearOffer_38 : decode cX7_hearOffer 38 = .ok (.aload_n 0, 1) := by decide +kernel
theorem dX7_hearOffer_39 : decode cX7_hearOffer 39 = .ok (.bipush (-4), 2) := by decide +kernel
theorem dX7_hearOffer_41 : decode cX7_hearOffer 41 = .ok (.putfield 108, 3) := by decide +kernel
theorem dX7_hearOffer_44 : decode cX7_hearOffer 44 = .ok (.aload_n 0, 1) := by decide +kernel
theorem dX7_hearOffer_45 : decode cX7_hearOffer 45 = .ok (.bipush (-4), 2) := by decide +kernel
theorem dX7_hearOffer_47 : decode cX7_hearOffer 47 = .ok (.putfield 111, 3) := by decide +kernel
theorem dX7_hearOffer_50 : decode cX7_hearOffer 50 = .ok (.goto 30, 3) := by decide +kernel
theorem dX7_hearOffer_53 : decode cX7_hearOffer 53 = .ok (.aload_n 0, 1) := by decide +kernel
theorem dX7_hearOffer_54 : decode cX7_hearOffer 54 = .ok (.getfield 111, 3) := by decide +kernel
theorem dX7_hearOffer_57 : decode cX7_hearOffer 57 = .ok (.bipush (-4), 2) := by decide +kernel
theorem dX7_hearOffer_59 : decode cX7_hearOffer 59 = .ok (.if_icmp .eq 11, 3) := by decide +kernel
theorem dX7_hearOffer_62 : decode cX7_hearOffer 62 = .ok (.iload_n 3, 1) := by decide +kernel
theorem dX7_hearOffer_63 : decode cX7_hearOffer 63 = .ok (.aload_n 0, 1) := by decide +kernel
theorem dX7_hearOffer_64 : decode cX7_hearOffer 64 = .ok (.getfield 145, 3) := by decide +kernel
theorem dX7_hearOffer_67 : decode cX7_hearOffer 67 = .ok (.if_icmp .ge 13, 3) := by decide +kernel
theorem dX7_hearOffer_70 : decode cX7_hearOffer 70 = .ok (.aload_n 0, 1) := by decide +kernel
theorem dX7_hearOffer_71 : decode cX7_hearOffer 71 = .ok (.iload_n 2, 1) := by decide +kernel
theorem dX7_hearOffer_72 : decode cX7_hearOffer 72 = .ok (.putfield 111, 3) := by decide +kernel
theorem dX7_hearOffer_75 : decode cX7_hearOffer 75 = .ok (.aload_n 0, 1) := by decide +kernel
theorem dX7_hearOffer_76 : decode cX7_hearOffer 76 = .ok (.iload_n 3, 1) := by decide +kernel
theorem dX7_hearOffer_77 : decode cX7_hearOffer 77 = .ok (.putfield 145, 3) := by decide +kernel
theorem dX7_hearOffer_80 : decode cX7_hearOffer 80 = .ok (.return_, 1) := by decide +kernel
theorem dX7_playPairs_0 : decode cX7_playPairs 0 = .ok (.iconst 0, 1) := by decide +kernel
theorem dX7_playPairs_1 : decode cX7_playPairs 1 = .ok (.istore_n 2, 1) := by decide +kernel
theorem dX7_playPairs_2 : decode cX7_playPairs 2 = .ok (.iload_n 2, 1) := by decide +kernel
theorem dX7_playPairs_3 : decode cX7_playPairs 3 = .ok (.aload_n 1, 1) := by decide +kernel
theorem dX7_playPairs_4 : decode cX7_playPairs 4 = .ok (.getfield 114, 3) := by decide +kernel
theorem dX7_playPairs_7 : decode cX7_playPairs 7 = .ok (.if_icmp .ge 144, 3) := by decide +kernel
theorem dX7_playPairs_10 : decode cX7_playPairs 10 = .ok (.aload_n 1, 1) := by decide +kernel
theorem dX7_playPairs_11 : decode cX7_playPairs 11 = .ok (.getfield 158, 3) := by decide +kernel
theorem dX7_playPairs_14 : decode cX7_playPairs 14 = .ok (.aload_n 0, 1) := by decide +kernel
theorem dX7_playPairs_15 : decode cX7_playPairs 15 = .ok (.iload_n 2, 1) := by decide +kernel
theorem dX7_playPairs_16 : decode cX7_playPairs 16 = .ok (.iconst 0, 1) := by decide +kernel
theorem dX7_playPairs_17 : decode cX7_playPairs 17 = .ok (.invokevirtual 117, 3) := by decide +kernel
theorem dX7_playPairs_20 : decode cX7_playPairs 20 = .ok (.aload_n 1, 1) := by decide +kernel
theorem dX7_playPairs_21 : decode cX7_playPairs 21 = .ok (.getfield 161, 3) := by decide +kernel
theorem dX7_playPairs_24 : decode cX7_playPairs 24 = .ok (.invokestatic 80, 3) := by decide +kernel
theorem dX7_playPairs_27 : decode cX7_playPairs 27 = .ok (.iaload, 1) := by decide +kernel
theorem dX7_playPairs_28 : decode cX7_playPairs 28 = .ok (.istore_n 3, 1) := by decide +kernel
theorem dX7_playPairs_29 : decode cX7_playPairs 29 = .ok (.aload_n 1, 1) := by decide +kernel
theorem dX7_playPairs_30 : decode cX7_playPairs 30 = .ok (.getfield 164, 3) := by decide +kernel
theorem dX7_playPairs_33 : decode cX7_playPairs 33 = .ok (.aload_n 0, 1) := by decide +kernel
theorem dX7_playPairs_34 : decode cX7_playPairs 34 = .ok (.iload_n 2, 1) := by decide +kernel
theorem dX7_playPairs_35 : decode cX7_playPairs 35 = .ok (.iconst 2, 1) := by decide +kernel
theorem dX7_playPairs_36 : decode cX7_playPairs 36 = .ok (.invokevirtual 117, 3) := by decide +kernel
theorem dX7_playPairs_39 : decode cX7_playPairs 39 = .ok (.aload_n 1, 1) := by decide +kernel
theorem dX7_playPairs_40 : decode cX7_playPairs 40 = .ok (.getfield 167, 3) := by decide +kernel
theorem dX7_playPairs_43 : decode cX7_playPairs 43 = .ok (.invokestatic 80, 3) := by decide +kernel
theorem dX7_playPairs_46 : decode cX7_playPairs 46 = .ok (.iaload, 1) := by decide +kernel
theorem dX7_playPairs_47 : decode cX7_playPairs 47 = .ok (.istore 4, 2) := by decide +kernel
theorem dX7_playPairs_49 : decode cX7_playPairs 49 = .ok (.aload_n 0, 1) := by decide +kernel
theorem dX7_playPairs_50 : decode cX7_playPairs 50 = .ok (.getfield 9, 3) := by decide +kernel
theorem dX7_playPairs_53 : decode cX7_playPairs 53 = .ok (.iload_n 3, 1) := by decide +kernel
theorem dX7_playPairs_54 : decode cX7_playPairs 54 = .ok (.iaload, 1) := by decide +kernel
theorem dX7_playPairs_55 : decode cX7_playPairs 55 = .ok (.bipush (-4), 2) := by decide +kernel
theorem dX7_playPairs_57 : decode cX7_playPairs 57 = .ok (.if_icmp .ne 88, 3) := by decide +kernel
theorem dX7_playPairs_60 : decode cX7_playPairs 60 = .ok (.aload_n 0, 1) := by decide +kernel
theorem dX7_playPairs_61 : decode cX7_playPairs 61 = .ok (.getfield 9, 3) := by decide +kernel
theorem dX7_playPairs_64 : decode cX7_playPairs 64 = .ok (.iload 4, 2) := by decide +kernel
theorem dX7_playPairs_66 : decode cX7_playPairs 66 = .ok (.iaload, 1) := by decide +kernel
theorem dX7_playPairs_67 : decode cX7_playPairs 67 = .ok (.bipush (-4), 2) := by decide +kernel
theorem dX7_playPairs_69 : decode cX7_playPairs 69 = .ok (.if_icmp .eq 6, 3) := by decide +kernel
theorem dX7_playPairs_72 : decode cX7_playPairs 72 = .ok (.goto 73, 3) := by decide +kernel
theorem dX7_playPairs_75 : decode cX7_playPairs 75 = .ok (.aload_n 0, 1) := by decide +kernel
theorem dX7_playPairs_76 : decode cX7_playPairs 76 = .ok (.aload_n 1, 1) := by decide +kernel
theorem dX7_playPairs_77 : decode cX7_playPairs 77 = .ok (.iload_n 3, 1) := by decide +kernel
theorem dX7_playPairs_78 : decode cX7_playPairs 78 = .ok (.iload_n 2, 1) := by decide +kernel
theorem dX7_playPairs_79 : decode cX7_playPairs 79 = .ok (.aload_n 0, 1) := by decide +kernel
theorem dX7_playPairs_80 : decode cX7_playPairs 80 = .ok (.iload_n 2, 1) := by decide +kernel
theorem dX7_playPairs_81 : decode cX7_playPairs 81 = .ok (.iconst 1, 1) := by decide +kernel
theorem dX7_playPairs_82 : decode cX7_playPairs 82 = .ok (.invokevirtual 117, 3) := by decide +kernel
theorem dX7_playPairs_85 : decode cX7_playPairs 85 = .ok (.invokevirtual 123, 3) := by decide +kernel
theorem dX7_playPairs_88 : decode cX7_playPairs 88 = .ok (.istore 5, 2) := by decide +kernel
theorem dX7_playPairs_90 : decode cX7_playPairs 90 = .ok (.aload_n 0, 1) := by decide +kernel
theorem dX7_playPairs_91 : decode cX7_playPairs 91 = .ok (.aload_n 1, 1) := by decide +kernel
theorem dX7_playPairs_92 : decode cX7_playPairs 92 = .ok (.iload 4, 2) := by decide +kernel
theorem dX7_playPairs_94 : decode cX7_playPairs 94 = .ok (.iload_n 2, 1) := by decide +kernel
theorem dX7_playPairs_95 : decode cX7_playPairs 95 = .ok (.aload_n 0, 1) := by decide +kernel
theorem dX7_playPairs_96 : decode cX7_playPairs 96 = .ok (.iload_n 2, 1) := by decide +kernel
theorem dX7_playPairs_97 : decode cX7_playPairs 97 = .ok (.iconst 3, 1) := by decide +kernel
theorem dX7_playPairs_98 : decode cX7_playPairs 98 = .ok (.invokevirtual 117, 3) := by decide +kernel
theorem dX7_playPairs_101 : decode cX7_playPairs 101 = .ok (.invokevirtual 123, 3) := by decide +kernel
theorem dX7_playPairs_104 : decode cX7_playPairs 104 = .ok (.istore 6, 2) := by decide +kernel
theorem dX7_playPairs_106 : decode cX7_playPairs 106 = .ok (.aload_n 1, 1) := by decide +kernel
theorem dX7_playPairs_107 : decode cX7_playPairs 107 = .ok (.iload 4, 2) := by decide +kernel
theorem dX7_playPairs_109 : decode cX7_playPairs 109 = .ok (.iload 6, 2) := by decide +kernel
theorem dX7_playPairs_111 : decode cX7_playPairs 111 = .ok (.invokestatic 126, 3) := by decide +kernel
theorem dX7_playPairs_114 : decode cX7_playPairs 114 = .ok (.ifCond .eq 31, 3) := by decide +kernel
theorem dX7_playPairs_117 : decode cX7_playPairs 117 = .ok (.iload 5, 2) := by decide +kernel
theorem dX7_playPairs_119 : decode cX7_playPairs 119 = .ok (.iload 6, 2) := by decide +kernel
theorem dX7_playPairs_121 : decode cX7_playPairs 121 = .ok (.aload_n 1, 1) := by decide +kernel
theorem dX7_playPairs_122 : decode cX7_playPairs 122 = .ok (.getfield 148, 3) := by decide +kernel
theorem dX7_playPairs_125 : decode cX7_playPairs 125 = .ok (.iadd, 1) := by decide +kernel
theorem dX7_playPairs_126 : decode cX7_playPairs 126 = .ok (.if_icmp .lt 19, 3) := by decide +kernel
theorem dX7_playPairs_129 : decode cX7_playPairs 129 = .ok (.aload_n 0, 1) := by decide +kernel
theorem dX7_playPairs_130 : decode cX7_playPairs 130 = .ok (.aload_n 1, 1) := by decide +kernel
theorem dX7_playPairs_131 : decode cX7_playPairs 131 = .ok (.iload_n 3, 1) := by decide +kernel
theorem dX7_playPairs_132 : decode cX7_playPairs 132 = .ok (.iload 4, 2) := by decide +kernel
theorem dX7_playPairs_134 : decode cX7_playPairs 134 = .ok (.iload 6, 2) := by decide +kernel
theorem dX7_playPairs_136 : decode cX7_playPairs 136 = .ok (.aload_n 1, 1) := by decide +kernel
theorem dX7_playPairs_137 : decode cX7_playPairs 137 = .ok (.getfield 148, 3) := by decide +kernel
theorem dX7_playPairs_140 : decode cX7_playPairs 140 = .ok (.iadd, 1) := by decide +kernel
theorem dX7_playPairs_141 : decode cX7_playPairs 141 = .ok (.iload_n 2, 1) := by decide +kernel
theorem dX7_playPairs_142 : decode cX7_playPairs 142 = .ok (.invokevirtual 151, 3) := by decide +kernel
theorem dX7_playPairs_145 : decode cX7_playPairs 145 = .ok (.iinc 2 1, 3) := by decide +kernel
theorem dX7_playPairs_148 : decode cX7_playPairs 148 = .ok (.goto (-146), 3) := by decide +kernel
theorem dX7_playPairs_151 : decode cX7_playPairs 151 = .ok (.return_, 1) := by decide +kernel
theorem dX7_playPosted_0 : decode cX7_playPosted 0 = .ok (.iconst 0, 1) := by decide +kernel
theorem dX7_playPosted_1 : decode cX7_playPosted 1 = .ok (.istore_n 2, 1) := by decide +kernel
theorem dX7_playPosted_2 : decode cX7_playPosted 2 = .ok (.iload_n 2, 1) := by decide +kernel
theorem dX7_playPosted_3 : decode cX7_playPosted 3 = .ok (.aload_n 1, 1) := by decide +kernel
theorem dX7_playPosted_4 : decode cX7_playPosted 4 = .ok (.getfield 167, 3) := by decide +kernel
theorem dX7_playPosted_7 : decode cX7_playPosted 7 = .ok (.if_icmp .ge 35, 3) := by decide +kernel
theorem dX7_playPosted_10 : decode cX7_playPosted 10 = .ok (.aload_n 1, 1) := by decide +kernel
theorem dX7_playPosted_11 : decode cX7_playPosted 11 = .ok (.getfield 164, 3) := by decide +kernel
theorem dX7_playPosted_14 : decode cX7_playPosted 14 = .ok (.iload_n 2, 1) := by decide +kernel
theorem dX7_playPosted_15 : decode cX7_playPosted 15 = .ok (.iaload, 1) := by decide +kernel
theorem dX7_playPosted_16 : decode cX7_playPosted 16 = .ok (.istore_n 3, 1) := by decide +kernel
theorem dX7_playPosted_17 : decode cX7_playPosted 17 = .ok (.aload_n 0, 1) := by decide +kernel
theorem dX7_playPosted_18 : decode cX7_playPosted 18 = .ok (.getfield 15, 3) := by decide +kernel
theorem dX7_playPosted_21 : decode cX7_playPosted 21 = .ok (.iload_n 3, 1) := by decide +kernel
theorem dX7_playPosted_22 : decode cX7_playPosted 22 = .ok (.aload_n 0, 1) := by decide +kernel
theorem dX7_playPosted_23 : decode cX7_playPosted 23 = .ok (.aload_n 1, 1) := by decide +kernel
theorem dX7_playPosted_24 : decode cX7_playPosted 24 = .ok (.iload_n 3, 1) := by decide +kernel
theorem dX7_playPosted_25 : decode cX7_playPosted 25 = .ok (.iconst 0, 1) := by decide +kernel
theorem dX7_playPosted_26 : decode cX7_playPosted 26 = .ok (.aload_n 0, 1) := by decide +kernel
theorem dX7_playPosted_27 : decode cX7_playPosted 27 = .ok (.iload_n 3, 1) := by decide +kernel
theorem dX7_playPosted_28 : decode cX7_playPosted 28 = .ok (.iconst 1, 1) := by decide +kernel
theorem dX7_playPosted_29 : decode cX7_playPosted 29 = .ok (.invokevirtual 117, 3) := by decide +kernel
theorem dX7_playPosted_32 : decode cX7_playPosted 32 = .ok (.invokevirtual 123, 3) := by decide +kernel
theorem dX7_playPosted_35 : decode cX7_playPosted 35 = .ok (.iastore, 1) := by decide +kernel
theorem dX7_playPosted_36 : decode cX7_playPosted 36 = .ok (.iinc 2 1, 3) := by decide +kernel
theorem dX7_playPosted_39 : decode cX7_playPosted 39 = .ok (.goto (-37), 3) := by decide +kernel
theorem dX7_playPosted_42 : decode cX7_playPosted 42 = .ok (.iconst 0, 1) := by decide +kernel
theorem dX7_playPosted_43 : decode cX7_playPosted 43 = .ok (.istore_n 2, 1) := by decide +kernel
theorem dX7_playPosted_44 : decode cX7_playPosted 44 = .ok (.iload_n 2, 1) := by decide +kernel
theorem dX7_playPosted_45 : decode cX7_playPosted 45 = .ok (.aload_n 1, 1) := by decide +kernel
theorem dX7_playPosted_46 : decode cX7_playPosted 46 = .ok (.getfield 114, 3) := by decide +kernel
theorem dX7_playPosted_49 : decode cX7_playPosted 49 = .ok (.if_icmp .ge 98, 3) := by decide +kernel
theorem dX7_playPosted_52 : decode cX7_playPosted 52 = .ok (.aload_n 1, 1) := by decide +kernel
theorem dX7_playPosted_53 : decode cX7_playPosted 53 = .ok (.getfield 158, 3) := by decide +kernel
theorem dX7_playPosted_56 : decode cX7_playPosted 56 = .ok (.aload_n 0, 1) := by decide +kernel
theorem dX7_playPosted_57 : decode cX7_playPosted 57 = .ok (.iload_n 2, 1) := by decide +kernel
theorem dX7_playPosted_58 : decode cX7_playPosted 58 = .ok (.iconst 0, 1) := by decide +kernel
theorem dX7_playPosted_59 : decode cX7_playPosted 59 = .ok (.invokevirtual 117, 3) := by decide +kernel
theorem dX7_playPosted_62 : decode cX7_playPosted 62 = .ok (.aload_n 1, 1) := by decide +kernel
theorem dX7_playPosted_63 : decode cX7_playPosted 63 = .ok (.getfield 161, 3) := by decide +kernel
theorem dX7_playPosted_66 : decode cX7_playPosted 66 = .ok (.invokestatic 80, 3) := by decide +kernel
theorem dX7_playPosted_69 : decode cX7_playPosted 69 = .ok (.iaload, 1) := by decide +kernel
theorem dX7_playPosted_70 : decode cX7_playPosted 70 = .ok (.istore_n 3, 1) := by decide +kernel
theorem dX7_playPosted_71 : decode cX7_playPosted 71 = .ok (.aload_n 0, 1) := by decide +kernel
theorem dX7_playPosted_72 : decode cX7_playPosted 72 = .ok (.getfield 9, 3) := by decide +kernel
theorem dX7_playPosted_75 : decode cX7_playPosted 75 = .ok (.iload_n 3, 1) := by decide +kernel
theorem dX7_playPosted_76 : decode cX7_playPosted 76 = .ok (.iaload, 1) := by decide +kernel
theorem dX7_playPosted_77 : decode cX7_playPosted 77 = .ok (.bipush (-4), 2) := by decide +kernel
theorem dX7_playPosted_79 : decode cX7_playPosted 79 = .ok (.if_icmp .eq 6, 3) := by decide +kernel
theorem dX7_playPosted_82 : decode cX7_playPosted 82 = .ok (.goto 59, 3) := by decide +kernel
theorem dX7_playPosted_85 : decode cX7_playPosted 85 = .ok (.aload_n 0, 1) := by decide +kernel
theorem dX7_playPosted_86 : decode cX7_playPosted 86 = .ok (.aload_n 1, 1) := by decide +kernel
theorem dX7_playPosted_87 : decode cX7_playPosted 87 = .ok (.invokevirtual 170, 3) := by decide +kernel
theorem dX7_playPosted_90 : decode cX7_playPosted 90 = .ok (.istore 4, 2) := by decide +kernel
theorem dX7_playPosted_92 : decode cX7_playPosted 92 = .ok (.iload 4, 2) := by decide +kernel
theorem dX7_playPosted_94 : decode cX7_playPosted 94 = .ok (.bipush (-4), 2) := by decide +kernel
theorem dX7_playPosted_96 : decode cX7_playPosted 96 = .ok (.if_icmp .eq 45, 3) := by decide +kernel
theorem dX7_playPosted_99 : decode cX7_playPosted 99 = .ok (.aload_n 0, 1) := by decide +kernel
theorem dX7_playPosted_100 : decode cX7_playPosted 100 = .ok (.getfield 15, 3) := by decide +kernel
theorem dX7_playPosted_103 : decode cX7_playPosted 103 = .ok (.iload 4, 2) := by decide +kernel
theorem dX7_playPosted_105 : decode cX7_playPosted 105 = .ok (.iaload, 1) := by decide +kernel
theorem dX7_playPosted_106 : decode cX7_playPosted 106 = .ok (.aload_n 1, 1) := by decide +kernel
theorem dX7_playPosted_107 : decode cX7_playPosted 107 = .ok (.getfield 148, 3) := by decide +kernel
theorem dX7_playPosted_110 : decode cX7_playPosted 110 = .ok (.iadd, 1) := by decide +kernel
theorem dX7_playPosted_111 : decode cX7_playPosted 111 = .ok (.aload_n 1, 1) := by decide +kernel
theorem dX7_playPosted_112 : decode cX7_playPosted 112 = .ok (.getfield 100, 3) := by decide +kernel
theorem dX7_playPosted_115 : decode cX7_playPosted 115 = .ok (.iload_n 3, 1) := by decide +kernel
theorem dX7_playPosted_116 : decode cX7_playPosted 116 = .ok (.iaload, 1) := by decide +kernel
theorem dX7_playPosted_117 : decode cX7_playPosted 117 = .ok (.if_icmp .gt 24, 3) := by decide +kernel
theorem dX7_playPosted_120 : decode cX7_playPosted 120 = .ok (.aload_n 0, 1) := by decide +kernel
theorem dX7_playPosted_121 : decode cX7_playPosted 121 = .ok (.aload_n 1, 1) := by decide +kernel
theorem dX7_playPosted_122 : decode cX7_playPosted 122 = .ok (.iload_n 3, 1) := by decide +kernel
theorem dX7_playPosted_123 : decode cX7_playPosted 123 = .ok (.iload 4, 2) := by decide +kernel
theorem dX7_playPosted_125 : decode cX7_playPosted 125 = .ok (.aload_n 0, 1) := by decide +kernel
theorem dX7_playPosted_126 : decode cX7_playPosted 126 = .ok (.getfield 15, 3) := by decide +kernel
theorem dX7_playPosted_129 : decode cX7_playPosted 129 = .ok (.iload 4, 2) := by decide +kernel
theorem dX7_playPosted_131 : decode cX7_playPosted 131 = .ok (.iaload, 1) := by decide +kernel
theorem dX7_playPosted_132 : decode cX7_playPosted 132 = .ok (.aload_n 1, 1) := by decide +kernel
theorem dX7_playPosted_133 : decode cX7_playPosted 133 = .ok (.getfield 148, 3) := by decide +kernel
theorem dX7_playPosted_136 : decode cX7_playPosted 136 = .ok (.iadd, 1) := by decide +kernel
theorem dX7_playPosted_137 : decode cX7_playPosted 137 = .ok (.iload_n 2, 1) := by decide +kernel
theorem dX7_playPosted_138 : decode cX7_playPosted 138 = .ok (.invokevirtual 151, 3) := by decide +kernel
theorem dX7_playPosted_141 : decode cX7_playPosted 141 = .ok (.iinc 2 1, 3) := by decide +kernel
theorem dX7_playPosted_144 : decode cX7_playPosted 144 = .ok (.goto (-100), 3) := by decide +kernel
theorem dX7_playPosted_147 : decode cX7_playPosted 147 = .ok (.return_, 1) := by decide +kernel
theorem dX7_cheapestLeft_0 : decode cX7_cheapestLeft 0 = .ok (.bipush (-4), 2) := by decide +kernel
theorem dX7_cheapestLeft_2 : decode cX7_cheapestLeft 2 = .ok (.istore_n 2, 1) := by decide +kernel
theorem dX7_cheapestLeft_3 : decode cX7_cheapestLeft 3 = .ok (.iconst 0, 1) := by decide +kernel
theorem dX7_cheapestLeft_4 : decode cX7_cheapestLeft 4 = .ok (.istore_n 3, 1) := by decide +kernel
theorem dX7_cheapestLeft_5 : decode cX7_cheapestLeft 5 = .ok (.iload_n 3, 1) := by decide +kernel
theorem dX7_cheapestLeft_6 : decode cX7_cheapestLeft 6 = .ok (.aload_n 1, 1) := by decide +kernel
theorem dX7_cheapestLeft_7 : decode cX7_cheapestLeft 7 = .ok (.getfield 167, 3) := by decide +kernel
theorem dX7_cheapestLeft_10 : decode cX7_cheapestLeft 10 = .ok (.if_icmp .ge 82, 3) := by decide +kernel
theorem dX7_cheapestLeft_13 : decode cX7_cheapestLeft 13 = .ok (.aload_n 1, 1) := by decide +kernel
theorem dX7_cheapestLeft_14 : decode cX7_cheapestLeft 14 = .ok (.getfield 164, 3) := by decide +kernel
theorem dX7_cheapestLeft_17 : decode cX7_cheapestLeft 17 = .ok (.iload_n 3, 1) := by decide +kernel
theorem dX7_cheapestLeft_18 : decode cX7_cheapestLeft 18 = .ok (.iaload, 1) := by decide +kernel
theorem dX7_cheapestLeft_19 : decode cX7_cheapestLeft 19 = .ok (.istore 4, 2) := by decide +kernel
theorem dX7_cheapestLeft_21 : decode cX7_cheapestLeft 21 = .ok (.aload_n 0, 1) := by decide +kernel
theorem dX7_cheapestLeft_22 : decode cX7_cheapestLeft 22 = .ok (.getfield 9, 3) := by decide +kernel
theorem dX7_cheapestLeft_25 : decode cX7_cheapestLeft 25 = .ok (.iload 4, 2) := by decide +kernel
theorem dX7_cheapestLeft_27 : decode cX7_cheapestLeft 27 = .ok (.iaload, 1) := by decide +kernel
theorem dX7_cheapestLeft_28 : decode cX7_cheapestLeft 28 = .ok (.bipush (-4), 2) := by decide +kernel
theorem dX7_cheapestLeft_30 : decode cX7_cheapestLeft 30 = .ok (.if_icmp .ne 23, 3) := by decide +kernel
theorem dX7_cheapestLeft_33 : decode cX7_cheapestLeft 33 = .ok (.aload_n 1, 1) := by decide +kernel
theorem dX7_cheapestLeft_34 : decode cX7_cheapestLeft 34 = .ok (.iload 4, 2) := by decide +kernel
theorem dX7_cheapestLeft_36 : decode cX7_cheapestLeft 36 = .ok (.aload_n 0, 1) := by decide +kernel
theorem dX7_cheapestLeft_37 : decode cX7_cheapestLeft 37 = .ok (.getfield 15, 3) := by decide +kernel
theorem dX7_cheapestLeft_40 : decode cX7_cheapestLeft 40 = .ok (.iload 4, 2) := by decide +kernel
theorem dX7_cheapestLeft_42 : decode cX7_cheapestLeft 42 = .ok (.iaload, 1) := by decide +kernel
theorem dX7_cheapestLeft_43 : decode cX7_cheapestLeft 43 = .ok (.invokestatic 126, 3) := by decide +kernel
theorem dX7_cheapestLeft_46 : decode cX7_cheapestLeft 46 = .ok (.ifCond .eq 7, 3) := by decide +kernel
theorem dX7_cheapestLeft_49 : decode cX7_cheapestLeft 49 = .ok (.iconst 1, 1) := by decide +kernel
theorem dX7_cheapestLeft_50 : decode cX7_cheapestLeft 50 = .ok (.goto 4, 3) := by decide +kernel
theorem dX7_cheapestLeft_53 : decode cX7_cheapestLeft 53 = .ok (.iconst 0, 1) := by decide +kernel
theorem dX7_cheapestLeft_54 : decode cX7_cheapestLeft 54 = .ok (.istore 5, 2) := by decide +kernel
theorem dX7_cheapestLeft_56 : decode cX7_cheapestLeft 56 = .ok (.iload 5, 2) := by decide +kernel
theorem dX7_cheapestLeft_58 : decode cX7_cheapestLeft 58 = .ok (.ifCond .eq 28, 3) := by decide +kernel
theorem dX7_cheapestLeft_61 : decode cX7_cheapestLeft 61 = .ok (.iload_n 2, 1) := by decide +kernel
theorem dX7_cheapestLeft_62 : decode cX7_cheapestLeft 62 = .ok (.bipush (-4), 2) := by decide +kernel
theorem dX7_cheapestLeft_64 : decode cX7_cheapestLeft 64 = .ok (.if_icmp .eq 19, 3) := by decide +kernel
theorem dX7_cheapestLeft_67 : decode cX7_cheapestLeft 67 = .ok (.aload_n 0, 1) := by decide +kernel
theorem dX7_cheapestLeft_68 : decode cX7_cheapestLeft 68 = .ok (.getfield 15, 3) := by decide +kernel
theorem dX7_cheapestLeft_71 : decode cX7_cheapestLeft 71 = .ok (.iload 4, 2) := by decide +kernel
theorem dX7_cheapestLeft_73 : decode cX7_cheapestLeft 73 = .ok (.iaload, 1) := by decide +kernel
theorem dX7_cheapestLeft_74 : decode cX7_cheapestLeft 74 = .ok (.aload_n 0, 1) := by decide +kernel
theorem dX7_cheapestLeft_75 : decode cX7_cheapestLeft 75 = .ok (.getfield 15, 3) := by decide +kernel
theorem dX7_cheapestLeft_78 : decode cX7_cheapestLeft 78 = .ok (.iload_n 2, 1) := by decide +kernel
theorem dX7_cheapestLeft_79 : decode cX7_cheapestLeft 79 = .ok (.iaload, 1) := by decide +kernel
theorem dX7_cheapestLeft_80 : decode cX7_cheapestLeft 80 = .ok (.if_icmp .ge 6, 3) := by decide +kernel
theorem dX7_cheapestLeft_83 : decode cX7_cheapestLeft 83 = .ok (.iload 4, 2) := by decide +kernel
theorem dX7_cheapestLeft_85 : decode cX7_cheapestLeft 85 = .ok (.istore_n 2, 1) := by decide +kernel
theorem dX7_cheapestLeft_86 : decode cX7_cheapestLeft 86 = .ok (.iinc 3 1, 3) := by decide +kernel
theorem dX7_cheapestLeft_89 : decode cX7_cheapestLeft 89 = .ok (.goto (-84), 3) := by decide +kernel
theorem dX7_cheapestLeft_92 : decode cX7_cheapestLeft 92 = .ok (.iload_n 2, 1) := by decide +kernel
theorem dX7_cheapestLeft_93 : decode cX7_cheapestLeft 93 = .ok (.ireturn, 1) := by decide +kernel
theorem dX7_playBell_0 : decode cX7_playBell 0 = .ok (.aload_n 0, 1) := by decide +kernel
theorem dX7_playBell_1 : decode cX7_playBell 1 = .ok (.getfield 21, 3) := by decide +kernel
theorem dX7_playBell_4 : decode cX7_playBell 4 = .ok (.invokevirtual 174, 3) := by decide +kernel
theorem dX7_playBell_7 : decode cX7_playBell 7 = .ok (.iconst 0, 1) := by decide +kernel
theorem dX7_playBell_8 : decode cX7_playBell 8 = .ok (.istore_n 2, 1) := by decide +kernel
theorem dX7_playBell_9 : decode cX7_playBell 9 = .ok (.iload_n 2, 1) := by decide +kernel
theorem dX7_playBell_10 : decode cX7_playBell 10 = .ok (.aload_n 1, 1) := by decide +kernel
theorem dX7_playBell_11 : decode cX7_playBell 11 = .ok (.getfield 120, 3) := by decide +kernel
theorem dX7_playBell_14 : decode cX7_playBell 14 = .ok (.if_icmp .ge 47, 3) := by decide +kernel
theorem dX7_playBell_17 : decode cX7_playBell 17 = .ok (.aload_n 0, 1) := by decide +kernel
theorem dX7_playBell_18 : decode cX7_playBell 18 = .ok (.aload_n 1, 1) := by decide +kernel
theorem dX7_playBell_19 : decode cX7_playBell 19 = .ok (.iload_n 2, 1) := by decide +kernel
theorem dX7_playBell_20 : decode cX7_playBell 20 = .ok (.aload_n 1, 1) := by decide +kernel
theorem dX7_playBell_21 : decode cX7_playBell 21 = .ok (.getfield 114, 3) := by decide +kernel
theorem dX7_playBell_24 : decode cX7_playBell 24 = .ok (.iconst 1, 1) := by decide +kernel
theorem dX7_playBell_25 : decode cX7_playBell 25 = .ok (.isub, 1) := by decide +kernel
theorem dX7_playBell_26 : decode cX7_playBell 26 = .ok (.aload_n 0, 1) := by decide +kernel
theorem dX7_playBell_27 : decode cX7_playBell 27 = .ok (.iload_n 2, 1) := by decide +kernel
theorem dX7_playBell_28 : decode cX7_playBell 28 = .ok (.iconst 1, 1) := by decide +kernel
theorem dX7_playBell_29 : decode cX7_playBell 29 = .ok (.invokevirtual 117, 3) := by decide +kernel
theorem dX7_playBell_32 : decode cX7_playBell 32 = .ok (.invokevirtual 123, 3) := by decide +kernel
theorem dX7_playBell_35 : decode cX7_playBell 35 = .ok (.istore_n 3, 1) := by decide +kernel
theorem dX7_playBell_36 : decode cX7_playBell 36 = .ok (.aload_n 1, 1) := by decide +kernel
theorem dX7_playBell_37 : decode cX7_playBell 37 = .ok (.iload_n 2, 1) := by decide +kernel
theorem dX7_playBell_38 : decode cX7_playBell 38 = .ok (.iload_n 3, 1) := by decide +kernel
theorem dX7_playBell_39 : decode cX7_playBell 39 = .ok (.invokestatic 126, 3) := by decide +kernel
theorem dX7_playBell_42 : decode cX7_playBell 42 = .ok (.ifCond .eq 13, 3) := by decide +kernel
theorem dX7_playBell_45 : decode cX7_playBell 45 = .ok (.aload_n 0, 1) := by decide +kernel
theorem dX7_playBell_46 : decode cX7_playBell 46 = .ok (.getfield 21, 3) := by decide +kernel
theorem dX7_playBell_49 : decode cX7_playBell 49 = .ok (.aload_n 1, 1) := by decide +kernel
theorem dX7_playBell_50 : decode cX7_playBell 50 = .ok (.iload_n 2, 1) := by decide +kernel
theorem dX7_playBell_51 : decode cX7_playBell 51 = .ok (.iload_n 3, 1) := by decide +kernel
theorem dX7_playBell_52 : decode cX7_playBell 52 = .ok (.invokevirtual 177, 3) := by decide +kernel
theorem dX7_playBell_55 : decode cX7_playBell 55 = .ok (.iinc 2 1, 3) := by decide +kernel
theorem dX7_playBell_58 : decode cX7_playBell 58 = .ok (.goto (-49), 3) := by decide +kernel
theorem dX7_playBell_61 : decode cX7_playBell 61 = .ok (.aload_n 0, 1) := by decide +kernel
theorem dX7_playBell_62 : decode cX7_playBell 62 = .ok (.getfield 21, 3) := by decide +kernel
theorem dX7_playBell_65 : decode cX7_playBell 65 = .ok (.aload_n 1, 1) := by decide +kernel
theorem dX7_playBell_66 : decode cX7_playBell 66 = .ok (.getfield 148, 3) := by decide +kernel
theorem dX7_playBell_69 : decode cX7_playBell 69 = .ok (.invokevirtual 181, 3) := by decide +kernel
theorem dX7_playBell_72 : decode cX7_playBell 72 = .ok (.iconst 0, 1) := by decide +kernel
theorem dX7_playBell_73 : decode cX7_playBell 73 = .ok (.istore_n 2, 1) := by decide +kernel
theorem dX7_playBell_74 : decode cX7_playBell 74 = .ok (.iload_n 2, 1) := by decide +kernel
theorem dX7_playBell_75 : decode cX7_playBell 75 = .ok (.aload_n 0, 1) := by decide +kernel
theorem dX7_playBell_76 : decode cX7_playBell 76 = .ok (.getfield 21, 3) := by decide +kernel
theorem dX7_playBell_79 : decode cX7_playBell 79 = .ok (.getfield 185, 3) := by decide +kernel
theorem dX7_playBell_82 : decode cX7_playBell 82 = .ok (.if_icmp .ge 46, 3) := by decide +kernel
theorem dX7_playBell_85 : decode cX7_playBell 85 = .ok (.aload_n 0, 1) := by decide +kernel
theorem dX7_playBell_86 : decode cX7_playBell 86 = .ok (.aload_n 1, 1) := by decide +kernel
theorem dX7_playBell_87 : decode cX7_playBell 87 = .ok (.aload_n 0, 1) := by decide +kernel
theorem dX7_playBell_88 : decode cX7_playBell 88 = .ok (.getfield 21, 3) := by decide +kernel
theorem dX7_playBell_91 : decode cX7_playBell 91 = .ok (.getfield 188, 3) := by decide +kernel
theorem dX7_playBell_94 : decode cX7_playBell 94 = .ok (.getfield 191, 3) := by decide +kernel
theorem dX7_playBell_97 : decode cX7_playBell 97 = .ok (.iload_n 2, 1) := by decide +kernel
theorem dX7_playBell_98 : decode cX7_playBell 98 = .ok (.iaload, 1) := by decide +kernel
theorem dX7_playBell_99 : decode cX7_playBell 99 = .ok (.aload_n 0, 1) := by decide +kernel
theorem dX7_playBell_100 : decode cX7_playBell 100 = .ok (.getfield 21, 3) := by decide +kernel
theorem dX7_playBell_103 : decode cX7_playBell 103 = .ok (.getfield 196, 3) := by decide +kernel
theorem dX7_playBell_106 : decode cX7_playBell 106 = .ok (.getfield 191, 3) := by decide +kernel
theorem dX7_playBell_109 : decode cX7_playBell 109 = .ok (.iload_n 2, 1) := by decide +kernel
theorem dX7_playBell_110 : decode cX7_playBell 110 = .ok (.iaload, 1) := by decide +kernel
theorem dX7_playBell_111 : decode cX7_playBell 111 = .ok (.aload_n 0, 1) := by decide +kernel
theorem dX7_playBell_112 : decode cX7_playBell 112 = .ok (.getfield 21, 3) := by decide +kernel
theorem dX7_playBell_115 : decode cX7_playBell 115 = .ok (.getfield 198, 3) := by decide +kernel
theorem dX7_playBell_118 : decode cX7_playBell 118 = .ok (.iconst 0, 1) := by decide +kernel
theorem dX7_playBell_119 : decode cX7_playBell 119 = .ok (.invokevirtual 151, 3) := by decide +kernel
theorem dX7_playBell_122 : decode cX7_playBell 122 = .ok (.iinc 2 1, 3) := by decide +kernel
theorem dX7_playBell_125 : decode cX7_playBell 125 = .ok (.goto (-51), 3) := by decide +kernel
theorem dX7_playBell_128 : decode cX7_playBell 128 = .ok (.return_, 1) := by decide +kernel
theorem dX8_init_0 : decode cX8_init 0 = .ok (.aload_n 0, 1) := by decide +kernel
theorem dX8_init_1 : decode cX8_init 1 = .ok (.invokespecial 3, 3) := by decide +kernel
theorem dX8_init_4 : decode cX8_init 4 = .ok (.aload_n 0, 1) := by decide +kernel
theorem dX8_init_5 : decode cX8_init 5 = .ok (.sipush 300, 3) := by decide +kernel
theorem dX8_init_8 : decode cX8_init 8 = .ok (.newarray .int, 2) := by decide +kernel
theorem dX8_init_10 : decode cX8_init 10 = .ok (.putfield 9, 3) := by decide +kernel
theorem dX8_init_13 : decode cX8_init 13 = .ok (.aload_n 0, 1) := by decide +kernel
theorem dX8_init_14 : decode cX8_init 14 = .ok (.iconst 0, 1) := by decide +kernel
theorem dX8_init_15 : decode cX8_init 15 = .ok (.putfield 15, 3) := by decide +kernel
theorem dX8_init_18 : decode cX8_init 18 = .ok (.return_, 1) := by decide +kernel
theorem dX8_add_0 : decode cX8_add 0 = .ok (.aload_n 0, 1) := by decide +kernel
theorem dX8_add_1 : decode cX8_add 1 = .ok (.getfield 15, 3) := by decide +kernel
theorem dX8_add_4 : decode cX8_add 4 = .ok (.sipush 300, 3) := by decide +kernel
theorem dX8_add_7 : decode cX8_add 7 = .ok (.if_icmp .ge 23, 3) := by decide +kernel
theorem dX8_add_10 : decode cX8_add 10 = .ok (.aload_n 0, 1) := by decide +kernel
theorem dX8_add_11 : decode cX8_add 11 = .ok (.getfield 9, 3) := by decide +kernel
theorem dX8_add_14 : decode cX8_add 14 = .ok (.aload_n 0, 1) := by decide +kernel
theorem dX8_add_15 : decode cX8_add 15 = .ok (.getfield 15, 3) := by decide +kernel
theorem dX8_add_18 : decode cX8_add 18 = .ok (.iload_n 1, 1) := by decide +kernel
theorem dX8_add_19 : decode cX8_add 19 = .ok (.iastore, 1) := by decide +kernel
theorem dX8_add_20 : decode cX8_add 20 = .ok (.aload_n 0, 1) := by decide +kernel
theorem dX8_add_21 : decode cX8_add 21 = .ok (.dup, 1) := by decide +kernel
theorem dX8_add_22 : decode cX8_add 22 = .ok (.getfield 15, 3) := by decide +kernel
theorem dX8_add_25 : decode cX8_add 25 = .ok (.iconst 1, 1) := by decide +kernel
theorem dX8_add_26 : decode cX8_add 26 = .ok (.iadd, 1) := by decide +kernel
theorem dX8_add_27 : decode cX8_add 27 = .ok (.putfield 15, 3) := by decide +kernel
theorem dX8_add_30 : decode cX8_add 30 = .ok (.return_, 1) := by decide +kernel
theorem dX9_span_0 : decode cX9_span 0 = .ok (.iload_n 2, 1) := by decide +kernel
theorem dX9_span_1 : decode cX9_span 1 = .ok (.iconst 5, 1) := by decide +kernel
theorem dX9_span_2 : decode cX9_span 2 = .ok (.if_icmp .ne 6, 3) := by decide +kernel
theorem dX9_span_5 : decode cX9_span 5 = .ok (.bipush 100, 2) := by decide +kernel
theorem dX9_span_7 : decode cX9_span 7 = .ok (.ireturn, 1) := by decide +kernel
theorem dX9_span_8 : decode cX9_span 8 = .ok (.iload_n 3, 1) := by decide +kernel
theorem dX9_span_9 : decode cX9_span 9 = .ok (.bipush (-4), 2) := by decide +kernel
theorem dX9_span_11 : decode cX9_span 11 = .ok (.if_icmp .eq 22, 3) := by decide +kernel
theorem dX9_span_14 : decode cX9_span 14 = .ok (.iload_n 2, 1) := by decide +kernel
theorem dX9_span_15 : decode cX9_span 15 = .ok (.iconst 1, 1) := by decide +kernel
theorem dX9_span_16 : decode cX9_span 16 = .ok (.if_icmp .eq 8, 3) := by decide +kernel
theorem dX9_span_19 : decode cX9_span 19 = .ok (.iload_n 2, 1) := by decide +kernel
theorem dX9_span_20 : decode cX9_span 20 = .ok (.iconst 3, 1) := by decide +kernel
theorem dX9_span_21 : decode cX9_span 21 = .ok (.if_icmp .ne 12, 3) := by decide +kernel
theorem dX9_span_24 : decode cX9_span 24 = .ok (.iconst 2, 1) := by decide +kernel
theorem dX9_span_25 : decode cX9_span 25 = .ok (.aload_n 0, 1) := by decide +kernel
theorem dX9_span_26 : decode cX9_span 26 = .ok (.getfield 9, 3) := by decide +kernel
theorem dX9_span_29 : decode cX9_span 29 = .ok (.imul, 1) := by decide +kernel
theorem dX9_span_30 : decode cX9_span 30 = .ok (.iconst 1, 1) := by decide +kernel
theorem dX9_span_31 : decode cX9_span 31 = .ok (.iadd, 1) := by decide +kernel
theorem dX9_span_32 : decode cX9_span 32 = .ok (.ireturn, 1) := by decide +kernel
theorem dX9_span_33 : decode cX9_span 33 = .ok (.aload_n 0, 1) := by decide +kernel
theorem dX9_span_34 : decode cX9_span 34 = .ok (.getfield 15, 3) := by decide +kernel
theorem dX9_span_37 : decode cX9_span 37 = .ok (.iload_n 1, 1) := by decide +kernel
theorem dX9_span_38 : decode cX9_span 38 = .ok (.baload, 1) := by decide +kernel
theorem dX9_span_39 : decode cX9_span 39 = .ok (.ifCond .eq 15, 3) := by decide +kernel
theorem dX9_span_42 : decode cX9_span 42 = .ok (.bipush 100, 2) := by decide +kernel
theorem dX9_span_44 : decode cX9_span 44 = .ok (.aload_n 0, 1) := by decide +kernel
theorem dX9_span_45 : decode cX9_span 45 = .ok (.getfield 19, 3) := by decide +kernel
theorem dX9_span_48 : decode cX9_span 48 = .ok (.iload_n 1, 1) := by decide +kernel
theorem dX9_span_49 : decode cX9_span 49 = .ok (.iaload, 1) := by decide +kernel
theorem dX9_span_50 : decode cX9_span 50 = .ok (.isub, 1) := by decide +kernel
theorem dX9_span_51 : decode cX9_span 51 = .ok (.goto 11, 3) := by decide +kernel
theorem dX9_span_54 : decode cX9_span 54 = .ok (.aload_n 0, 1) := by decide +kernel
theorem dX9_span_55 : decode cX9_span 55 = .ok (.getfield 19, 3) := by decide +kernel
theorem dX9_span_58 : decode cX9_span 58 = .ok (.iload_n 1, 1) := by decide +kernel
theorem dX9_span_59 : decode cX9_span 59 = .ok (.iaload, 1) := by decide +kernel
theorem dX9_span_60 : decode cX9_span 60 = .ok (.iconst 1, 1) := by decide +kernel
theorem dX9_span_61 : decode cX9_span 61 = .ok (.iadd, 1) := by decide +kernel
theorem dX9_span_62 : decode cX9_span 62 = .ok (.ireturn, 1) := by decide +kernel
theorem dX9_by_0 : decode cX9_by 0 = .ok (.aload_n 0, 1) := by decide +kernel
theorem dX9_by_1 : decode cX9_by 1 = .ok (.getfield 15, 3) := by decide +kernel
theorem dX9_by_4 : decode cX9_by 4 = .ok (.iload_n 1, 1) := by decide +kernel
theorem dX9_by_5 : decode cX9_by 5 = .ok (.baload, 1) := by decide +kernel
theorem dX9_by_6 : decode cX9_by 6 = .ok (.istore 6, 2) := by decide +kernel
theorem dX9_by_8 : decode cX9_by 8 = .ok (.aload_n 0, 1) := by decide +kernel
theorem dX9_by_9 : decode cX9_by 9 = .ok (.getfield 19, 3) := by decide +kernel
theorem dX9_by_12 : decode cX9_by 12 = .ok (.iload_n 1, 1) := by decide +kernel
theorem dX9_by_13 : decode cX9_by 13 = .ok (.iaload, 1) := by decide +kernel
theorem dX9_by_14 : decode cX9_by 14 = .ok (.istore 7, 2) := by decide +kernel
theorem dX9_by_16 : decode cX9_by 16 = .ok (.iload 6, 2) := by decide +kernel
theorem dX9_by_18 : decode cX9_by 18 = .ok (.ifCond .eq 11, 3) := by decide +kernel
theorem dX9_by_21 : decode cX9_by 21 = .ok (.iload 7, 2) := by decide +kernel
theorem dX9_by_23 : decode cX9_by 23 = .ok (.iload 5, 2) := by decide +kernel
theorem dX9_by_25 : decode cX9_by 25 = .ok (.iadd, 1) := by decide +kernel
theorem dX9_by_26 : decode cX9_by 26 = .ok (.goto 5, 3) := by decide +kernel
theorem dX9_by_29 : decode cX9_by 29 = .ok (.iload 5, 2) := by decide +kernel
theorem dX9_by_31 : decode cX9_by 31 = .ok (.istore 8, 2) := by decide +kernel
theorem dX9_by_33 : decode cX9_by 33 = .ok (.iload_n 2, 1) := by decide +kernel
theorem dX9_by_34 : decode cX9_by 34 = .ok (.iconst 3, 1) := by decide +kernel
theorem dX9_by_35 : decode cX9_by 35 = .ok (.if_icmp .ne 18, 3) := by decide +kernel
theorem dX9_by_38 : decode cX9_by 38 = .ok (.iconst 4, 1) := by decide +kernel
theorem dX9_by_39 : decode cX9_by 39 = .ok (.iload_n 3, 1) := by decide +kernel
theorem dX9_by_40 : decode cX9_by 40 = .ok (.imul, 1) := by decide +kernel
theorem dX9_by_41 : decode cX9_by 41 = .ok (.iconst 3, 1) := by decide +kernel
theorem dX9_by_42 : decode cX9_by 42 = .ok (.aload_n 0, 1) := by decide +kernel
theorem dX9_by_43 : decode cX9_by 43 = .ok (.getfield 23, 3) := by decide +kernel
theorem dX9_by_46 : decode cX9_by 46 = .ok (.imul, 1) := by decide +kernel
theorem dX9_by_47 : decode cX9_by 47 = .ok (.if_icmp .lt 6, 3) := by decide +kernel
theorem dX9_by_50 : decode cX9_by 50 = .ok (.iload 7, 2) := by decide +kernel
theorem dX9_by_52 : decode cX9_by 52 = .ok (.ireturn, 1) := by decide +kernel
theorem dX9_by_53 : decode cX9_by 53 = .ok (.iload_n 2, 1) := by decide +kernel
theorem dX9_by_54 : decode cX9_by 54 = .ok (.tableswitch 115 1 5 #[34, 56, 34, 85, 112], 34) := by decide +kernel
theorem dX9_by_88 : decode cX9_by 88 = .ok (.iload 4, 2) := by decide +kernel
theorem dX9_by_90 : decode cX9_by 90 = .ok (.bipush (-4), 2) := by decide +kernel
theorem dX9_by_92 : decode cX9_by 92 = .ok (.if_icmp .ne 8, 3) := by decide +kernel
theorem dX9_by_95 : decode cX9_by 95 = .ok (.iload 8, 2) := by decide +kernel
theorem dX9_by_97 : decode cX9_by 97 = .ok (.goto 12, 3) := by decide +kernel
theorem dX9_by_100 : decode cX9_by 100 = .ok (.aload_n 0, 1) := by decide +kernel
theorem dX9_by_101 : decode cX9_by 101 = .ok (.iload_n 1, 1) := by decide +kernel
theorem dX9_by_102 : decode cX9_by 102 = .ok (.iload 4, 2) := by decide +kernel
theorem dX9_by_104 : decode cX9_by 104 = .ok (.iload 5, 2) := by decide +kernel
theorem dX9_by_106 : decode cX9_by 106 = .ok (.invokestatic 26, 3) := by decide +kernel
theorem dX9_by_109 : decode cX9_by 109 = .ok (.ireturn, 1) := by decide +kernel
theorem dX9_by_110 : decode cX9_by 110 = .ok (.iload 6, 2) := by decide +kernel
theorem dX9_by_112 : decode cX9_by 112 = .ok (.ifCond .eq 19, 3) := by decide +kernel
theorem dX9_by_115 : decode cX9_by 115 = .ok (.bipush 99, 2) := by decide +kernel
theorem dX9_by_117 : decode cX9_by 117 = .ok (.aload_n 0, 1) := by decide +kernel
theorem dX9_by_118 : decode cX9_by 118 = .ok (.bipush 99, 2) := by decide +kernel
theorem dX9_by_120 : decode cX9_by 120 = .ok (.iload 7, 2) := by decide +kernel
theorem dX9_by_122 : decode cX9_by 122 = .ok (.isub, 1) := by decide +kernel
theorem dX9_by_123 : decode cX9_by 123 = .ok (.iload_n 3, 1) := by decide +kernel
theorem dX9_by_124 : decode cX9_by 124 = .ok (.invokestatic 31, 3) := by decide +kernel
theorem dX9_by_127 : decode cX9_by 127 = .ok (.isub, 1) := by decide +kernel
theorem dX9_by_128 : decode cX9_by 128 = .ok (.goto 10, 3) := by decide +kernel
theorem dX9_by_131 : decode cX9_by 131 = .ok (.aload_n 0, 1) := by decide +kernel
theorem dX9_by_132 : decode cX9_by 132 = .ok (.iload 7, 2) := by decide +kernel
theorem dX9_by_134 : decode cX9_by 134 = .ok (.iload_n 3, 1) := by decide +kernel
theorem dX9_by_135 : decode cX9_by 135 = .ok (.invokestatic 31, 3) := by decide +kernel
theorem dX9_by_138 : decode cX9_by 138 = .ok (.ireturn, 1) := by decide +kernel
theorem dX9_by_139 : decode cX9_by 139 = .ok (.iload 6, 2) := by decide +kernel
theorem dX9_by_141 : decode cX9_by 141 = .ok (.ifCond .eq 15, 3) := by decide +kernel
theorem dX9_by_144 : decode cX9_by 144 = .ok (.iload 8, 2) := by decide +kernel
theorem dX9_by_146 : decode cX9_by 146 = .ok (.aload_n 0, 1) := by decide +kernel
theorem dX9_by_147 : decode cX9_by 147 = .ok (.getfield 35, 3) := by decide +kernel
theorem dX9_by_150 : decode cX9_by 150 = .ok (.invokestatic 38, 3) := by decide +kernel
theorem dX9_by_153 : decode cX9_by 153 = .ok (.goto 12, 3) := by decide +kernel
theorem dX9_by_156 : decode cX9_by 156 = .ok (.iload 8, 2) := by decide +kernel
theorem dX9_by_158 : decode cX9_by 158 = .ok (.aload_n 0, 1) := by decide +kernel
theorem dX9_by_159 : decode cX9_by 159 = .ok (.getfield 35, 3) := by decide +kernel
theorem dX9_by_162 : decode cX9_by 162 = .ok (.invokestatic 44, 3) := by decide +kernel
theorem dX9_by_165 : decode cX9_by 165 = .ok (.ireturn, 1) := by decide +kernel
theorem dX9_by_166 : decode cX9_by 166 = .ok (.iload 5, 2) := by decide +kernel
theorem dX9_by_168 : decode cX9_by 168 = .ok (.ireturn, 1) := by decide +kernel
theorem dX9_by_169 : decode cX9_by 169 = .ok (.iload 8, 2) := by decide +kernel
theorem dX9_by_171 : decode cX9_by 171 = .ok (.ireturn, 1) := by decide +kernel
theorem dX9_near_0 : decode cX9_near 0 = .ok (.iload_n 2, 1) := by decide +kernel
theorem dX9_near_1 : decode cX9_near 1 = .ok (.aload_n 0, 1) := by decide +kernel
theorem dX9_near_2 : decode cX9_near 2 = .ok (.getfield 9, 3) := by decide +kernel
theorem dX9_near_5 : decode cX9_near 5 = .ok (.isub, 1) := by decide +kernel
theorem dX9_near_6 : decode cX9_near 6 = .ok (.iload_n 3, 1) := by decide +kernel
theorem dX9_near_7 : decode cX9_near 7 = .ok (.iadd, 1) := by decide +kernel
theorem dX9_near_8 : decode cX9_near 8 = .ok (.iconst 0, 1) := by decide +kernel
theorem dX9_near_9 : decode cX9_near 9 = .ok (.invokestatic 38, 3) := by decide +kernel
theorem dX9_near_12 : decode cX9_near 12 = .ok (.bipush 99, 2) := by decide +kernel
theorem dX9_near_14 : decode cX9_near 14 = .ok (.invokestatic 44, 3) := by decide +kernel
theorem dX9_near_17 : decode cX9_near 17 = .ok (.istore 4, 2) := by decide +kernel
theorem dX9_near_19 : decode cX9_near 19 = .ok (.aload_n 0, 1) := by decide +kernel
theorem dX9_near_20 : decode cX9_near 20 = .ok (.getfield 19, 3) := by decide +kernel
theorem dX9_near_23 : decode cX9_near 23 = .ok (.iload_n 1, 1) := by decide +kernel
theorem dX9_near_24 : decode cX9_near 24 = .ok (.iaload, 1) := by decide +kernel
theorem dX9_near_25 : decode cX9_near 25 = .ok (.istore 5, 2) := by decide +kernel
theorem dX9_near_27 : decode cX9_near 27 = .ok (.aload_n 0, 1) := by decide +kernel
theorem dX9_near_28 : decode cX9_near 28 = .ok (.getfield 15, 3) := by decide +kernel
theorem dX9_near_31 : decode cX9_near 31 = .ok (.iload_n 1, 1) := by decide +kernel
theorem dX9_near_32 : decode cX9_near 32 = .ok (.baload, 1) := by decide +kernel
theorem dX9_near_33 : decode cX9_near 33 = .ok (.ifCond .eq 13, 3) := by decide +kernel
theorem dX9_near_36 : decode cX9_near 36 = .ok (.iload 4, 2) := by decide +kernel
theorem dX9_near_38 : decode cX9_near 38 = .ok (.iload 5, 2) := by decide +kernel
theorem dX9_near_40 : decode cX9_near 40 = .ok (.invokestatic 38, 3) := by decide +kernel
theorem dX9_near_43 : decode cX9_near 43 = .ok (.goto 10, 3) := by decide +kernel
theorem dX9_near_46 : decode cX9_near 46 = .ok (.iload 4, 2) := by decide +kernel
theorem dX9_near_48 : decode cX9_near 48 = .ok (.iload 5, 2) := by decide +kernel
theorem dX9_near_50 : decode cX9_near 50 = .ok (.invokestatic 44, 3) := by decide +kernel
theorem dX9_near_53 : decode cX9_near 53 = .ok (.ireturn, 1) := by decide +kernel
theorem dX9_share_0 : decode cX9_share 0 = .ok (.aload_n 0, 1) := by decide +kernel
theorem dX9_share_1 : decode cX9_share 1 = .ok (.getfield 23, 3) := by decide +kernel
theorem dX9_share_4 : decode cX9_share 4 = .ok (.ifCond .le 16, 3) := by decide +kernel
theorem dX9_share_7 : decode cX9_share 7 = .ok (.iload_n 1, 1) := by decide +kernel
theorem dX9_share_8 : decode cX9_share 8 = .ok (.iload_n 2, 1) := by decide +kernel
theorem dX9_share_9 : decode cX9_share 9 = .ok (.iconst 1, 1) := by decide +kernel
theorem dX9_share_10 : decode cX9_share 10 = .ok (.iadd, 1) := by decide +kernel
theorem dX9_share_11 : decode cX9_share 11 = .ok (.imul, 1) := by decide +kernel
theorem dX9_share_12 : decode cX9_share 12 = .ok (.aload_n 0, 1) := by decide +kernel
theorem dX9_share_13 : decode cX9_share 13 = .ok (.getfield 23, 3) := by decide +kernel
theorem dX9_share_16 : decode cX9_share 16 = .ok (.idiv, 1) := by decide +kernel
theorem dX9_share_17 : decode cX9_share 17 = .ok (.goto 4, 3) := by decide +kernel
theorem dX9_share_20 : decode cX9_share 20 = .ok (.iload_n 1, 1) := by decide +kernel
theorem dX9_share_21 : decode cX9_share 21 = .ok (.ireturn, 1) := by decide +kernel
theorem dX9_underLid_0 : decode cX9_underLid 0 = .ok (.aload_n 0, 1) := by decide +kernel
theorem dX9_underLid_1 : decode cX9_underLid 1 = .ok (.getfield 15, 3) := by decide +kernel
theorem dX9_underLid_4 : decode cX9_underLid 4 = .ok (.iload_n 1, 1) := by decide +kernel
theorem dX9_underLid_5 : decode cX9_underLid 5 = .ok (.baload, 1) := by decide +kernel
theorem dX9_underLid_6 : decode cX9_underLid 6 = .ok (.ifCond .eq 7, 3) := by decide +kernel
theorem dX9_underLid_9 : decode cX9_underLid 9 = .ok (.iload_n 2, 1) := by decide +kernel
theorem dX9_underLid_10 : decode cX9_underLid 10 = .ok (.goto 11, 3) := by decide +kernel
theorem dX9_underLid_13 : decode cX9_underLid 13 = .ok (.iload_n 2, 1) := by decide +kernel
theorem dX9_underLid_14 : decode cX9_underLid 14 = .ok (.aload_n 0, 1) := by decide +kernel
theorem dX9_underLid_15 : decode cX9_underLid 15 = .ok (.getfield 47, 3) := by decide +kernel
theorem dX9_underLid_18 : decode cX9_underLid 18 = .ok (.invokestatic 44, 3) := by decide +kernel
theorem dX9_underLid_21 : decode cX9_underLid 21 = .ok (.ireturn, 1) := by decide +kernel
theorem dX9_isHeard_0 : decode cX9_isHeard 0 = .ok (.aload_n 0, 1) := by decide +kernel
theorem dX9_isHeard_1 : decode cX9_isHeard 1 = .ok (.getfield 15, 3) := by decide +kernel
theorem dX9_isHeard_4 : decode cX9_isHeard 4 = .ok (.iload_n 1, 1) := by decide +kernel
theorem dX9_isHeard_5 : decode cX9_isHeard 5 = .ok (.baload, 1) := by decide +kernel
theorem dX9_isHeard_6 : decode cX9_isHeard 6 = .ok (.ifCond .eq 16, 3) := by decide +kernel
theorem dX9_isHeard_9 : decode cX9_isHeard 9 = .ok (.iload_n 2, 1) := by decide +kernel
theorem dX9_isHeard_10 : decode cX9_isHeard 10 = .ok (.aload_n 0, 1) := by decide +kernel
theorem dX9_isHeard_11 : decode cX9_isHeard 11 = .ok (.getfield 50, 3) := by decide +kernel
theorem dX9_isHeard_14 : decode cX9_isHeard 14 = .ok (.iadd, 1) := by decide +kernel
theorem dX9_isHeard_15 : decode cX9_isHeard 15 = .ok (.aload_n 0, 1) := by decide +kernel
theorem dX9_isHeard_16 : decode cX9_isHeard 16 = .ok (.getfield 47, 3) := by decide +kernel
theorem dX9_isHeard_19 : decode cX9_isHeard 19 = .ok (.if_icmp .gt 7, 3) := by decide +kernel
theorem dX9_isHeard_22 : decode cX9_isHeard 22 = .ok (.iconst 1, 1) := by decide +kernel
theorem dX9_isHeard_23 : decode cX9_isHeard 23 = .ok (.goto 4, 3) := by decide +kernel
theorem dX9_isHeard_26 : decode cX9_isHeard 26 = .ok (.iconst 0, 1) := by decide +kernel
theorem dX9_isHeard_27 : decode cX9_isHeard 27 = .ok (.ireturn, 1) := by decide +kernel
end
section
theorem dX10_init_0 : decode cX10_init 0 = .ok (.aload_n 0, 1) := by decide +kernel
theorem dX10_init_1 : decode cX10_init 1 = .ok (.invokespecial 1, 3) := by decide +kernel
theorem dX10_init_4 : decode cX10_init 4 = .ok (.aload_n 0, 1) := by decide +kernel
theorem dX10_init_5 : decode cX10_init 5 = .ok (.new 7, 3) := by decide +kernel
theorem dX10_init_8 : decode cX10_init 8 = .ok (.dup, 1) := by decide +kernel
theorem dX10_init_9 : decode cX10_init 9 = .ok (.invokespecial 9, 3) := by decide +kernel
theorem dX10_init_12 : decode cX10_init 12 = .ok (.putfield 10, 3) := by decide +kernel
theorem dX10_init_15 : decode cX10_init 15 = .ok (.aload_n 0, 1) := by decide +kernel
theorem dX10_init_16 : decode cX10_init 16 = .ok (.new 16, 3) := by decide +kernel
theorem dX10_init_19 : decode cX10_init 19 = .ok (.dup, 1) := by decide +kernel
theorem dX10_init_20 : decode cX10_init 20 = .ok (.invokespecial 18, 3) := by decide +kernel
theorem dX10_init_23 : decode cX10_init 23 = .ok (.putfield 19, 3) := by decide +kernel
theorem dX10_init_26 : decode cX10_init 26 = .ok (.aload_n 0, 1) := by decide +kernel
theorem dX10_init_27 : decode cX10_init 27 = .ok (.new 23, 3) := by decide +kernel
theorem dX10_init_30 : decode cX10_init 30 = .ok (.dup, 1) := by decide +kernel
theorem dX10_init_31 : decode cX10_init 31 = .ok (.invokespecial 25, 3) := by decide +kernel
theorem dX10_init_34 : decode cX10_init 34 = .ok (.putfield 26, 3) := by decide +kernel
theorem dX10_init_37 : decode cX10_init 37 = .ok (.aload_n 0, 1) := by decide +kernel
theorem dX10_init_38 : decode cX10_init 38 = .ok (.new 23, 3) := by decide +kernel
theorem dX10_init_41 : decode cX10_init 41 = .ok (.dup, 1) := by decide +kernel
theorem dX10_init_42 : decode cX10_init 42 = .ok (.invokespecial 25, 3) := by decide +kernel
theorem dX10_init_45 : decode cX10_init 45 = .ok (.putfield 30, 3) := by decide +kernel
theorem dX10_init_48 : decode cX10_init 48 = .ok (.aload_n 0, 1) := by decide +kernel
theorem dX10_init_49 : decode cX10_init 49 = .ok (.new 33, 3) := by decide +kernel
theorem dX10_init_52 : decode cX10_init 52 = .ok (.dup, 1) := by decide +kernel
theorem dX10_init_53 : decode cX10_init 53 = .ok (.invokespecial 35, 3) := by decide +kernel
theorem dX10_init_56 : decode cX10_init 56 = .ok (.putfield 36, 3) := by decide +kernel
theorem dX10_init_59 : decode cX10_init 59 = .ok (.aload_n 0, 1) := by decide +kernel
theorem dX10_init_60 : decode cX10_init 60 = .ok (.iconst 2, 1) := by decide +kernel
theorem dX10_init_61 : decode cX10_init 61 = .ok (.anewarray 40, 3) := by decide +kernel
theorem dX10_init_64 : decode cX10_init 64 = .ok (.putfield 42, 3) := by decide +kernel
theorem dX10_init_67 : decode cX10_init 67 = .ok (.aload_n 0, 1) := by decide +kernel
theorem dX10_init_68 : decode cX10_init 68 = .ok (.iconst 0, 1) := by decide +kernel
theorem dX10_init_69 : decode cX10_init 69 = .ok (.putfield 46, 3) := by decide +kernel
theorem dX10_init_72 : decode cX10_init 72 = .ok (.aload_n 0, 1) := by decide +kernel
theorem dX10_init_73 : decode cX10_init 73 = .ok (.new 50, 3) := by decide +kernel
theorem dX10_init_76 : decode cX10_init 76 = .ok (.dup, 1) := by decide +kernel
theorem dX10_init_77 : decode cX10_init 77 = .ok (.invokespecial 52, 3) := by decide +kernel
theorem dX10_init_80 : decode cX10_init 80 = .ok (.putfield 53, 3) := by decide +kernel
theorem dX10_init_83 : decode cX10_init 83 = .ok (.aload_n 0, 1) := by decide +kernel
theorem dX10_init_84 : decode cX10_init 84 = .ok (.new 50, 3) := by decide +kernel
theorem dX10_init_87 : decode cX10_init 87 = .ok (.dup, 1) := by decide +kernel
theorem dX10_init_88 : decode cX10_init 88 = .ok (.invokespecial 52, 3) := by decide +kernel
theorem dX10_init_91 : decode cX10_init 91 = .ok (.putfield 57, 3) := by decide +kernel
theorem dX10_init_94 : decode cX10_init 94 = .ok (.aload_n 0, 1) := by decide +kernel
theorem dX10_init_95 : decode cX10_init 95 = .ok (.new 60, 3) := by decide +kernel
theorem dX10_init_98 : decode cX10_init 98 = .ok (.dup, 1) := by decide +kernel
theorem dX10_init_99 : decode cX10_init 99 = .ok (.invokespecial 62, 3) := by decide +kernel
theorem dX10_init_102 : decode cX10_init 102 = .ok (.putfield 63, 3) := by decide +kernel
theorem dX10_init_105 : decode cX10_init 105 = .ok (.aload_n 0, 1) := by decide +kernel
theorem dX10_init_106 : decode cX10_init 106 = .ok (.new 67, 3) := by decide +kernel
theorem dX10_init_109 : decode cX10_init 109 = .ok (.dup, 1) := by decide +kernel
theorem dX10_init_110 : decode cX10_init 110 = .ok (.invokespecial 69, 3) := by decide +kernel
theorem dX10_init_113 : decode cX10_init 113 = .ok (.putfield 70, 3) := by decide +kernel
theorem dX10_init_116 : decode cX10_init 116 = .ok (.aload_n 0, 1) := by decide +kernel
theorem dX10_init_117 : decode cX10_init 117 = .ok (.iconst 4, 1) := by decide +kernel
theorem dX10_init_118 : decode cX10_init 118 = .ok (.iconst 3, 1) := by decide +kernel
theorem dX10_init_119 : decode cX10_init 119 = .ok (.multianewarray 74 2, 4) := by decide +kernel
theorem dX10_init_123 : decode cX10_init 123 = .ok (.putfield 76, 3) := by decide +kernel
theorem dX10_init_126 : decode cX10_init 126 = .ok (.iconst 0, 1) := by decide +kernel
theorem dX10_init_127 : decode cX10_init 127 = .ok (.istore_n 1, 1) := by decide +kernel
theorem dX10_init_128 : decode cX10_init 128 = .ok (.iload_n 1, 1) := by decide +kernel
theorem dX10_init_129 : decode cX10_init 129 = .ok (.iconst 2, 1) := by decide +kernel
theorem dX10_init_130 : decode cX10_init 130 = .ok (.if_icmp .ge 22, 3) := by decide +kernel
theorem dX10_init_133 : decode cX10_init 133 = .ok (.aload_n 0, 1) := by decide +kernel
theorem dX10_init_134 : decode cX10_init 134 = .ok (.getfield 42, 3) := by decide +kernel
theorem dX10_init_137 : decode cX10_init 137 = .ok (.iload_n 1, 1) := by decide +kernel
theorem dX10_init_138 : decode cX10_init 138 = .ok (.new 40, 3) := by decide +kernel
theorem dX10_init_141 : decode cX10_init 141 = .ok (.dup, 1) := by decide +kernel
theorem dX10_init_142 : decode cX10_init 142 = .ok (.invokespecial 79, 3) := by decide +kernel
theorem dX10_init_145 : decode cX10_init 145 = .ok (.aastore, 1) := by decide +kernel
theorem dX10_init_146 : decode cX10_init 146 = .ok (.iinc 1 1, 3) := by decide +kernel
theorem dX10_init_149 : decode cX10_init 149 = .ok (.goto (-21), 3) := by decide +kernel
theorem dX10_init_152 : decode cX10_init 152 = .ok (.aload_n 0, 1) := by decide +kernel
theorem dX10_init_153 : decode cX10_init 153 = .ok (.getfield 26, 3) := by decide +kernel
theorem dX10_init_156 : decode cX10_init 156 = .ok (.iconst 0, 1) := by decide +kernel
theorem dX10_init_157 : decode cX10_init 157 = .ok (.bipush 9, 2) := by decide +kernel
theorem dX10_init_159 : decode cX10_init 159 = .ok (.iconst 0, 1) := by decide +kernel
theorem dX10_init_160 : decode cX10_init 160 = .ok (.invokevirtual 80, 3) := by decide +kernel
theorem dX10_init_163 : decode cX10_init 163 = .ok (.pop, 1) := by decide +kernel
theorem dX10_init_164 : decode cX10_init 164 = .ok (.aload_n 0, 1) := by decide +kernel
theorem dX10_init_165 : decode cX10_init 165 = .ok (.getfield 26, 3) := by decide +kernel
theorem dX10_init_168 : decode cX10_init 168 = .ok (.iconst 1, 1) := by decide +kernel
theorem dX10_init_169 : decode cX10_init 169 = .ok (.iconst 1, 1) := by decide +kernel
theorem dX10_init_170 : decode cX10_init 170 = .ok (.iconst 0, 1) := by decide +kernel
theorem dX10_init_171 : decode cX10_init 171 = .ok (.invokevirtual 80, 3) := by decide +kernel
theorem dX10_init_174 : decode cX10_init 174 = .ok (.pop, 1) := by decide +kernel
theorem dX10_init_175 : decode cX10_init 175 = .ok (.return_, 1) := by decide +kernel
theorem dX10_write_0 : decode cX10_write 0 = .ok (.iload_n 1, 1) := by decide +kernel
theorem dX10_write_1 : decode cX10_write 1 = .ok (.iconst 1, 1) := by decide +kernel
theorem dX10_write_2 : decode cX10_write 2 = .ok (.bipush 8, 2) := by decide +kernel
theorem dX10_write_4 : decode cX10_write 4 = .ok (.invokestatic 84, 3) := by decide +kernel
theorem dX10_write_7 : decode cX10_write 7 = .ok (.ifCond .ne 5, 3) := by decide +kernel
theorem dX10_write_10 : decode cX10_write 10 = .ok (.iconst (-1), 1) := by decide +kernel
theorem dX10_write_11 : decode cX10_write 11 = .ok (.ireturn, 1) := by decide +kernel
theorem dX10_write_12 : decode cX10_write 12 = .ok (.aload_n 0, 1) := by decide +kernel
theorem dX10_write_13 : decode cX10_write 13 = .ok (.getfield 10, 3) := by decide +kernel
theorem dX10_write_16 : decode cX10_write 16 = .ok (.getfield 88, 3) := by decide +kernel
theorem dX10_write_19 : decode cX10_write 19 = .ok (.iload_n 1, 1) := by decide +kernel
theorem dX10_write_20 : decode cX10_write 20 = .ok (.iadd, 1) := by decide +kernel
theorem dX10_write_21 : decode cX10_write 21 = .ok (.sipush 300, 3) := by decide +kernel
theorem dX10_write_24 : decode cX10_write 24 = .ok (.if_icmp .le 6, 3) := by decide +kernel
theorem dX10_write_27 : decode cX10_write 27 = .ok (.bipush (-3), 2) := by decide +kernel
theorem dX10_write_29 : decode cX10_write 29 = .ok (.ireturn, 1) := by decide +kernel
theorem dX10_write_30 : decode cX10_write 30 = .ok (.iload_n 1, 1) := by decide +kernel
theorem dX10_write_31 : decode cX10_write 31 = .ok (.iconst 1, 1) := by decide +kernel
theorem dX10_write_32 : decode cX10_write 32 = .ok (.isub, 1) := by decide +kernel
theorem dX10_write_33 : decode cX10_write 33 = .ok (.istore 4, 2) := by decide +kernel
theorem dX10_write_35 : decode cX10_write 35 = .ok (.iload 4, 2) := by decide +kernel
theorem dX10_write_37 : decode cX10_write 37 = .ok (.ifCond .lt 28, 3) := by decide +kernel
theorem dX10_write_40 : decode cX10_write 40 = .ok (.aload_n 0, 1) := by decide +kernel
theorem dX10_write_41 : decode cX10_write 41 = .ok (.getfield 10, 3) := by decide +kernel
theorem dX10_write_44 : decode cX10_write 44 = .ok (.lload_n 2, 1) := by decide +kernel
theorem dX10_write_45 : decode cX10_write 45 = .ok (.bipush 8, 2) := by decide +kernel
theorem dX10_write_47 : decode cX10_write 47 = .ok (.iload 4, 2) := by decide +kernel
theorem dX10_write_49 : decode cX10_write 49 = .ok (.imul, 1) := by decide +kernel
theorem dX10_write_50 : decode cX10_write 50 = .ok (.lushr, 1) := by decide +kernel
theorem dX10_write_51 : decode cX10_write 51 = .ok (.l2i, 1) := by decide +kernel
theorem dX10_write_52 : decode cX10_write 52 = .ok (.sipush 255, 3) := by decide +kernel
theorem dX10_write_55 : decode cX10_write 55 = .ok (.iand, 1) := by decide +kernel
theorem dX10_write_56 : decode cX10_write 56 = .ok (.invokevirtual 91, 3) := by decide +kernel
theorem dX10_write_59 : decode cX10_write 59 = .ok (.iinc 4 (-1), 3) := by decide +kernel
theorem dX10_write_62 : decode cX10_write 62 = .ok (.goto (-27), 3) := by decide +kernel
theorem dX10_write_65 : decode cX10_write 65 = .ok (.aload_n 0, 1) := by decide +kernel
theorem dX10_write_66 : decode cX10_write 66 = .ok (.getfield 10, 3) := by decide +kernel
theorem dX10_write_69 : decode cX10_write 69 = .ok (.getfield 88, 3) := by decide +kernel
theorem dX10_write_72 : decode cX10_write 72 = .ok (.ireturn, 1) := by decide +kernel
theorem dX10_wipe_0 : decode cX10_wipe 0 = .ok (.aload_n 0, 1) := by decide +kernel
theorem dX10_wipe_1 : decode cX10_wipe 1 = .ok (.getfield 10, 3) := by decide +kernel
theorem dX10_wipe_4 : decode cX10_wipe 4 = .ok (.getfield 88, 3) := by decide +kernel
theorem dX10_wipe_7 : decode cX10_wipe 7 = .ok (.istore_n 1, 1) := by decide +kernel
theorem dX10_wipe_8 : decode cX10_wipe 8 = .ok (.aload_n 0, 1) := by decide +kernel
theorem dX10_wipe_9 : decode cX10_wipe 9 = .ok (.getfield 10, 3) := by decide +kernel
theorem dX10_wipe_12 : decode cX10_wipe 12 = .ok (.iconst 0, 1) := by decide +kernel
theorem dX10_wipe_13 : decode cX10_wipe 13 = .ok (.putfield 88, 3) := by decide +kernel
theorem dX10_wipe_16 : decode cX10_wipe 16 = .ok (.iload_n 1, 1) := by decide +kernel
theorem dX10_wipe_17 : decode cX10_wipe 17 = .ok (.ireturn, 1) := by decide +kernel
theorem dX10_fault_0 : decode cX10_fault 0 = .ok (.aload_n 0, 1) := by decide +kernel
theorem dX10_fault_1 : decode cX10_fault 1 = .ok (.getfield 19, 3) := by decide +kernel
theorem dX10_fault_4 : decode cX10_fault 4 = .ok (.aload_n 0, 1) := by decide +kernel
theorem dX10_fault_5 : decode cX10_fault 5 = .ok (.getfield 10, 3) := by decide +kernel
theorem dX10_fault_8 : decode cX10_fault 8 = .ok (.aload_n 0, 1) := by decide +kernel
theorem dX10_fault_9 : decode cX10_fault 9 = .ok (.getfield 30, 3) := by decide +kernel
theorem dX10_fault_12 : decode cX10_fault 12 = .ok (.invokevirtual 95, 3) := by decide +kernel
theorem dX10_fault_15 : decode cX10_fault 15 = .ok (.ireturn, 1) := by decide +kernel
theorem dX10_lay_0 : decode cX10_lay 0 = .ok (.aload_n 0, 1) := by decide +kernel
theorem dX10_lay_1 : decode cX10_lay 1 = .ok (.getfield 19, 3) := by decide +kernel
theorem dX10_lay_4 : decode cX10_lay 4 = .ok (.aload_n 0, 1) := by decide +kernel
theorem dX10_lay_5 : decode cX10_lay 5 = .ok (.getfield 10, 3) := by decide +kernel
theorem dX10_lay_8 : decode cX10_lay 8 = .ok (.aload_n 0, 1) := by decide +kernel
theorem dX10_lay_9 : decode cX10_lay 9 = .ok (.getfield 30, 3) := by decide +kernel
theorem dX10_lay_12 : decode cX10_lay 12 = .ok (.invokevirtual 95, 3) := by decide +kernel
theorem dX10_lay_15 : decode cX10_lay 15 = .ok (.bipush (-4), 2) := by decide +kernel
theorem dX10_lay_17 : decode cX10_lay 17 = .ok (.if_icmp .ne 23, 3) := by decide +kernel
theorem dX10_lay_20 : decode cX10_lay 20 = .ok (.aload_n 0, 1) := by decide +kernel
theorem dX10_lay_21 : decode cX10_lay 21 = .ok (.getfield 30, 3) := by decide +kernel
theorem dX10_lay_24 : decode cX10_lay 24 = .ok (.getfield 99, 3) := by decide +kernel
theorem dX10_lay_27 : decode cX10_lay 27 = .ok (.ifCond .eq 13, 3) := by decide +kernel
theorem dX10_lay_30 : decode cX10_lay 30 = .ok (.aload_n 0, 1) := by decide +kernel
theorem dX10_lay_31 : decode cX10_lay 31 = .ok (.getfield 30, 3) := by decide +kernel
theorem dX10_lay_34 : decode cX10_lay 34 = .ok (.getfield 102, 3) := by decide +kernel
theorem dX10_lay_37 : decode cX10_lay 37 = .ok (.ifCond .ne 6, 3) := by decide +kernel
theorem dX10_lay_40 : decode cX10_lay 40 = .ok (.bipush (-2), 2) := by decide +kernel
theorem dX10_lay_42 : decode cX10_lay 42 = .ok (.ireturn, 1) := by decide +kernel
theorem dX10_lay_43 : decode cX10_lay 43 = .ok (.aload_n 0, 1) := by decide +kernel
theorem dX10_lay_44 : decode cX10_lay 44 = .ok (.getfield 30, 3) := by decide +kernel
theorem dX10_lay_47 : decode cX10_lay 47 = .ok (.astore_n 1, 1) := by decide +kernel
theorem dX10_lay_48 : decode cX10_lay 48 = .ok (.aload_n 0, 1) := by decide +kernel
theorem dX10_lay_49 : decode cX10_lay 49 = .ok (.aload_n 0, 1) := by decide +kernel
theorem dX10_lay_50 : decode cX10_lay 50 = .ok (.getfield 26, 3) := by decide +kernel
theorem dX10_lay_53 : decode cX10_lay 53 = .ok (.putfield 30, 3) := by decide +kernel
theorem dX10_lay_56 : decode cX10_lay 56 = .ok (.aload_n 0, 1) := by decide +kernel
theorem dX10_lay_57 : decode cX10_lay 57 = .ok (.aload_n 1, 1) := by decide +kernel
theorem dX10_lay_58 : decode cX10_lay 58 = .ok (.putfield 26, 3) := by decide +kernel
theorem dX10_lay_61 : decode cX10_lay 61 = .ok (.aload_n 0, 1) := by decide +kernel
theorem dX10_lay_62 : decode cX10_lay 62 = .ok (.getfield 36, 3) := by decide +kernel
theorem dX10_lay_65 : decode cX10_lay 65 = .ok (.iconst 0, 1) := by decide +kernel
theorem dX10_lay_66 : decode cX10_lay 66 = .ok (.putfield 105, 3) := by decide +kernel
theorem dX10_lay_69 : decode cX10_lay 69 = .ok (.aload_n 0, 1) := by decide +kernel
theorem dX10_lay_70 : decode cX10_lay 70 = .ok (.iconst 0, 1) := by decide +kernel
theorem dX10_lay_71 : decode cX10_lay 71 = .ok (.putfield 46, 3) := by decide +kernel
theorem dX10_lay_74 : decode cX10_lay 74 = .ok (.aload_n 0, 1) := by decide +kernel
theorem dX10_lay_75 : decode cX10_lay 75 = .ok (.getfield 26, 3) := by decide +kernel
theorem dX10_lay_78 : decode cX10_lay 78 = .ok (.getfield 106, 3) := by decide +kernel
theorem dX10_lay_81 : decode cX10_lay 81 = .ok (.ireturn, 1) := by decide +kernel
theorem dX10_person_0 : decode cX10_person 0 = .ok (.aload_n 0, 1) := by decide +kernel
theorem dX10_person_1 : decode cX10_person 1 = .ok (.getfield 26, 3) := by decide +kernel
theorem dX10_person_4 : decode cX10_person 4 = .ok (.iload_n 1, 1) := by decide +kernel
theorem dX10_person_5 : decode cX10_person 5 = .ok (.invokevirtual 109, 3) := by decide +kernel
theorem dX10_person_8 : decode cX10_person 8 = .ok (.ifCond .eq 12, 3) := by decide +kernel
theorem dX10_person_11 : decode cX10_person 11 = .ok (.iload_n 2, 1) := by decide +kernel
theorem dX10_person_12 : decode cX10_person 12 = .ok (.iconst 0, 1) := by decide +kernel
theorem dX10_person_13 : decode cX10_person 13 = .ok (.iconst 2, 1) := by decide +kernel
theorem dX10_person_14 : decode cX10_person 14 = .ok (.invokestatic 84, 3) := by decide +kernel
theorem dX10_person_17 : decode cX10_person 17 = .ok (.ifCond .ne 5, 3) := by decide +kernel
theorem dX10_person_20 : decode cX10_person 20 = .ok (.iconst (-1), 1) := by decide +kernel
theorem dX10_person_21 : decode cX10_person 21 = .ok (.ireturn, 1) := by decide +kernel
theorem dX10_person_22 : decode cX10_person 22 = .ok (.iload_n 2, 1) := by decide +kernel
theorem dX10_person_23 : decode cX10_person 23 = .ok (.ifCond .ne 21, 3) := by decide +kernel
theorem dX10_person_26 : decode cX10_person 26 = .ok (.aload_n 0, 1) := by decide +kernel
theorem dX10_person_27 : decode cX10_person 27 = .ok (.getfield 26, 3) := by decide +kernel
theorem dX10_person_30 : decode cX10_person 30 = .ok (.getfield 113, 3) := by decide +kernel
theorem dX10_person_33 : decode cX10_person 33 = .ok (.iload_n 1, 1) := by decide +kernel
theorem dX10_person_34 : decode cX10_person 34 = .ok (.baload, 1) := by decide +kernel
theorem dX10_person_35 : decode cX10_person 35 = .ok (.ifCond .eq 7, 3) := by decide +kernel
theorem dX10_person_38 : decode cX10_person 38 = .ok (.iconst 1, 1) := by decide +kernel
theorem dX10_person_39 : decode cX10_person 39 = .ok (.goto 4, 3) := by decide +kernel
theorem dX10_person_42 : decode cX10_person 42 = .ok (.iconst 0, 1) := by decide +kernel
theorem dX10_person_43 : decode cX10_person 43 = .ok (.ireturn, 1) := by decide +kernel
theorem dX10_person_44 : decode cX10_person 44 = .ok (.iload_n 2, 1) := by decide +kernel
theorem dX10_person_45 : decode cX10_person 45 = .ok (.iconst 1, 1) := by decide +kernel
theorem dX10_person_46 : decode cX10_person 46 = .ok (.if_icmp .ne 15, 3) := by decide +kernel
theorem dX10_person_49 : decode cX10_person 49 = .ok (.aload_n 0, 1) := by decide +kernel
theorem dX10_person_50 : decode cX10_person 50 = .ok (.getfield 26, 3) := by decide +kernel
theorem dX10_person_53 : decode cX10_person 53 = .ok (.getfield 117, 3) := by decide +kernel
theorem dX10_person_56 : decode cX10_person 56 = .ok (.iload_n 1, 1) := by decide +kernel
theorem dX10_person_57 : decode cX10_person 57 = .ok (.iaload, 1) := by decide +kernel
theorem dX10_person_58 : decode cX10_person 58 = .ok (.goto 12, 3) := by decide +kernel
theorem dX10_person_61 : decode cX10_person 61 = .ok (.aload_n 0, 1) := by decide +kernel
theorem dX10_person_62 : decode cX10_person 62 = .ok (.getfield 26, 3) := by decide +kernel
theorem dX10_person_65 : decode cX10_person 65 = .ok (.getfield 121, 3) := by decide +kernel
theorem dX10_person_68 : decode cX10_person 68 = .ok (.iload_n 1, 1) := by decide +kernel
theorem dX10_person_69 : decode cX10_person 69 = .ok (.iaload, 1) := by decide +kernel
theorem dX10_person_70 : decode cX10_person 70 = .ok (.ireturn, 1) := by decide +kernel
theorem dX10_law_0 : decode cX10_law 0 = .ok (.aload_n 0, 1) := by decide +kernel
theorem dX10_law_1 : decode cX10_law 1 = .ok (.getfield 26, 3) := by decide +kernel
theorem dX10_law_4 : decode cX10_law 4 = .ok (.iload_n 1, 1) := by decide +kernel
theorem dX10_law_5 : decode cX10_law 5 = .ok (.invokevirtual 109, 3) := by decide +kernel
theorem dX10_law_8 : decode cX10_law 8 = .ok (.ifCond .eq 12, 3) := by decide +kernel
theorem dX10_law_11 : decode cX10_law 11 = .ok (.iload_n 2, 1) := by decide +kernel
theorem dX10_law_12 : decode cX10_law 12 = .ok (.iconst 0, 1) := by decide +kernel
theorem dX10_law_13 : decode cX10_law 13 = .ok (.iconst 5, 1) := by decide +kernel
theorem dX10_law_14 : decode cX10_law 14 = .ok (.invokestatic 84, 3) := by decide +kernel
theorem dX10_law_17 : decode cX10_law 17 = .ok (.ifCond .ne 5, 3) := by decide +kernel
theorem dX10_law_20 : decode cX10_law 20 = .ok (.iconst (-1), 1) := by decide +kernel
theorem dX10_law_21 : decode cX10_law 21 = .ok (.ireturn, 1) := by decide +kernel
theorem dX10_law_22 : decode cX10_law 22 = .ok (.aload_n 0, 1) := by decide +kernel
theorem dX10_law_23 : decode cX10_law 23 = .ok (.getfield 26, 3) := by decide +kernel
theorem dX10_law_26 : decode cX10_law 26 = .ok (.getfield 121, 3) := by decide +kernel
theorem dX10_law_29 : decode cX10_law 29 = .ok (.iload_n 1, 1) := by decide +kernel
theorem dX10_law_30 : decode cX10_law 30 = .ok (.iaload, 1) := by decide +kernel
theorem dX10_law_31 : decode cX10_law 31 = .ok (.istore_n 3, 1) := by decide +kernel
theorem dX10_law_32 : decode cX10_law 32 = .ok (.aload_n 0, 1) := by decide +kernel
theorem dX10_law_33 : decode cX10_law 33 = .ok (.getfield 26, 3) := by decide +kernel
theorem dX10_law_36 : decode cX10_law 36 = .ok (.getfield 121, 3) := by decide +kernel
theorem dX10_law_39 : decode cX10_law 39 = .ok (.iload_n 1, 1) := by decide +kernel
theorem dX10_law_40 : decode cX10_law 40 = .ok (.iload_n 2, 1) := by decide +kernel
theorem dX10_law_41 : decode cX10_law 41 = .ok (.iastore, 1) := by decide +kernel
theorem dX10_law_42 : decode cX10_law 42 = .ok (.iload_n 3, 1) := by decide +kernel
theorem dX10_law_43 : decode cX10_law 43 = .ok (.ireturn, 1) := by decide +kernel
theorem dX10_lines_0 : decode cX10_lines 0 = .ok (.iload_n 1, 1) := by decide +kernel
theorem dX10_lines_1 : decode cX10_lines 1 = .ok (.iconst 0, 1) := by decide +kernel
theorem dX10_lines_2 : decode cX10_lines 2 = .ok (.iconst 4, 1) := by decide +kernel
theorem dX10_lines_3 : decode cX10_lines 3 = .ok (.invokestatic 84, 3) := by decide +kernel
theorem dX10_lines_6 : decode cX10_lines 6 = .ok (.ifCond .ne 5, 3) := by decide +kernel
theorem dX10_lines_9 : decode cX10_lines 9 = .ok (.iconst (-1), 1) := by decide +kernel
theorem dX10_lines_10 : decode cX10_lines 10 = .ok (.ireturn, 1) := by decide +kernel
theorem dX10_lines_11 : decode cX10_lines 11 = .ok (.aload_n 0, 1) := by decide +kernel
theorem dX10_lines_12 : decode cX10_lines 12 = .ok (.getfield 53, 3) := by decide +kernel
theorem dX10_lines_15 : decode cX10_lines 15 = .ok (.aload_n 0, 1) := by decide +kernel
theorem dX10_lines_16 : decode cX10_lines 16 = .ok (.getfield 26, 3) := by decide +kernel
theorem dX10_lines_19 : decode cX10_lines 19 = .ok (.aload_n 0, 1) := by decide +kernel
theorem dX10_lines_20 : decode cX10_lines 20 = .ok (.getfield 26, 3) := by decide +kernel
theorem dX10_lines_23 : decode cX10_lines 23 = .ok (.getfield 124, 3) := by decide +kernel
theorem dX10_lines_26 : decode cX10_lines 26 = .ok (.invokevirtual 127, 3) := by decide +kernel
theorem dX10_lines_29 : decode cX10_lines 29 = .ok (.iload_n 1, 1) := by decide +kernel
theorem dX10_lines_30 : decode cX10_lines 30 = .ok (.ifCond .ne 11, 3) := by decide +kernel
theorem dX10_lines_33 : decode cX10_lines 33 = .ok (.aload_n 0, 1) := by decide +kernel
theorem dX10_lines_34 : decode cX10_lines 34 = .ok (.getfield 53, 3) := by decide +kernel
theorem dX10_lines_37 : decode cX10_lines 37 = .ok (.getfield 131, 3) := by decide +kernel
theorem dX10_lines_40 : decode cX10_lines 40 = .ok (.ireturn, 1) := by decide +kernel
theorem dX10_lines_41 : decode cX10_lines 41 = .ok (.iload_n 1, 1) := by decide +kernel
theorem dX10_lines_42 : decode cX10_lines 42 = .ok (.iconst 1, 1) := by decide +kernel
theorem dX10_lines_43 : decode cX10_lines 43 = .ok (.if_icmp .ne 11, 3) := by decide +kernel
theorem dX10_lines_46 : decode cX10_lines 46 = .ok (.aload_n 0, 1) := by decide +kernel
theorem dX10_lines_47 : decode cX10_lines 47 = .ok (.getfield 53, 3) := by decide +kernel
theorem dX10_lines_50 : decode cX10_lines 50 = .ok (.getfield 134, 3) := by decide +kernel
theorem dX10_lines_53 : decode cX10_lines 53 = .ok (.ireturn, 1) := by decide +kernel
theorem dX10_lines_54 : decode cX10_lines 54 = .ok (.aload_n 0, 1) := by decide +kernel
theorem dX10_lines_55 : decode cX10_lines 55 = .ok (.getfield 53, 3) := by decide +kernel
theorem dX10_lines_58 : decode cX10_lines 58 = .ok (.getfield 131, 3) := by decide +kernel
theorem dX10_lines_61 : decode cX10_lines 61 = .ok (.ifCond .ne 6, 3) := by decide +kernel
theorem dX10_lines_64 : decode cX10_lines 64 = .ok (.bipush (-4), 2) := by decide +kernel
theorem dX10_lines_66 : decode cX10_lines 66 = .ok (.ireturn, 1) := by decide +kernel
theorem dX10_lines_67 : decode cX10_lines 67 = .ok (.iload_n 1, 1) := by decide +kernel
theorem dX10_lines_68 : decode cX10_lines 68 = .ok (.iconst 4, 1) := by decide +kernel
theorem dX10_lines_69 : decode cX10_lines 69 = .ok (.if_icmp .ne 46, 3) := by decide +kernel
theorem dX10_lines_72 : decode cX10_lines 72 = .ok (.aload_n 0, 1) := by decide +kernel
theorem dX10_lines_73 : decode cX10_lines 73 = .ok (.getfield 57, 3) := by decide +kernel
theorem dX10_lines_76 : decode cX10_lines 76 = .ok (.aload_n 0, 1) := by decide +kernel
theorem dX10_lines_77 : decode cX10_lines 77 = .ok (.getfield 26, 3) := by decide +kernel
theorem dX10_lines_80 : decode cX10_lines 80 = .ok (.iconst 0, 1) := by decide +kernel
theorem dX10_lines_81 : decode cX10_lines 81 = .ok (.invokevirtual 127, 3) := by decide +kernel
theorem dX10_lines_84 : decode cX10_lines 84 = .ok (.aload_n 0, 1) := by decide +kernel
theorem dX10_lines_85 : decode cX10_lines 85 = .ok (.getfield 57, 3) := by decide +kernel
theorem dX10_lines_88 : decode cX10_lines 88 = .ok (.getfield 131, 3) := by decide +kernel
theorem dX10_lines_91 : decode cX10_lines 91 = .ok (.ifCond .ne 8, 3) := by decide +kernel
theorem dX10_lines_94 : decode cX10_lines 94 = .ok (.bipush (-4), 2) := by decide +kernel
theorem dX10_lines_96 : decode cX10_lines 96 = .ok (.goto 18, 3) := by decide +kernel
theorem dX10_lines_99 : decode cX10_lines 99 = .ok (.aload_n 0, 1) := by decide +kernel
theorem dX10_lines_100 : decode cX10_lines 100 = .ok (.getfield 53, 3) := by decide +kernel
theorem dX10_lines_103 : decode cX10_lines 103 = .ok (.getfield 137, 3) := by decide +kernel
theorem dX10_lines_106 : decode cX10_lines 106 = .ok (.aload_n 0, 1) := by decide +kernel
theorem dX10_lines_107 : decode cX10_lines 107 = .ok (.getfield 57, 3) := by decide +kernel
theorem dX10_lines_110 : decode cX10_lines 110 = .ok (.getfield 137, 3) := by decide +kernel
theorem dX10_lines_113 : decode cX10_lines 113 = .ok (.isub, 1) := by decide +kernel
theorem dX10_lines_114 : decode cX10_lines 114 = .ok (.ireturn, 1) := by decide +kernel
theorem dX10_lines_115 : decode cX10_lines 115 = .ok (.iload_n 1, 1) := by decide +kernel
theorem dX10_lines_116 : decode cX10_lines 116 = .ok (.iconst 2, 1) := by decide +kernel
theorem dX10_lines_117 : decode cX10_lines 117 = .ok (.if_icmp .ne 13, 3) := by decide +kernel
theorem dX10_lines_120 : decode cX10_lines 120 = .ok (.aload_n 0, 1) := by decide +kernel
theorem dX10_lines_121 : decode cX10_lines 121 = .ok (.getfield 53, 3) := by decide +kernel
theorem dX10_lines_124 : decode cX10_lines 124 = .ok (.getfield 137, 3) := by decide +kernel
theorem dX10_lines_127 : decode cX10_lines 127 = .ok (.goto 10, 3) := by decide +kernel
theorem dX10_lines_130 : decode cX10_lines 130 = .ok (.aload_n 0, 1) := by decide +kernel
theorem dX10_lines_131 : decode cX10_lines 131 = .ok (.getfield 53, 3) := by decide +kernel
theorem dX10_lines_134 : decode cX10_lines 134 = .ok (.getfield 140, 3) := by decide +kernel
theorem dX10_lines_137 : decode cX10_lines 137 = .ok (.ireturn, 1) := by decide +kernel
theorem dX10_served_0 : decode cX10_served 0 = .ok (.iload_n 1, 1) := by decide +kernel
theorem dX10_served_1 : decode cX10_served 1 = .ok (.iconst 0, 1) := by decide +kernel
theorem dX10_served_2 : decode cX10_served 2 = .ok (.iconst 3, 1) := by decide +kernel
theorem dX10_served_3 : decode cX10_served 3 = .ok (.invokestatic 84, 3) := by decide +kernel
theorem dX10_served_6 : decode cX10_served 6 = .ok (.ifCond .ne 5, 3) := by decide +kernel
theorem dX10_served_9 : decode cX10_served 9 = .ok (.iconst (-1), 1) := by decide +kernel
theorem dX10_served_10 : decode cX10_served 10 = .ok (.ireturn, 1) := by decide +kernel
theorem dX10_served_11 : decode cX10_served 11 = .ok (.aload_n 0, 1) := by decide +kernel
theorem dX10_served_12 : decode cX10_served 12 = .ok (.getfield 53, 3) := by decide +kernel
theorem dX10_served_15 : decode cX10_served 15 = .ok (.aload_n 0, 1) := by decide +kernel
theorem dX10_served_16 : decode cX10_served 16 = .ok (.getfield 26, 3) := by decide +kernel
theorem dX10_served_19 : decode cX10_served 19 = .ok (.aload_n 0, 1) := by decide +kernel
theorem dX10_served_20 : decode cX10_served 20 = .ok (.getfield 26, 3) := by decide +kernel
theorem dX10_served_23 : decode cX10_served 23 = .ok (.getfield 124, 3) := by decide +kernel
theorem dX10_served_26 : decode cX10_served 26 = .ok (.invokevirtual 127, 3) := by decide +kernel
theorem dX10_served_29 : decode cX10_served 29 = .ok (.aload_n 0, 1) := by decide +kernel
theorem dX10_served_30 : decode cX10_served 30 = .ok (.getfield 53, 3) := by decide +kernel
theorem dX10_served_33 : decode cX10_served 33 = .ok (.getfield 131, 3) := by decide +kernel
theorem dX10_served_36 : decode cX10_served 36 = .ok (.istore_n 2, 1) := by decide +kernel
theorem dX10_served_37 : decode cX10_served 37 = .ok (.aload_n 0, 1) := by decide +kernel
theorem dX10_served_38 : decode cX10_served 38 = .ok (.getfield 53, 3) := by decide +kernel
theorem dX10_served_41 : decode cX10_served 41 = .ok (.getfield 134, 3) := by decide +kernel
theorem dX10_served_44 : decode cX10_served 44 = .ok (.istore_n 3, 1) := by decide +kernel
theorem dX10_served_45 : decode cX10_served 45 = .ok (.aload_n 0, 1) := by decide +kernel
theorem dX10_served_46 : decode cX10_served 46 = .ok (.getfield 53, 3) := by decide +kernel
theorem dX10_served_49 : decode cX10_served 49 = .ok (.getfield 134, 3) := by decide +kernel
theorem dX10_served_52 : decode cX10_served 52 = .ok (.istore 4, 2) := by decide +kernel
theorem dX10_served_54 : decode cX10_served 54 = .ok (.aload_n 0, 1) := by decide +kernel
theorem dX10_served_55 : decode cX10_served 55 = .ok (.getfield 53, 3) := by decide +kernel
theorem dX10_served_58 : decode cX10_served 58 = .ok (.getfield 131, 3) := by decide +kernel
theorem dX10_served_61 : decode cX10_served 61 = .ok (.ifCond .le 135, 3) := by decide +kernel
theorem dX10_served_64 : decode cX10_served 64 = .ok (.aload_n 0, 1) := by decide +kernel
theorem dX10_served_65 : decode cX10_served 65 = .ok (.getfield 26, 3) := by decide +kernel
theorem dX10_served_68 : decode cX10_served 68 = .ok (.getfield 143, 3) := by decide +kernel
theorem dX10_served_71 : decode cX10_served 71 = .ok (.aload_n 0, 1) := by decide +kernel
theorem dX10_served_72 : decode cX10_served 72 = .ok (.getfield 53, 3) := by decide +kernel
theorem dX10_served_75 : decode cX10_served 75 = .ok (.getfield 137, 3) := by decide +kernel
theorem dX10_served_78 : decode cX10_served 78 = .ok (.if_icmp .ge 118, 3) := by decide +kernel
theorem dX10_served_81 : decode cX10_served 81 = .ok (.aload_n 0, 1) := by decide +kernel
theorem dX10_served_82 : decode cX10_served 82 = .ok (.getfield 53, 3) := by decide +kernel
theorem dX10_served_85 : decode cX10_served 85 = .ok (.getfield 146, 3) := by decide +kernel
theorem dX10_served_88 : decode cX10_served 88 = .ok (.aload_n 0, 1) := by decide +kernel
theorem dX10_served_89 : decode cX10_served 89 = .ok (.getfield 26, 3) := by decide +kernel
theorem dX10_served_92 : decode cX10_served 92 = .ok (.getfield 143, 3) := by decide +kernel
theorem dX10_served_95 : decode cX10_served 95 = .ok (.invokevirtual 149, 3) := by decide +kernel
theorem dX10_served_98 : decode cX10_served 98 = .ok (.istore 5, 2) := by decide +kernel
theorem dX10_served_100 : decode cX10_served 100 = .ok (.aload_n 0, 1) := by decide +kernel
theorem dX10_served_101 : decode cX10_served 101 = .ok (.getfield 53, 3) := by decide +kernel
theorem dX10_served_104 : decode cX10_served 104 = .ok (.getfield 155, 3) := by decide +kernel
theorem dX10_served_107 : decode cX10_served 107 = .ok (.aload_n 0, 1) := by decide +kernel
theorem dX10_served_108 : decode cX10_served 108 = .ok (.getfield 26, 3) := by decide +kernel
theorem dX10_served_111 : decode cX10_served 111 = .ok (.getfield 143, 3) := by decide +kernel
theorem dX10_served_114 : decode cX10_served 114 = .ok (.aload_n 0, 1) := by decide +kernel
theorem dX10_served_115 : decode cX10_served 115 = .ok (.getfield 26, 3) := by decide +kernel
theorem dX10_served_118 : decode cX10_served 118 = .ok (.getfield 124, 3) := by decide +kernel
theorem dX10_served_121 : decode cX10_served 121 = .ok (.isub, 1) := by decide +kernel
theorem dX10_served_122 : decode cX10_served 122 = .ok (.invokevirtual 149, 3) := by decide +kernel
theorem dX10_served_125 : decode cX10_served 125 = .ok (.istore 6, 2) := by decide +kernel
theorem dX10_served_127 : decode cX10_served 127 = .ok (.iload 5, 2) := by decide +kernel
theorem dX10_served_129 : decode cX10_served 129 = .ok (.iload 6, 2) := by decide +kernel
theorem dX10_served_131 : decode cX10_served 131 = .ok (.invokestatic 157, 3) := by decide +kernel
theorem dX10_served_134 : decode cX10_served 134 = .ok (.istore_n 2, 1) := by decide +kernel
theorem dX10_served_135 : decode cX10_served 135 = .ok (.aload_n 0, 1) := by decide +kernel
theorem dX10_served_136 : decode cX10_served 136 = .ok (.getfield 53, 3) := by decide +kernel
theorem dX10_served_139 : decode cX10_served 139 = .ok (.getfield 146, 3) := by decide +kernel
theorem dX10_served_142 : decode cX10_served 142 = .ok (.iconst 0, 1) := by decide +kernel
theorem dX10_served_143 : decode cX10_served 143 = .ok (.iload_n 2, 1) := by decide +kernel
theorem dX10_served_144 : decode cX10_served 144 = .ok (.invokevirtual 163, 3) := by decide +kernel
theorem dX10_served_147 : decode cX10_served 147 = .ok (.aload_n 0, 1) := by decide +kernel
theorem dX10_served_148 : decode cX10_served 148 = .ok (.getfield 53, 3) := by decide +kernel
theorem dX10_served_151 : decode cX10_served 151 = .ok (.getfield 155, 3) := by decide +kernel
theorem dX10_served_154 : decode cX10_served 154 = .ok (.iconst 0, 1) := by decide +kernel
theorem dX10_served_155 : decode cX10_served 155 = .ok (.iload_n 2, 1) := by decide +kernel
theorem dX10_served_156 : decode cX10_served 156 = .ok (.invokevirtual 163, 3) := by decide +kernel
theorem dX10_served_159 : decode cX10_served 159 = .ok (.isub, 1) := by decide +kernel
theorem dX10_served_160 : decode cX10_served 160 = .ok (.istore_n 3, 1) := by decide +kernel
theorem dX10_served_161 : decode cX10_served 161 = .ok (.aload_n 0, 1) := by decide +kernel
theorem dX10_served_162 : decode cX10_served 162 = .ok (.getfield 53, 3) := by decide +kernel
theorem dX10_served_165 : decode cX10_served 165 = .ok (.getfield 146, 3) := by decide +kernel
theorem dX10_served_168 : decode cX10_served 168 = .ok (.iload 5, 2) := by decide +kernel
theorem dX10_served_170 : decode cX10_served 170 = .ok (.iload_n 2, 1) := by decide +kernel
theorem dX10_served_171 : decode cX10_served 171 = .ok (.isub, 1) := by decide +kernel
theorem dX10_served_172 : decode cX10_served 172 = .ok (.iload 5, 2) := by decide +kernel
theorem dX10_served_174 : decode cX10_served 174 = .ok (.invokevirtual 163, 3) := by decide +kernel
theorem dX10_served_177 : decode cX10_served 177 = .ok (.aload_n 0, 1) := by decide +kernel
theorem dX10_served_178 : decode cX10_served 178 = .ok (.getfield 53, 3) := by decide +kernel
theorem dX10_served_181 : decode cX10_served 181 = .ok (.getfield 155, 3) := by decide +kernel
theorem dX10_served_184 : decode cX10_served 184 = .ok (.iload 6, 2) := by decide +kernel
theorem dX10_served_186 : decode cX10_served 186 = .ok (.iload_n 2, 1) := by decide +kernel
theorem dX10_served_187 : decode cX10_served 187 = .ok (.isub, 1) := by decide +kernel
theorem dX10_served_188 : decode cX10_served 188 = .ok (.iload 6, 2) := by decide +kernel
theorem dX10_served_190 : decode cX10_served 190 = .ok (.invokevirtual 163, 3) := by decide +kernel
theorem dX10_served_193 : decode cX10_served 193 = .ok (.isub, 1) := by decide +kernel
theorem dX10_served_194 : decode cX10_served 194 = .ok (.istore 4, 2) := by decide +kernel
theorem dX10_served_196 : decode cX10_served 196 = .ok (.iload_n 1, 1) := by decide +kernel
theorem dX10_served_197 : decode cX10_served 197 = .ok (.ifCond .ne 5, 3) := by decide +kernel
theorem dX10_served_200 : decode cX10_served 200 = .ok (.iload_n 2, 1) := by decide +kernel
theorem dX10_served_201 : decode cX10_served 201 = .ok (.ireturn, 1) := by decide +kernel
theorem dX10_served_202 : decode cX10_served 202 = .ok (.iload_n 1, 1) := by decide +kernel
theorem dX10_served_203 : decode cX10_served 203 = .ok (.iconst 1, 1) := by decide +kernel
theorem dX10_served_204 : decode cX10_served 204 = .ok (.if_icmp .ne 5, 3) := by decide +kernel
theorem dX10_served_207 : decode cX10_served 207 = .ok (.iload_n 3, 1) := by decide +kernel
theorem dX10_served_208 : decode cX10_served 208 = .ok (.ireturn, 1) := by decide +kernel
theorem dX10_served_209 : decode cX10_served 209 = .ok (.iload_n 1, 1) := by decide +kernel
theorem dX10_served_210 : decode cX10_served 210 = .ok (.iconst 2, 1) := by decide +kernel
theorem dX10_served_211 : decode cX10_served 211 = .ok (.if_icmp .ne 8, 3) := by decide +kernel
theorem dX10_served_214 : decode cX10_served 214 = .ok (.iload 4, 2) := by decide +kernel
theorem dX10_served_216 : decode cX10_served 216 = .ok (.goto 13, 3) := by decide +kernel
theorem dX10_served_219 : decode cX10_served 219 = .ok (.aload_n 0, 1) := by decide +kernel
theorem dX10_served_220 : decode cX10_served 220 = .ok (.getfield 53, 3) := by decide +kernel
theorem dX10_served_223 : decode cX10_served 223 = .ok (.getfield 134, 3) := by decide +kernel
theorem dX10_served_226 : decode cX10_served 226 = .ok (.iload 4, 2) := by decide +kernel
theorem dX10_served_228 : decode cX10_served 228 = .ok (.isub, 1) := by decide +kernel
theorem dX10_served_229 : decode cX10_served 229 = .ok (.ireturn, 1) := by decide +kernel
theorem dX10_pairs_0 : decode cX10_pairs 0 = .ok (.iload_n 1, 1) := by decide +kernel
theorem dX10_pairs_1 : decode cX10_pairs 1 = .ok (.iconst 0, 1) := by decide +kernel
theorem dX10_pairs_2 : decode cX10_pairs 2 = .ok (.iconst 1, 1) := by decide +kernel
theorem dX10_pairs_3 : decode cX10_pairs 3 = .ok (.invokestatic 84, 3) := by decide +kernel
theorem dX10_pairs_6 : decode cX10_pairs 6 = .ok (.ifCond .ne 7, 3) := by decide +kernel
theorem dX10_pairs_9 : decode cX10_pairs 9 = .ok (.ldc2_w 166, 3) := by decide +kernel
theorem dX10_pairs_12 : decode cX10_pairs 12 = .ok (.lreturn, 1) := by decide +kernel
theorem dX10_pairs_13 : decode cX10_pairs 13 = .ok (.aload_n 0, 1) := by decide +kernel
theorem dX10_pairs_14 : decode cX10_pairs 14 = .ok (.invokevirtual 168, 3) := by decide +kernel
theorem dX10_pairs_17 : decode cX10_pairs 17 = .ok (.istore_n 2, 1) := by decide +kernel
theorem dX10_pairs_18 : decode cX10_pairs 18 = .ok (.aload_n 0, 1) := by decide +kernel
theorem dX10_pairs_19 : decode cX10_pairs 19 = .ok (.getfield 26, 3) := by decide +kernel
theorem dX10_pairs_22 : decode cX10_pairs 22 = .ok (.getfield 99, 3) := by decide +kernel
theorem dX10_pairs_25 : decode cX10_pairs 25 = .ok (.aload_n 0, 1) := by decide +kernel
theorem dX10_pairs_26 : decode cX10_pairs 26 = .ok (.getfield 26, 3) := by decide +kernel
theorem dX10_pairs_29 : decode cX10_pairs 29 = .ok (.getfield 102, 3) := by decide +kernel
theorem dX10_pairs_32 : decode cX10_pairs 32 = .ok (.invokestatic 172, 3) := by decide +kernel
theorem dX10_pairs_35 : decode cX10_pairs 35 = .ok (.istore_n 3, 1) := by decide +kernel
theorem dX10_pairs_36 : decode cX10_pairs 36 = .ok (.iconst 1, 1) := by decide +kernel
theorem dX10_pairs_37 : decode cX10_pairs 37 = .ok (.istore 4, 2) := by decide +kernel
theorem dX10_pairs_39 : decode cX10_pairs 39 = .ok (.iconst 2, 1) := by decide +kernel
theorem dX10_pairs_40 : decode cX10_pairs 40 = .ok (.istore 5, 2) := by decide +kernel
theorem dX10_pairs_42 : decode cX10_pairs 42 = .ok (.iload 5, 2) := by decide +kernel
theorem dX10_pairs_44 : decode cX10_pairs 44 = .ok (.iload_n 3, 1) := by decide +kernel
theorem dX10_pairs_45 : decode cX10_pairs 45 = .ok (.if_icmp .gt 27, 3) := by decide +kernel
theorem dX10_pairs_48 : decode cX10_pairs 48 = .ok (.iload_n 2, 1) := by decide +kernel
theorem dX10_pairs_49 : decode cX10_pairs 49 = .ok (.iload 5, 2) := by decide +kernel
theorem dX10_pairs_51 : decode cX10_pairs 51 = .ok (.irem, 1) := by decide +kernel
theorem dX10_pairs_52 : decode cX10_pairs 52 = .ok (.ifCond .ne 14, 3) := by decide +kernel
theorem dX10_pairs_55 : decode cX10_pairs 55 = .ok (.iload_n 3, 1) := by decide +kernel
theorem dX10_pairs_56 : decode cX10_pairs 56 = .ok (.iload 5, 2) := by decide +kernel
theorem dX10_pairs_58 : decode cX10_pairs 58 = .ok (.irem, 1) := by decide +kernel
theorem dX10_pairs_59 : decode cX10_pairs 59 = .ok (.ifCond .ne 7, 3) := by decide +kernel
theorem dX10_pairs_62 : decode cX10_pairs 62 = .ok (.iload 5, 2) := by decide +kernel
theorem dX10_pairs_64 : decode cX10_pairs 64 = .ok (.istore 4, 2) := by decide +kernel
theorem dX10_pairs_66 : decode cX10_pairs 66 = .ok (.iinc 5 1, 3) := by decide +kernel
theorem dX10_pairs_69 : decode cX10_pairs 69 = .ok (.goto (-27), 3) := by decide +kernel
theorem dX10_pairs_72 : decode cX10_pairs 72 = .ok (.iload_n 1, 1) := by decide +kernel
theorem dX10_pairs_73 : decode cX10_pairs 73 = .ok (.ifCond .ne 11, 3) := by decide +kernel
theorem dX10_pairs_76 : decode cX10_pairs 76 = .ok (.iload_n 2, 1) := by decide +kernel
theorem dX10_pairs_77 : decode cX10_pairs 77 = .ok (.iload 4, 2) := by decide +kernel
theorem dX10_pairs_79 : decode cX10_pairs 79 = .ok (.idiv, 1) := by decide +kernel
theorem dX10_pairs_80 : decode cX10_pairs 80 = .ok (.i2l, 1) := by decide +kernel
theorem dX10_pairs_81 : decode cX10_pairs 81 = .ok (.goto 8, 3) := by decide +kernel
theorem dX10_pairs_84 : decode cX10_pairs 84 = .ok (.iload_n 3, 1) := by decide +kernel
theorem dX10_pairs_85 : decode cX10_pairs 85 = .ok (.iload 4, 2) := by decide +kernel
theorem dX10_pairs_87 : decode cX10_pairs 87 = .ok (.idiv, 1) := by decide +kernel
theorem dX10_pairs_88 : decode cX10_pairs 88 = .ok (.i2l, 1) := by decide +kernel
theorem dX10_pairs_89 : decode cX10_pairs 89 = .ok (.lreturn, 1) := by decide +kernel
theorem dX10_bell_0 : decode cX10_bell 0 = .ok (.aload_n 0, 1) := by decide +kernel
theorem dX10_bell_1 : decode cX10_bell 1 = .ok (.getfield 26, 3) := by decide +kernel
theorem dX10_bell_4 : decode cX10_bell 4 = .ok (.iload_n 1, 1) := by decide +kernel
theorem dX10_bell_5 : decode cX10_bell 5 = .ok (.invokevirtual 109, 3) := by decide +kernel
theorem dX10_bell_8 : decode cX10_bell 8 = .ok (.ifCond .eq 13, 3) := by decide +kernel
theorem dX10_bell_11 : decode cX10_bell 11 = .ok (.iload_n 2, 1) := by decide +kernel
theorem dX10_bell_12 : decode cX10_bell 12 = .ok (.iconst 0, 1) := by decide +kernel
theorem dX10_bell_13 : decode cX10_bell 13 = .ok (.bipush 99, 2) := by decide +kernel
theorem dX10_bell_15 : decode cX10_bell 15 = .ok (.invokestatic 84, 3) := by decide +kernel
theorem dX10_bell_18 : decode cX10_bell 18 = .ok (.ifCond .ne 7, 3) := by decide +kernel
theorem dX10_bell_21 : decode cX10_bell 21 = .ok (.sipush (-1000), 3) := by decide +kernel
theorem dX10_bell_24 : decode cX10_bell 24 = .ok (.ireturn, 1) := by decide +kernel
theorem dX10_bell_25 : decode cX10_bell 25 = .ok (.aload_n 0, 1) := by decide +kernel
theorem dX10_bell_26 : decode cX10_bell 26 = .ok (.iload_n 1, 1) := by decide +kernel
theorem dX10_bell_27 : decode cX10_bell 27 = .ok (.iload_n 2, 1) := by decide +kernel
theorem dX10_bell_28 : decode cX10_bell 28 = .ok (.invokevirtual 175, 3) := by decide +kernel
theorem dX10_bell_31 : decode cX10_bell 31 = .ok (.ireturn, 1) := by decide +kernel
theorem dX10_best_0 : decode cX10_best 0 = .ok (.aload_n 0, 1) := by decide +kernel
theorem dX10_best_1 : decode cX10_best 1 = .ok (.getfield 26, 3) := by decide +kernel
theorem dX10_best_4 : decode cX10_best 4 = .ok (.iload_n 1, 1) := by decide +kernel
theorem dX10_best_5 : decode cX10_best 5 = .ok (.invokevirtual 109, 3) := by decide +kernel
theorem dX10_best_8 : decode cX10_best 8 = .ok (.ifCond .eq 12, 3) := by decide +kernel
theorem dX10_best_11 : decode cX10_best 11 = .ok (.iload_n 2, 1) := by decide +kernel
theorem dX10_best_12 : decode cX10_best 12 = .ok (.iconst 0, 1) := by decide +kernel
theorem dX10_best_13 : decode cX10_best 13 = .ok (.iconst 1, 1) := by decide +kernel
theorem dX10_best_14 : decode cX10_best 14 = .ok (.invokestatic 84, 3) := by decide +kernel
theorem dX10_best_17 : decode cX10_best 17 = .ok (.ifCond .ne 5, 3) := by decide +kernel
theorem dX10_best_20 : decode cX10_best 20 = .ok (.iconst (-1), 1) := by decide +kernel
theorem dX10_best_21 : decode cX10_best 21 = .ok (.ireturn, 1) := by decide +kernel
theorem dX10_best_22 : decode cX10_best 22 = .ok (.aload_n 0, 1) := by decide +kernel
theorem dX10_best_23 : decode cX10_best 23 = .ok (.getfield 26, 3) := by decide +kernel
theorem dX10_best_26 : decode cX10_best 26 = .ok (.getfield 117, 3) := by decide +kernel
theorem dX10_best_29 : decode cX10_best 29 = .ok (.iload_n 1, 1) := by decide +kernel
theorem dX10_best_30 : decode cX10_best 30 = .ok (.iaload, 1) := by decide +kernel
theorem dX10_best_31 : decode cX10_best 31 = .ok (.istore_n 3, 1) := by decide +kernel
theorem dX10_best_32 : decode cX10_best 32 = .ok (.iload_n 3, 1) := by decide +kernel
theorem dX10_best_33 : decode cX10_best 33 = .ok (.istore 4, 2) := by decide +kernel
theorem dX10_best_35 : decode cX10_best 35 = .ok (.aload_n 0, 1) := by decide +kernel
theorem dX10_best_36 : decode cX10_best 36 = .ok (.iload_n 1, 1) := by decide +kernel
theorem dX10_best_37 : decode cX10_best 37 = .ok (.iload_n 3, 1) := by decide +kernel
theorem dX10_best_38 : decode cX10_best 38 = .ok (.invokevirtual 175, 3) := by decide +kernel
theorem dX10_best_41 : decode cX10_best 41 = .ok (.istore 5, 2) := by decide +kernel
theorem dX10_best_43 : decode cX10_best 43 = .ok (.iconst 0, 1) := by decide +kernel
theorem dX10_best_44 : decode cX10_best 44 = .ok (.istore 6, 2) := by decide +kernel
theorem dX10_best_46 : decode cX10_best 46 = .ok (.iload 6, 2) := by decide +kernel
theorem dX10_best_48 : decode cX10_best 48 = .ok (.bipush 99, 2) := by decide +kernel
theorem dX10_best_50 : decode cX10_best 50 = .ok (.if_icmp .gt 69, 3) := by decide +kernel
theorem dX10_best_53 : decode cX10_best 53 = .ok (.aload_n 0, 1) := by decide +kernel
theorem dX10_best_54 : decode cX10_best 54 = .ok (.iload_n 1, 1) := by decide +kernel
theorem dX10_best_55 : decode cX10_best 55 = .ok (.iload 6, 2) := by decide +kernel
theorem dX10_best_57 : decode cX10_best 57 = .ok (.invokevirtual 175, 3) := by decide +kernel
theorem dX10_best_60 : decode cX10_best 60 = .ok (.istore 7, 2) := by decide +kernel
theorem dX10_best_62 : decode cX10_best 62 = .ok (.iload 6, 2) := by decide +kernel
theorem dX10_best_64 : decode cX10_best 64 = .ok (.iload_n 3, 1) := by decide +kernel
theorem dX10_best_65 : decode cX10_best 65 = .ok (.isub, 1) := by decide +kernel
theorem dX10_best_66 : decode cX10_best 66 = .ok (.invokestatic 178, 3) := by decide +kernel
theorem dX10_best_69 : decode cX10_best 69 = .ok (.iload 4, 2) := by decide +kernel
theorem dX10_best_71 : decode cX10_best 71 = .ok (.iload_n 3, 1) := by decide +kernel
theorem dX10_best_72 : decode cX10_best 72 = .ok (.isub, 1) := by decide +kernel
theorem dX10_best_73 : decode cX10_best 73 = .ok (.invokestatic 178, 3) := by decide +kernel
theorem dX10_best_76 : decode cX10_best 76 = .ok (.if_icmp .ge 7, 3) := by decide +kernel
theorem dX10_best_79 : decode cX10_best 79 = .ok (.iconst 1, 1) := by decide +kernel
theorem dX10_best_80 : decode cX10_best 80 = .ok (.goto 4, 3) := by decide +kernel
theorem dX10_best_83 : decode cX10_best 83 = .ok (.iconst 0, 1) := by decide +kernel
theorem dX10_best_84 : decode cX10_best 84 = .ok (.istore 8, 2) := by decide +kernel
theorem dX10_best_86 : decode cX10_best 86 = .ok (.iload 7, 2) := by decide +kernel
theorem dX10_best_88 : decode cX10_best 88 = .ok (.iload 5, 2) := by decide +kernel
theorem dX10_best_90 : decode cX10_best 90 = .ok (.if_icmp .gt 15, 3) := by decide +kernel
theorem dX10_best_93 : decode cX10_best 93 = .ok (.iload 7, 2) := by decide +kernel
theorem dX10_best_95 : decode cX10_best 95 = .ok (.iload 5, 2) := by decide +kernel
theorem dX10_best_97 : decode cX10_best 97 = .ok (.if_icmp .ne 16, 3) := by decide +kernel
theorem dX10_best_100 : decode cX10_best 100 = .ok (.iload 8, 2) := by decide +kernel
theorem dX10_best_102 : decode cX10_best 102 = .ok (.ifCond .eq 11, 3) := by decide +kernel
theorem dX10_best_105 : decode cX10_best 105 = .ok (.iload 6, 2) := by decide +kernel
theorem dX10_best_107 : decode cX10_best 107 = .ok (.istore 4, 2) := by decide +kernel
theorem dX10_best_109 : decode cX10_best 109 = .ok (.iload 7, 2) := by decide +kernel
theorem dX10_best_111 : decode cX10_best 111 = .ok (.istore 5, 2) := by decide +kernel
theorem dX10_best_113 : decode cX10_best 113 = .ok (.iinc 6 1, 3) := by decide +kernel
theorem dX10_best_116 : decode cX10_best 116 = .ok (.goto (-70), 3) := by decide +kernel
theorem dX10_best_119 : decode cX10_best 119 = .ok (.iload_n 2, 1) := by decide +kernel
theorem dX10_best_120 : decode cX10_best 120 = .ok (.ifCond .ne 8, 3) := by decide +kernel
theorem dX10_best_123 : decode cX10_best 123 = .ok (.iload 4, 2) := by decide +kernel
theorem dX10_best_125 : decode cX10_best 125 = .ok (.goto 5, 3) := by decide +kernel
theorem dX10_best_128 : decode cX10_best 128 = .ok (.iload 5, 2) := by decide +kernel
theorem dX10_best_130 : decode cX10_best 130 = .ok (.ireturn, 1) := by decide +kernel
theorem dX10_round_0 : decode cX10_round 0 = .ok (.iload_n 1, 1) := by decide +kernel
theorem dX10_round_1 : decode cX10_round 1 = .ok (.iconst 0, 1) := by decide +kernel
theorem dX10_round_2 : decode cX10_round 2 = .ok (.iconst 3, 1) := by decide +kernel
theorem dX10_round_3 : decode cX10_round 3 = .ok (.invokestatic 84, 3) := by decide +kernel
theorem dX10_round_6 : decode cX10_round 6 = .ok (.ifCond .eq 23, 3) := by decide +kernel
theorem dX10_round_9 : decode cX10_round 9 = .ok (.iload_n 2, 1) := by decide +kernel
theorem dX10_round_10 : decode cX10_round 10 = .ok (.iconst 0, 1) := by decide +kernel
theorem dX10_round_11 : decode cX10_round 11 = .ok (.sipush 9999, 3) := by decide +kernel
theorem dX10_round_14 : decode cX10_round 14 = .ok (.invokestatic 84, 3) := by decide +kernel
theorem dX10_round_17 : decode cX10_round 17 = .ok (.ifCond .eq 12, 3) := by decide +kernel
theorem dX10_round_20 : decode cX10_round 20 = .ok (.iload_n 3, 1) := by decide +kernel
theorem dX10_round_21 : decode cX10_round 21 = .ok (.iconst 0, 1) := by decide +kernel
theorem dX10_round_22 : decode cX10_round 22 = .ok (.iconst 3, 1) := by decide +kernel
theorem dX10_round_23 : decode cX10_round 23 = .ok (.invokestatic 84, 3) := by decide +kernel
theorem dX10_round_26 : decode cX10_round 26 = .ok (.ifCond .ne 7, 3) := by decide +kernel
theorem dX10_round_29 : decode cX10_round 29 = .ok (.sipush (-10000), 3) := by decide +kernel
theorem dX10_round_32 : decode cX10_round 32 = .ok (.ireturn, 1) := by decide +kernel
theorem dX10_round_33 : decode cX10_round 33 = .ok (.aload_n 0, 1) := by decide +kernel
theorem dX10_round_34 : decode cX10_round 34 = .ok (.getfield 63, 3) := by decide +kernel
theorem dX10_round_37 : decode cX10_round 37 = .ok (.aload_n 0, 1) := by decide +kernel
theorem dX10_round_38 : decode cX10_round 38 = .ok (.getfield 26, 3) := by decide +kernel
theorem dX10_round_41 : decode cX10_round 41 = .ok (.iload_n 1, 1) := by decide +kernel
theorem dX10_round_42 : decode cX10_round 42 = .ok (.iload_n 2, 1) := by decide +kernel
theorem dX10_round_43 : decode cX10_round 43 = .ok (.aload_n 0, 1) := by decide +kernel
theorem dX10_round_44 : decode cX10_round 44 = .ok (.getfield 36, 3) := by decide +kernel
theorem dX10_round_47 : decode cX10_round 47 = .ok (.invokevirtual 181, 3) := by decide +kernel
theorem dX10_round_50 : decode cX10_round 50 = .ok (.iload_n 3, 1) := by decide +kernel
theorem dX10_round_51 : decode cX10_round 51 = .ok (.ifCond .ne 11, 3) := by decide +kernel
theorem dX10_round_54 : decode cX10_round 54 = .ok (.aload_n 0, 1) := by decide +kernel
theorem dX10_round_55 : decode cX10_round 55 = .ok (.getfield 63, 3) := by decide +kernel
theorem dX10_round_58 : decode cX10_round 58 = .ok (.getfield 185, 3) := by decide +kernel
theorem dX10_round_61 : decode cX10_round 61 = .ok (.ireturn, 1) := by decide +kernel
theorem dX10_round_62 : decode cX10_round 62 = .ok (.iload_n 3, 1) := by decide +kernel
theorem dX10_round_63 : decode cX10_round 63 = .ok (.iconst 1, 1) := by decide +kernel
theorem dX10_round_64 : decode cX10_round 64 = .ok (.if_icmp .ne 11, 3) := by decide +kernel
theorem dX10_round_67 : decode cX10_round 67 = .ok (.aload_n 0, 1) := by decide +kernel
theorem dX10_round_68 : decode cX10_round 68 = .ok (.getfield 63, 3) := by decide +kernel
theorem dX10_round_71 : decode cX10_round 71 = .ok (.getfield 188, 3) := by decide +kernel
theorem dX10_round_74 : decode cX10_round 74 = .ok (.ireturn, 1) := by decide +kernel
theorem dX10_round_75 : decode cX10_round 75 = .ok (.iload_n 3, 1) := by decide +kernel
theorem dX10_round_76 : decode cX10_round 76 = .ok (.iconst 2, 1) := by decide +kernel
theorem dX10_round_77 : decode cX10_round 77 = .ok (.if_icmp .ne 13, 3) := by decide +kernel
theorem dX10_round_80 : decode cX10_round 80 = .ok (.aload_n 0, 1) := by decide +kernel
theorem dX10_round_81 : decode cX10_round 81 = .ok (.getfield 63, 3) := by decide +kernel
theorem dX10_round_84 : decode cX10_round 84 = .ok (.getfield 191, 3) := by decide +kernel
theorem dX10_round_87 : decode cX10_round 87 = .ok (.goto 10, 3) := by decide +kernel
theorem dX10_round_90 : decode cX10_round 90 = .ok (.aload_n 0, 1) := by decide +kernel
theorem dX10_round_91 : decode cX10_round 91 = .ok (.getfield 63, 3) := by decide +kernel
theorem dX10_round_94 : decode cX10_round 94 = .ok (.invokevirtual 194, 3) := by decide +kernel
theorem dX10_round_97 : decode cX10_round 97 = .ok (.ireturn, 1) := by decide +kernel
theorem dX10_of_0 : decode cX10_of 0 = .ok (.iload_n 1, 1) := by decide +kernel
theorem dX10_of_1 : decode cX10_of 1 = .ok (.iconst 0, 1) := by decide +kernel
theorem dX10_of_2 : decode cX10_of 2 = .ok (.iconst 3, 1) := by decide +kernel
theorem dX10_of_3 : decode cX10_of 3 = .ok (.invokestatic 84, 3) := by decide +kernel
theorem dX10_of_6 : decode cX10_of 6 = .ok (.ifCond .eq 25, 3) := by decide +kernel
theorem dX10_of_9 : decode cX10_of 9 = .ok (.iload_n 2, 1) := by decide +kernel
theorem dX10_of_10 : decode cX10_of 10 = .ok (.iconst 0, 1) := by decide +kernel
theorem dX10_of_11 : decode cX10_of 11 = .ok (.sipush 9999, 3) := by decide +kernel
theorem dX10_of_14 : decode cX10_of 14 = .ok (.invokestatic 84, 3) := by decide +kernel
theorem dX10_of_17 : decode cX10_of 17 = .ok (.ifCond .eq 14, 3) := by decide +kernel
theorem dX10_of_20 : decode cX10_of 20 = .ok (.aload_n 0, 1) := by decide +kernel
theorem dX10_of_21 : decode cX10_of 21 = .ok (.getfield 26, 3) := by decide +kernel
theorem dX10_of_24 : decode cX10_of 24 = .ok (.iload_n 3, 1) := by decide +kernel
theorem dX10_of_25 : decode cX10_of 25 = .ok (.invokevirtual 109, 3) := by decide +kernel
theorem dX10_of_28 : decode cX10_of 28 = .ok (.ifCond .ne 5, 3) := by decide +kernel
theorem dX10_of_31 : decode cX10_of 31 = .ok (.iconst (-1), 1) := by decide +kernel
theorem dX10_of_32 : decode cX10_of 32 = .ok (.ireturn, 1) := by decide +kernel
theorem dX10_of_33 : decode cX10_of 33 = .ok (.aload_n 0, 1) := by decide +kernel
theorem dX10_of_34 : decode cX10_of 34 = .ok (.getfield 63, 3) := by decide +kernel
theorem dX10_of_37 : decode cX10_of 37 = .ok (.aload_n 0, 1) := by decide +kernel
theorem dX10_of_38 : decode cX10_of 38 = .ok (.getfield 26, 3) := by decide +kernel
theorem dX10_of_41 : decode cX10_of 41 = .ok (.iload_n 1, 1) := by decide +kernel
theorem dX10_of_42 : decode cX10_of 42 = .ok (.iload_n 2, 1) := by decide +kernel
theorem dX10_of_43 : decode cX10_of 43 = .ok (.aload_n 0, 1) := by decide +kernel
theorem dX10_of_44 : decode cX10_of 44 = .ok (.getfield 36, 3) := by decide +kernel
theorem dX10_of_47 : decode cX10_of 47 = .ok (.invokevirtual 181, 3) := by decide +kernel
theorem dX10_of_50 : decode cX10_of 50 = .ok (.aload_n 0, 1) := by decide +kernel
theorem dX10_of_51 : decode cX10_of 51 = .ok (.getfield 63, 3) := by decide +kernel
theorem dX10_of_54 : decode cX10_of 54 = .ok (.getfield 197, 3) := by decide +kernel
theorem dX10_of_57 : decode cX10_of 57 = .ok (.iload_n 3, 1) := by decide +kernel
theorem dX10_of_58 : decode cX10_of 58 = .ok (.iaload, 1) := by decide +kernel
theorem dX10_of_59 : decode cX10_of 59 = .ok (.ireturn, 1) := by decide +kernel
theorem dX10_means_0 : decode cX10_means 0 = .ok (.iload_n 1, 1) := by decide +kernel
theorem dX10_means_1 : decode cX10_means 1 = .ok (.iconst 0, 1) := by decide +kernel
theorem dX10_means_2 : decode cX10_means 2 = .ok (.iconst 3, 1) := by decide +kernel
theorem dX10_means_3 : decode cX10_means 3 = .ok (.invokestatic 84, 3) := by decide +kernel
theorem dX10_means_6 : decode cX10_means 6 = .ok (.ifCond .eq 23, 3) := by decide +kernel
theorem dX10_means_9 : decode cX10_means 9 = .ok (.iload_n 2, 1) := by decide +kernel
theorem dX10_means_10 : decode cX10_means 10 = .ok (.iconst 0, 1) := by decide +kernel
theorem dX10_means_11 : decode cX10_means 11 = .ok (.sipush 9999, 3) := by decide +kernel
theorem dX10_means_14 : decode cX10_means 14 = .ok (.invokestatic 84, 3) := by decide +kernel
theorem dX10_means_17 : decode cX10_means 17 = .ok (.ifCond .eq 12, 3) := by decide +kernel
theorem dX10_means_20 : decode cX10_means 20 = .ok (.iload_n 3, 1) := by decide +kernel
theorem dX10_means_21 : decode cX10_means 21 = .ok (.iconst 0, 1) := by decide +kernel
theorem dX10_means_22 : decode cX10_means 22 = .ok (.iconst 2, 1) := by decide +kernel
theorem dX10_means_23 : decode cX10_means 23 = .ok (.invokestatic 84, 3) := by decide +kernel
theorem dX10_means_26 : decode cX10_means 26 = .ok (.ifCond .ne 7, 3) := by decide +kernel
theorem dX10_means_29 : decode cX10_means 29 = .ok (.sipush (-10000), 3) := by decide +kernel
theorem dX10_means_32 : decode cX10_means 32 = .ok (.ireturn, 1) := by decide +kernel
theorem dX10_means_33 : decode cX10_means 33 = .ok (.aload_n 0, 1) := by decide +kernel
theorem dX10_means_34 : decode cX10_means 34 = .ok (.iload_n 1, 1) := by decide +kernel
theorem dX10_means_35 : decode cX10_means 35 = .ok (.iload_n 2, 1) := by decide +kernel
theorem dX10_means_36 : decode cX10_means 36 = .ok (.invokevirtual 200, 3) := by decide +kernel
theorem dX10_means_39 : decode cX10_means 39 = .ok (.aload_n 0, 1) := by decide +kernel
theorem dX10_means_40 : decode cX10_means 40 = .ok (.getfield 76, 3) := by decide +kernel
theorem dX10_means_43 : decode cX10_means 43 = .ok (.iload_n 1, 1) := by decide +kernel
theorem dX10_means_44 : decode cX10_means 44 = .ok (.aaload, 1) := by decide +kernel
theorem dX10_means_45 : decode cX10_means 45 = .ok (.iload_n 3, 1) := by decide +kernel
theorem dX10_means_46 : decode cX10_means 46 = .ok (.iaload, 1) := by decide +kernel
theorem dX10_means_47 : decode cX10_means 47 = .ok (.ireturn, 1) := by decide +kernel
theorem dX10_rules_0 : decode cX10_rules 0 = .ok (.iload_n 1, 1) := by decide +kernel
theorem dX10_rules_1 : decode cX10_rules 1 = .ok (.iconst 0, 1) := by decide +kernel
theorem dX10_rules_2 : decode cX10_rules 2 = .ok (.sipush 9999, 3) := by decide +kernel
theorem dX10_rules_5 : decode cX10_rules 5 = .ok (.invokestatic 84, 3) := by decide +kernel
theorem dX10_rules_8 : decode cX10_rules 8 = .ok (.ifCond .eq 12, 3) := by decide +kernel
theorem dX10_rules_11 : decode cX10_rules 11 = .ok (.iload_n 2, 1) := by decide +kernel
theorem dX10_rules_12 : decode cX10_rules 12 = .ok (.iconst 0, 1) := by decide +kernel
theorem dX10_rules_13 : decode cX10_rules 13 = .ok (.iconst 3, 1) := by decide +kernel
theorem dX10_rules_14 : decode cX10_rules 14 = .ok (.invokestatic 84, 3) := by decide +kernel
theorem dX10_rules_17 : decode cX10_rules 17 = .ok (.ifCond .ne 5, 3) := by decide +kernel
theorem dX10_rules_20 : decode cX10_rules 20 = .ok (.iconst (-1), 1) := by decide +kernel
theorem dX10_rules_21 : decode cX10_rules 21 = .ok (.ireturn, 1) := by decide +kernel
theorem dX10_rules_22 : decode cX10_rules 22 = .ok (.iconst 0, 1) := by decide +kernel
theorem dX10_rules_23 : decode cX10_rules 23 = .ok (.istore_n 3, 1) := by decide +kernel
theorem dX10_rules_24 : decode cX10_rules 24 = .ok (.iload_n 3, 1) := by decide +kernel
theorem dX10_rules_25 : decode cX10_rules 25 = .ok (.iconst 3, 1) := by decide +kernel
theorem dX10_rules_26 : decode cX10_rules 26 = .ok (.if_icmp .gt 15, 3) := by decide +kernel
theorem dX10_rules_29 : decode cX10_rules 29 = .ok (.aload_n 0, 1) := by decide +kernel
theorem dX10_rules_30 : decode cX10_rules 30 = .ok (.iload_n 3, 1) := by decide +kernel
theorem dX10_rules_31 : decode cX10_rules 31 = .ok (.iload_n 1, 1) := by decide +kernel
theorem dX10_rules_32 : decode cX10_rules 32 = .ok (.invokevirtual 200, 3) := by decide +kernel
theorem dX10_rules_35 : decode cX10_rules 35 = .ok (.iinc 3 1, 3) := by decide +kernel
theorem dX10_rules_38 : decode cX10_rules 38 = .ok (.goto (-14), 3) := by decide +kernel
theorem dX10_rules_41 : decode cX10_rules 41 = .ok (.iload_n 2, 1) := by decide +kernel
theorem dX10_rules_42 : decode cX10_rules 42 = .ok (.iconst 3, 1) := by decide +kernel
theorem dX10_rules_43 : decode cX10_rules 43 = .ok (.if_icmp .ge 9, 3) := by decide +kernel
theorem dX10_rules_46 : decode cX10_rules 46 = .ok (.aload_n 0, 1) := by decide +kernel
theorem dX10_rules_47 : decode cX10_rules 47 = .ok (.iload_n 2, 1) := by decide +kernel
theorem dX10_rules_48 : decode cX10_rules 48 = .ok (.invokevirtual 204, 3) := by decide +kernel
theorem dX10_rules_51 : decode cX10_rules 51 = .ok (.ireturn, 1) := by decide +kernel
theorem dX10_rules_52 : decode cX10_rules 52 = .ok (.aload_n 0, 1) := by decide +kernel
theorem dX10_rules_53 : decode cX10_rules 53 = .ok (.iconst 0, 1) := by decide +kernel
theorem dX10_rules_54 : decode cX10_rules 54 = .ok (.invokevirtual 204, 3) := by decide +kernel
theorem dX10_rules_57 : decode cX10_rules 57 = .ok (.istore_n 3, 1) := by decide +kernel
theorem dX10_rules_58 : decode cX10_rules 58 = .ok (.iload_n 3, 1) := by decide +kernel
theorem dX10_rules_59 : decode cX10_rules 59 = .ok (.aload_n 0, 1) := by decide +kernel
theorem dX10_rules_60 : decode cX10_rules 60 = .ok (.iconst 1, 1) := by decide +kernel
theorem dX10_rules_61 : decode cX10_rules 61 = .ok (.invokevirtual 204, 3) := by decide +kernel
theorem dX10_rules_64 : decode cX10_rules 64 = .ok (.if_icmp .ne 16, 3) := by decide +kernel
theorem dX10_rules_67 : decode cX10_rules 67 = .ok (.iload_n 3, 1) := by decide +kernel
theorem dX10_rules_68 : decode cX10_rules 68 = .ok (.aload_n 0, 1) := by decide +kernel
theorem dX10_rules_69 : decode cX10_rules 69 = .ok (.iconst 2, 1) := by decide +kernel
theorem dX10_rules_70 : decode cX10_rules 70 = .ok (.invokevirtual 204, 3) := by decide +kernel
theorem dX10_rules_73 : decode cX10_rules 73 = .ok (.if_icmp .ne 7, 3) := by decide +kernel
theorem dX10_rules_76 : decode cX10_rules 76 = .ok (.iload_n 3, 1) := by decide +kernel
theorem dX10_rules_77 : decode cX10_rules 77 = .ok (.goto 5, 3) := by decide +kernel
theorem dX10_rules_80 : decode cX10_rules 80 = .ok (.bipush (-4), 2) := by decide +kernel
theorem dX10_rules_82 : decode cX10_rules 82 = .ok (.ireturn, 1) := by decide +kernel
theorem dX10_shout_0 : decode cX10_shout 0 = .ok (.iload_n 1, 1) := by decide +kernel
theorem dX10_shout_1 : decode cX10_shout 1 = .ok (.iconst 0, 1) := by decide +kernel
theorem dX10_shout_2 : decode cX10_shout 2 = .ok (.aload_n 0, 1) := by decide +kernel
theorem dX10_shout_3 : decode cX10_shout 3 = .ok (.getfield 36, 3) := by decide +kernel
theorem dX10_shout_6 : decode cX10_shout 6 = .ok (.getfield 105, 3) := by decide +kernel
theorem dX10_shout_9 : decode cX10_shout 9 = .ok (.iconst 1, 1) := by decide +kernel
theorem dX10_shout_10 : decode cX10_shout 10 = .ok (.isub, 1) := by decide +kernel
theorem dX10_shout_11 : decode cX10_shout 11 = .ok (.invokestatic 84, 3) := by decide +kernel
theorem dX10_shout_14 : decode cX10_shout 14 = .ok (.ifCond .eq 12, 3) := by decide +kernel
theorem dX10_shout_17 : decode cX10_shout 17 = .ok (.iload_n 2, 1) := by decide +kernel
theorem dX10_shout_18 : decode cX10_shout 18 = .ok (.iconst 0, 1) := by decide +kernel
theorem dX10_shout_19 : decode cX10_shout 19 = .ok (.iconst 3, 1) := by decide +kernel
theorem dX10_shout_20 : decode cX10_shout 20 = .ok (.invokestatic 84, 3) := by decide +kernel
theorem dX10_shout_23 : decode cX10_shout 23 = .ok (.ifCond .ne 5, 3) := by decide +kernel
theorem dX10_shout_26 : decode cX10_shout 26 = .ok (.iconst (-1), 1) := by decide +kernel
theorem dX10_shout_27 : decode cX10_shout 27 = .ok (.ireturn, 1) := by decide +kernel
theorem dX10_shout_28 : decode cX10_shout 28 = .ok (.iload_n 2, 1) := by decide +kernel
theorem dX10_shout_29 : decode cX10_shout 29 = .ok (.ifCond .ne 13, 3) := by decide +kernel
theorem dX10_shout_32 : decode cX10_shout 32 = .ok (.aload_n 0, 1) := by decide +kernel
theorem dX10_shout_33 : decode cX10_shout 33 = .ok (.getfield 36, 3) := by decide +kernel
theorem dX10_shout_36 : decode cX10_shout 36 = .ok (.getfield 207, 3) := by decide +kernel
theorem dX10_shout_39 : decode cX10_shout 39 = .ok (.iload_n 1, 1) := by decide +kernel
theorem dX10_shout_40 : decode cX10_shout 40 = .ok (.iaload, 1) := by decide +kernel
theorem dX10_shout_41 : decode cX10_shout 41 = .ok (.ireturn, 1) := by decide +kernel
theorem dX10_shout_42 : decode cX10_shout 42 = .ok (.iload_n 2, 1) := by decide +kernel
theorem dX10_shout_43 : decode cX10_shout 43 = .ok (.iconst 1, 1) := by decide +kernel
theorem dX10_shout_44 : decode cX10_shout 44 = .ok (.if_icmp .ne 13, 3) := by decide +kernel
theorem dX10_shout_47 : decode cX10_shout 47 = .ok (.aload_n 0, 1) := by decide +kernel
theorem dX10_shout_48 : decode cX10_shout 48 = .ok (.getfield 36, 3) := by decide +kernel
theorem dX10_shout_51 : decode cX10_shout 51 = .ok (.getfield 210, 3) := by decide +kernel
theorem dX10_shout_54 : decode cX10_shout 54 = .ok (.iload_n 1, 1) := by decide +kernel
theorem dX10_shout_55 : decode cX10_shout 55 = .ok (.iaload, 1) := by decide +kernel
theorem dX10_shout_56 : decode cX10_shout 56 = .ok (.ireturn, 1) := by decide +kernel
theorem dX10_shout_57 : decode cX10_shout 57 = .ok (.iload_n 2, 1) := by decide +kernel
theorem dX10_shout_58 : decode cX10_shout 58 = .ok (.iconst 2, 1) := by decide +kernel
theorem dX10_shout_59 : decode cX10_shout 59 = .ok (.if_icmp .ne 15, 3) := by decide +kernel
theorem dX10_shout_62 : decode cX10_shout 62 = .ok (.aload_n 0, 1) := by decide +kernel
theorem dX10_shout_63 : decode cX10_shout 63 = .ok (.getfield 36, 3) := by decide +kernel
theorem dX10_shout_66 : decode cX10_shout 66 = .ok (.getfield 211, 3) := by decide +kernel
theorem dX10_shout_69 : decode cX10_shout 69 = .ok (.iload_n 1, 1) := by decide +kernel
theorem dX10_shout_70 : decode cX10_shout 70 = .ok (.iaload, 1) := by decide +kernel
theorem dX10_shout_71 : decode cX10_shout 71 = .ok (.goto 12, 3) := by decide +kernel
theorem dX10_shout_74 : decode cX10_shout 74 = .ok (.aload_n 0, 1) := by decide +kernel
theorem dX10_shout_75 : decode cX10_shout 75 = .ok (.getfield 36, 3) := by decide +kernel
theorem dX10_shout_78 : decode cX10_shout 78 = .ok (.getfield 214, 3) := by decide +kernel
theorem dX10_shout_81 : decode cX10_shout 81 = .ok (.iload_n 1, 1) := by decide +kernel
theorem dX10_shout_82 : decode cX10_shout 82 = .ok (.iaload, 1) := by decide +kernel
theorem dX10_shout_83 : decode cX10_shout 83 = .ok (.ireturn, 1) := by decide +kernel
theorem dX10_known_0 : decode cX10_known 0 = .ok (.aload_n 0, 1) := by decide +kernel
theorem dX10_known_1 : decode cX10_known 1 = .ok (.getfield 26, 3) := by decide +kernel
theorem dX10_known_4 : decode cX10_known 4 = .ok (.iload_n 1, 1) := by decide +kernel
theorem dX10_known_5 : decode cX10_known 5 = .ok (.invokevirtual 109, 3) := by decide +kernel
theorem dX10_known_8 : decode cX10_known 8 = .ok (.ifCond .eq 18, 3) := by decide +kernel
theorem dX10_known_11 : decode cX10_known 11 = .ok (.aload_n 0, 1) := by decide +kernel
theorem dX10_known_12 : decode cX10_known 12 = .ok (.getfield 36, 3) := by decide +kernel
theorem dX10_known_15 : decode cX10_known 15 = .ok (.aload_n 0, 1) := by decide +kernel
theorem dX10_known_16 : decode cX10_known 16 = .ok (.getfield 26, 3) := by decide +kernel
theorem dX10_known_19 : decode cX10_known 19 = .ok (.iload_n 1, 1) := by decide +kernel
theorem dX10_known_20 : decode cX10_known 20 = .ok (.invokevirtual 217, 3) := by decide +kernel
theorem dX10_known_23 : decode cX10_known 23 = .ok (.goto 4, 3) := by decide +kernel
theorem dX10_known_26 : decode cX10_known 26 = .ok (.iconst (-1), 1) := by decide +kernel
theorem dX10_known_27 : decode cX10_known 27 = .ok (.ireturn, 1) := by decide +kernel
theorem dX10_least_0 : decode cX10_least 0 = .ok (.iload_n 1, 1) := by decide +kernel
theorem dX10_least_1 : decode cX10_least 1 = .ok (.iconst 0, 1) := by decide +kernel
theorem dX10_least_2 : decode cX10_least 2 = .ok (.iconst 1, 1) := by decide +kernel
theorem dX10_least_3 : decode cX10_least 3 = .ok (.invokestatic 84, 3) := by decide +kernel
theorem dX10_least_6 : decode cX10_least 6 = .ok (.ifCond .ne 5, 3) := by decide +kernel
theorem dX10_least_9 : decode cX10_least 9 = .ok (.iconst (-1), 1) := by decide +kernel
theorem dX10_least_10 : decode cX10_least 10 = .ok (.ireturn, 1) := by decide +kernel
theorem dX10_least_11 : decode cX10_least 11 = .ok (.aload_n 0, 1) := by decide +kernel
theorem dX10_least_12 : decode cX10_least 12 = .ok (.getfield 53, 3) := by decide +kernel
theorem dX10_least_15 : decode cX10_least 15 = .ok (.invokevirtual 221, 3) := by decide +kernel
theorem dX10_least_18 : decode cX10_least 18 = .ok (.iconst 0, 1) := by decide +kernel
theorem dX10_least_19 : decode cX10_least 19 = .ok (.istore_n 2, 1) := by decide +kernel
theorem dX10_least_20 : decode cX10_least 20 = .ok (.iload_n 2, 1) := by decide +kernel
theorem dX10_least_21 : decode cX10_least 21 = .ok (.aload_n 0, 1) := by decide +kernel
theorem dX10_least_22 : decode cX10_least 22 = .ok (.getfield 26, 3) := by decide +kernel
theorem dX10_least_25 : decode cX10_least 25 = .ok (.getfield 106, 3) := by decide +kernel
theorem dX10_least_28 : decode cX10_least 28 = .ok (.if_icmp .ge 33, 3) := by decide +kernel
theorem dX10_least_31 : decode cX10_least 31 = .ok (.aload_n 0, 1) := by decide +kernel
theorem dX10_least_32 : decode cX10_least 32 = .ok (.getfield 53, 3) := by decide +kernel
theorem dX10_least_35 : decode cX10_least 35 = .ok (.aload_n 0, 1) := by decide +kernel
theorem dX10_least_36 : decode cX10_least 36 = .ok (.getfield 26, 3) := by decide +kernel
theorem dX10_least_39 : decode cX10_least 39 = .ok (.iload_n 2, 1) := by decide +kernel
theorem dX10_least_40 : decode cX10_least 40 = .ok (.aload_n 0, 1) := by decide +kernel
theorem dX10_least_41 : decode cX10_least 41 = .ok (.getfield 36, 3) := by decide +kernel
theorem dX10_least_44 : decode cX10_least 44 = .ok (.aload_n 0, 1) := by decide +kernel
theorem dX10_least_45 : decode cX10_least 45 = .ok (.getfield 26, 3) := by decide +kernel
theorem dX10_least_48 : decode cX10_least 48 = .ok (.iload_n 2, 1) := by decide +kernel
theorem dX10_least_49 : decode cX10_least 49 = .ok (.invokevirtual 217, 3) := by decide +kernel
theorem dX10_least_52 : decode cX10_least 52 = .ok (.invokevirtual 224, 3) := by decide +kernel
theorem dX10_least_55 : decode cX10_least 55 = .ok (.iinc 2 1, 3) := by decide +kernel
theorem dX10_least_58 : decode cX10_least 58 = .ok (.goto (-38), 3) := by decide +kernel
theorem dX10_least_61 : decode cX10_least 61 = .ok (.aload_n 0, 1) := by decide +kernel
theorem dX10_least_62 : decode cX10_least 62 = .ok (.getfield 53, 3) := by decide +kernel
theorem dX10_least_65 : decode cX10_least 65 = .ok (.aload_n 0, 1) := by decide +kernel
theorem dX10_least_66 : decode cX10_least 66 = .ok (.getfield 26, 3) := by decide +kernel
theorem dX10_least_69 : decode cX10_least 69 = .ok (.getfield 124, 3) := by decide +kernel
theorem dX10_least_72 : decode cX10_least 72 = .ok (.invokevirtual 228, 3) := by decide +kernel
theorem dX10_least_75 : decode cX10_least 75 = .ok (.iload_n 1, 1) := by decide +kernel
theorem dX10_least_76 : decode cX10_least 76 = .ok (.ifCond .ne 13, 3) := by decide +kernel
theorem dX10_least_79 : decode cX10_least 79 = .ok (.aload_n 0, 1) := by decide +kernel
theorem dX10_least_80 : decode cX10_least 80 = .ok (.getfield 53, 3) := by decide +kernel
theorem dX10_least_83 : decode cX10_least 83 = .ok (.getfield 131, 3) := by decide +kernel
theorem dX10_least_86 : decode cX10_least 86 = .ok (.goto 10, 3) := by decide +kernel
theorem dX10_least_89 : decode cX10_least 89 = .ok (.aload_n 0, 1) := by decide +kernel
theorem dX10_least_90 : decode cX10_least 90 = .ok (.getfield 53, 3) := by decide +kernel
theorem dX10_least_93 : decode cX10_least 93 = .ok (.getfield 134, 3) := by decide +kernel
theorem dX10_least_96 : decode cX10_least 96 = .ok (.ireturn, 1) := by decide +kernel
theorem dX10_laws_0 : decode cX10_laws 0 = .ok (.aload_n 0, 1) := by decide +kernel
theorem dX10_laws_1 : decode cX10_laws 1 = .ok (.getfield 26, 3) := by decide +kernel
theorem dX10_laws_4 : decode cX10_laws 4 = .ok (.iload_n 1, 1) := by decide +kernel
theorem dX10_laws_5 : decode cX10_laws 5 = .ok (.invokevirtual 109, 3) := by decide +kernel
theorem dX10_laws_8 : decode cX10_laws 8 = .ok (.ifCond .ne 5, 3) := by decide +kernel
theorem dX10_laws_11 : decode cX10_laws 11 = .ok (.iconst (-1), 1) := by decide +kernel
theorem dX10_laws_12 : decode cX10_laws 12 = .ok (.ireturn, 1) := by decide +kernel
theorem dX10_laws_13 : decode cX10_laws 13 = .ok (.iconst 0, 1) := by decide +kernel
theorem dX10_laws_14 : decode cX10_laws 14 = .ok (.istore_n 2, 1) := by decide +kernel
theorem dX10_laws_15 : decode cX10_laws 15 = .ok (.iconst 0, 1) := by decide +kernel
theorem dX10_laws_16 : decode cX10_laws 16 = .ok (.istore_n 3, 1) := by decide +kernel
theorem dX10_laws_17 : decode cX10_laws 17 = .ok (.iload_n 3, 1) := by decide +kernel
theorem dX10_laws_18 : decode cX10_laws 18 = .ok (.iconst 5, 1) := by decide +kernel
theorem dX10_laws_19 : decode cX10_laws 19 = .ok (.if_icmp .gt 31, 3) := by decide +kernel
theorem dX10_laws_22 : decode cX10_laws 22 = .ok (.aload_n 0, 1) := by decide +kernel
theorem dX10_laws_23 : decode cX10_laws 23 = .ok (.getfield 36, 3) := by decide +kernel
theorem dX10_laws_26 : decode cX10_laws 26 = .ok (.aload_n 0, 1) := by decide +kernel
theorem dX10_laws_27 : decode cX10_laws 27 = .ok (.getfield 26, 3) := by decide +kernel
theorem dX10_laws_30 : decode cX10_laws 30 = .ok (.iload_n 1, 1) := by decide +kernel
theorem dX10_laws_31 : decode cX10_laws 31 = .ok (.iload_n 3, 1) := by decide +kernel
theorem dX10_laws_32 : decode cX10_laws 32 = .ok (.invokevirtual 231, 3) := by decide +kernel
theorem dX10_laws_35 : decode cX10_laws 35 = .ok (.ifCond .eq 9, 3) := by decide +kernel
theorem dX10_laws_38 : decode cX10_laws 38 = .ok (.iload_n 2, 1) := by decide +kernel
theorem dX10_laws_39 : decode cX10_laws 39 = .ok (.iconst 1, 1) := by decide +kernel
theorem dX10_laws_40 : decode cX10_laws 40 = .ok (.iload_n 3, 1) := by decide +kernel
theorem dX10_laws_41 : decode cX10_laws 41 = .ok (.ishl, 1) := by decide +kernel
theorem dX10_laws_42 : decode cX10_laws 42 = .ok (.ior, 1) := by decide +kernel
theorem dX10_laws_43 : decode cX10_laws 43 = .ok (.istore_n 2, 1) := by decide +kernel
theorem dX10_laws_44 : decode cX10_laws 44 = .ok (.iinc 3 1, 3) := by decide +kernel
theorem dX10_laws_47 : decode cX10_laws 47 = .ok (.goto (-30), 3) := by decide +kernel
theorem dX10_laws_50 : decode cX10_laws 50 = .ok (.iload_n 2, 1) := by decide +kernel
theorem dX10_laws_51 : decode cX10_laws 51 = .ok (.ireturn, 1) := by decide +kernel
theorem dX10_two_0 : decode cX10_two 0 = .ok (.iload_n 1, 1) := by decide +kernel
theorem dX10_two_1 : decode cX10_two 1 = .ok (.iconst 0, 1) := by decide +kernel
theorem dX10_two_2 : decode cX10_two 2 = .ok (.iconst 1, 1) := by decide +kernel
theorem dX10_two_3 : decode cX10_two 3 = .ok (.aload_n 0, 1) := by decide +kernel
theorem dX10_two_4 : decode cX10_two 4 = .ok (.getfield 26, 3) := by decide +kernel
theorem dX10_two_7 : decode cX10_two 7 = .ok (.getfield 106, 3) := by decide +kernel
theorem dX10_two_10 : decode cX10_two 10 = .ok (.ishl, 1) := by decide +kernel
theorem dX10_two_11 : decode cX10_two 11 = .ok (.iconst 1, 1) := by decide +kernel
theorem dX10_two_12 : decode cX10_two 12 = .ok (.isub, 1) := by decide +kernel
theorem dX10_two_13 : decode cX10_two 13 = .ok (.invokestatic 84, 3) := by decide +kernel
theorem dX10_two_16 : decode cX10_two 16 = .ok (.ifCond .eq 22, 3) := by decide +kernel
theorem dX10_two_19 : decode cX10_two 19 = .ok (.iload_n 2, 1) := by decide +kernel
theorem dX10_two_20 : decode cX10_two 20 = .ok (.iconst 0, 1) := by decide +kernel
theorem dX10_two_21 : decode cX10_two 21 = .ok (.bipush 99, 2) := by decide +kernel
theorem dX10_two_23 : decode cX10_two 23 = .ok (.invokestatic 84, 3) := by decide +kernel
theorem dX10_two_26 : decode cX10_two 26 = .ok (.ifCond .eq 12, 3) := by decide +kernel
theorem dX10_two_29 : decode cX10_two 29 = .ok (.iload_n 3, 1) := by decide +kernel
theorem dX10_two_30 : decode cX10_two 30 = .ok (.iconst 0, 1) := by decide +kernel
theorem dX10_two_31 : decode cX10_two 31 = .ok (.iconst 1, 1) := by decide +kernel
theorem dX10_two_32 : decode cX10_two 32 = .ok (.invokestatic 84, 3) := by decide +kernel
theorem dX10_two_35 : decode cX10_two 35 = .ok (.ifCond .ne 7, 3) := by decide +kernel
theorem dX10_two_38 : decode cX10_two 38 = .ok (.sipush (-10000), 3) := by decide +kernel
theorem dX10_two_41 : decode cX10_two 41 = .ok (.ireturn, 1) := by decide +kernel
theorem dX10_two_42 : decode cX10_two 42 = .ok (.aload_n 0, 1) := by decide +kernel
theorem dX10_two_43 : decode cX10_two 43 = .ok (.getfield 53, 3) := by decide +kernel
theorem dX10_two_46 : decode cX10_two 46 = .ok (.invokevirtual 221, 3) := by decide +kernel
theorem dX10_two_49 : decode cX10_two 49 = .ok (.aload_n 0, 1) := by decide +kernel
theorem dX10_two_50 : decode cX10_two 50 = .ok (.getfield 57, 3) := by decide +kernel
theorem dX10_two_53 : decode cX10_two 53 = .ok (.invokevirtual 221, 3) := by decide +kernel
theorem dX10_two_56 : decode cX10_two 56 = .ok (.iconst 0, 1) := by decide +kernel
theorem dX10_two_57 : decode cX10_two 57 = .ok (.istore 4, 2) := by decide +kernel
theorem dX10_two_59 : decode cX10_two 59 = .ok (.iload 4, 2) := by decide +kernel
theorem dX10_two_61 : decode cX10_two 61 = .ok (.aload_n 0, 1) := by decide +kernel
theorem dX10_two_62 : decode cX10_two 62 = .ok (.getfield 26, 3) := by decide +kernel
theorem dX10_two_65 : decode cX10_two 65 = .ok (.getfield 106, 3) := by decide +kernel
theorem dX10_two_68 : decode cX10_two 68 = .ok (.if_icmp .ge 53, 3) := by decide +kernel
theorem dX10_two_71 : decode cX10_two 71 = .ok (.iload_n 1, 1) := by decide +kernel
theorem dX10_two_72 : decode cX10_two 72 = .ok (.iload 4, 2) := by decide +kernel
theorem dX10_two_74 : decode cX10_two 74 = .ok (.ishr, 1) := by decide +kernel
theorem dX10_two_75 : decode cX10_two 75 = .ok (.iconst 1, 1) := by decide +kernel
theorem dX10_two_76 : decode cX10_two 76 = .ok (.iand, 1) := by decide +kernel
theorem dX10_two_77 : decode cX10_two 77 = .ok (.iconst 1, 1) := by decide +kernel
theorem dX10_two_78 : decode cX10_two 78 = .ok (.if_icmp .ne 10, 3) := by decide +kernel
theorem dX10_two_81 : decode cX10_two 81 = .ok (.aload_n 0, 1) := by decide +kernel
theorem dX10_two_82 : decode cX10_two 82 = .ok (.getfield 57, 3) := by decide +kernel
theorem dX10_two_85 : decode cX10_two 85 = .ok (.goto 7, 3) := by decide +kernel
theorem dX10_two_88 : decode cX10_two 88 = .ok (.aload_n 0, 1) := by decide +kernel
theorem dX10_two_89 : decode cX10_two 89 = .ok (.getfield 53, 3) := by decide +kernel
theorem dX10_two_92 : decode cX10_two 92 = .ok (.astore 5, 2) := by decide +kernel
theorem dX10_two_94 : decode cX10_two 94 = .ok (.aload 5, 2) := by decide +kernel
theorem dX10_two_96 : decode cX10_two 96 = .ok (.aload_n 0, 1) := by decide +kernel
theorem dX10_two_97 : decode cX10_two 97 = .ok (.getfield 26, 3) := by decide +kernel
theorem dX10_two_100 : decode cX10_two 100 = .ok (.iload 4, 2) := by decide +kernel
theorem dX10_two_102 : decode cX10_two 102 = .ok (.aload_n 0, 1) := by decide +kernel
theorem dX10_two_103 : decode cX10_two 103 = .ok (.getfield 26, 3) := by decide +kernel
theorem dX10_two_106 : decode cX10_two 106 = .ok (.getfield 117, 3) := by decide +kernel
theorem dX10_two_109 : decode cX10_two 109 = .ok (.iload 4, 2) := by decide +kernel
theorem dX10_two_111 : decode cX10_two 111 = .ok (.iaload, 1) := by decide +kernel
theorem dX10_two_112 : decode cX10_two 112 = .ok (.invokevirtual 224, 3) := by decide +kernel
theorem dX10_two_115 : decode cX10_two 115 = .ok (.iinc 4 1, 3) := by decide +kernel
theorem dX10_two_118 : decode cX10_two 118 = .ok (.goto (-59), 3) := by decide +kernel
theorem dX10_two_121 : decode cX10_two 121 = .ok (.aload_n 0, 1) := by decide +kernel
theorem dX10_two_122 : decode cX10_two 122 = .ok (.getfield 70, 3) := by decide +kernel
theorem dX10_two_125 : decode cX10_two 125 = .ok (.aload_n 0, 1) := by decide +kernel
theorem dX10_two_126 : decode cX10_two 126 = .ok (.getfield 53, 3) := by decide +kernel
theorem dX10_two_129 : decode cX10_two 129 = .ok (.aload_n 0, 1) := by decide +kernel
theorem dX10_two_130 : decode cX10_two 130 = .ok (.getfield 57, 3) := by decide +kernel
theorem dX10_two_133 : decode cX10_two 133 = .ok (.iload_n 2, 1) := by decide +kernel
theorem dX10_two_134 : decode cX10_two 134 = .ok (.invokevirtual 235, 3) := by decide +kernel
theorem dX10_two_137 : decode cX10_two 137 = .ok (.iload_n 3, 1) := by decide +kernel
theorem dX10_two_138 : decode cX10_two 138 = .ok (.ifCond .ne 13, 3) := by decide +kernel
theorem dX10_two_141 : decode cX10_two 141 = .ok (.aload_n 0, 1) := by decide +kernel
theorem dX10_two_142 : decode cX10_two 142 = .ok (.getfield 70, 3) := by decide +kernel
theorem dX10_two_145 : decode cX10_two 145 = .ok (.getfield 239, 3) := by decide +kernel
theorem dX10_two_148 : decode cX10_two 148 = .ok (.goto 10, 3) := by decide +kernel
theorem dX10_two_151 : decode cX10_two 151 = .ok (.aload_n 0, 1) := by decide +kernel
theorem dX10_two_152 : decode cX10_two 152 = .ok (.getfield 70, 3) := by decide +kernel
theorem dX10_two_155 : decode cX10_two 155 = .ok (.getfield 240, 3) := by decide +kernel
theorem dX10_two_158 : decode cX10_two 158 = .ok (.ireturn, 1) := by decide +kernel
theorem dX10_keep_0 : decode cX10_keep 0 = .ok (.aload_n 0, 1) := by decide +kernel
theorem dX10_keep_1 : decode cX10_keep 1 = .ok (.getfield 46, 3) := by decide +kernel
theorem dX10_keep_4 : decode cX10_keep 4 = .ok (.iconst 2, 1) := by decide +kernel
theorem dX10_keep_5 : decode cX10_keep 5 = .ok (.if_icmp .lt 6, 3) := by decide +kernel
theorem dX10_keep_8 : decode cX10_keep 8 = .ok (.bipush (-3), 2) := by decide +kernel
theorem dX10_keep_10 : decode cX10_keep 10 = .ok (.ireturn, 1) := by decide +kernel
theorem dX10_keep_11 : decode cX10_keep 11 = .ok (.aload_n 0, 1) := by decide +kernel
theorem dX10_keep_12 : decode cX10_keep 12 = .ok (.getfield 42, 3) := by decide +kernel
theorem dX10_keep_15 : decode cX10_keep 15 = .ok (.aload_n 0, 1) := by decide +kernel
theorem dX10_keep_16 : decode cX10_keep 16 = .ok (.getfield 46, 3) := by decide +kernel
theorem dX10_keep_19 : decode cX10_keep 19 = .ok (.aaload, 1) := by decide +kernel
theorem dX10_keep_20 : decode cX10_keep 20 = .ok (.aload_n 0, 1) := by decide +kernel
theorem dX10_keep_21 : decode cX10_keep 21 = .ok (.getfield 26, 3) := by decide +kernel
theorem dX10_keep_24 : decode cX10_keep 24 = .ok (.aload_n 0, 1) := by decide +kernel
theorem dX10_keep_25 : decode cX10_keep 25 = .ok (.getfield 36, 3) := by decide +kernel
theorem dX10_keep_28 : decode cX10_keep 28 = .ok (.invokevirtual 243, 3) := by decide +kernel
theorem dX10_keep_31 : decode cX10_keep 31 = .ok (.aload_n 0, 1) := by decide +kernel
theorem dX10_keep_32 : decode cX10_keep 32 = .ok (.dup, 1) := by decide +kernel
theorem dX10_keep_33 : decode cX10_keep 33 = .ok (.getfield 46, 3) := by decide +kernel
theorem dX10_keep_36 : decode cX10_keep 36 = .ok (.iconst 1, 1) := by decide +kernel
theorem dX10_keep_37 : decode cX10_keep 37 = .ok (.iadd, 1) := by decide +kernel
theorem dX10_keep_38 : decode cX10_keep 38 = .ok (.putfield 46, 3) := by decide +kernel
theorem dX10_keep_41 : decode cX10_keep 41 = .ok (.aload_n 0, 1) := by decide +kernel
theorem dX10_keep_42 : decode cX10_keep 42 = .ok (.getfield 46, 3) := by decide +kernel
theorem dX10_keep_45 : decode cX10_keep 45 = .ok (.ireturn, 1) := by decide +kernel
theorem dX10_back_0 : decode cX10_back 0 = .ok (.aload_n 0, 1) := by decide +kernel
theorem dX10_back_1 : decode cX10_back 1 = .ok (.getfield 46, 3) := by decide +kernel
theorem dX10_back_4 : decode cX10_back 4 = .ok (.iconst 1, 1) := by decide +kernel
theorem dX10_back_5 : decode cX10_back 5 = .ok (.if_icmp .ge 6, 3) := by decide +kernel
theorem dX10_back_8 : decode cX10_back 8 = .ok (.bipush (-2), 2) := by decide +kernel
theorem dX10_back_10 : decode cX10_back 10 = .ok (.ireturn, 1) := by decide +kernel
theorem dX10_back_11 : decode cX10_back 11 = .ok (.aload_n 0, 1) := by decide +kernel
theorem dX10_back_12 : decode cX10_back 12 = .ok (.dup, 1) := by decide +kernel
theorem dX10_back_13 : decode cX10_back 13 = .ok (.getfield 46, 3) := by decide +kernel
theorem dX10_back_16 : decode cX10_back 16 = .ok (.iconst 1, 1) := by decide +kernel
theorem dX10_back_17 : decode cX10_back 17 = .ok (.isub, 1) := by decide +kernel
theorem dX10_back_18 : decode cX10_back 18 = .ok (.putfield 46, 3) := by decide +kernel
theorem dX10_back_21 : decode cX10_back 21 = .ok (.aload_n 0, 1) := by decide +kernel
theorem dX10_back_22 : decode cX10_back 22 = .ok (.getfield 42, 3) := by decide +kernel
theorem dX10_back_25 : decode cX10_back 25 = .ok (.aload_n 0, 1) := by decide +kernel
theorem dX10_back_26 : decode cX10_back 26 = .ok (.getfield 46, 3) := by decide +kernel
theorem dX10_back_29 : decode cX10_back 29 = .ok (.aaload, 1) := by decide +kernel
theorem dX10_back_30 : decode cX10_back 30 = .ok (.aload_n 0, 1) := by decide +kernel
theorem dX10_back_31 : decode cX10_back 31 = .ok (.getfield 26, 3) := by decide +kernel
theorem dX10_back_34 : decode cX10_back 34 = .ok (.aload_n 0, 1) := by decide +kernel
theorem dX10_back_35 : decode cX10_back 35 = .ok (.getfield 36, 3) := by decide +kernel
theorem dX10_back_38 : decode cX10_back 38 = .ok (.invokevirtual 247, 3) := by decide +kernel
theorem dX10_back_41 : decode cX10_back 41 = .ok (.aload_n 0, 1) := by decide +kernel
theorem dX10_back_42 : decode cX10_back 42 = .ok (.getfield 46, 3) := by decide +kernel
theorem dX10_back_45 : decode cX10_back 45 = .ok (.ireturn, 1) := by decide +kernel
theorem dX10_count_0 : decode cX10_count 0 = .ok (.iload_n 1, 1) := by decide +kernel
theorem dX10_count_1 : decode cX10_count 1 = .ok (.tableswitch 96 0 6 #[43, 51, 59, 67, 75, 83, 88], 43) := by decide +kernel
theorem dX10_count_44 : decode cX10_count 44 = .ok (.aload_n 0, 1) := by decide +kernel
theorem dX10_count_45 : decode cX10_count 45 = .ok (.getfield 26, 3) := by decide +kernel
theorem dX10_count_48 : decode cX10_count 48 = .ok (.getfield 106, 3) := by decide +kernel
theorem dX10_count_51 : decode cX10_count 51 = .ok (.ireturn, 1) := by decide +kernel
theorem dX10_count_52 : decode cX10_count 52 = .ok (.aload_n 0, 1) := by decide +kernel
theorem dX10_count_53 : decode cX10_count 53 = .ok (.getfield 26, 3) := by decide +kernel
theorem dX10_count_56 : decode cX10_count 56 = .ok (.getfield 99, 3) := by decide +kernel
theorem dX10_count_59 : decode cX10_count 59 = .ok (.ireturn, 1) := by decide +kernel
theorem dX10_count_60 : decode cX10_count 60 = .ok (.aload_n 0, 1) := by decide +kernel
theorem dX10_count_61 : decode cX10_count 61 = .ok (.getfield 26, 3) := by decide +kernel
theorem dX10_count_64 : decode cX10_count 64 = .ok (.getfield 102, 3) := by decide +kernel
theorem dX10_count_67 : decode cX10_count 67 = .ok (.ireturn, 1) := by decide +kernel
theorem dX10_count_68 : decode cX10_count 68 = .ok (.aload_n 0, 1) := by decide +kernel
theorem dX10_count_69 : decode cX10_count 69 = .ok (.getfield 10, 3) := by decide +kernel
theorem dX10_count_72 : decode cX10_count 72 = .ok (.getfield 88, 3) := by decide +kernel
theorem dX10_count_75 : decode cX10_count 75 = .ok (.ireturn, 1) := by decide +kernel
theorem dX10_count_76 : decode cX10_count 76 = .ok (.aload_n 0, 1) := by decide +kernel
theorem dX10_count_77 : decode cX10_count 77 = .ok (.getfield 36, 3) := by decide +kernel
theorem dX10_count_80 : decode cX10_count 80 = .ok (.getfield 105, 3) := by decide +kernel
theorem dX10_count_83 : decode cX10_count 83 = .ok (.ireturn, 1) := by decide +kernel
theorem dX10_count_84 : decode cX10_count 84 = .ok (.aload_n 0, 1) := by decide +kernel
theorem dX10_count_85 : decode cX10_count 85 = .ok (.getfield 46, 3) := by decide +kernel
theorem dX10_count_88 : decode cX10_count 88 = .ok (.ireturn, 1) := by decide +kernel
theorem dX10_count_89 : decode cX10_count 89 = .ok (.aload_n 0, 1) := by decide +kernel
theorem dX10_count_90 : decode cX10_count 90 = .ok (.getfield 26, 3) := by decide +kernel
theorem dX10_count_93 : decode cX10_count 93 = .ok (.getfield 250, 3) := by decide +kernel
theorem dX10_count_96 : decode cX10_count 96 = .ok (.ireturn, 1) := by decide +kernel
theorem dX10_count_97 : decode cX10_count 97 = .ok (.iconst (-1), 1) := by decide +kernel
theorem dX10_count_98 : decode cX10_count 98 = .ok (.ireturn, 1) := by decide +kernel
theorem dX10_within_0 : decode cX10_within 0 = .ok (.iload_n 0, 1) := by decide +kernel
theorem dX10_within_1 : decode cX10_within 1 = .ok (.iload_n 1, 1) := by decide +kernel
theorem dX10_within_2 : decode cX10_within 2 = .ok (.if_icmp .lt 12, 3) := by decide +kernel
theorem dX10_within_5 : decode cX10_within 5 = .ok (.iload_n 0, 1) := by decide +kernel
theorem dX10_within_6 : decode cX10_within 6 = .ok (.iload_n 2, 1) := by decide +kernel
theorem dX10_within_7 : decode cX10_within 7 = .ok (.if_icmp .gt 7, 3) := by decide +kernel
theorem dX10_within_10 : decode cX10_within 10 = .ok (.iconst 1, 1) := by decide +kernel
theorem dX10_within_11 : decode cX10_within 11 = .ok (.goto 4, 3) := by decide +kernel
theorem dX10_within_14 : decode cX10_within 14 = .ok (.iconst 0, 1) := by decide +kernel
theorem dX10_within_15 : decode cX10_within 15 = .ok (.ireturn, 1) := by decide +kernel
theorem dX10_gainOfAllMeetings_0 : decode cX10_gainOfAllMeetings 0 = .ok (.iconst 0, 1) := by decide +kernel
theorem dX10_gainOfAllMeetings_1 : decode cX10_gainOfAllMeetings 1 = .ok (.istore_n 1, 1) := by decide +kernel
theorem dX10_gainOfAllMeetings_2 : decode cX10_gainOfAllMeetings 2 = .ok (.iconst 0, 1) := by decide +kernel
theorem dX10_gainOfAllMeetings_3 : decode cX10_gainOfAllMeetings 3 = .ok (.istore_n 2, 1) := by decide +kernel
theorem dX10_gainOfAllMeetings_4 : decode cX10_gainOfAllMeetings 4 = .ok (.iload_n 2, 1) := by decide +kernel
theorem dX10_gainOfAllMeetings_5 : decode cX10_gainOfAllMeetings 5 = .ok (.aload_n 0, 1) := by decide +kernel
theorem dX10_gainOfAllMeetings_6 : decode cX10_gainOfAllMeetings 6 = .ok (.getfield 26, 3) := by decide +kernel
theorem dX10_gainOfAllMeetings_9 : decode cX10_gainOfAllMeetings 9 = .ok (.getfield 99, 3) := by decide +kernel
theorem dX10_gainOfAllMeetings_12 : decode cX10_gainOfAllMeetings 12 = .ok (.if_icmp .ge 89, 3) := by decide +kernel
theorem dX10_gainOfAllMeetings_15 : decode cX10_gainOfAllMeetings 15 = .ok (.iconst 0, 1) := by decide +kernel
theorem dX10_gainOfAllMeetings_16 : decode cX10_gainOfAllMeetings 16 = .ok (.istore_n 3, 1) := by decide +kernel
theorem dX10_gainOfAllMeetings_17 : decode cX10_gainOfAllMeetings 17 = .ok (.iload_n 3, 1) := by decide +kernel
theorem dX10_gainOfAllMeetings_18 : decode cX10_gainOfAllMeetings 18 = .ok (.aload_n 0, 1) := by decide +kernel
theorem dX10_gainOfAllMeetings_19 : decode cX10_gainOfAllMeetings 19 = .ok (.getfield 26, 3) := by decide +kernel
theorem dX10_gainOfAllMeetings_22 : decode cX10_gainOfAllMeetings 22 = .ok (.getfield 102, 3) := by decide +kernel
theorem dX10_gainOfAllMeetings_25 : decode cX10_gainOfAllMeetings 25 = .ok (.if_icmp .ge 70, 3) := by decide +kernel
theorem dX10_gainOfAllMeetings_28 : decode cX10_gainOfAllMeetings 28 = .ok (.aload_n 0, 1) := by decide +kernel
theorem dX10_gainOfAllMeetings_29 : decode cX10_gainOfAllMeetings 29 = .ok (.getfield 26, 3) := by decide +kernel
theorem dX10_gainOfAllMeetings_32 : decode cX10_gainOfAllMeetings 32 = .ok (.getfield 117, 3) := by decide +kernel
theorem dX10_gainOfAllMeetings_35 : decode cX10_gainOfAllMeetings 35 = .ok (.aload_n 0, 1) := by decide +kernel
theorem dX10_gainOfAllMeetings_36 : decode cX10_gainOfAllMeetings 36 = .ok (.getfield 26, 3) := by decide +kernel
theorem dX10_gainOfAllMeetings_39 : decode cX10_gainOfAllMeetings 39 = .ok (.getfield 253, 3) := by decide +kernel
theorem dX10_gainOfAllMeetings_42 : decode cX10_gainOfAllMeetings 42 = .ok (.iload_n 2, 1) := by decide +kernel
theorem dX10_gainOfAllMeetings_43 : decode cX10_gainOfAllMeetings 43 = .ok (.iaload, 1) := by decide +kernel
theorem dX10_gainOfAllMeetings_44 : decode cX10_gainOfAllMeetings 44 = .ok (.iaload, 1) := by decide +kernel
theorem dX10_gainOfAllMeetings_45 : decode cX10_gainOfAllMeetings 45 = .ok (.istore 4, 2) := by decide +kernel
theorem dX10_gainOfAllMeetings_47 : decode cX10_gainOfAllMeetings 47 = .ok (.aload_n 0, 1) := by decide +kernel
theorem dX10_gainOfAllMeetings_48 : decode cX10_gainOfAllMeetings 48 = .ok (.getfield 26, 3) := by decide +kernel
theorem dX10_gainOfAllMeetings_51 : decode cX10_gainOfAllMeetings 51 = .ok (.getfield 117, 3) := by decide +kernel
theorem dX10_gainOfAllMeetings_54 : decode cX10_gainOfAllMeetings 54 = .ok (.aload_n 0, 1) := by decide +kernel
theorem dX10_gainOfAllMeetings_55 : decode cX10_gainOfAllMeetings 55 = .ok (.getfield 26, 3) := by decide +kernel
theorem dX10_gainOfAllMeetings_58 : decode cX10_gainOfAllMeetings 58 = .ok (.getfield 256, 3) := by decide +kernel
theorem dX10_gainOfAllMeetings_61 : decode cX10_gainOfAllMeetings 61 = .ok (.iload_n 3, 1) := by decide +kernel
theorem dX10_gainOfAllMeetings_62 : decode cX10_gainOfAllMeetings 62 = .ok (.iaload, 1) := by decide +kernel
theorem dX10_gainOfAllMeetings_63 : decode cX10_gainOfAllMeetings 63 = .ok (.iaload, 1) := by decide +kernel
theorem dX10_gainOfAllMeetings_64 : decode cX10_gainOfAllMeetings 64 = .ok (.istore 5, 2) := by decide +kernel
theorem dX10_gainOfAllMeetings_66 : decode cX10_gainOfAllMeetings 66 = .ok (.iload 4, 2) := by decide +kernel
theorem dX10_gainOfAllMeetings_68 : decode cX10_gainOfAllMeetings 68 = .ok (.iload 5, 2) := by decide +kernel
theorem dX10_gainOfAllMeetings_70 : decode cX10_gainOfAllMeetings 70 = .ok (.aload_n 0, 1) := by decide +kernel
theorem dX10_gainOfAllMeetings_71 : decode cX10_gainOfAllMeetings 71 = .ok (.getfield 26, 3) := by decide +kernel
theorem dX10_gainOfAllMeetings_74 : decode cX10_gainOfAllMeetings 74 = .ok (.getfield 124, 3) := by decide +kernel
theorem dX10_gainOfAllMeetings_77 : decode cX10_gainOfAllMeetings 77 = .ok (.iadd, 1) := by decide +kernel
theorem dX10_gainOfAllMeetings_78 : decode cX10_gainOfAllMeetings 78 = .ok (.if_icmp .lt 11, 3) := by decide +kernel
theorem dX10_gainOfAllMeetings_81 : decode cX10_gainOfAllMeetings 81 = .ok (.iload_n 1, 1) := by decide +kernel
theorem dX10_gainOfAllMeetings_82 : decode cX10_gainOfAllMeetings 82 = .ok (.iload 4, 2) := by decide +kernel
theorem dX10_gainOfAllMeetings_84 : decode cX10_gainOfAllMeetings 84 = .ok (.iload 5, 2) := by decide +kernel
theorem dX10_gainOfAllMeetings_86 : decode cX10_gainOfAllMeetings 86 = .ok (.isub, 1) := by decide +kernel
theorem dX10_gainOfAllMeetings_87 : decode cX10_gainOfAllMeetings 87 = .ok (.iadd, 1) := by decide +kernel
theorem dX10_gainOfAllMeetings_88 : decode cX10_gainOfAllMeetings 88 = .ok (.istore_n 1, 1) := by decide +kernel
theorem dX10_gainOfAllMeetings_89 : decode cX10_gainOfAllMeetings 89 = .ok (.iinc 3 1, 3) := by decide +kernel
theorem dX10_gainOfAllMeetings_92 : decode cX10_gainOfAllMeetings 92 = .ok (.goto (-75), 3) := by decide +kernel
theorem dX10_gainOfAllMeetings_95 : decode cX10_gainOfAllMeetings 95 = .ok (.iinc 2 1, 3) := by decide +kernel
theorem dX10_gainOfAllMeetings_98 : decode cX10_gainOfAllMeetings 98 = .ok (.goto (-94), 3) := by decide +kernel
theorem dX10_gainOfAllMeetings_101 : decode cX10_gainOfAllMeetings 101 = .ok (.iload_n 1, 1) := by decide +kernel
theorem dX10_gainOfAllMeetings_102 : decode cX10_gainOfAllMeetings 102 = .ok (.ireturn, 1) := by decide +kernel
theorem dX10_gainOfTelling_0 : decode cX10_gainOfTelling 0 = .ok (.aload_n 0, 1) := by decide +kernel
theorem dX10_gainOfTelling_1 : decode cX10_gainOfTelling 1 = .ok (.getfield 53, 3) := by decide +kernel
theorem dX10_gainOfTelling_4 : decode cX10_gainOfTelling 4 = .ok (.invokevirtual 221, 3) := by decide +kernel
theorem dX10_gainOfTelling_7 : decode cX10_gainOfTelling 7 = .ok (.iconst 0, 1) := by decide +kernel
theorem dX10_gainOfTelling_8 : decode cX10_gainOfTelling 8 = .ok (.istore_n 3, 1) := by decide +kernel
theorem dX10_gainOfTelling_9 : decode cX10_gainOfTelling 9 = .ok (.iload_n 3, 1) := by decide +kernel
theorem dX10_gainOfTelling_10 : decode cX10_gainOfTelling 10 = .ok (.aload_n 0, 1) := by decide +kernel
theorem dX10_gainOfTelling_11 : decode cX10_gainOfTelling 11 = .ok (.getfield 26, 3) := by decide +kernel
theorem dX10_gainOfTelling_14 : decode cX10_gainOfTelling 14 = .ok (.getfield 106, 3) := by decide +kernel
theorem dX10_gainOfTelling_17 : decode cX10_gainOfTelling 17 = .ok (.if_icmp .ge 39, 3) := by decide +kernel
theorem dX10_gainOfTelling_20 : decode cX10_gainOfTelling 20 = .ok (.aload_n 0, 1) := by decide +kernel
theorem dX10_gainOfTelling_21 : decode cX10_gainOfTelling 21 = .ok (.getfield 53, 3) := by decide +kernel
theorem dX10_gainOfTelling_24 : decode cX10_gainOfTelling 24 = .ok (.aload_n 0, 1) := by decide +kernel
theorem dX10_gainOfTelling_25 : decode cX10_gainOfTelling 25 = .ok (.getfield 26, 3) := by decide +kernel
theorem dX10_gainOfTelling_28 : decode cX10_gainOfTelling 28 = .ok (.iload_n 3, 1) := by decide +kernel
theorem dX10_gainOfTelling_29 : decode cX10_gainOfTelling 29 = .ok (.iload_n 3, 1) := by decide +kernel
theorem dX10_gainOfTelling_30 : decode cX10_gainOfTelling 30 = .ok (.iload_n 1, 1) := by decide +kernel
theorem dX10_gainOfTelling_31 : decode cX10_gainOfTelling 31 = .ok (.if_icmp .ne 7, 3) := by decide +kernel
theorem dX10_gainOfTelling_34 : decode cX10_gainOfTelling 34 = .ok (.iload_n 2, 1) := by decide +kernel
theorem dX10_gainOfTelling_35 : decode cX10_gainOfTelling 35 = .ok (.goto 12, 3) := by decide +kernel
theorem dX10_gainOfTelling_38 : decode cX10_gainOfTelling 38 = .ok (.aload_n 0, 1) := by decide +kernel
theorem dX10_gainOfTelling_39 : decode cX10_gainOfTelling 39 = .ok (.getfield 26, 3) := by decide +kernel
theorem dX10_gainOfTelling_42 : decode cX10_gainOfTelling 42 = .ok (.getfield 117, 3) := by decide +kernel
theorem dX10_gainOfTelling_45 : decode cX10_gainOfTelling 45 = .ok (.iload_n 3, 1) := by decide +kernel
theorem dX10_gainOfTelling_46 : decode cX10_gainOfTelling 46 = .ok (.iaload, 1) := by decide +kernel
theorem dX10_gainOfTelling_47 : decode cX10_gainOfTelling 47 = .ok (.invokevirtual 224, 3) := by decide +kernel
theorem dX10_gainOfTelling_50 : decode cX10_gainOfTelling 50 = .ok (.iinc 3 1, 3) := by decide +kernel
theorem dX10_gainOfTelling_53 : decode cX10_gainOfTelling 53 = .ok (.goto (-44), 3) := by decide +kernel
theorem dX10_gainOfTelling_56 : decode cX10_gainOfTelling 56 = .ok (.aload_n 0, 1) := by decide +kernel
theorem dX10_gainOfTelling_57 : decode cX10_gainOfTelling 57 = .ok (.getfield 53, 3) := by decide +kernel
theorem dX10_gainOfTelling_60 : decode cX10_gainOfTelling 60 = .ok (.aload_n 0, 1) := by decide +kernel
theorem dX10_gainOfTelling_61 : decode cX10_gainOfTelling 61 = .ok (.getfield 26, 3) := by decide +kernel
theorem dX10_gainOfTelling_64 : decode cX10_gainOfTelling 64 = .ok (.getfield 124, 3) := by decide +kernel
theorem dX10_gainOfTelling_67 : decode cX10_gainOfTelling 67 = .ok (.invokevirtual 228, 3) := by decide +kernel
theorem dX10_gainOfTelling_70 : decode cX10_gainOfTelling 70 = .ok (.aload_n 0, 1) := by decide +kernel
theorem dX10_gainOfTelling_71 : decode cX10_gainOfTelling 71 = .ok (.getfield 53, 3) := by decide +kernel
theorem dX10_gainOfTelling_74 : decode cX10_gainOfTelling 74 = .ok (.aload_n 0, 1) := by decide +kernel
theorem dX10_gainOfTelling_75 : decode cX10_gainOfTelling 75 = .ok (.getfield 26, 3) := by decide +kernel
theorem dX10_gainOfTelling_78 : decode cX10_gainOfTelling 78 = .ok (.getfield 113, 3) := by decide +kernel
theorem dX10_gainOfTelling_81 : decode cX10_gainOfTelling 81 = .ok (.iload_n 1, 1) := by decide +kernel
theorem dX10_gainOfTelling_82 : decode cX10_gainOfTelling 82 = .ok (.baload, 1) := by decide +kernel
theorem dX10_gainOfTelling_83 : decode cX10_gainOfTelling 83 = .ok (.iload_n 1, 1) := by decide +kernel
theorem dX10_gainOfTelling_84 : decode cX10_gainOfTelling 84 = .ok (.invokevirtual 259, 3) := by decide +kernel
theorem dX10_gainOfTelling_87 : decode cX10_gainOfTelling 87 = .ok (.ifCond .ne 5, 3) := by decide +kernel
theorem dX10_gainOfTelling_90 : decode cX10_gainOfTelling 90 = .ok (.iconst 0, 1) := by decide +kernel
theorem dX10_gainOfTelling_91 : decode cX10_gainOfTelling 91 = .ok (.ireturn, 1) := by decide +kernel
theorem dX10_gainOfTelling_92 : decode cX10_gainOfTelling 92 = .ok (.aload_n 0, 1) := by decide +kernel
theorem dX10_gainOfTelling_93 : decode cX10_gainOfTelling 93 = .ok (.getfield 26, 3) := by decide +kernel
theorem dX10_gainOfTelling_96 : decode cX10_gainOfTelling 96 = .ok (.getfield 117, 3) := by decide +kernel
theorem dX10_gainOfTelling_99 : decode cX10_gainOfTelling 99 = .ok (.iload_n 1, 1) := by decide +kernel
theorem dX10_gainOfTelling_100 : decode cX10_gainOfTelling 100 = .ok (.iaload, 1) := by decide +kernel
theorem dX10_gainOfTelling_101 : decode cX10_gainOfTelling 101 = .ok (.istore_n 3, 1) := by decide +kernel
theorem dX10_gainOfTelling_102 : decode cX10_gainOfTelling 102 = .ok (.aload_n 0, 1) := by decide +kernel
theorem dX10_gainOfTelling_103 : decode cX10_gainOfTelling 103 = .ok (.getfield 26, 3) := by decide +kernel
theorem dX10_gainOfTelling_106 : decode cX10_gainOfTelling 106 = .ok (.getfield 113, 3) := by decide +kernel
theorem dX10_gainOfTelling_109 : decode cX10_gainOfTelling 109 = .ok (.iload_n 1, 1) := by decide +kernel
theorem dX10_gainOfTelling_110 : decode cX10_gainOfTelling 110 = .ok (.baload, 1) := by decide +kernel
theorem dX10_gainOfTelling_111 : decode cX10_gainOfTelling 111 = .ok (.ifCond .eq 23, 3) := by decide +kernel
theorem dX10_gainOfTelling_114 : decode cX10_gainOfTelling 114 = .ok (.aload_n 0, 1) := by decide +kernel
theorem dX10_gainOfTelling_115 : decode cX10_gainOfTelling 115 = .ok (.getfield 53, 3) := by decide +kernel
theorem dX10_gainOfTelling_118 : decode cX10_gainOfTelling 118 = .ok (.getfield 137, 3) := by decide +kernel
theorem dX10_gainOfTelling_121 : decode cX10_gainOfTelling 121 = .ok (.aload_n 0, 1) := by decide +kernel
theorem dX10_gainOfTelling_122 : decode cX10_gainOfTelling 122 = .ok (.getfield 26, 3) := by decide +kernel
theorem dX10_gainOfTelling_125 : decode cX10_gainOfTelling 125 = .ok (.getfield 124, 3) := by decide +kernel
theorem dX10_gainOfTelling_128 : decode cX10_gainOfTelling 128 = .ok (.isub, 1) := by decide +kernel
theorem dX10_gainOfTelling_129 : decode cX10_gainOfTelling 129 = .ok (.iload_n 3, 1) := by decide +kernel
theorem dX10_gainOfTelling_130 : decode cX10_gainOfTelling 130 = .ok (.isub, 1) := by decide +kernel
theorem dX10_gainOfTelling_131 : decode cX10_gainOfTelling 131 = .ok (.goto 12, 3) := by decide +kernel
theorem dX10_gainOfTelling_134 : decode cX10_gainOfTelling 134 = .ok (.iload_n 3, 1) := by decide +kernel
theorem dX10_gainOfTelling_135 : decode cX10_gainOfTelling 135 = .ok (.aload_n 0, 1) := by decide +kernel
theorem dX10_gainOfTelling_136 : decode cX10_gainOfTelling 136 = .ok (.getfield 53, 3) := by decide +kernel
theorem dX10_gainOfTelling_139 : decode cX10_gainOfTelling 139 = .ok (.getfield 137, 3) := by decide +kernel
theorem dX10_gainOfTelling_142 : decode cX10_gainOfTelling 142 = .ok (.isub, 1) := by decide +kernel
theorem dX10_gainOfTelling_143 : decode cX10_gainOfTelling 143 = .ok (.ireturn, 1) := by decide +kernel
theorem dX10_sumUp_0 : decode cX10_sumUp 0 = .ok (.aload_n 0, 1) := by decide +kernel
theorem dX10_sumUp_1 : decode cX10_sumUp 1 = .ok (.getfield 76, 3) := by decide +kernel
theorem dX10_sumUp_4 : decode cX10_sumUp 4 = .ok (.iload_n 1, 1) := by decide +kernel
theorem dX10_sumUp_5 : decode cX10_sumUp 5 = .ok (.aaload, 1) := by decide +kernel
theorem dX10_sumUp_6 : decode cX10_sumUp 6 = .ok (.astore_n 3, 1) := by decide +kernel
theorem dX10_sumUp_7 : decode cX10_sumUp 7 = .ok (.aload_n 3, 1) := by decide +kernel
theorem dX10_sumUp_8 : decode cX10_sumUp 8 = .ok (.iconst 0, 1) := by decide +kernel
theorem dX10_sumUp_9 : decode cX10_sumUp 9 = .ok (.iconst 0, 1) := by decide +kernel
theorem dX10_sumUp_10 : decode cX10_sumUp 10 = .ok (.iastore, 1) := by decide +kernel
theorem dX10_sumUp_11 : decode cX10_sumUp 11 = .ok (.aload_n 3, 1) := by decide +kernel
theorem dX10_sumUp_12 : decode cX10_sumUp 12 = .ok (.iconst 1, 1) := by decide +kernel
theorem dX10_sumUp_13 : decode cX10_sumUp 13 = .ok (.iconst 0, 1) := by decide +kernel
theorem dX10_sumUp_14 : decode cX10_sumUp 14 = .ok (.iastore, 1) := by decide +kernel
theorem dX10_sumUp_15 : decode cX10_sumUp 15 = .ok (.aload_n 3, 1) := by decide +kernel
theorem dX10_sumUp_16 : decode cX10_sumUp 16 = .ok (.iconst 2, 1) := by decide +kernel
theorem dX10_sumUp_17 : decode cX10_sumUp 17 = .ok (.iconst 0, 1) := by decide +kernel
theorem dX10_sumUp_18 : decode cX10_sumUp 18 = .ok (.iastore, 1) := by decide +kernel
theorem dX10_sumUp_19 : decode cX10_sumUp 19 = .ok (.iconst 0, 1) := by decide +kernel
theorem dX10_sumUp_20 : decode cX10_sumUp 20 = .ok (.istore 4, 2) := by decide +kernel
theorem dX10_sumUp_22 : decode cX10_sumUp 22 = .ok (.iload 4, 2) := by decide +kernel
theorem dX10_sumUp_24 : decode cX10_sumUp 24 = .ok (.bipush 10, 2) := by decide +kernel
theorem dX10_sumUp_26 : decode cX10_sumUp 26 = .ok (.if_icmp .ge 69, 3) := by decide +kernel
theorem dX10_sumUp_29 : decode cX10_sumUp 29 = .ok (.aload_n 0, 1) := by decide +kernel
theorem dX10_sumUp_30 : decode cX10_sumUp 30 = .ok (.getfield 63, 3) := by decide +kernel
theorem dX10_sumUp_33 : decode cX10_sumUp 33 = .ok (.aload_n 0, 1) := by decide +kernel
theorem dX10_sumUp_34 : decode cX10_sumUp 34 = .ok (.getfield 26, 3) := by decide +kernel
theorem dX10_sumUp_37 : decode cX10_sumUp 37 = .ok (.iload_n 1, 1) := by decide +kernel
theorem dX10_sumUp_38 : decode cX10_sumUp 38 = .ok (.iload_n 2, 1) := by decide +kernel
theorem dX10_sumUp_39 : decode cX10_sumUp 39 = .ok (.iload 4, 2) := by decide +kernel
theorem dX10_sumUp_41 : decode cX10_sumUp 41 = .ok (.iadd, 1) := by decide +kernel
theorem dX10_sumUp_42 : decode cX10_sumUp 42 = .ok (.sipush 10000, 3) := by decide +kernel
theorem dX10_sumUp_45 : decode cX10_sumUp 45 = .ok (.irem, 1) := by decide +kernel
theorem dX10_sumUp_46 : decode cX10_sumUp 46 = .ok (.aconst_null, 1) := by decide +kernel
theorem dX10_sumUp_47 : decode cX10_sumUp 47 = .ok (.invokevirtual 181, 3) := by decide +kernel
theorem dX10_sumUp_50 : decode cX10_sumUp 50 = .ok (.aload_n 3, 1) := by decide +kernel
theorem dX10_sumUp_51 : decode cX10_sumUp 51 = .ok (.iconst 0, 1) := by decide +kernel
theorem dX10_sumUp_52 : decode cX10_sumUp 52 = .ok (.dup2, 1) := by decide +kernel
theorem dX10_sumUp_53 : decode cX10_sumUp 53 = .ok (.iaload, 1) := by decide +kernel
theorem dX10_sumUp_54 : decode cX10_sumUp 54 = .ok (.aload_n 0, 1) := by decide +kernel
theorem dX10_sumUp_55 : decode cX10_sumUp 55 = .ok (.getfield 63, 3) := by decide +kernel
theorem dX10_sumUp_58 : decode cX10_sumUp 58 = .ok (.getfield 188, 3) := by decide +kernel
theorem dX10_sumUp_61 : decode cX10_sumUp 61 = .ok (.iadd, 1) := by decide +kernel
theorem dX10_sumUp_62 : decode cX10_sumUp 62 = .ok (.iastore, 1) := by decide +kernel
theorem dX10_sumUp_63 : decode cX10_sumUp 63 = .ok (.aload_n 3, 1) := by decide +kernel
theorem dX10_sumUp_64 : decode cX10_sumUp 64 = .ok (.iconst 1, 1) := by decide +kernel
theorem dX10_sumUp_65 : decode cX10_sumUp 65 = .ok (.dup2, 1) := by decide +kernel
theorem dX10_sumUp_66 : decode cX10_sumUp 66 = .ok (.iaload, 1) := by decide +kernel
theorem dX10_sumUp_67 : decode cX10_sumUp 67 = .ok (.aload_n 0, 1) := by decide +kernel
theorem dX10_sumUp_68 : decode cX10_sumUp 68 = .ok (.getfield 63, 3) := by decide +kernel
theorem dX10_sumUp_71 : decode cX10_sumUp 71 = .ok (.getfield 191, 3) := by decide +kernel
theorem dX10_sumUp_74 : decode cX10_sumUp 74 = .ok (.iadd, 1) := by decide +kernel
theorem dX10_sumUp_75 : decode cX10_sumUp 75 = .ok (.iastore, 1) := by decide +kernel
theorem dX10_sumUp_76 : decode cX10_sumUp 76 = .ok (.aload_n 3, 1) := by decide +kernel
theorem dX10_sumUp_77 : decode cX10_sumUp 77 = .ok (.iconst 2, 1) := by decide +kernel
theorem dX10_sumUp_78 : decode cX10_sumUp 78 = .ok (.dup2, 1) := by decide +kernel
theorem dX10_sumUp_79 : decode cX10_sumUp 79 = .ok (.iaload, 1) := by decide +kernel
theorem dX10_sumUp_80 : decode cX10_sumUp 80 = .ok (.aload_n 0, 1) := by decide +kernel
theorem dX10_sumUp_81 : decode cX10_sumUp 81 = .ok (.getfield 63, 3) := by decide +kernel
theorem dX10_sumUp_84 : decode cX10_sumUp 84 = .ok (.invokevirtual 194, 3) := by decide +kernel
theorem dX10_sumUp_87 : decode cX10_sumUp 87 = .ok (.iadd, 1) := by decide +kernel
theorem dX10_sumUp_88 : decode cX10_sumUp 88 = .ok (.iastore, 1) := by decide +kernel
theorem dX10_sumUp_89 : decode cX10_sumUp 89 = .ok (.iinc 4 1, 3) := by decide +kernel
theorem dX10_sumUp_92 : decode cX10_sumUp 92 = .ok (.goto (-70), 3) := by decide +kernel
theorem dX10_sumUp_95 : decode cX10_sumUp 95 = .ok (.return_, 1) := by decide +kernel
theorem dX10_bestBy_0 : decode cX10_bestBy 0 = .ok (.iconst 0, 1) := by decide +kernel
theorem dX10_bestBy_1 : decode cX10_bestBy 1 = .ok (.istore_n 2, 1) := by decide +kernel
theorem dX10_bestBy_2 : decode cX10_bestBy 2 = .ok (.iconst 1, 1) := by decide +kernel
theorem dX10_bestBy_3 : decode cX10_bestBy 3 = .ok (.istore_n 3, 1) := by decide +kernel
theorem dX10_bestBy_4 : decode cX10_bestBy 4 = .ok (.iload_n 3, 1) := by decide +kernel
theorem dX10_bestBy_5 : decode cX10_bestBy 5 = .ok (.iconst 3, 1) := by decide +kernel
theorem dX10_bestBy_6 : decode cX10_bestBy 6 = .ok (.if_icmp .gt 47, 3) := by decide +kernel
theorem dX10_bestBy_9 : decode cX10_bestBy 9 = .ok (.aload_n 0, 1) := by decide +kernel
theorem dX10_bestBy_10 : decode cX10_bestBy 10 = .ok (.getfield 76, 3) := by decide +kernel
theorem dX10_bestBy_13 : decode cX10_bestBy 13 = .ok (.iload_n 3, 1) := by decide +kernel
theorem dX10_bestBy_14 : decode cX10_bestBy 14 = .ok (.aaload, 1) := by decide +kernel
theorem dX10_bestBy_15 : decode cX10_bestBy 15 = .ok (.iload_n 1, 1) := by decide +kernel
theorem dX10_bestBy_16 : decode cX10_bestBy 16 = .ok (.iaload, 1) := by decide +kernel
theorem dX10_bestBy_17 : decode cX10_bestBy 17 = .ok (.aload_n 0, 1) := by decide +kernel
theorem dX10_bestBy_18 : decode cX10_bestBy 18 = .ok (.getfield 76, 3) := by decide +kernel
theorem dX10_bestBy_21 : decode cX10_bestBy 21 = .ok (.iload_n 2, 1) := by decide +kernel
theorem dX10_bestBy_22 : decode cX10_bestBy 22 = .ok (.aaload, 1) := by decide +kernel
theorem dX10_bestBy_23 : decode cX10_bestBy 23 = .ok (.iload_n 1, 1) := by decide +kernel
theorem dX10_bestBy_24 : decode cX10_bestBy 24 = .ok (.iaload, 1) := by decide +kernel
theorem dX10_bestBy_25 : decode cX10_bestBy 25 = .ok (.isub, 1) := by decide +kernel
theorem dX10_bestBy_26 : decode cX10_bestBy 26 = .ok (.istore 4, 2) := by decide +kernel
theorem dX10_bestBy_28 : decode cX10_bestBy 28 = .ok (.iload_n 1, 1) := by decide +kernel
theorem dX10_bestBy_29 : decode cX10_bestBy 29 = .ok (.ifCond .ne 11, 3) := by decide +kernel
theorem dX10_bestBy_32 : decode cX10_bestBy 32 = .ok (.iload 4, 2) := by decide +kernel
theorem dX10_bestBy_34 : decode cX10_bestBy 34 = .ok (.ifCond .le 13, 3) := by decide +kernel
theorem dX10_bestBy_37 : decode cX10_bestBy 37 = .ok (.goto 8, 3) := by decide +kernel
theorem dX10_bestBy_40 : decode cX10_bestBy 40 = .ok (.iload 4, 2) := by decide +kernel
theorem dX10_bestBy_42 : decode cX10_bestBy 42 = .ok (.ifCond .ge 5, 3) := by decide +kernel
theorem dX10_bestBy_45 : decode cX10_bestBy 45 = .ok (.iload_n 3, 1) := by decide +kernel
theorem dX10_bestBy_46 : decode cX10_bestBy 46 = .ok (.istore_n 2, 1) := by decide +kernel
theorem dX10_bestBy_47 : decode cX10_bestBy 47 = .ok (.iinc 3 1, 3) := by decide +kernel
theorem dX10_bestBy_50 : decode cX10_bestBy 50 = .ok (.goto (-46), 3) := by decide +kernel
theorem dX10_bestBy_53 : decode cX10_bestBy 53 = .ok (.iload_n 2, 1) := by decide +kernel
theorem dX10_bestBy_54 : decode cX10_bestBy 54 = .ok (.ireturn, 1) := by decide +kernel
end
section
theorem dX11_init_0 : decode cX11_init 0 = .ok (.aload_n 0, 1) := by decide +kernel
theorem dX11_init_1 : decode cX11_init 1 = .ok (.invokespecial 1, 3) := by decide +kernel
theorem dX11_init_4 : decode cX11_init 4 = .ok (.aload_n 0, 1) := by decide +kernel
theorem dX11_init_5 : decode cX11_init 5 = .ok (.sipush 300, 3) := by decide +kernel
theorem dX11_init_8 : decode cX11_init 8 = .ok (.newarray .int, 2) := by decide +kernel
theorem dX11_init_10 : decode cX11_init 10 = .ok (.putfield 7, 3) := by decide +kernel
theorem dX11_init_13 : decode cX11_init 13 = .ok (.aload_n 0, 1) := by decide +kernel
theorem dX11_init_14 : decode cX11_init 14 = .ok (.iconst 2, 1) := by decide +kernel
theorem dX11_init_15 : decode cX11_init 15 = .ok (.newarray .int, 2) := by decide +kernel
theorem dX11_init_17 : decode cX11_init 17 = .ok (.putfield 13, 3) := by decide +kernel
theorem dX11_init_20 : decode cX11_init 20 = .ok (.aload_n 0, 1) := by decide +kernel
theorem dX11_init_21 : decode cX11_init 21 = .ok (.bipush 40, 2) := by decide +kernel
theorem dX11_init_23 : decode cX11_init 23 = .ok (.newarray .int, 2) := by decide +kernel
theorem dX11_init_25 : decode cX11_init 25 = .ok (.putfield 16, 3) := by decide +kernel
theorem dX11_init_28 : decode cX11_init 28 = .ok (.aload_n 0, 1) := by decide +kernel
theorem dX11_init_29 : decode cX11_init 29 = .ok (.bipush 40, 2) := by decide +kernel
theorem dX11_init_31 : decode cX11_init 31 = .ok (.newarray .int, 2) := by decide +kernel
theorem dX11_init_33 : decode cX11_init 33 = .ok (.putfield 19, 3) := by decide +kernel
theorem dX11_init_36 : decode cX11_init 36 = .ok (.aload_n 0, 1) := by decide +kernel
theorem dX11_init_37 : decode cX11_init 37 = .ok (.bipush 40, 2) := by decide +kernel
theorem dX11_init_39 : decode cX11_init 39 = .ok (.newarray .int, 2) := by decide +kernel
theorem dX11_init_41 : decode cX11_init 41 = .ok (.putfield 22, 3) := by decide +kernel
theorem dX11_init_44 : decode cX11_init 44 = .ok (.aload_n 0, 1) := by decide +kernel
theorem dX11_init_45 : decode cX11_init 45 = .ok (.bipush 10, 2) := by decide +kernel
theorem dX11_init_47 : decode cX11_init 47 = .ok (.newarray .int, 2) := by decide +kernel
theorem dX11_init_49 : decode cX11_init 49 = .ok (.putfield 25, 3) := by decide +kernel
theorem dX11_init_52 : decode cX11_init 52 = .ok (.aload_n 0, 1) := by decide +kernel
theorem dX11_init_53 : decode cX11_init 53 = .ok (.iconst 3, 1) := by decide +kernel
theorem dX11_init_54 : decode cX11_init 54 = .ok (.newarray .int, 2) := by decide +kernel
theorem dX11_init_56 : decode cX11_init 56 = .ok (.putfield 28, 3) := by decide +kernel
theorem dX11_init_59 : decode cX11_init 59 = .ok (.aload_n 0, 1) := by decide +kernel
theorem dX11_init_60 : decode cX11_init 60 = .ok (.sipush 600, 3) := by decide +kernel
theorem dX11_init_63 : decode cX11_init 63 = .ok (.newarray .int, 2) := by decide +kernel
theorem dX11_init_65 : decode cX11_init 65 = .ok (.putfield 31, 3) := by decide +kernel
theorem dX11_init_68 : decode cX11_init 68 = .ok (.aload_n 0, 1) := by decide +kernel
theorem dX11_init_69 : decode cX11_init 69 = .ok (.sipush 600, 3) := by decide +kernel
theorem dX11_init_72 : decode cX11_init 72 = .ok (.newarray .int, 2) := by decide +kernel
theorem dX11_init_74 : decode cX11_init 74 = .ok (.putfield 34, 3) := by decide +kernel
theorem dX11_init_77 : decode cX11_init 77 = .ok (.aload_n 0, 1) := by decide +kernel
theorem dX11_init_78 : decode cX11_init 78 = .ok (.sipush 600, 3) := by decide +kernel
theorem dX11_init_81 : decode cX11_init 81 = .ok (.newarray .int, 2) := by decide +kernel
theorem dX11_init_83 : decode cX11_init 83 = .ok (.putfield 37, 3) := by decide +kernel
theorem dX11_init_86 : decode cX11_init 86 = .ok (.aload_n 0, 1) := by decide +kernel
theorem dX11_init_87 : decode cX11_init 87 = .ok (.sipush 600, 3) := by decide +kernel
theorem dX11_init_90 : decode cX11_init 90 = .ok (.newarray .int, 2) := by decide +kernel
theorem dX11_init_92 : decode cX11_init 92 = .ok (.putfield 40, 3) := by decide +kernel
theorem dX11_init_95 : decode cX11_init 95 = .ok (.aload_n 0, 1) := by decide +kernel
theorem dX11_init_96 : decode cX11_init 96 = .ok (.bipush 40, 2) := by decide +kernel
theorem dX11_init_98 : decode cX11_init 98 = .ok (.newarray .int, 2) := by decide +kernel
theorem dX11_init_100 : decode cX11_init 100 = .ok (.putfield 43, 3) := by decide +kernel
theorem dX11_init_103 : decode cX11_init 103 = .ok (.aload_n 0, 1) := by decide +kernel
theorem dX11_init_104 : decode cX11_init 104 = .ok (.iconst 2, 1) := by decide +kernel
theorem dX11_init_105 : decode cX11_init 105 = .ok (.newarray .int, 2) := by decide +kernel
theorem dX11_init_107 : decode cX11_init 107 = .ok (.putfield 46, 3) := by decide +kernel
theorem dX11_init_110 : decode cX11_init 110 = .ok (.aload_n 0, 1) := by decide +kernel
theorem dX11_init_111 : decode cX11_init 111 = .ok (.bipush 20, 2) := by decide +kernel
theorem dX11_init_113 : decode cX11_init 113 = .ok (.newarray .int, 2) := by decide +kernel
theorem dX11_init_115 : decode cX11_init 115 = .ok (.putfield 49, 3) := by decide +kernel
theorem dX11_init_118 : decode cX11_init 118 = .ok (.aload_n 0, 1) := by decide +kernel
theorem dX11_init_119 : decode cX11_init 119 = .ok (.bipush 10, 2) := by decide +kernel
theorem dX11_init_121 : decode cX11_init 121 = .ok (.newarray .int, 2) := by decide +kernel
theorem dX11_init_123 : decode cX11_init 123 = .ok (.putfield 52, 3) := by decide +kernel
theorem dX11_init_126 : decode cX11_init 126 = .ok (.aload_n 0, 1) := by decide +kernel
theorem dX11_init_127 : decode cX11_init 127 = .ok (.bipush 10, 2) := by decide +kernel
theorem dX11_init_129 : decode cX11_init 129 = .ok (.newarray .int, 2) := by decide +kernel
theorem dX11_init_131 : decode cX11_init 131 = .ok (.putfield 55, 3) := by decide +kernel
theorem dX11_init_134 : decode cX11_init 134 = .ok (.aload_n 0, 1) := by decide +kernel
theorem dX11_init_135 : decode cX11_init 135 = .ok (.bipush 20, 2) := by decide +kernel
theorem dX11_init_137 : decode cX11_init 137 = .ok (.newarray .int, 2) := by decide +kernel
theorem dX11_init_139 : decode cX11_init 139 = .ok (.putfield 58, 3) := by decide +kernel
theorem dX11_init_142 : decode cX11_init 142 = .ok (.aload_n 0, 1) := by decide +kernel
theorem dX11_init_143 : decode cX11_init 143 = .ok (.bipush 20, 2) := by decide +kernel
theorem dX11_init_145 : decode cX11_init 145 = .ok (.newarray .int, 2) := by decide +kernel
theorem dX11_init_147 : decode cX11_init 147 = .ok (.putfield 61, 3) := by decide +kernel
theorem dX11_init_150 : decode cX11_init 150 = .ok (.aload_n 0, 1) := by decide +kernel
theorem dX11_init_151 : decode cX11_init 151 = .ok (.bipush 12, 2) := by decide +kernel
theorem dX11_init_153 : decode cX11_init 153 = .ok (.newarray .int, 2) := by decide +kernel
theorem dX11_init_155 : decode cX11_init 155 = .ok (.putfield 64, 3) := by decide +kernel
theorem dX11_init_158 : decode cX11_init 158 = .ok (.aload_n 0, 1) := by decide +kernel
theorem dX11_init_159 : decode cX11_init 159 = .ok (.bipush 44, 2) := by decide +kernel
theorem dX11_init_161 : decode cX11_init 161 = .ok (.newarray .int, 2) := by decide +kernel
theorem dX11_init_163 : decode cX11_init 163 = .ok (.putfield 67, 3) := by decide +kernel
theorem dX11_init_166 : decode cX11_init 166 = .ok (.aload_n 0, 1) := by decide +kernel
theorem dX11_init_167 : decode cX11_init 167 = .ok (.iconst 4, 1) := by decide +kernel
theorem dX11_init_168 : decode cX11_init 168 = .ok (.newarray .int, 2) := by decide +kernel
theorem dX11_init_170 : decode cX11_init 170 = .ok (.putfield 70, 3) := by decide +kernel
theorem dX11_init_173 : decode cX11_init 173 = .ok (.aload_n 0, 1) := by decide +kernel
theorem dX11_init_174 : decode cX11_init 174 = .ok (.iconst 0, 1) := by decide +kernel
theorem dX11_init_175 : decode cX11_init 175 = .ok (.invokevirtual 73, 3) := by decide +kernel
theorem dX11_init_178 : decode cX11_init 178 = .ok (.aload_n 0, 1) := by decide +kernel
theorem dX11_init_179 : decode cX11_init 179 = .ok (.getfield 13, 3) := by decide +kernel
theorem dX11_init_182 : decode cX11_init 182 = .ok (.iconst 0, 1) := by decide +kernel
theorem dX11_init_183 : decode cX11_init 183 = .ok (.iconst 2, 1) := by decide +kernel
theorem dX11_init_184 : decode cX11_init 184 = .ok (.iastore, 1) := by decide +kernel
theorem dX11_init_185 : decode cX11_init 185 = .ok (.aload_n 0, 1) := by decide +kernel
theorem dX11_init_186 : decode cX11_init 186 = .ok (.getfield 19, 3) := by decide +kernel
theorem dX11_init_189 : decode cX11_init 189 = .ok (.iconst 0, 1) := by decide +kernel
theorem dX11_init_190 : decode cX11_init 190 = .ok (.bipush 9, 2) := by decide +kernel
theorem dX11_init_192 : decode cX11_init 192 = .ok (.iastore, 1) := by decide +kernel
theorem dX11_init_193 : decode cX11_init 193 = .ok (.aload_n 0, 1) := by decide +kernel
theorem dX11_init_194 : decode cX11_init 194 = .ok (.getfield 16, 3) := by decide +kernel
theorem dX11_init_197 : decode cX11_init 197 = .ok (.iconst 1, 1) := by decide +kernel
theorem dX11_init_198 : decode cX11_init 198 = .ok (.iconst 1, 1) := by decide +kernel
theorem dX11_init_199 : decode cX11_init 199 = .ok (.iastore, 1) := by decide +kernel
theorem dX11_init_200 : decode cX11_init 200 = .ok (.aload_n 0, 1) := by decide +kernel
theorem dX11_init_201 : decode cX11_init 201 = .ok (.getfield 19, 3) := by decide +kernel
theorem dX11_init_204 : decode cX11_init 204 = .ok (.iconst 1, 1) := by decide +kernel
theorem dX11_init_205 : decode cX11_init 205 = .ok (.iconst 1, 1) := by decide +kernel
theorem dX11_init_206 : decode cX11_init 206 = .ok (.iastore, 1) := by decide +kernel
theorem dX11_init_207 : decode cX11_init 207 = .ok (.return_, 1) := by decide +kernel
theorem dX11_in_0 : decode cX11_in 0 = .ok (.lload_n 0, 1) := by decide +kernel
theorem dX11_in_1 : decode cX11_in 1 = .ok (.lload_n 2, 1) := by decide +kernel
theorem dX11_in_2 : decode cX11_in 2 = .ok (.lcmp, 1) := by decide +kernel
theorem dX11_in_3 : decode cX11_in 3 = .ok (.ifCond .lt 14, 3) := by decide +kernel
theorem dX11_in_6 : decode cX11_in 6 = .ok (.lload_n 0, 1) := by decide +kernel
theorem dX11_in_7 : decode cX11_in 7 = .ok (.lload 4, 2) := by decide +kernel
theorem dX11_in_9 : decode cX11_in 9 = .ok (.lcmp, 1) := by decide +kernel
theorem dX11_in_10 : decode cX11_in 10 = .ok (.ifCond .gt 7, 3) := by decide +kernel
theorem dX11_in_13 : decode cX11_in 13 = .ok (.iconst 1, 1) := by decide +kernel
theorem dX11_in_14 : decode cX11_in 14 = .ok (.goto 4, 3) := by decide +kernel
theorem dX11_in_17 : decode cX11_in 17 = .ok (.iconst 0, 1) := by decide +kernel
theorem dX11_in_18 : decode cX11_in 18 = .ok (.ireturn, 1) := by decide +kernel
theorem dX11_noRoom_0 : decode cX11_noRoom 0 = .ok (.aload_n 0, 1) := by decide +kernel
theorem dX11_noRoom_1 : decode cX11_noRoom 1 = .ok (.getfield 13, 3) := by decide +kernel
theorem dX11_noRoom_4 : decode cX11_noRoom 4 = .ok (.iload_n 1, 1) := by decide +kernel
theorem dX11_noRoom_5 : decode cX11_noRoom 5 = .ok (.iconst 0, 1) := by decide +kernel
theorem dX11_noRoom_6 : decode cX11_noRoom 6 = .ok (.iastore, 1) := by decide +kernel
theorem dX11_noRoom_7 : decode cX11_noRoom 7 = .ok (.aload_n 0, 1) := by decide +kernel
theorem dX11_noRoom_8 : decode cX11_noRoom 8 = .ok (.getfield 25, 3) := by decide +kernel
theorem dX11_noRoom_11 : decode cX11_noRoom 11 = .ok (.iconst 5, 1) := by decide +kernel
theorem dX11_noRoom_12 : decode cX11_noRoom 12 = .ok (.iload_n 1, 1) := by decide +kernel
theorem dX11_noRoom_13 : decode cX11_noRoom 13 = .ok (.imul, 1) := by decide +kernel
theorem dX11_noRoom_14 : decode cX11_noRoom 14 = .ok (.bipush 60, 2) := by decide +kernel
theorem dX11_noRoom_16 : decode cX11_noRoom 16 = .ok (.iastore, 1) := by decide +kernel
theorem dX11_noRoom_17 : decode cX11_noRoom 17 = .ok (.aload_n 0, 1) := by decide +kernel
theorem dX11_noRoom_18 : decode cX11_noRoom 18 = .ok (.getfield 25, 3) := by decide +kernel
theorem dX11_noRoom_21 : decode cX11_noRoom 21 = .ok (.iconst 5, 1) := by decide +kernel
theorem dX11_noRoom_22 : decode cX11_noRoom 22 = .ok (.iload_n 1, 1) := by decide +kernel
theorem dX11_noRoom_23 : decode cX11_noRoom 23 = .ok (.imul, 1) := by decide +kernel
theorem dX11_noRoom_24 : decode cX11_noRoom 24 = .ok (.iconst 1, 1) := by decide +kernel
theorem dX11_noRoom_25 : decode cX11_noRoom 25 = .ok (.iadd, 1) := by decide +kernel
theorem dX11_noRoom_26 : decode cX11_noRoom 26 = .ok (.iconst 0, 1) := by decide +kernel
theorem dX11_noRoom_27 : decode cX11_noRoom 27 = .ok (.iastore, 1) := by decide +kernel
theorem dX11_noRoom_28 : decode cX11_noRoom 28 = .ok (.aload_n 0, 1) := by decide +kernel
theorem dX11_noRoom_29 : decode cX11_noRoom 29 = .ok (.getfield 25, 3) := by decide +kernel
theorem dX11_noRoom_32 : decode cX11_noRoom 32 = .ok (.iconst 5, 1) := by decide +kernel
theorem dX11_noRoom_33 : decode cX11_noRoom 33 = .ok (.iload_n 1, 1) := by decide +kernel
theorem dX11_noRoom_34 : decode cX11_noRoom 34 = .ok (.imul, 1) := by decide +kernel
theorem dX11_noRoom_35 : decode cX11_noRoom 35 = .ok (.iconst 2, 1) := by decide +kernel
theorem dX11_noRoom_36 : decode cX11_noRoom 36 = .ok (.iadd, 1) := by decide +kernel
theorem dX11_noRoom_37 : decode cX11_noRoom 37 = .ok (.bipush 99, 2) := by decide +kernel
theorem dX11_noRoom_39 : decode cX11_noRoom 39 = .ok (.iastore, 1) := by decide +kernel
theorem dX11_noRoom_40 : decode cX11_noRoom 40 = .ok (.aload_n 0, 1) := by decide +kernel
theorem dX11_noRoom_41 : decode cX11_noRoom 41 = .ok (.getfield 25, 3) := by decide +kernel
theorem dX11_noRoom_44 : decode cX11_noRoom 44 = .ok (.iconst 5, 1) := by decide +kernel
theorem dX11_noRoom_45 : decode cX11_noRoom 45 = .ok (.iload_n 1, 1) := by decide +kernel
theorem dX11_noRoom_46 : decode cX11_noRoom 46 = .ok (.imul, 1) := by decide +kernel
theorem dX11_noRoom_47 : decode cX11_noRoom 47 = .ok (.iconst 3, 1) := by decide +kernel
theorem dX11_noRoom_48 : decode cX11_noRoom 48 = .ok (.iadd, 1) := by decide +kernel
theorem dX11_noRoom_49 : decode cX11_noRoom 49 = .ok (.iconst 5, 1) := by decide +kernel
theorem dX11_noRoom_50 : decode cX11_noRoom 50 = .ok (.iastore, 1) := by decide +kernel
theorem dX11_noRoom_51 : decode cX11_noRoom 51 = .ok (.aload_n 0, 1) := by decide +kernel
theorem dX11_noRoom_52 : decode cX11_noRoom 52 = .ok (.getfield 25, 3) := by decide +kernel
theorem dX11_noRoom_55 : decode cX11_noRoom 55 = .ok (.iconst 5, 1) := by decide +kernel
theorem dX11_noRoom_56 : decode cX11_noRoom 56 = .ok (.iload_n 1, 1) := by decide +kernel
theorem dX11_noRoom_57 : decode cX11_noRoom 57 = .ok (.imul, 1) := by decide +kernel
theorem dX11_noRoom_58 : decode cX11_noRoom 58 = .ok (.iconst 4, 1) := by decide +kernel
theorem dX11_noRoom_59 : decode cX11_noRoom 59 = .ok (.iadd, 1) := by decide +kernel
theorem dX11_noRoom_60 : decode cX11_noRoom 60 = .ok (.bipush 50, 2) := by decide +kernel
theorem dX11_noRoom_62 : decode cX11_noRoom 62 = .ok (.iastore, 1) := by decide +kernel
theorem dX11_noRoom_63 : decode cX11_noRoom 63 = .ok (.return_, 1) := by decide +kernel
theorem dX11_write_0 : decode cX11_write 0 = .ok (.iload_n 1, 1) := by decide +kernel
theorem dX11_write_1 : decode cX11_write 1 = .ok (.i2l, 1) := by decide +kernel
theorem dX11_write_2 : decode cX11_write 2 = .ok (.lconst 1, 1) := by decide +kernel
theorem dX11_write_3 : decode cX11_write 3 = .ok (.ldc2_w 77, 3) := by decide +kernel
theorem dX11_write_6 : decode cX11_write 6 = .ok (.invokestatic 79, 3) := by decide +kernel
theorem dX11_write_9 : decode cX11_write 9 = .ok (.ifCond .ne 5, 3) := by decide +kernel
theorem dX11_write_12 : decode cX11_write 12 = .ok (.iconst (-1), 1) := by decide +kernel
theorem dX11_write_13 : decode cX11_write 13 = .ok (.ireturn, 1) := by decide +kernel
theorem dX11_write_14 : decode cX11_write 14 = .ok (.aload_n 0, 1) := by decide +kernel
theorem dX11_write_15 : decode cX11_write 15 = .ok (.getfield 83, 3) := by decide +kernel
theorem dX11_write_18 : decode cX11_write 18 = .ok (.iload_n 1, 1) := by decide +kernel
theorem dX11_write_19 : decode cX11_write 19 = .ok (.iadd, 1) := by decide +kernel
theorem dX11_write_20 : decode cX11_write 20 = .ok (.sipush 300, 3) := by decide +kernel
theorem dX11_write_23 : decode cX11_write 23 = .ok (.if_icmp .le 6, 3) := by decide +kernel
theorem dX11_write_26 : decode cX11_write 26 = .ok (.bipush (-3), 2) := by decide +kernel
theorem dX11_write_28 : decode cX11_write 28 = .ok (.ireturn, 1) := by decide +kernel
theorem dX11_write_29 : decode cX11_write 29 = .ok (.iload_n 1, 1) := by decide +kernel
theorem dX11_write_30 : decode cX11_write 30 = .ok (.iconst 1, 1) := by decide +kernel
theorem dX11_write_31 : decode cX11_write 31 = .ok (.isub, 1) := by decide +kernel
theorem dX11_write_32 : decode cX11_write 32 = .ok (.istore 4, 2) := by decide +kernel
theorem dX11_write_34 : decode cX11_write 34 = .ok (.iload 4, 2) := by decide +kernel
theorem dX11_write_36 : decode cX11_write 36 = .ok (.ifCond .lt 40, 3) := by decide +kernel
theorem dX11_write_39 : decode cX11_write 39 = .ok (.aload_n 0, 1) := by decide +kernel
theorem dX11_write_40 : decode cX11_write 40 = .ok (.getfield 7, 3) := by decide +kernel
theorem dX11_write_43 : decode cX11_write 43 = .ok (.aload_n 0, 1) := by decide +kernel
theorem dX11_write_44 : decode cX11_write 44 = .ok (.getfield 83, 3) := by decide +kernel
theorem dX11_write_47 : decode cX11_write 47 = .ok (.lload_n 2, 1) := by decide +kernel
theorem dX11_write_48 : decode cX11_write 48 = .ok (.bipush 8, 2) := by decide +kernel
theorem dX11_write_50 : decode cX11_write 50 = .ok (.iload 4, 2) := by decide +kernel
theorem dX11_write_52 : decode cX11_write 52 = .ok (.imul, 1) := by decide +kernel
theorem dX11_write_53 : decode cX11_write 53 = .ok (.lshr, 1) := by decide +kernel
theorem dX11_write_54 : decode cX11_write 54 = .ok (.ldc2_w 87, 3) := by decide +kernel
theorem dX11_write_57 : decode cX11_write 57 = .ok (.land, 1) := by decide +kernel
theorem dX11_write_58 : decode cX11_write 58 = .ok (.l2i, 1) := by decide +kernel
theorem dX11_write_59 : decode cX11_write 59 = .ok (.iastore, 1) := by decide +kernel
theorem dX11_write_60 : decode cX11_write 60 = .ok (.aload_n 0, 1) := by decide +kernel
theorem dX11_write_61 : decode cX11_write 61 = .ok (.dup, 1) := by decide +kernel
theorem dX11_write_62 : decode cX11_write 62 = .ok (.getfield 83, 3) := by decide +kernel
theorem dX11_write_65 : decode cX11_write 65 = .ok (.iconst 1, 1) := by decide +kernel
theorem dX11_write_66 : decode cX11_write 66 = .ok (.iadd, 1) := by decide +kernel
theorem dX11_write_67 : decode cX11_write 67 = .ok (.putfield 83, 3) := by decide +kernel
theorem dX11_write_70 : decode cX11_write 70 = .ok (.iinc 4 (-1), 3) := by decide +kernel
theorem dX11_write_73 : decode cX11_write 73 = .ok (.goto (-39), 3) := by decide +kernel
theorem dX11_write_76 : decode cX11_write 76 = .ok (.aload_n 0, 1) := by decide +kernel
theorem dX11_write_77 : decode cX11_write 77 = .ok (.getfield 83, 3) := by decide +kernel
theorem dX11_write_80 : decode cX11_write 80 = .ok (.ireturn, 1) := by decide +kernel
theorem dX11_wipe_0 : decode cX11_wipe 0 = .ok (.aload_n 0, 1) := by decide +kernel
theorem dX11_wipe_1 : decode cX11_wipe 1 = .ok (.getfield 83, 3) := by decide +kernel
theorem dX11_wipe_4 : decode cX11_wipe 4 = .ok (.istore_n 1, 1) := by decide +kernel
theorem dX11_wipe_5 : decode cX11_wipe 5 = .ok (.aload_n 0, 1) := by decide +kernel
theorem dX11_wipe_6 : decode cX11_wipe 6 = .ok (.iconst 0, 1) := by decide +kernel
theorem dX11_wipe_7 : decode cX11_wipe 7 = .ok (.putfield 83, 3) := by decide +kernel
theorem dX11_wipe_10 : decode cX11_wipe 10 = .ok (.iload_n 1, 1) := by decide +kernel
theorem dX11_wipe_11 : decode cX11_wipe 11 = .ok (.ireturn, 1) := by decide +kernel
theorem dX11_byteAt_0 : decode cX11_byteAt 0 = .ok (.iload_n 1, 1) := by decide +kernel
theorem dX11_byteAt_1 : decode cX11_byteAt 1 = .ok (.aload_n 0, 1) := by decide +kernel
theorem dX11_byteAt_2 : decode cX11_byteAt 2 = .ok (.getfield 83, 3) := by decide +kernel
theorem dX11_byteAt_5 : decode cX11_byteAt 5 = .ok (.if_icmp .ge 12, 3) := by decide +kernel
theorem dX11_byteAt_8 : decode cX11_byteAt 8 = .ok (.aload_n 0, 1) := by decide +kernel
theorem dX11_byteAt_9 : decode cX11_byteAt 9 = .ok (.getfield 7, 3) := by decide +kernel
theorem dX11_byteAt_12 : decode cX11_byteAt 12 = .ok (.iload_n 1, 1) := by decide +kernel
theorem dX11_byteAt_13 : decode cX11_byteAt 13 = .ok (.iaload, 1) := by decide +kernel
theorem dX11_byteAt_14 : decode cX11_byteAt 14 = .ok (.goto 4, 3) := by decide +kernel
theorem dX11_byteAt_17 : decode cX11_byteAt 17 = .ok (.iconst 0, 1) := by decide +kernel
theorem dX11_byteAt_18 : decode cX11_byteAt 18 = .ok (.ireturn, 1) := by decide +kernel
theorem dX11_figures_0 : decode cX11_figures 0 = .ok (.iconst 0, 1) := by decide +kernel
theorem dX11_figures_1 : decode cX11_figures 1 = .ok (.istore_n 2, 1) := by decide +kernel
theorem dX11_figures_2 : decode cX11_figures 2 = .ok (.iload_n 2, 1) := by decide +kernel
theorem dX11_figures_3 : decode cX11_figures 3 = .ok (.iload_n 1, 1) := by decide +kernel
theorem dX11_figures_4 : decode cX11_figures 4 = .ok (.if_icmp .ge 132, 3) := by decide +kernel
theorem dX11_figures_7 : decode cX11_figures 7 = .ok (.iconst 0, 1) := by decide +kernel
theorem dX11_figures_8 : decode cX11_figures 8 = .ok (.istore_n 3, 1) := by decide +kernel
theorem dX11_figures_9 : decode cX11_figures 9 = .ok (.iconst 0, 1) := by decide +kernel
theorem dX11_figures_10 : decode cX11_figures 10 = .ok (.istore 4, 2) := by decide +kernel
theorem dX11_figures_12 : decode cX11_figures 12 = .ok (.aload_n 0, 1) := by decide +kernel
theorem dX11_figures_13 : decode cX11_figures 13 = .ok (.aload_n 0, 1) := by decide +kernel
theorem dX11_figures_14 : decode cX11_figures 14 = .ok (.getfield 89, 3) := by decide +kernel
theorem dX11_figures_17 : decode cX11_figures 17 = .ok (.invokevirtual 92, 3) := by decide +kernel
theorem dX11_figures_20 : decode cX11_figures 20 = .ok (.i2l, 1) := by decide +kernel
theorem dX11_figures_21 : decode cX11_figures 21 = .ok (.ldc2_w 96, 3) := by decide +kernel
theorem dX11_figures_24 : decode cX11_figures 24 = .ok (.ldc2_w 98, 3) := by decide +kernel
theorem dX11_figures_27 : decode cX11_figures 27 = .ok (.invokestatic 79, 3) := by decide +kernel
theorem dX11_figures_30 : decode cX11_figures 30 = .ok (.ifCond .eq 43, 3) := by decide +kernel
theorem dX11_figures_33 : decode cX11_figures 33 = .ok (.iload_n 3, 1) := by decide +kernel
theorem dX11_figures_34 : decode cX11_figures 34 = .ok (.iconst 4, 1) := by decide +kernel
theorem dX11_figures_35 : decode cX11_figures 35 = .ok (.if_icmp .ge 38, 3) := by decide +kernel
theorem dX11_figures_38 : decode cX11_figures 38 = .ok (.bipush 10, 2) := by decide +kernel
theorem dX11_figures_40 : decode cX11_figures 40 = .ok (.iload 4, 2) := by decide +kernel
theorem dX11_figures_42 : decode cX11_figures 42 = .ok (.imul, 1) := by decide +kernel
theorem dX11_figures_43 : decode cX11_figures 43 = .ok (.aload_n 0, 1) := by decide +kernel
theorem dX11_figures_44 : decode cX11_figures 44 = .ok (.aload_n 0, 1) := by decide +kernel
theorem dX11_figures_45 : decode cX11_figures 45 = .ok (.getfield 89, 3) := by decide +kernel
theorem dX11_figures_48 : decode cX11_figures 48 = .ok (.invokevirtual 92, 3) := by decide +kernel
theorem dX11_figures_51 : decode cX11_figures 51 = .ok (.iadd, 1) := by decide +kernel
theorem dX11_figures_52 : decode cX11_figures 52 = .ok (.bipush 48, 2) := by decide +kernel
theorem dX11_figures_54 : decode cX11_figures 54 = .ok (.isub, 1) := by decide +kernel
theorem dX11_figures_55 : decode cX11_figures 55 = .ok (.istore 4, 2) := by decide +kernel
theorem dX11_figures_57 : decode cX11_figures 57 = .ok (.iinc 3 1, 3) := by decide +kernel
theorem dX11_figures_60 : decode cX11_figures 60 = .ok (.aload_n 0, 1) := by decide +kernel
theorem dX11_figures_61 : decode cX11_figures 61 = .ok (.dup, 1) := by decide +kernel
theorem dX11_figures_62 : decode cX11_figures 62 = .ok (.getfield 89, 3) := by decide +kernel
theorem dX11_figures_65 : decode cX11_figures 65 = .ok (.iconst 1, 1) := by decide +kernel
theorem dX11_figures_66 : decode cX11_figures 66 = .ok (.iadd, 1) := by decide +kernel
theorem dX11_figures_67 : decode cX11_figures 67 = .ok (.putfield 89, 3) := by decide +kernel
theorem dX11_figures_70 : decode cX11_figures 70 = .ok (.goto (-58), 3) := by decide +kernel
theorem dX11_figures_73 : decode cX11_figures 73 = .ok (.iload_n 3, 1) := by decide +kernel
theorem dX11_figures_74 : decode cX11_figures 74 = .ok (.i2l, 1) := by decide +kernel
theorem dX11_figures_75 : decode cX11_figures 75 = .ok (.lconst 1, 1) := by decide +kernel
theorem dX11_figures_76 : decode cX11_figures 76 = .ok (.ldc2_w 100, 3) := by decide +kernel
theorem dX11_figures_79 : decode cX11_figures 79 = .ok (.invokestatic 79, 3) := by decide +kernel
theorem dX11_figures_82 : decode cX11_figures 82 = .ok (.ifCond .eq 28, 3) := by decide +kernel
theorem dX11_figures_85 : decode cX11_figures 85 = .ok (.aload_n 0, 1) := by decide +kernel
theorem dX11_figures_86 : decode cX11_figures 86 = .ok (.aload_n 0, 1) := by decide +kernel
theorem dX11_figures_87 : decode cX11_figures 87 = .ok (.getfield 89, 3) := by decide +kernel
theorem dX11_figures_90 : decode cX11_figures 90 = .ok (.invokevirtual 92, 3) := by decide +kernel
theorem dX11_figures_93 : decode cX11_figures 93 = .ok (.iload_n 2, 1) := by decide +kernel
theorem dX11_figures_94 : decode cX11_figures 94 = .ok (.iload_n 1, 1) := by decide +kernel
theorem dX11_figures_95 : decode cX11_figures 95 = .ok (.iconst 1, 1) := by decide +kernel
theorem dX11_figures_96 : decode cX11_figures 96 = .ok (.isub, 1) := by decide +kernel
theorem dX11_figures_97 : decode cX11_figures 97 = .ok (.if_icmp .ge 8, 3) := by decide +kernel
theorem dX11_figures_100 : decode cX11_figures 100 = .ok (.bipush 44, 2) := by decide +kernel
theorem dX11_figures_102 : decode cX11_figures 102 = .ok (.goto 5, 3) := by decide +kernel
theorem dX11_figures_105 : decode cX11_figures 105 = .ok (.bipush 59, 2) := by decide +kernel
theorem dX11_figures_107 : decode cX11_figures 107 = .ok (.if_icmp .eq 5, 3) := by decide +kernel
theorem dX11_figures_110 : decode cX11_figures 110 = .ok (.iconst 0, 1) := by decide +kernel
theorem dX11_figures_111 : decode cX11_figures 111 = .ok (.ireturn, 1) := by decide +kernel
theorem dX11_figures_112 : decode cX11_figures 112 = .ok (.aload_n 0, 1) := by decide +kernel
theorem dX11_figures_113 : decode cX11_figures 113 = .ok (.getfield 46, 3) := by decide +kernel
theorem dX11_figures_116 : decode cX11_figures 116 = .ok (.iload_n 2, 1) := by decide +kernel
theorem dX11_figures_117 : decode cX11_figures 117 = .ok (.iload 4, 2) := by decide +kernel
theorem dX11_figures_119 : decode cX11_figures 119 = .ok (.iastore, 1) := by decide +kernel
theorem dX11_figures_120 : decode cX11_figures 120 = .ok (.aload_n 0, 1) := by decide +kernel
theorem dX11_figures_121 : decode cX11_figures 121 = .ok (.dup, 1) := by decide +kernel
theorem dX11_figures_122 : decode cX11_figures 122 = .ok (.getfield 89, 3) := by decide +kernel
theorem dX11_figures_125 : decode cX11_figures 125 = .ok (.iconst 1, 1) := by decide +kernel
theorem dX11_figures_126 : decode cX11_figures 126 = .ok (.iadd, 1) := by decide +kernel
theorem dX11_figures_127 : decode cX11_figures 127 = .ok (.putfield 89, 3) := by decide +kernel
theorem dX11_figures_130 : decode cX11_figures 130 = .ok (.iinc 2 1, 3) := by decide +kernel
theorem dX11_figures_133 : decode cX11_figures 133 = .ok (.goto (-131), 3) := by decide +kernel
theorem dX11_figures_136 : decode cX11_figures 136 = .ok (.iconst 1, 1) := by decide +kernel
theorem dX11_figures_137 : decode cX11_figures 137 = .ok (.ireturn, 1) := by decide +kernel
theorem dX11_readMany_0 : decode cX11_readMany 0 = .ok (.iconst 0, 1) := by decide +kernel
theorem dX11_readMany_1 : decode cX11_readMany 1 = .ok (.istore_n 2, 1) := by decide +kernel
theorem dX11_readMany_2 : decode cX11_readMany 2 = .ok (.iconst 0, 1) := by decide +kernel
theorem dX11_readMany_3 : decode cX11_readMany 3 = .ok (.istore_n 3, 1) := by decide +kernel
theorem dX11_readMany_4 : decode cX11_readMany 4 = .ok (.iload_n 3, 1) := by decide +kernel
theorem dX11_readMany_5 : decode cX11_readMany 5 = .ok (.aload_n 0, 1) := by decide +kernel
theorem dX11_readMany_6 : decode cX11_readMany 6 = .ok (.getfield 13, 3) := by decide +kernel
theorem dX11_readMany_9 : decode cX11_readMany 9 = .ok (.iconst 1, 1) := by decide +kernel
theorem dX11_readMany_10 : decode cX11_readMany 10 = .ok (.iaload, 1) := by decide +kernel
theorem dX11_readMany_11 : decode cX11_readMany 11 = .ok (.if_icmp .ge 30, 3) := by decide +kernel
theorem dX11_readMany_14 : decode cX11_readMany 14 = .ok (.iload_n 2, 1) := by decide +kernel
theorem dX11_readMany_15 : decode cX11_readMany 15 = .ok (.aload_n 0, 1) := by decide +kernel
theorem dX11_readMany_16 : decode cX11_readMany 16 = .ok (.getfield 16, 3) := by decide +kernel
theorem dX11_readMany_19 : decode cX11_readMany 19 = .ok (.bipush 20, 2) := by decide +kernel
theorem dX11_readMany_21 : decode cX11_readMany 21 = .ok (.iload_n 3, 1) := by decide +kernel
theorem dX11_readMany_22 : decode cX11_readMany 22 = .ok (.iadd, 1) := by decide +kernel
theorem dX11_readMany_23 : decode cX11_readMany 23 = .ok (.iaload, 1) := by decide +kernel
theorem dX11_readMany_24 : decode cX11_readMany 24 = .ok (.iload_n 1, 1) := by decide +kernel
theorem dX11_readMany_25 : decode cX11_readMany 25 = .ok (.if_icmp .ne 7, 3) := by decide +kernel
theorem dX11_readMany_28 : decode cX11_readMany 28 = .ok (.iconst 1, 1) := by decide +kernel
theorem dX11_readMany_29 : decode cX11_readMany 29 = .ok (.goto 4, 3) := by decide +kernel
theorem dX11_readMany_32 : decode cX11_readMany 32 = .ok (.iconst 0, 1) := by decide +kernel
theorem dX11_readMany_33 : decode cX11_readMany 33 = .ok (.iadd, 1) := by decide +kernel
theorem dX11_readMany_34 : decode cX11_readMany 34 = .ok (.istore_n 2, 1) := by decide +kernel
theorem dX11_readMany_35 : decode cX11_readMany 35 = .ok (.iinc 3 1, 3) := by decide +kernel
theorem dX11_readMany_38 : decode cX11_readMany 38 = .ok (.goto (-34), 3) := by decide +kernel
theorem dX11_readMany_41 : decode cX11_readMany 41 = .ok (.iload_n 2, 1) := by decide +kernel
theorem dX11_readMany_42 : decode cX11_readMany 42 = .ok (.ireturn, 1) := by decide +kernel
theorem dX11_personItem_0 : decode cX11_personItem 0 = .ok (.aload_n 0, 1) := by decide +kernel
theorem dX11_personItem_1 : decode cX11_personItem 1 = .ok (.iconst 2, 1) := by decide +kernel
theorem dX11_personItem_2 : decode cX11_personItem 2 = .ok (.invokevirtual 102, 3) := by decide +kernel
theorem dX11_personItem_5 : decode cX11_personItem 5 = .ok (.ifCond .eq 34, 3) := by decide +kernel
theorem dX11_personItem_8 : decode cX11_personItem 8 = .ok (.aload_n 0, 1) := by decide +kernel
theorem dX11_personItem_9 : decode cX11_personItem 9 = .ok (.iload_n 1, 1) := by decide +kernel
theorem dX11_personItem_10 : decode cX11_personItem 10 = .ok (.invokevirtual 106, 3) := by decide +kernel
theorem dX11_personItem_13 : decode cX11_personItem 13 = .ok (.bipush 10, 2) := by decide +kernel
theorem dX11_personItem_15 : decode cX11_personItem 15 = .ok (.if_icmp .eq 24, 3) := by decide +kernel
theorem dX11_personItem_18 : decode cX11_personItem 18 = .ok (.aload_n 0, 1) := by decide +kernel
theorem dX11_personItem_19 : decode cX11_personItem 19 = .ok (.getfield 46, 3) := by decide +kernel
theorem dX11_personItem_22 : decode cX11_personItem 22 = .ok (.iconst 0, 1) := by decide +kernel
theorem dX11_personItem_23 : decode cX11_personItem 23 = .ok (.iaload, 1) := by decide +kernel
theorem dX11_personItem_24 : decode cX11_personItem 24 = .ok (.bipush 99, 2) := by decide +kernel
theorem dX11_personItem_26 : decode cX11_personItem 26 = .ok (.if_icmp .gt 13, 3) := by decide +kernel
theorem dX11_personItem_29 : decode cX11_personItem 29 = .ok (.aload_n 0, 1) := by decide +kernel
theorem dX11_personItem_30 : decode cX11_personItem 30 = .ok (.getfield 46, 3) := by decide +kernel
theorem dX11_personItem_33 : decode cX11_personItem 33 = .ok (.iconst 1, 1) := by decide +kernel
theorem dX11_personItem_34 : decode cX11_personItem 34 = .ok (.iaload, 1) := by decide +kernel
theorem dX11_personItem_35 : decode cX11_personItem 35 = .ok (.iconst 5, 1) := by decide +kernel
theorem dX11_personItem_36 : decode cX11_personItem 36 = .ok (.if_icmp .le 5, 3) := by decide +kernel
theorem dX11_personItem_39 : decode cX11_personItem 39 = .ok (.iconst 0, 1) := by decide +kernel
theorem dX11_personItem_40 : decode cX11_personItem 40 = .ok (.ireturn, 1) := by decide +kernel
theorem dX11_personItem_41 : decode cX11_personItem 41 = .ok (.aload_n 0, 1) := by decide +kernel
theorem dX11_personItem_42 : decode cX11_personItem 42 = .ok (.getfield 16, 3) := by decide +kernel
theorem dX11_personItem_45 : decode cX11_personItem 45 = .ok (.bipush 20, 2) := by decide +kernel
theorem dX11_personItem_47 : decode cX11_personItem 47 = .ok (.aload_n 0, 1) := by decide +kernel
theorem dX11_personItem_48 : decode cX11_personItem 48 = .ok (.getfield 13, 3) := by decide +kernel
theorem dX11_personItem_51 : decode cX11_personItem 51 = .ok (.iconst 1, 1) := by decide +kernel
theorem dX11_personItem_52 : decode cX11_personItem 52 = .ok (.iaload, 1) := by decide +kernel
theorem dX11_personItem_53 : decode cX11_personItem 53 = .ok (.iadd, 1) := by decide +kernel
theorem dX11_personItem_54 : decode cX11_personItem 54 = .ok (.iload_n 1, 1) := by decide +kernel
theorem dX11_personItem_55 : decode cX11_personItem 55 = .ok (.iastore, 1) := by decide +kernel
theorem dX11_personItem_56 : decode cX11_personItem 56 = .ok (.aload_n 0, 1) := by decide +kernel
theorem dX11_personItem_57 : decode cX11_personItem 57 = .ok (.getfield 19, 3) := by decide +kernel
theorem dX11_personItem_60 : decode cX11_personItem 60 = .ok (.bipush 20, 2) := by decide +kernel
theorem dX11_personItem_62 : decode cX11_personItem 62 = .ok (.aload_n 0, 1) := by decide +kernel
theorem dX11_personItem_63 : decode cX11_personItem 63 = .ok (.getfield 13, 3) := by decide +kernel
theorem dX11_personItem_66 : decode cX11_personItem 66 = .ok (.iconst 1, 1) := by decide +kernel
theorem dX11_personItem_67 : decode cX11_personItem 67 = .ok (.iaload, 1) := by decide +kernel
theorem dX11_personItem_68 : decode cX11_personItem 68 = .ok (.iadd, 1) := by decide +kernel
theorem dX11_personItem_69 : decode cX11_personItem 69 = .ok (.aload_n 0, 1) := by decide +kernel
theorem dX11_personItem_70 : decode cX11_personItem 70 = .ok (.getfield 46, 3) := by decide +kernel
theorem dX11_personItem_73 : decode cX11_personItem 73 = .ok (.iconst 0, 1) := by decide +kernel
theorem dX11_personItem_74 : decode cX11_personItem 74 = .ok (.iaload, 1) := by decide +kernel
theorem dX11_personItem_75 : decode cX11_personItem 75 = .ok (.iastore, 1) := by decide +kernel
theorem dX11_personItem_76 : decode cX11_personItem 76 = .ok (.aload_n 0, 1) := by decide +kernel
theorem dX11_personItem_77 : decode cX11_personItem 77 = .ok (.getfield 22, 3) := by decide +kernel
theorem dX11_personItem_80 : decode cX11_personItem 80 = .ok (.bipush 20, 2) := by decide +kernel
theorem dX11_personItem_82 : decode cX11_personItem 82 = .ok (.aload_n 0, 1) := by decide +kernel
theorem dX11_personItem_83 : decode cX11_personItem 83 = .ok (.getfield 13, 3) := by decide +kernel
theorem dX11_personItem_86 : decode cX11_personItem 86 = .ok (.iconst 1, 1) := by decide +kernel
theorem dX11_personItem_87 : decode cX11_personItem 87 = .ok (.iaload, 1) := by decide +kernel
theorem dX11_personItem_88 : decode cX11_personItem 88 = .ok (.iadd, 1) := by decide +kernel
theorem dX11_personItem_89 : decode cX11_personItem 89 = .ok (.aload_n 0, 1) := by decide +kernel
theorem dX11_personItem_90 : decode cX11_personItem 90 = .ok (.getfield 46, 3) := by decide +kernel
theorem dX11_personItem_93 : decode cX11_personItem 93 = .ok (.iconst 1, 1) := by decide +kernel
theorem dX11_personItem_94 : decode cX11_personItem 94 = .ok (.iaload, 1) := by decide +kernel
theorem dX11_personItem_95 : decode cX11_personItem 95 = .ok (.iastore, 1) := by decide +kernel
theorem dX11_personItem_96 : decode cX11_personItem 96 = .ok (.aload_n 0, 1) := by decide +kernel
theorem dX11_personItem_97 : decode cX11_personItem 97 = .ok (.getfield 13, 3) := by decide +kernel
theorem dX11_personItem_100 : decode cX11_personItem 100 = .ok (.iconst 1, 1) := by decide +kernel
theorem dX11_personItem_101 : decode cX11_personItem 101 = .ok (.dup2, 1) := by decide +kernel
theorem dX11_personItem_102 : decode cX11_personItem 102 = .ok (.iaload, 1) := by decide +kernel
theorem dX11_personItem_103 : decode cX11_personItem 103 = .ok (.iconst 1, 1) := by decide +kernel
theorem dX11_personItem_104 : decode cX11_personItem 104 = .ok (.iadd, 1) := by decide +kernel
theorem dX11_personItem_105 : decode cX11_personItem 105 = .ok (.iastore, 1) := by decide +kernel
theorem dX11_personItem_106 : decode cX11_personItem 106 = .ok (.iconst 1, 1) := by decide +kernel
theorem dX11_personItem_107 : decode cX11_personItem 107 = .ok (.ireturn, 1) := by decide +kernel
theorem dX11_numberItem_0 : decode cX11_numberItem 0 = .ok (.aload_n 0, 1) := by decide +kernel
theorem dX11_numberItem_1 : decode cX11_numberItem 1 = .ok (.iconst 1, 1) := by decide +kernel
theorem dX11_numberItem_2 : decode cX11_numberItem 2 = .ok (.invokevirtual 102, 3) := by decide +kernel
theorem dX11_numberItem_5 : decode cX11_numberItem 5 = .ok (.ifCond .eq 20, 3) := by decide +kernel
theorem dX11_numberItem_8 : decode cX11_numberItem 8 = .ok (.aload_n 0, 1) := by decide +kernel
theorem dX11_numberItem_9 : decode cX11_numberItem 9 = .ok (.getfield 46, 3) := by decide +kernel
theorem dX11_numberItem_12 : decode cX11_numberItem 12 = .ok (.iconst 0, 1) := by decide +kernel
theorem dX11_numberItem_13 : decode cX11_numberItem 13 = .ok (.iaload, 1) := by decide +kernel
theorem dX11_numberItem_14 : decode cX11_numberItem 14 = .ok (.i2l, 1) := by decide +kernel
theorem dX11_numberItem_15 : decode cX11_numberItem 15 = .ok (.iload_n 2, 1) := by decide +kernel
theorem dX11_numberItem_16 : decode cX11_numberItem 16 = .ok (.i2l, 1) := by decide +kernel
theorem dX11_numberItem_17 : decode cX11_numberItem 17 = .ok (.iload_n 3, 1) := by decide +kernel
theorem dX11_numberItem_18 : decode cX11_numberItem 18 = .ok (.i2l, 1) := by decide +kernel
theorem dX11_numberItem_19 : decode cX11_numberItem 19 = .ok (.invokestatic 79, 3) := by decide +kernel
theorem dX11_numberItem_22 : decode cX11_numberItem 22 = .ok (.ifCond .ne 5, 3) := by decide +kernel
theorem dX11_numberItem_25 : decode cX11_numberItem 25 = .ok (.iconst 0, 1) := by decide +kernel
theorem dX11_numberItem_26 : decode cX11_numberItem 26 = .ok (.ireturn, 1) := by decide +kernel
theorem dX11_numberItem_27 : decode cX11_numberItem 27 = .ok (.aload_n 0, 1) := by decide +kernel
theorem dX11_numberItem_28 : decode cX11_numberItem 28 = .ok (.getfield 25, 3) := by decide +kernel
theorem dX11_numberItem_31 : decode cX11_numberItem 31 = .ok (.iconst 5, 1) := by decide +kernel
theorem dX11_numberItem_32 : decode cX11_numberItem 32 = .ok (.iload_n 1, 1) := by decide +kernel
theorem dX11_numberItem_33 : decode cX11_numberItem 33 = .ok (.iadd, 1) := by decide +kernel
theorem dX11_numberItem_34 : decode cX11_numberItem 34 = .ok (.aload_n 0, 1) := by decide +kernel
theorem dX11_numberItem_35 : decode cX11_numberItem 35 = .ok (.getfield 46, 3) := by decide +kernel
theorem dX11_numberItem_38 : decode cX11_numberItem 38 = .ok (.iconst 0, 1) := by decide +kernel
theorem dX11_numberItem_39 : decode cX11_numberItem 39 = .ok (.iaload, 1) := by decide +kernel
theorem dX11_numberItem_40 : decode cX11_numberItem 40 = .ok (.iastore, 1) := by decide +kernel
theorem dX11_numberItem_41 : decode cX11_numberItem 41 = .ok (.iconst 1, 1) := by decide +kernel
theorem dX11_numberItem_42 : decode cX11_numberItem 42 = .ok (.ireturn, 1) := by decide +kernel
theorem dX11_item_0 : decode cX11_item 0 = .ok (.aload_n 0, 1) := by decide +kernel
theorem dX11_item_1 : decode cX11_item 1 = .ok (.aload_n 0, 1) := by decide +kernel
theorem dX11_item_2 : decode cX11_item 2 = .ok (.getfield 89, 3) := by decide +kernel
theorem dX11_item_5 : decode cX11_item 5 = .ok (.invokevirtual 92, 3) := by decide +kernel
theorem dX11_item_8 : decode cX11_item 8 = .ok (.istore_n 1, 1) := by decide +kernel
theorem dX11_item_9 : decode cX11_item 9 = .ok (.aload_n 0, 1) := by decide +kernel
theorem dX11_item_10 : decode cX11_item 10 = .ok (.dup, 1) := by decide +kernel
theorem dX11_item_11 : decode cX11_item 11 = .ok (.getfield 89, 3) := by decide +kernel
theorem dX11_item_14 : decode cX11_item 14 = .ok (.iconst 1, 1) := by decide +kernel
theorem dX11_item_15 : decode cX11_item 15 = .ok (.iadd, 1) := by decide +kernel
theorem dX11_item_16 : decode cX11_item 16 = .ok (.putfield 89, 3) := by decide +kernel
theorem dX11_item_19 : decode cX11_item 19 = .ok (.iload_n 1, 1) := by decide +kernel
theorem dX11_item_20 : decode cX11_item 20 = .ok (.tableswitch 162 99 120 #[110, 162, 162, 162, 162, 153, 162, 162, 162, 135, 162, 116, 162, 162, 162, 162, 162, 126, 162, 104, 162, 144], 104) := by decide +kernel
theorem dX11_item_124 : decode cX11_item 124 = .ok (.aload_n 0, 1) := by decide +kernel
theorem dX11_item_125 : decode cX11_item 125 = .ok (.iconst 0, 1) := by decide +kernel
theorem dX11_item_126 : decode cX11_item 126 = .ok (.invokevirtual 109, 3) := by decide +kernel
theorem dX11_item_129 : decode cX11_item 129 = .ok (.ireturn, 1) := by decide +kernel
theorem dX11_item_130 : decode cX11_item 130 = .ok (.aload_n 0, 1) := by decide +kernel
theorem dX11_item_131 : decode cX11_item 131 = .ok (.iconst 1, 1) := by decide +kernel
theorem dX11_item_132 : decode cX11_item 132 = .ok (.invokevirtual 109, 3) := by decide +kernel
theorem dX11_item_135 : decode cX11_item 135 = .ok (.ireturn, 1) := by decide +kernel
theorem dX11_item_136 : decode cX11_item 136 = .ok (.aload_n 0, 1) := by decide +kernel
theorem dX11_item_137 : decode cX11_item 137 = .ok (.iconst 0, 1) := by decide +kernel
theorem dX11_item_138 : decode cX11_item 138 = .ok (.iconst 1, 1) := by decide +kernel
theorem dX11_item_139 : decode cX11_item 139 = .ok (.sipush 200, 3) := by decide +kernel
theorem dX11_item_142 : decode cX11_item 142 = .ok (.invokevirtual 112, 3) := by decide +kernel
theorem dX11_item_145 : decode cX11_item 145 = .ok (.ireturn, 1) := by decide +kernel
theorem dX11_item_146 : decode cX11_item 146 = .ok (.aload_n 0, 1) := by decide +kernel
theorem dX11_item_147 : decode cX11_item 147 = .ok (.iconst 1, 1) := by decide +kernel
theorem dX11_item_148 : decode cX11_item 148 = .ok (.iconst 0, 1) := by decide +kernel
theorem dX11_item_149 : decode cX11_item 149 = .ok (.bipush 50, 2) := by decide +kernel
theorem dX11_item_151 : decode cX11_item 151 = .ok (.invokevirtual 112, 3) := by decide +kernel
theorem dX11_item_154 : decode cX11_item 154 = .ok (.ireturn, 1) := by decide +kernel
theorem dX11_item_155 : decode cX11_item 155 = .ok (.aload_n 0, 1) := by decide +kernel
theorem dX11_item_156 : decode cX11_item 156 = .ok (.iconst 2, 1) := by decide +kernel
theorem dX11_item_157 : decode cX11_item 157 = .ok (.iconst 0, 1) := by decide +kernel
theorem dX11_item_158 : decode cX11_item 158 = .ok (.bipush 99, 2) := by decide +kernel
theorem dX11_item_160 : decode cX11_item 160 = .ok (.invokevirtual 112, 3) := by decide +kernel
theorem dX11_item_163 : decode cX11_item 163 = .ok (.ireturn, 1) := by decide +kernel
theorem dX11_item_164 : decode cX11_item 164 = .ok (.aload_n 0, 1) := by decide +kernel
theorem dX11_item_165 : decode cX11_item 165 = .ok (.iconst 3, 1) := by decide +kernel
theorem dX11_item_166 : decode cX11_item 166 = .ok (.iconst 0, 1) := by decide +kernel
theorem dX11_item_167 : decode cX11_item 167 = .ok (.bipush 50, 2) := by decide +kernel
theorem dX11_item_169 : decode cX11_item 169 = .ok (.invokevirtual 112, 3) := by decide +kernel
theorem dX11_item_172 : decode cX11_item 172 = .ok (.ireturn, 1) := by decide +kernel
theorem dX11_item_173 : decode cX11_item 173 = .ok (.aload_n 0, 1) := by decide +kernel
theorem dX11_item_174 : decode cX11_item 174 = .ok (.iconst 4, 1) := by decide +kernel
theorem dX11_item_175 : decode cX11_item 175 = .ok (.iconst 0, 1) := by decide +kernel
theorem dX11_item_176 : decode cX11_item 176 = .ok (.bipush 99, 2) := by decide +kernel
theorem dX11_item_178 : decode cX11_item 178 = .ok (.invokevirtual 112, 3) := by decide +kernel
theorem dX11_item_181 : decode cX11_item 181 = .ok (.ireturn, 1) := by decide +kernel
theorem dX11_item_182 : decode cX11_item 182 = .ok (.iconst 0, 1) := by decide +kernel
theorem dX11_item_183 : decode cX11_item 183 = .ok (.ireturn, 1) := by decide +kernel
theorem dX11_readAll_0 : decode cX11_readAll 0 = .ok (.aload_n 0, 1) := by decide +kernel
theorem dX11_readAll_1 : decode cX11_readAll 1 = .ok (.iconst 1, 1) := by decide +kernel
theorem dX11_readAll_2 : decode cX11_readAll 2 = .ok (.invokevirtual 73, 3) := by decide +kernel
theorem dX11_readAll_5 : decode cX11_readAll 5 = .ok (.aload_n 0, 1) := by decide +kernel
theorem dX11_readAll_6 : decode cX11_readAll 6 = .ok (.iconst 0, 1) := by decide +kernel
theorem dX11_readAll_7 : decode cX11_readAll 7 = .ok (.putfield 89, 3) := by decide +kernel
theorem dX11_readAll_10 : decode cX11_readAll 10 = .ok (.aload_n 0, 1) := by decide +kernel
theorem dX11_readAll_11 : decode cX11_readAll 11 = .ok (.getfield 89, 3) := by decide +kernel
theorem dX11_readAll_14 : decode cX11_readAll 14 = .ok (.aload_n 0, 1) := by decide +kernel
theorem dX11_readAll_15 : decode cX11_readAll 15 = .ok (.getfield 83, 3) := by decide +kernel
theorem dX11_readAll_18 : decode cX11_readAll 18 = .ok (.if_icmp .ge 20, 3) := by decide +kernel
theorem dX11_readAll_21 : decode cX11_readAll 21 = .ok (.aload_n 0, 1) := by decide +kernel
theorem dX11_readAll_22 : decode cX11_readAll 22 = .ok (.getfield 89, 3) := by decide +kernel
theorem dX11_readAll_25 : decode cX11_readAll 25 = .ok (.istore_n 1, 1) := by decide +kernel
theorem dX11_readAll_26 : decode cX11_readAll 26 = .ok (.aload_n 0, 1) := by decide +kernel
theorem dX11_readAll_27 : decode cX11_readAll 27 = .ok (.invokevirtual 116, 3) := by decide +kernel
theorem dX11_readAll_30 : decode cX11_readAll 30 = .ok (.ifCond .ne 5, 3) := by decide +kernel
theorem dX11_readAll_33 : decode cX11_readAll 33 = .ok (.iload_n 1, 1) := by decide +kernel
theorem dX11_readAll_34 : decode cX11_readAll 34 = .ok (.ireturn, 1) := by decide +kernel
theorem dX11_readAll_35 : decode cX11_readAll 35 = .ok (.goto (-25), 3) := by decide +kernel
theorem dX11_readAll_38 : decode cX11_readAll 38 = .ok (.bipush (-4), 2) := by decide +kernel
theorem dX11_readAll_40 : decode cX11_readAll 40 = .ok (.ireturn, 1) := by decide +kernel
theorem dX11_fault_0 : decode cX11_fault 0 = .ok (.aload_n 0, 1) := by decide +kernel
theorem dX11_fault_1 : decode cX11_fault 1 = .ok (.invokevirtual 120, 3) := by decide +kernel
theorem dX11_fault_4 : decode cX11_fault 4 = .ok (.ireturn, 1) := by decide +kernel
theorem dX11_lay_0 : decode cX11_lay 0 = .ok (.aload_n 0, 1) := by decide +kernel
theorem dX11_lay_1 : decode cX11_lay 1 = .ok (.invokevirtual 120, 3) := by decide +kernel
theorem dX11_lay_4 : decode cX11_lay 4 = .ok (.bipush (-4), 2) := by decide +kernel
theorem dX11_lay_6 : decode cX11_lay 6 = .ok (.if_icmp .ne 19, 3) := by decide +kernel
theorem dX11_lay_9 : decode cX11_lay 9 = .ok (.aload_n 0, 1) := by decide +kernel
theorem dX11_lay_10 : decode cX11_lay 10 = .ok (.iconst 0, 1) := by decide +kernel
theorem dX11_lay_11 : decode cX11_lay 11 = .ok (.invokevirtual 106, 3) := by decide +kernel
theorem dX11_lay_14 : decode cX11_lay 14 = .ok (.ifCond .eq 11, 3) := by decide +kernel
theorem dX11_lay_17 : decode cX11_lay 17 = .ok (.aload_n 0, 1) := by decide +kernel
theorem dX11_lay_18 : decode cX11_lay 18 = .ok (.iconst 1, 1) := by decide +kernel
theorem dX11_lay_19 : decode cX11_lay 19 = .ok (.invokevirtual 106, 3) := by decide +kernel
theorem dX11_lay_22 : decode cX11_lay 22 = .ok (.ifCond .ne 6, 3) := by decide +kernel
theorem dX11_lay_25 : decode cX11_lay 25 = .ok (.bipush (-2), 2) := by decide +kernel
theorem dX11_lay_27 : decode cX11_lay 27 = .ok (.ireturn, 1) := by decide +kernel
theorem dX11_lay_28 : decode cX11_lay 28 = .ok (.aload_n 0, 1) := by decide +kernel
theorem dX11_lay_29 : decode cX11_lay 29 = .ok (.getfield 13, 3) := by decide +kernel
theorem dX11_lay_32 : decode cX11_lay 32 = .ok (.iconst 0, 1) := by decide +kernel
theorem dX11_lay_33 : decode cX11_lay 33 = .ok (.aload_n 0, 1) := by decide +kernel
theorem dX11_lay_34 : decode cX11_lay 34 = .ok (.getfield 13, 3) := by decide +kernel
theorem dX11_lay_37 : decode cX11_lay 37 = .ok (.iconst 1, 1) := by decide +kernel
theorem dX11_lay_38 : decode cX11_lay 38 = .ok (.iaload, 1) := by decide +kernel
theorem dX11_lay_39 : decode cX11_lay 39 = .ok (.iastore, 1) := by decide +kernel
theorem dX11_lay_40 : decode cX11_lay 40 = .ok (.iconst 0, 1) := by decide +kernel
theorem dX11_lay_41 : decode cX11_lay 41 = .ok (.istore_n 1, 1) := by decide +kernel
theorem dX11_lay_42 : decode cX11_lay 42 = .ok (.iload_n 1, 1) := by decide +kernel
theorem dX11_lay_43 : decode cX11_lay 43 = .ok (.bipush 20, 2) := by decide +kernel
theorem dX11_lay_45 : decode cX11_lay 45 = .ok (.if_icmp .ge 54, 3) := by decide +kernel
theorem dX11_lay_48 : decode cX11_lay 48 = .ok (.aload_n 0, 1) := by decide +kernel
theorem dX11_lay_49 : decode cX11_lay 49 = .ok (.getfield 16, 3) := by decide +kernel
theorem dX11_lay_52 : decode cX11_lay 52 = .ok (.iload_n 1, 1) := by decide +kernel
theorem dX11_lay_53 : decode cX11_lay 53 = .ok (.aload_n 0, 1) := by decide +kernel
theorem dX11_lay_54 : decode cX11_lay 54 = .ok (.getfield 16, 3) := by decide +kernel
theorem dX11_lay_57 : decode cX11_lay 57 = .ok (.bipush 20, 2) := by decide +kernel
theorem dX11_lay_59 : decode cX11_lay 59 = .ok (.iload_n 1, 1) := by decide +kernel
theorem dX11_lay_60 : decode cX11_lay 60 = .ok (.iadd, 1) := by decide +kernel
theorem dX11_lay_61 : decode cX11_lay 61 = .ok (.iaload, 1) := by decide +kernel
theorem dX11_lay_62 : decode cX11_lay 62 = .ok (.iastore, 1) := by decide +kernel
theorem dX11_lay_63 : decode cX11_lay 63 = .ok (.aload_n 0, 1) := by decide +kernel
theorem dX11_lay_64 : decode cX11_lay 64 = .ok (.getfield 19, 3) := by decide +kernel
theorem dX11_lay_67 : decode cX11_lay 67 = .ok (.iload_n 1, 1) := by decide +kernel
theorem dX11_lay_68 : decode cX11_lay 68 = .ok (.aload_n 0, 1) := by decide +kernel
theorem dX11_lay_69 : decode cX11_lay 69 = .ok (.getfield 19, 3) := by decide +kernel
theorem dX11_lay_72 : decode cX11_lay 72 = .ok (.bipush 20, 2) := by decide +kernel
theorem dX11_lay_74 : decode cX11_lay 74 = .ok (.iload_n 1, 1) := by decide +kernel
theorem dX11_lay_75 : decode cX11_lay 75 = .ok (.iadd, 1) := by decide +kernel
theorem dX11_lay_76 : decode cX11_lay 76 = .ok (.iaload, 1) := by decide +kernel
theorem dX11_lay_77 : decode cX11_lay 77 = .ok (.iastore, 1) := by decide +kernel
theorem dX11_lay_78 : decode cX11_lay 78 = .ok (.aload_n 0, 1) := by decide +kernel
theorem dX11_lay_79 : decode cX11_lay 79 = .ok (.getfield 22, 3) := by decide +kernel
theorem dX11_lay_82 : decode cX11_lay 82 = .ok (.iload_n 1, 1) := by decide +kernel
theorem dX11_lay_83 : decode cX11_lay 83 = .ok (.aload_n 0, 1) := by decide +kernel
theorem dX11_lay_84 : decode cX11_lay 84 = .ok (.getfield 22, 3) := by decide +kernel
theorem dX11_lay_87 : decode cX11_lay 87 = .ok (.bipush 20, 2) := by decide +kernel
theorem dX11_lay_89 : decode cX11_lay 89 = .ok (.iload_n 1, 1) := by decide +kernel
theorem dX11_lay_90 : decode cX11_lay 90 = .ok (.iadd, 1) := by decide +kernel
theorem dX11_lay_91 : decode cX11_lay 91 = .ok (.iaload, 1) := by decide +kernel
theorem dX11_lay_92 : decode cX11_lay 92 = .ok (.iastore, 1) := by decide +kernel
theorem dX11_lay_93 : decode cX11_lay 93 = .ok (.iinc 1 1, 3) := by decide +kernel
theorem dX11_lay_96 : decode cX11_lay 96 = .ok (.goto (-54), 3) := by decide +kernel
theorem dX11_lay_99 : decode cX11_lay 99 = .ok (.iconst 0, 1) := by decide +kernel
theorem dX11_lay_100 : decode cX11_lay 100 = .ok (.istore_n 1, 1) := by decide +kernel
theorem dX11_lay_101 : decode cX11_lay 101 = .ok (.iload_n 1, 1) := by decide +kernel
theorem dX11_lay_102 : decode cX11_lay 102 = .ok (.iconst 5, 1) := by decide +kernel
theorem dX11_lay_103 : decode cX11_lay 103 = .ok (.if_icmp .ge 23, 3) := by decide +kernel
theorem dX11_lay_106 : decode cX11_lay 106 = .ok (.aload_n 0, 1) := by decide +kernel
theorem dX11_lay_107 : decode cX11_lay 107 = .ok (.getfield 25, 3) := by decide +kernel
theorem dX11_lay_110 : decode cX11_lay 110 = .ok (.iload_n 1, 1) := by decide +kernel
theorem dX11_lay_111 : decode cX11_lay 111 = .ok (.aload_n 0, 1) := by decide +kernel
theorem dX11_lay_112 : decode cX11_lay 112 = .ok (.getfield 25, 3) := by decide +kernel
theorem dX11_lay_115 : decode cX11_lay 115 = .ok (.iconst 5, 1) := by decide +kernel
theorem dX11_lay_116 : decode cX11_lay 116 = .ok (.iload_n 1, 1) := by decide +kernel
theorem dX11_lay_117 : decode cX11_lay 117 = .ok (.iadd, 1) := by decide +kernel
theorem dX11_lay_118 : decode cX11_lay 118 = .ok (.iaload, 1) := by decide +kernel
theorem dX11_lay_119 : decode cX11_lay 119 = .ok (.iastore, 1) := by decide +kernel
theorem dX11_lay_120 : decode cX11_lay 120 = .ok (.iinc 1 1, 3) := by decide +kernel
theorem dX11_lay_123 : decode cX11_lay 123 = .ok (.goto (-22), 3) := by decide +kernel
theorem dX11_lay_126 : decode cX11_lay 126 = .ok (.aload_n 0, 1) := by decide +kernel
theorem dX11_lay_127 : decode cX11_lay 127 = .ok (.getfield 28, 3) := by decide +kernel
theorem dX11_lay_130 : decode cX11_lay 130 = .ok (.iconst 0, 1) := by decide +kernel
theorem dX11_lay_131 : decode cX11_lay 131 = .ok (.iconst 0, 1) := by decide +kernel
theorem dX11_lay_132 : decode cX11_lay 132 = .ok (.iastore, 1) := by decide +kernel
theorem dX11_lay_133 : decode cX11_lay 133 = .ok (.aload_n 0, 1) := by decide +kernel
theorem dX11_lay_134 : decode cX11_lay 134 = .ok (.iconst 0, 1) := by decide +kernel
theorem dX11_lay_135 : decode cX11_lay 135 = .ok (.putfield 124, 3) := by decide +kernel
theorem dX11_lay_138 : decode cX11_lay 138 = .ok (.aload_n 0, 1) := by decide +kernel
theorem dX11_lay_139 : decode cX11_lay 139 = .ok (.getfield 13, 3) := by decide +kernel
theorem dX11_lay_142 : decode cX11_lay 142 = .ok (.iconst 0, 1) := by decide +kernel
theorem dX11_lay_143 : decode cX11_lay 143 = .ok (.iaload, 1) := by decide +kernel
theorem dX11_lay_144 : decode cX11_lay 144 = .ok (.ireturn, 1) := by decide +kernel
theorem dX11_isPerson_0 : decode cX11_isPerson 0 = .ok (.iload_n 1, 1) := by decide +kernel
theorem dX11_isPerson_1 : decode cX11_isPerson 1 = .ok (.i2l, 1) := by decide +kernel
theorem dX11_isPerson_2 : decode cX11_isPerson 2 = .ok (.lconst 0, 1) := by decide +kernel
theorem dX11_isPerson_3 : decode cX11_isPerson 3 = .ok (.aload_n 0, 1) := by decide +kernel
theorem dX11_isPerson_4 : decode cX11_isPerson 4 = .ok (.getfield 13, 3) := by decide +kernel
theorem dX11_isPerson_7 : decode cX11_isPerson 7 = .ok (.iconst 0, 1) := by decide +kernel
theorem dX11_isPerson_8 : decode cX11_isPerson 8 = .ok (.iaload, 1) := by decide +kernel
theorem dX11_isPerson_9 : decode cX11_isPerson 9 = .ok (.iconst 1, 1) := by decide +kernel
theorem dX11_isPerson_10 : decode cX11_isPerson 10 = .ok (.isub, 1) := by decide +kernel
theorem dX11_isPerson_11 : decode cX11_isPerson 11 = .ok (.i2l, 1) := by decide +kernel
theorem dX11_isPerson_12 : decode cX11_isPerson 12 = .ok (.invokestatic 79, 3) := by decide +kernel
theorem dX11_isPerson_15 : decode cX11_isPerson 15 = .ok (.ireturn, 1) := by decide +kernel
theorem dX11_manyOf_0 : decode cX11_manyOf 0 = .ok (.iconst 0, 1) := by decide +kernel
theorem dX11_manyOf_1 : decode cX11_manyOf 1 = .ok (.istore_n 2, 1) := by decide +kernel
theorem dX11_manyOf_2 : decode cX11_manyOf 2 = .ok (.iconst 0, 1) := by decide +kernel
theorem dX11_manyOf_3 : decode cX11_manyOf 3 = .ok (.istore_n 3, 1) := by decide +kernel
theorem dX11_manyOf_4 : decode cX11_manyOf 4 = .ok (.iload_n 3, 1) := by decide +kernel
theorem dX11_manyOf_5 : decode cX11_manyOf 5 = .ok (.aload_n 0, 1) := by decide +kernel
theorem dX11_manyOf_6 : decode cX11_manyOf 6 = .ok (.getfield 13, 3) := by decide +kernel
theorem dX11_manyOf_9 : decode cX11_manyOf 9 = .ok (.iconst 0, 1) := by decide +kernel
theorem dX11_manyOf_10 : decode cX11_manyOf 10 = .ok (.iaload, 1) := by decide +kernel
theorem dX11_manyOf_11 : decode cX11_manyOf 11 = .ok (.if_icmp .ge 27, 3) := by decide +kernel
theorem dX11_manyOf_14 : decode cX11_manyOf 14 = .ok (.iload_n 2, 1) := by decide +kernel
theorem dX11_manyOf_15 : decode cX11_manyOf 15 = .ok (.aload_n 0, 1) := by decide +kernel
theorem dX11_manyOf_16 : decode cX11_manyOf 16 = .ok (.getfield 16, 3) := by decide +kernel
theorem dX11_manyOf_19 : decode cX11_manyOf 19 = .ok (.iload_n 3, 1) := by decide +kernel
theorem dX11_manyOf_20 : decode cX11_manyOf 20 = .ok (.iaload, 1) := by decide +kernel
theorem dX11_manyOf_21 : decode cX11_manyOf 21 = .ok (.iload_n 1, 1) := by decide +kernel
theorem dX11_manyOf_22 : decode cX11_manyOf 22 = .ok (.if_icmp .ne 7, 3) := by decide +kernel
theorem dX11_manyOf_25 : decode cX11_manyOf 25 = .ok (.iconst 1, 1) := by decide +kernel
theorem dX11_manyOf_26 : decode cX11_manyOf 26 = .ok (.goto 4, 3) := by decide +kernel
theorem dX11_manyOf_29 : decode cX11_manyOf 29 = .ok (.iconst 0, 1) := by decide +kernel
theorem dX11_manyOf_30 : decode cX11_manyOf 30 = .ok (.iadd, 1) := by decide +kernel
theorem dX11_manyOf_31 : decode cX11_manyOf 31 = .ok (.istore_n 2, 1) := by decide +kernel
theorem dX11_manyOf_32 : decode cX11_manyOf 32 = .ok (.iinc 3 1, 3) := by decide +kernel
theorem dX11_manyOf_35 : decode cX11_manyOf 35 = .ok (.goto (-31), 3) := by decide +kernel
theorem dX11_manyOf_38 : decode cX11_manyOf 38 = .ok (.iload_n 2, 1) := by decide +kernel
theorem dX11_manyOf_39 : decode cX11_manyOf 39 = .ok (.ireturn, 1) := by decide +kernel
theorem dX11_person_0 : decode cX11_person 0 = .ok (.aload_n 0, 1) := by decide +kernel
theorem dX11_person_1 : decode cX11_person 1 = .ok (.iload_n 1, 1) := by decide +kernel
theorem dX11_person_2 : decode cX11_person 2 = .ok (.invokevirtual 127, 3) := by decide +kernel
theorem dX11_person_5 : decode cX11_person 5 = .ok (.ifCond .eq 15, 3) := by decide +kernel
theorem dX11_person_8 : decode cX11_person 8 = .ok (.iload_n 2, 1) := by decide +kernel
theorem dX11_person_9 : decode cX11_person 9 = .ok (.i2l, 1) := by decide +kernel
theorem dX11_person_10 : decode cX11_person 10 = .ok (.lconst 0, 1) := by decide +kernel
theorem dX11_person_11 : decode cX11_person 11 = .ok (.ldc2_w 130, 3) := by decide +kernel
theorem dX11_person_14 : decode cX11_person 14 = .ok (.invokestatic 79, 3) := by decide +kernel
theorem dX11_person_17 : decode cX11_person 17 = .ok (.ifCond .ne 5, 3) := by decide +kernel
theorem dX11_person_20 : decode cX11_person 20 = .ok (.iconst (-1), 1) := by decide +kernel
theorem dX11_person_21 : decode cX11_person 21 = .ok (.ireturn, 1) := by decide +kernel
theorem dX11_person_22 : decode cX11_person 22 = .ok (.iload_n 2, 1) := by decide +kernel
theorem dX11_person_23 : decode cX11_person 23 = .ok (.ifCond .ne 12, 3) := by decide +kernel
theorem dX11_person_26 : decode cX11_person 26 = .ok (.aload_n 0, 1) := by decide +kernel
theorem dX11_person_27 : decode cX11_person 27 = .ok (.getfield 16, 3) := by decide +kernel
theorem dX11_person_30 : decode cX11_person 30 = .ok (.iload_n 1, 1) := by decide +kernel
theorem dX11_person_31 : decode cX11_person 31 = .ok (.iaload, 1) := by decide +kernel
theorem dX11_person_32 : decode cX11_person 32 = .ok (.goto 23, 3) := by decide +kernel
theorem dX11_person_35 : decode cX11_person 35 = .ok (.iload_n 2, 1) := by decide +kernel
theorem dX11_person_36 : decode cX11_person 36 = .ok (.iconst 1, 1) := by decide +kernel
theorem dX11_person_37 : decode cX11_person 37 = .ok (.if_icmp .ne 12, 3) := by decide +kernel
theorem dX11_person_40 : decode cX11_person 40 = .ok (.aload_n 0, 1) := by decide +kernel
theorem dX11_person_41 : decode cX11_person 41 = .ok (.getfield 19, 3) := by decide +kernel
theorem dX11_person_44 : decode cX11_person 44 = .ok (.iload_n 1, 1) := by decide +kernel
theorem dX11_person_45 : decode cX11_person 45 = .ok (.iaload, 1) := by decide +kernel
theorem dX11_person_46 : decode cX11_person 46 = .ok (.goto 9, 3) := by decide +kernel
theorem dX11_person_49 : decode cX11_person 49 = .ok (.aload_n 0, 1) := by decide +kernel
theorem dX11_person_50 : decode cX11_person 50 = .ok (.getfield 22, 3) := by decide +kernel
theorem dX11_person_53 : decode cX11_person 53 = .ok (.iload_n 1, 1) := by decide +kernel
theorem dX11_person_54 : decode cX11_person 54 = .ok (.iaload, 1) := by decide +kernel
theorem dX11_person_55 : decode cX11_person 55 = .ok (.ireturn, 1) := by decide +kernel
theorem dX11_law_0 : decode cX11_law 0 = .ok (.aload_n 0, 1) := by decide +kernel
theorem dX11_law_1 : decode cX11_law 1 = .ok (.iload_n 1, 1) := by decide +kernel
theorem dX11_law_2 : decode cX11_law 2 = .ok (.invokevirtual 127, 3) := by decide +kernel
theorem dX11_law_5 : decode cX11_law 5 = .ok (.ifCond .eq 15, 3) := by decide +kernel
theorem dX11_law_8 : decode cX11_law 8 = .ok (.iload_n 2, 1) := by decide +kernel
theorem dX11_law_9 : decode cX11_law 9 = .ok (.i2l, 1) := by decide +kernel
theorem dX11_law_10 : decode cX11_law 10 = .ok (.lconst 0, 1) := by decide +kernel
theorem dX11_law_11 : decode cX11_law 11 = .ok (.ldc2_w 132, 3) := by decide +kernel
theorem dX11_law_14 : decode cX11_law 14 = .ok (.invokestatic 79, 3) := by decide +kernel
theorem dX11_law_17 : decode cX11_law 17 = .ok (.ifCond .ne 5, 3) := by decide +kernel
theorem dX11_law_20 : decode cX11_law 20 = .ok (.iconst (-1), 1) := by decide +kernel
theorem dX11_law_21 : decode cX11_law 21 = .ok (.ireturn, 1) := by decide +kernel
theorem dX11_law_22 : decode cX11_law 22 = .ok (.aload_n 0, 1) := by decide +kernel
theorem dX11_law_23 : decode cX11_law 23 = .ok (.getfield 22, 3) := by decide +kernel
theorem dX11_law_26 : decode cX11_law 26 = .ok (.iload_n 1, 1) := by decide +kernel
theorem dX11_law_27 : decode cX11_law 27 = .ok (.iaload, 1) := by decide +kernel
theorem dX11_law_28 : decode cX11_law 28 = .ok (.istore_n 3, 1) := by decide +kernel
theorem dX11_law_29 : decode cX11_law 29 = .ok (.aload_n 0, 1) := by decide +kernel
theorem dX11_law_30 : decode cX11_law 30 = .ok (.getfield 22, 3) := by decide +kernel
theorem dX11_law_33 : decode cX11_law 33 = .ok (.iload_n 1, 1) := by decide +kernel
theorem dX11_law_34 : decode cX11_law 34 = .ok (.iload_n 2, 1) := by decide +kernel
theorem dX11_law_35 : decode cX11_law 35 = .ok (.iastore, 1) := by decide +kernel
theorem dX11_law_36 : decode cX11_law 36 = .ok (.iload_n 3, 1) := by decide +kernel
theorem dX11_law_37 : decode cX11_law 37 = .ok (.ireturn, 1) := by decide +kernel
theorem dX11_showTrue_0 : decode cX11_showTrue 0 = .ok (.iconst 0, 1) := by decide +kernel
theorem dX11_showTrue_1 : decode cX11_showTrue 1 = .ok (.istore_n 1, 1) := by decide +kernel
theorem dX11_showTrue_2 : decode cX11_showTrue 2 = .ok (.iload_n 1, 1) := by decide +kernel
theorem dX11_showTrue_3 : decode cX11_showTrue 3 = .ok (.aload_n 0, 1) := by decide +kernel
theorem dX11_showTrue_4 : decode cX11_showTrue 4 = .ok (.getfield 13, 3) := by decide +kernel
theorem dX11_showTrue_7 : decode cX11_showTrue 7 = .ok (.iconst 0, 1) := by decide +kernel
theorem dX11_showTrue_8 : decode cX11_showTrue 8 = .ok (.iaload, 1) := by decide +kernel
theorem dX11_showTrue_9 : decode cX11_showTrue 9 = .ok (.if_icmp .ge 21, 3) := by decide +kernel
theorem dX11_showTrue_12 : decode cX11_showTrue 12 = .ok (.aload_n 0, 1) := by decide +kernel
theorem dX11_showTrue_13 : decode cX11_showTrue 13 = .ok (.getfield 49, 3) := by decide +kernel
theorem dX11_showTrue_16 : decode cX11_showTrue 16 = .ok (.iload_n 1, 1) := by decide +kernel
theorem dX11_showTrue_17 : decode cX11_showTrue 17 = .ok (.aload_n 0, 1) := by decide +kernel
theorem dX11_showTrue_18 : decode cX11_showTrue 18 = .ok (.getfield 19, 3) := by decide +kernel
theorem dX11_showTrue_21 : decode cX11_showTrue 21 = .ok (.iload_n 1, 1) := by decide +kernel
theorem dX11_showTrue_22 : decode cX11_showTrue 22 = .ok (.iaload, 1) := by decide +kernel
theorem dX11_showTrue_23 : decode cX11_showTrue 23 = .ok (.iastore, 1) := by decide +kernel
theorem dX11_showTrue_24 : decode cX11_showTrue 24 = .ok (.iinc 1 1, 3) := by decide +kernel
theorem dX11_showTrue_27 : decode cX11_showTrue 27 = .ok (.goto (-25), 3) := by decide +kernel
theorem dX11_showTrue_30 : decode cX11_showTrue 30 = .ok (.return_, 1) := by decide +kernel
theorem dX11_layLines_0 : decode cX11_layLines 0 = .ok (.aload_n 0, 1) := by decide +kernel
theorem dX11_layLines_1 : decode cX11_layLines 1 = .ok (.iconst 0, 1) := by decide +kernel
theorem dX11_layLines_2 : decode cX11_layLines 2 = .ok (.putfield 134, 3) := by decide +kernel
theorem dX11_layLines_5 : decode cX11_layLines 5 = .ok (.aload_n 0, 1) := by decide +kernel
theorem dX11_layLines_6 : decode cX11_layLines 6 = .ok (.iconst 0, 1) := by decide +kernel
theorem dX11_layLines_7 : decode cX11_layLines 7 = .ok (.putfield 137, 3) := by decide +kernel
theorem dX11_layLines_10 : decode cX11_layLines 10 = .ok (.bipush 99, 2) := by decide +kernel
theorem dX11_layLines_12 : decode cX11_layLines 12 = .ok (.istore_n 1, 1) := by decide +kernel
theorem dX11_layLines_13 : decode cX11_layLines 13 = .ok (.iload_n 1, 1) := by decide +kernel
theorem dX11_layLines_14 : decode cX11_layLines 14 = .ok (.ifCond .lt 66, 3) := by decide +kernel
theorem dX11_layLines_17 : decode cX11_layLines 17 = .ok (.iconst 0, 1) := by decide +kernel
theorem dX11_layLines_18 : decode cX11_layLines 18 = .ok (.istore_n 2, 1) := by decide +kernel
theorem dX11_layLines_19 : decode cX11_layLines 19 = .ok (.iload_n 2, 1) := by decide +kernel
theorem dX11_layLines_20 : decode cX11_layLines 20 = .ok (.aload_n 0, 1) := by decide +kernel
theorem dX11_layLines_21 : decode cX11_layLines 21 = .ok (.getfield 13, 3) := by decide +kernel
theorem dX11_layLines_24 : decode cX11_layLines 24 = .ok (.iconst 0, 1) := by decide +kernel
theorem dX11_layLines_25 : decode cX11_layLines 25 = .ok (.iaload, 1) := by decide +kernel
theorem dX11_layLines_26 : decode cX11_layLines 26 = .ok (.if_icmp .ge 48, 3) := by decide +kernel
theorem dX11_layLines_29 : decode cX11_layLines 29 = .ok (.aload_n 0, 1) := by decide +kernel
theorem dX11_layLines_30 : decode cX11_layLines 30 = .ok (.getfield 16, 3) := by decide +kernel
theorem dX11_layLines_33 : decode cX11_layLines 33 = .ok (.iload_n 2, 1) := by decide +kernel
theorem dX11_layLines_34 : decode cX11_layLines 34 = .ok (.iaload, 1) := by decide +kernel
theorem dX11_layLines_35 : decode cX11_layLines 35 = .ok (.ifCond .ne 33, 3) := by decide +kernel
theorem dX11_layLines_38 : decode cX11_layLines 38 = .ok (.aload_n 0, 1) := by decide +kernel
theorem dX11_layLines_39 : decode cX11_layLines 39 = .ok (.getfield 49, 3) := by decide +kernel
theorem dX11_layLines_42 : decode cX11_layLines 42 = .ok (.iload_n 2, 1) := by decide +kernel
theorem dX11_layLines_43 : decode cX11_layLines 43 = .ok (.iaload, 1) := by decide +kernel
theorem dX11_layLines_44 : decode cX11_layLines 44 = .ok (.iload_n 1, 1) := by decide +kernel
theorem dX11_layLines_45 : decode cX11_layLines 45 = .ok (.if_icmp .ne 23, 3) := by decide +kernel
theorem dX11_layLines_48 : decode cX11_layLines 48 = .ok (.aload_n 0, 1) := by decide +kernel
theorem dX11_layLines_49 : decode cX11_layLines 49 = .ok (.getfield 52, 3) := by decide +kernel
theorem dX11_layLines_52 : decode cX11_layLines 52 = .ok (.aload_n 0, 1) := by decide +kernel
theorem dX11_layLines_53 : decode cX11_layLines 53 = .ok (.getfield 134, 3) := by decide +kernel
theorem dX11_layLines_56 : decode cX11_layLines 56 = .ok (.iload_n 2, 1) := by decide +kernel
theorem dX11_layLines_57 : decode cX11_layLines 57 = .ok (.iastore, 1) := by decide +kernel
theorem dX11_layLines_58 : decode cX11_layLines 58 = .ok (.aload_n 0, 1) := by decide +kernel
theorem dX11_layLines_59 : decode cX11_layLines 59 = .ok (.dup, 1) := by decide +kernel
theorem dX11_layLines_60 : decode cX11_layLines 60 = .ok (.getfield 134, 3) := by decide +kernel
theorem dX11_layLines_63 : decode cX11_layLines 63 = .ok (.iconst 1, 1) := by decide +kernel
theorem dX11_layLines_64 : decode cX11_layLines 64 = .ok (.iadd, 1) := by decide +kernel
theorem dX11_layLines_65 : decode cX11_layLines 65 = .ok (.putfield 134, 3) := by decide +kernel
theorem dX11_layLines_68 : decode cX11_layLines 68 = .ok (.iinc 2 1, 3) := by decide +kernel
theorem dX11_layLines_71 : decode cX11_layLines 71 = .ok (.goto (-52), 3) := by decide +kernel
theorem dX11_layLines_74 : decode cX11_layLines 74 = .ok (.iinc 1 (-1), 3) := by decide +kernel
theorem dX11_layLines_77 : decode cX11_layLines 77 = .ok (.goto (-64), 3) := by decide +kernel
theorem dX11_layLines_80 : decode cX11_layLines 80 = .ok (.iconst 0, 1) := by decide +kernel
theorem dX11_layLines_81 : decode cX11_layLines 81 = .ok (.istore_n 1, 1) := by decide +kernel
theorem dX11_layLines_82 : decode cX11_layLines 82 = .ok (.iload_n 1, 1) := by decide +kernel
theorem dX11_layLines_83 : decode cX11_layLines 83 = .ok (.bipush 99, 2) := by decide +kernel
theorem dX11_layLines_85 : decode cX11_layLines 85 = .ok (.if_icmp .gt 67, 3) := by decide +kernel
theorem dX11_layLines_88 : decode cX11_layLines 88 = .ok (.iconst 0, 1) := by decide +kernel
theorem dX11_layLines_89 : decode cX11_layLines 89 = .ok (.istore_n 2, 1) := by decide +kernel
theorem dX11_layLines_90 : decode cX11_layLines 90 = .ok (.iload_n 2, 1) := by decide +kernel
theorem dX11_layLines_91 : decode cX11_layLines 91 = .ok (.aload_n 0, 1) := by decide +kernel
theorem dX11_layLines_92 : decode cX11_layLines 92 = .ok (.getfield 13, 3) := by decide +kernel
theorem dX11_layLines_95 : decode cX11_layLines 95 = .ok (.iconst 0, 1) := by decide +kernel
theorem dX11_layLines_96 : decode cX11_layLines 96 = .ok (.iaload, 1) := by decide +kernel
theorem dX11_layLines_97 : decode cX11_layLines 97 = .ok (.if_icmp .ge 49, 3) := by decide +kernel
theorem dX11_layLines_100 : decode cX11_layLines 100 = .ok (.aload_n 0, 1) := by decide +kernel
theorem dX11_layLines_101 : decode cX11_layLines 101 = .ok (.getfield 16, 3) := by decide +kernel
theorem dX11_layLines_104 : decode cX11_layLines 104 = .ok (.iload_n 2, 1) := by decide +kernel
theorem dX11_layLines_105 : decode cX11_layLines 105 = .ok (.iaload, 1) := by decide +kernel
theorem dX11_layLines_106 : decode cX11_layLines 106 = .ok (.iconst 1, 1) := by decide +kernel
theorem dX11_layLines_107 : decode cX11_layLines 107 = .ok (.if_icmp .ne 33, 3) := by decide +kernel
theorem dX11_layLines_110 : decode cX11_layLines 110 = .ok (.aload_n 0, 1) := by decide +kernel
theorem dX11_layLines_111 : decode cX11_layLines 111 = .ok (.getfield 49, 3) := by decide +kernel
theorem dX11_layLines_114 : decode cX11_layLines 114 = .ok (.iload_n 2, 1) := by decide +kernel
theorem dX11_layLines_115 : decode cX11_layLines 115 = .ok (.iaload, 1) := by decide +kernel
theorem dX11_layLines_116 : decode cX11_layLines 116 = .ok (.iload_n 1, 1) := by decide +kernel
theorem dX11_layLines_117 : decode cX11_layLines 117 = .ok (.if_icmp .ne 23, 3) := by decide +kernel
theorem dX11_layLines_120 : decode cX11_layLines 120 = .ok (.aload_n 0, 1) := by decide +kernel
theorem dX11_layLines_121 : decode cX11_layLines 121 = .ok (.getfield 55, 3) := by decide +kernel
theorem dX11_layLines_124 : decode cX11_layLines 124 = .ok (.aload_n 0, 1) := by decide +kernel
theorem dX11_layLines_125 : decode cX11_layLines 125 = .ok (.getfield 137, 3) := by decide +kernel
theorem dX11_layLines_128 : decode cX11_layLines 128 = .ok (.iload_n 2, 1) := by decide +kernel
theorem dX11_layLines_129 : decode cX11_layLines 129 = .ok (.iastore, 1) := by decide +kernel
theorem dX11_layLines_130 : decode cX11_layLines 130 = .ok (.aload_n 0, 1) := by decide +kernel
theorem dX11_layLines_131 : decode cX11_layLines 131 = .ok (.dup, 1) := by decide +kernel
theorem dX11_layLines_132 : decode cX11_layLines 132 = .ok (.getfield 137, 3) := by decide +kernel
theorem dX11_layLines_135 : decode cX11_layLines 135 = .ok (.iconst 1, 1) := by decide +kernel
theorem dX11_layLines_136 : decode cX11_layLines 136 = .ok (.iadd, 1) := by decide +kernel
theorem dX11_layLines_137 : decode cX11_layLines 137 = .ok (.putfield 137, 3) := by decide +kernel
theorem dX11_layLines_140 : decode cX11_layLines 140 = .ok (.iinc 2 1, 3) := by decide +kernel
theorem dX11_layLines_143 : decode cX11_layLines 143 = .ok (.goto (-53), 3) := by decide +kernel
theorem dX11_layLines_146 : decode cX11_layLines 146 = .ok (.iinc 1 1, 3) := by decide +kernel
theorem dX11_layLines_149 : decode cX11_layLines 149 = .ok (.goto (-67), 3) := by decide +kernel
theorem dX11_layLines_152 : decode cX11_layLines 152 = .ok (.return_, 1) := by decide +kernel
theorem dX11_worth_0 : decode cX11_worth 0 = .ok (.aload_n 0, 1) := by decide +kernel
theorem dX11_worth_1 : decode cX11_worth 1 = .ok (.getfield 49, 3) := by decide +kernel
theorem dX11_worth_4 : decode cX11_worth 4 = .ok (.aload_n 0, 1) := by decide +kernel
theorem dX11_worth_5 : decode cX11_worth 5 = .ok (.getfield 52, 3) := by decide +kernel
theorem dX11_worth_8 : decode cX11_worth 8 = .ok (.iload_n 1, 1) := by decide +kernel
theorem dX11_worth_9 : decode cX11_worth 9 = .ok (.iaload, 1) := by decide +kernel
theorem dX11_worth_10 : decode cX11_worth 10 = .ok (.iaload, 1) := by decide +kernel
theorem dX11_worth_11 : decode cX11_worth 11 = .ok (.ireturn, 1) := by decide +kernel
theorem dX11_costs_0 : decode cX11_costs 0 = .ok (.aload_n 0, 1) := by decide +kernel
theorem dX11_costs_1 : decode cX11_costs 1 = .ok (.getfield 49, 3) := by decide +kernel
theorem dX11_costs_4 : decode cX11_costs 4 = .ok (.aload_n 0, 1) := by decide +kernel
theorem dX11_costs_5 : decode cX11_costs 5 = .ok (.getfield 55, 3) := by decide +kernel
theorem dX11_costs_8 : decode cX11_costs 8 = .ok (.iload_n 1, 1) := by decide +kernel
theorem dX11_costs_9 : decode cX11_costs 9 = .ok (.iaload, 1) := by decide +kernel
theorem dX11_costs_10 : decode cX11_costs 10 = .ok (.iaload, 1) := by decide +kernel
theorem dX11_costs_11 : decode cX11_costs 11 = .ok (.ireturn, 1) := by decide +kernel
theorem dX11_quantity_0 : decode cX11_quantity 0 = .ok (.iconst 0, 1) := by decide +kernel
theorem dX11_quantity_1 : decode cX11_quantity 1 = .ok (.istore_n 2, 1) := by decide +kernel
theorem dX11_quantity_2 : decode cX11_quantity 2 = .ok (.iload_n 2, 1) := by decide +kernel
theorem dX11_quantity_3 : decode cX11_quantity 3 = .ok (.aload_n 0, 1) := by decide +kernel
theorem dX11_quantity_4 : decode cX11_quantity 4 = .ok (.getfield 134, 3) := by decide +kernel
theorem dX11_quantity_7 : decode cX11_quantity 7 = .ok (.if_icmp .ge 32, 3) := by decide +kernel
theorem dX11_quantity_10 : decode cX11_quantity 10 = .ok (.iload_n 2, 1) := by decide +kernel
theorem dX11_quantity_11 : decode cX11_quantity 11 = .ok (.aload_n 0, 1) := by decide +kernel
theorem dX11_quantity_12 : decode cX11_quantity 12 = .ok (.getfield 137, 3) := by decide +kernel
theorem dX11_quantity_15 : decode cX11_quantity 15 = .ok (.if_icmp .ge 24, 3) := by decide +kernel
theorem dX11_quantity_18 : decode cX11_quantity 18 = .ok (.aload_n 0, 1) := by decide +kernel
theorem dX11_quantity_19 : decode cX11_quantity 19 = .ok (.iload_n 2, 1) := by decide +kernel
theorem dX11_quantity_20 : decode cX11_quantity 20 = .ok (.invokevirtual 140, 3) := by decide +kernel
theorem dX11_quantity_23 : decode cX11_quantity 23 = .ok (.aload_n 0, 1) := by decide +kernel
theorem dX11_quantity_24 : decode cX11_quantity 24 = .ok (.iload_n 2, 1) := by decide +kernel
theorem dX11_quantity_25 : decode cX11_quantity 25 = .ok (.invokevirtual 143, 3) := by decide +kernel
theorem dX11_quantity_28 : decode cX11_quantity 28 = .ok (.iload_n 1, 1) := by decide +kernel
theorem dX11_quantity_29 : decode cX11_quantity 29 = .ok (.iadd, 1) := by decide +kernel
theorem dX11_quantity_30 : decode cX11_quantity 30 = .ok (.if_icmp .lt 9, 3) := by decide +kernel
theorem dX11_quantity_33 : decode cX11_quantity 33 = .ok (.iinc 2 1, 3) := by decide +kernel
theorem dX11_quantity_36 : decode cX11_quantity 36 = .ok (.goto (-34), 3) := by decide +kernel
theorem dX11_quantity_39 : decode cX11_quantity 39 = .ok (.iload_n 2, 1) := by decide +kernel
theorem dX11_quantity_40 : decode cX11_quantity 40 = .ok (.ireturn, 1) := by decide +kernel
theorem dX11_gainOf_0 : decode cX11_gainOf 0 = .ok (.iconst 0, 1) := by decide +kernel
theorem dX11_gainOf_1 : decode cX11_gainOf 1 = .ok (.istore_n 2, 1) := by decide +kernel
theorem dX11_gainOf_2 : decode cX11_gainOf 2 = .ok (.iconst 0, 1) := by decide +kernel
theorem dX11_gainOf_3 : decode cX11_gainOf 3 = .ok (.istore_n 3, 1) := by decide +kernel
theorem dX11_gainOf_4 : decode cX11_gainOf 4 = .ok (.iload_n 3, 1) := by decide +kernel
theorem dX11_gainOf_5 : decode cX11_gainOf 5 = .ok (.iload_n 1, 1) := by decide +kernel
theorem dX11_gainOf_6 : decode cX11_gainOf 6 = .ok (.if_icmp .ge 23, 3) := by decide +kernel
theorem dX11_gainOf_9 : decode cX11_gainOf 9 = .ok (.iload_n 2, 1) := by decide +kernel
theorem dX11_gainOf_10 : decode cX11_gainOf 10 = .ok (.aload_n 0, 1) := by decide +kernel
theorem dX11_gainOf_11 : decode cX11_gainOf 11 = .ok (.iload_n 3, 1) := by decide +kernel
theorem dX11_gainOf_12 : decode cX11_gainOf 12 = .ok (.invokevirtual 140, 3) := by decide +kernel
theorem dX11_gainOf_15 : decode cX11_gainOf 15 = .ok (.aload_n 0, 1) := by decide +kernel
theorem dX11_gainOf_16 : decode cX11_gainOf 16 = .ok (.iload_n 3, 1) := by decide +kernel
theorem dX11_gainOf_17 : decode cX11_gainOf 17 = .ok (.invokevirtual 143, 3) := by decide +kernel
theorem dX11_gainOf_20 : decode cX11_gainOf 20 = .ok (.isub, 1) := by decide +kernel
theorem dX11_gainOf_21 : decode cX11_gainOf 21 = .ok (.iadd, 1) := by decide +kernel
theorem dX11_gainOf_22 : decode cX11_gainOf 22 = .ok (.istore_n 2, 1) := by decide +kernel
theorem dX11_gainOf_23 : decode cX11_gainOf 23 = .ok (.iinc 3 1, 3) := by decide +kernel
theorem dX11_gainOf_26 : decode cX11_gainOf 26 = .ok (.goto (-22), 3) := by decide +kernel
theorem dX11_gainOf_29 : decode cX11_gainOf 29 = .ok (.iload_n 2, 1) := by decide +kernel
theorem dX11_gainOf_30 : decode cX11_gainOf 30 = .ok (.ireturn, 1) := by decide +kernel
theorem dX11_lowest_0 : decode cX11_lowest 0 = .ok (.aload_n 0, 1) := by decide +kernel
theorem dX11_lowest_1 : decode cX11_lowest 1 = .ok (.iload_n 1, 1) := by decide +kernel
theorem dX11_lowest_2 : decode cX11_lowest 2 = .ok (.iconst 1, 1) := by decide +kernel
theorem dX11_lowest_3 : decode cX11_lowest 3 = .ok (.isub, 1) := by decide +kernel
theorem dX11_lowest_4 : decode cX11_lowest 4 = .ok (.invokevirtual 143, 3) := by decide +kernel
theorem dX11_lowest_7 : decode cX11_lowest 7 = .ok (.iload_n 2, 1) := by decide +kernel
theorem dX11_lowest_8 : decode cX11_lowest 8 = .ok (.iadd, 1) := by decide +kernel
theorem dX11_lowest_9 : decode cX11_lowest 9 = .ok (.istore_n 3, 1) := by decide +kernel
theorem dX11_lowest_10 : decode cX11_lowest 10 = .ok (.iload_n 1, 1) := by decide +kernel
theorem dX11_lowest_11 : decode cX11_lowest 11 = .ok (.aload_n 0, 1) := by decide +kernel
theorem dX11_lowest_12 : decode cX11_lowest 12 = .ok (.getfield 134, 3) := by decide +kernel
theorem dX11_lowest_15 : decode cX11_lowest 15 = .ok (.if_icmp .ge 20, 3) := by decide +kernel
theorem dX11_lowest_18 : decode cX11_lowest 18 = .ok (.aload_n 0, 1) := by decide +kernel
theorem dX11_lowest_19 : decode cX11_lowest 19 = .ok (.iload_n 1, 1) := by decide +kernel
theorem dX11_lowest_20 : decode cX11_lowest 20 = .ok (.invokevirtual 140, 3) := by decide +kernel
theorem dX11_lowest_23 : decode cX11_lowest 23 = .ok (.iload_n 3, 1) := by decide +kernel
theorem dX11_lowest_24 : decode cX11_lowest 24 = .ok (.if_icmp .le 11, 3) := by decide +kernel
theorem dX11_lowest_27 : decode cX11_lowest 27 = .ok (.aload_n 0, 1) := by decide +kernel
theorem dX11_lowest_28 : decode cX11_lowest 28 = .ok (.iload_n 1, 1) := by decide +kernel
theorem dX11_lowest_29 : decode cX11_lowest 29 = .ok (.invokevirtual 140, 3) := by decide +kernel
theorem dX11_lowest_32 : decode cX11_lowest 32 = .ok (.goto 4, 3) := by decide +kernel
theorem dX11_lowest_35 : decode cX11_lowest 35 = .ok (.iload_n 3, 1) := by decide +kernel
theorem dX11_lowest_36 : decode cX11_lowest 36 = .ok (.ireturn, 1) := by decide +kernel
theorem dX11_highest_0 : decode cX11_highest 0 = .ok (.aload_n 0, 1) := by decide +kernel
theorem dX11_highest_1 : decode cX11_highest 1 = .ok (.iload_n 1, 1) := by decide +kernel
theorem dX11_highest_2 : decode cX11_highest 2 = .ok (.iconst 1, 1) := by decide +kernel
theorem dX11_highest_3 : decode cX11_highest 3 = .ok (.isub, 1) := by decide +kernel
theorem dX11_highest_4 : decode cX11_highest 4 = .ok (.invokevirtual 140, 3) := by decide +kernel
theorem dX11_highest_7 : decode cX11_highest 7 = .ok (.istore_n 3, 1) := by decide +kernel
theorem dX11_highest_8 : decode cX11_highest 8 = .ok (.iload_n 1, 1) := by decide +kernel
theorem dX11_highest_9 : decode cX11_highest 9 = .ok (.aload_n 0, 1) := by decide +kernel
theorem dX11_highest_10 : decode cX11_highest 10 = .ok (.getfield 137, 3) := by decide +kernel
theorem dX11_highest_13 : decode cX11_highest 13 = .ok (.if_icmp .ge 24, 3) := by decide +kernel
theorem dX11_highest_16 : decode cX11_highest 16 = .ok (.aload_n 0, 1) := by decide +kernel
theorem dX11_highest_17 : decode cX11_highest 17 = .ok (.iload_n 1, 1) := by decide +kernel
theorem dX11_highest_18 : decode cX11_highest 18 = .ok (.invokevirtual 143, 3) := by decide +kernel
theorem dX11_highest_21 : decode cX11_highest 21 = .ok (.iload_n 2, 1) := by decide +kernel
theorem dX11_highest_22 : decode cX11_highest 22 = .ok (.iadd, 1) := by decide +kernel
theorem dX11_highest_23 : decode cX11_highest 23 = .ok (.iload_n 3, 1) := by decide +kernel
theorem dX11_highest_24 : decode cX11_highest 24 = .ok (.if_icmp .ge 13, 3) := by decide +kernel
theorem dX11_highest_27 : decode cX11_highest 27 = .ok (.aload_n 0, 1) := by decide +kernel
theorem dX11_highest_28 : decode cX11_highest 28 = .ok (.iload_n 1, 1) := by decide +kernel
theorem dX11_highest_29 : decode cX11_highest 29 = .ok (.invokevirtual 143, 3) := by decide +kernel
theorem dX11_highest_32 : decode cX11_highest 32 = .ok (.iload_n 2, 1) := by decide +kernel
theorem dX11_highest_33 : decode cX11_highest 33 = .ok (.iadd, 1) := by decide +kernel
theorem dX11_highest_34 : decode cX11_highest 34 = .ok (.goto 4, 3) := by decide +kernel
theorem dX11_highest_37 : decode cX11_highest 37 = .ok (.iload_n 3, 1) := by decide +kernel
theorem dX11_highest_38 : decode cX11_highest 38 = .ok (.ireturn, 1) := by decide +kernel
theorem dX11_lines_0 : decode cX11_lines 0 = .ok (.iload_n 1, 1) := by decide +kernel
theorem dX11_lines_1 : decode cX11_lines 1 = .ok (.i2l, 1) := by decide +kernel
theorem dX11_lines_2 : decode cX11_lines 2 = .ok (.lconst 0, 1) := by decide +kernel
theorem dX11_lines_3 : decode cX11_lines 3 = .ok (.ldc2_w 146, 3) := by decide +kernel
theorem dX11_lines_6 : decode cX11_lines 6 = .ok (.invokestatic 79, 3) := by decide +kernel
theorem dX11_lines_9 : decode cX11_lines 9 = .ok (.ifCond .ne 5, 3) := by decide +kernel
theorem dX11_lines_12 : decode cX11_lines 12 = .ok (.iconst (-1), 1) := by decide +kernel
theorem dX11_lines_13 : decode cX11_lines 13 = .ok (.ireturn, 1) := by decide +kernel
theorem dX11_lines_14 : decode cX11_lines 14 = .ok (.aload_n 0, 1) := by decide +kernel
theorem dX11_lines_15 : decode cX11_lines 15 = .ok (.invokevirtual 148, 3) := by decide +kernel
theorem dX11_lines_18 : decode cX11_lines 18 = .ok (.aload_n 0, 1) := by decide +kernel
theorem dX11_lines_19 : decode cX11_lines 19 = .ok (.invokevirtual 151, 3) := by decide +kernel
theorem dX11_lines_22 : decode cX11_lines 22 = .ok (.aload_n 0, 1) := by decide +kernel
theorem dX11_lines_23 : decode cX11_lines 23 = .ok (.getfield 25, 3) := by decide +kernel
theorem dX11_lines_26 : decode cX11_lines 26 = .ok (.iconst 1, 1) := by decide +kernel
theorem dX11_lines_27 : decode cX11_lines 27 = .ok (.iaload, 1) := by decide +kernel
theorem dX11_lines_28 : decode cX11_lines 28 = .ok (.istore_n 2, 1) := by decide +kernel
theorem dX11_lines_29 : decode cX11_lines 29 = .ok (.aload_n 0, 1) := by decide +kernel
theorem dX11_lines_30 : decode cX11_lines 30 = .ok (.iload_n 2, 1) := by decide +kernel
theorem dX11_lines_31 : decode cX11_lines 31 = .ok (.invokevirtual 154, 3) := by decide +kernel
theorem dX11_lines_34 : decode cX11_lines 34 = .ok (.istore_n 3, 1) := by decide +kernel
theorem dX11_lines_35 : decode cX11_lines 35 = .ok (.iload_n 1, 1) := by decide +kernel
theorem dX11_lines_36 : decode cX11_lines 36 = .ok (.iconst 2, 1) := by decide +kernel
theorem dX11_lines_37 : decode cX11_lines 37 = .ok (.if_icmp .ge 17, 3) := by decide +kernel
theorem dX11_lines_40 : decode cX11_lines 40 = .ok (.iload_n 1, 1) := by decide +kernel
theorem dX11_lines_41 : decode cX11_lines 41 = .ok (.ifCond .ne 7, 3) := by decide +kernel
theorem dX11_lines_44 : decode cX11_lines 44 = .ok (.iload_n 3, 1) := by decide +kernel
theorem dX11_lines_45 : decode cX11_lines 45 = .ok (.goto 8, 3) := by decide +kernel
theorem dX11_lines_48 : decode cX11_lines 48 = .ok (.aload_n 0, 1) := by decide +kernel
theorem dX11_lines_49 : decode cX11_lines 49 = .ok (.iload_n 3, 1) := by decide +kernel
theorem dX11_lines_50 : decode cX11_lines 50 = .ok (.invokevirtual 157, 3) := by decide +kernel
theorem dX11_lines_53 : decode cX11_lines 53 = .ok (.ireturn, 1) := by decide +kernel
theorem dX11_lines_54 : decode cX11_lines 54 = .ok (.iload_n 3, 1) := by decide +kernel
theorem dX11_lines_55 : decode cX11_lines 55 = .ok (.ifCond .ne 6, 3) := by decide +kernel
theorem dX11_lines_58 : decode cX11_lines 58 = .ok (.bipush (-4), 2) := by decide +kernel
theorem dX11_lines_60 : decode cX11_lines 60 = .ok (.ireturn, 1) := by decide +kernel
theorem dX11_lines_61 : decode cX11_lines 61 = .ok (.iload_n 1, 1) := by decide +kernel
theorem dX11_lines_62 : decode cX11_lines 62 = .ok (.iconst 2, 1) := by decide +kernel
theorem dX11_lines_63 : decode cX11_lines 63 = .ok (.if_icmp .ne 12, 3) := by decide +kernel
theorem dX11_lines_66 : decode cX11_lines 66 = .ok (.aload_n 0, 1) := by decide +kernel
theorem dX11_lines_67 : decode cX11_lines 67 = .ok (.iload_n 3, 1) := by decide +kernel
theorem dX11_lines_68 : decode cX11_lines 68 = .ok (.iload_n 2, 1) := by decide +kernel
theorem dX11_lines_69 : decode cX11_lines 69 = .ok (.invokevirtual 160, 3) := by decide +kernel
theorem dX11_lines_72 : decode cX11_lines 72 = .ok (.goto 34, 3) := by decide +kernel
theorem dX11_lines_75 : decode cX11_lines 75 = .ok (.iload_n 1, 1) := by decide +kernel
theorem dX11_lines_76 : decode cX11_lines 76 = .ok (.iconst 3, 1) := by decide +kernel
theorem dX11_lines_77 : decode cX11_lines 77 = .ok (.if_icmp .ne 12, 3) := by decide +kernel
theorem dX11_lines_80 : decode cX11_lines 80 = .ok (.aload_n 0, 1) := by decide +kernel
theorem dX11_lines_81 : decode cX11_lines 81 = .ok (.iload_n 3, 1) := by decide +kernel
theorem dX11_lines_82 : decode cX11_lines 82 = .ok (.iload_n 2, 1) := by decide +kernel
theorem dX11_lines_83 : decode cX11_lines 83 = .ok (.invokevirtual 164, 3) := by decide +kernel
theorem dX11_lines_86 : decode cX11_lines 86 = .ok (.goto 20, 3) := by decide +kernel
theorem dX11_lines_89 : decode cX11_lines 89 = .ok (.aload_n 0, 1) := by decide +kernel
theorem dX11_lines_90 : decode cX11_lines 90 = .ok (.iload_n 3, 1) := by decide +kernel
theorem dX11_lines_91 : decode cX11_lines 91 = .ok (.iload_n 2, 1) := by decide +kernel
theorem dX11_lines_92 : decode cX11_lines 92 = .ok (.invokevirtual 160, 3) := by decide +kernel
theorem dX11_lines_95 : decode cX11_lines 95 = .ok (.aload_n 0, 1) := by decide +kernel
theorem dX11_lines_96 : decode cX11_lines 96 = .ok (.aload_n 0, 1) := by decide +kernel
theorem dX11_lines_97 : decode cX11_lines 97 = .ok (.iconst 0, 1) := by decide +kernel
theorem dX11_lines_98 : decode cX11_lines 98 = .ok (.invokevirtual 154, 3) := by decide +kernel
theorem dX11_lines_101 : decode cX11_lines 101 = .ok (.iconst 0, 1) := by decide +kernel
theorem dX11_lines_102 : decode cX11_lines 102 = .ok (.invokevirtual 160, 3) := by decide +kernel
theorem dX11_lines_105 : decode cX11_lines 105 = .ok (.isub, 1) := by decide +kernel
theorem dX11_lines_106 : decode cX11_lines 106 = .ok (.ireturn, 1) := by decide +kernel
theorem dX11_served_0 : decode cX11_served 0 = .ok (.iload_n 1, 1) := by decide +kernel
theorem dX11_served_1 : decode cX11_served 1 = .ok (.i2l, 1) := by decide +kernel
theorem dX11_served_2 : decode cX11_served 2 = .ok (.lconst 0, 1) := by decide +kernel
theorem dX11_served_3 : decode cX11_served 3 = .ok (.ldc2_w 100, 3) := by decide +kernel
theorem dX11_served_6 : decode cX11_served 6 = .ok (.invokestatic 79, 3) := by decide +kernel
theorem dX11_served_9 : decode cX11_served 9 = .ok (.ifCond .ne 5, 3) := by decide +kernel
theorem dX11_served_12 : decode cX11_served 12 = .ok (.iconst (-1), 1) := by decide +kernel
theorem dX11_served_13 : decode cX11_served 13 = .ok (.ireturn, 1) := by decide +kernel
theorem dX11_served_14 : decode cX11_served 14 = .ok (.aload_n 0, 1) := by decide +kernel
theorem dX11_served_15 : decode cX11_served 15 = .ok (.invokevirtual 148, 3) := by decide +kernel
theorem dX11_served_18 : decode cX11_served 18 = .ok (.aload_n 0, 1) := by decide +kernel
theorem dX11_served_19 : decode cX11_served 19 = .ok (.invokevirtual 151, 3) := by decide +kernel
theorem dX11_served_22 : decode cX11_served 22 = .ok (.aload_n 0, 1) := by decide +kernel
theorem dX11_served_23 : decode cX11_served 23 = .ok (.getfield 25, 3) := by decide +kernel
theorem dX11_served_26 : decode cX11_served 26 = .ok (.iconst 1, 1) := by decide +kernel
theorem dX11_served_27 : decode cX11_served 27 = .ok (.iaload, 1) := by decide +kernel
theorem dX11_served_28 : decode cX11_served 28 = .ok (.istore_n 2, 1) := by decide +kernel
theorem dX11_served_29 : decode cX11_served 29 = .ok (.aload_n 0, 1) := by decide +kernel
theorem dX11_served_30 : decode cX11_served 30 = .ok (.getfield 25, 3) := by decide +kernel
theorem dX11_served_33 : decode cX11_served 33 = .ok (.iconst 2, 1) := by decide +kernel
theorem dX11_served_34 : decode cX11_served 34 = .ok (.iaload, 1) := by decide +kernel
theorem dX11_served_35 : decode cX11_served 35 = .ok (.istore_n 3, 1) := by decide +kernel
theorem dX11_served_36 : decode cX11_served 36 = .ok (.aload_n 0, 1) := by decide +kernel
theorem dX11_served_37 : decode cX11_served 37 = .ok (.iload_n 2, 1) := by decide +kernel
theorem dX11_served_38 : decode cX11_served 38 = .ok (.invokevirtual 154, 3) := by decide +kernel
theorem dX11_served_41 : decode cX11_served 41 = .ok (.istore 4, 2) := by decide +kernel
theorem dX11_served_43 : decode cX11_served 43 = .ok (.aload_n 0, 1) := by decide +kernel
theorem dX11_served_44 : decode cX11_served 44 = .ok (.iload 4, 2) := by decide +kernel
theorem dX11_served_46 : decode cX11_served 46 = .ok (.invokevirtual 157, 3) := by decide +kernel
theorem dX11_served_49 : decode cX11_served 49 = .ok (.istore 5, 2) := by decide +kernel
theorem dX11_served_51 : decode cX11_served 51 = .ok (.iload 4, 2) := by decide +kernel
theorem dX11_served_53 : decode cX11_served 53 = .ok (.ifCond .eq 14, 3) := by decide +kernel
theorem dX11_served_56 : decode cX11_served 56 = .ok (.iload_n 3, 1) := by decide +kernel
theorem dX11_served_57 : decode cX11_served 57 = .ok (.aload_n 0, 1) := by decide +kernel
theorem dX11_served_58 : decode cX11_served 58 = .ok (.iload 4, 2) := by decide +kernel
theorem dX11_served_60 : decode cX11_served 60 = .ok (.iload_n 2, 1) := by decide +kernel
theorem dX11_served_61 : decode cX11_served 61 = .ok (.invokevirtual 160, 3) := by decide +kernel
theorem dX11_served_64 : decode cX11_served 64 = .ok (.if_icmp .lt 24, 3) := by decide +kernel
theorem dX11_served_67 : decode cX11_served 67 = .ok (.iload_n 1, 1) := by decide +kernel
theorem dX11_served_68 : decode cX11_served 68 = .ok (.ifCond .ne 8, 3) := by decide +kernel
theorem dX11_served_71 : decode cX11_served 71 = .ok (.iload 4, 2) := by decide +kernel
theorem dX11_served_73 : decode cX11_served 73 = .ok (.goto 14, 3) := by decide +kernel
theorem dX11_served_76 : decode cX11_served 76 = .ok (.iload_n 1, 1) := by decide +kernel
theorem dX11_served_77 : decode cX11_served 77 = .ok (.iconst 3, 1) := by decide +kernel
theorem dX11_served_78 : decode cX11_served 78 = .ok (.if_icmp .ne 7, 3) := by decide +kernel
theorem dX11_served_81 : decode cX11_served 81 = .ok (.iconst 0, 1) := by decide +kernel
theorem dX11_served_82 : decode cX11_served 82 = .ok (.goto 5, 3) := by decide +kernel
theorem dX11_served_85 : decode cX11_served 85 = .ok (.iload 5, 2) := by decide +kernel
theorem dX11_served_87 : decode cX11_served 87 = .ok (.ireturn, 1) := by decide +kernel
theorem dX11_served_88 : decode cX11_served 88 = .ok (.iconst 0, 1) := by decide +kernel
theorem dX11_served_89 : decode cX11_served 89 = .ok (.istore 6, 2) := by decide +kernel
theorem dX11_served_91 : decode cX11_served 91 = .ok (.iload 6, 2) := by decide +kernel
theorem dX11_served_93 : decode cX11_served 93 = .ok (.aload_n 0, 1) := by decide +kernel
theorem dX11_served_94 : decode cX11_served 94 = .ok (.getfield 134, 3) := by decide +kernel
theorem dX11_served_97 : decode cX11_served 97 = .ok (.if_icmp .ge 19, 3) := by decide +kernel
theorem dX11_served_100 : decode cX11_served 100 = .ok (.aload_n 0, 1) := by decide +kernel
theorem dX11_served_101 : decode cX11_served 101 = .ok (.iload 6, 2) := by decide +kernel
theorem dX11_served_103 : decode cX11_served 103 = .ok (.invokevirtual 140, 3) := by decide +kernel
theorem dX11_served_106 : decode cX11_served 106 = .ok (.iload_n 3, 1) := by decide +kernel
theorem dX11_served_107 : decode cX11_served 107 = .ok (.if_icmp .lt 9, 3) := by decide +kernel
theorem dX11_served_110 : decode cX11_served 110 = .ok (.iinc 6 1, 3) := by decide +kernel
theorem dX11_served_113 : decode cX11_served 113 = .ok (.goto (-22), 3) := by decide +kernel
theorem dX11_served_116 : decode cX11_served 116 = .ok (.iconst 0, 1) := by decide +kernel
theorem dX11_served_117 : decode cX11_served 117 = .ok (.istore 7, 2) := by decide +kernel
theorem dX11_served_119 : decode cX11_served 119 = .ok (.iload 7, 2) := by decide +kernel
theorem dX11_served_121 : decode cX11_served 121 = .ok (.aload_n 0, 1) := by decide +kernel
theorem dX11_served_122 : decode cX11_served 122 = .ok (.getfield 137, 3) := by decide +kernel
theorem dX11_served_125 : decode cX11_served 125 = .ok (.if_icmp .ge 21, 3) := by decide +kernel
theorem dX11_served_128 : decode cX11_served 128 = .ok (.aload_n 0, 1) := by decide +kernel
theorem dX11_served_129 : decode cX11_served 129 = .ok (.iload 7, 2) := by decide +kernel
theorem dX11_served_131 : decode cX11_served 131 = .ok (.invokevirtual 143, 3) := by decide +kernel
theorem dX11_served_134 : decode cX11_served 134 = .ok (.iload_n 2, 1) := by decide +kernel
theorem dX11_served_135 : decode cX11_served 135 = .ok (.iadd, 1) := by decide +kernel
theorem dX11_served_136 : decode cX11_served 136 = .ok (.iload_n 3, 1) := by decide +kernel
theorem dX11_served_137 : decode cX11_served 137 = .ok (.if_icmp .gt 9, 3) := by decide +kernel
theorem dX11_served_140 : decode cX11_served 140 = .ok (.iinc 7 1, 3) := by decide +kernel
theorem dX11_served_143 : decode cX11_served 143 = .ok (.goto (-24), 3) := by decide +kernel
theorem dX11_served_146 : decode cX11_served 146 = .ok (.iload 6, 2) := by decide +kernel
theorem dX11_served_148 : decode cX11_served 148 = .ok (.iload 7, 2) := by decide +kernel
theorem dX11_served_150 : decode cX11_served 150 = .ok (.if_icmp .ge 8, 3) := by decide +kernel
theorem dX11_served_153 : decode cX11_served 153 = .ok (.iload 6, 2) := by decide +kernel
theorem dX11_served_155 : decode cX11_served 155 = .ok (.goto 5, 3) := by decide +kernel
theorem dX11_served_158 : decode cX11_served 158 = .ok (.iload 7, 2) := by decide +kernel
theorem dX11_served_160 : decode cX11_served 160 = .ok (.istore 8, 2) := by decide +kernel
theorem dX11_served_162 : decode cX11_served 162 = .ok (.iconst 0, 1) := by decide +kernel
theorem dX11_served_163 : decode cX11_served 163 = .ok (.istore 9, 2) := by decide +kernel
theorem dX11_served_165 : decode cX11_served 165 = .ok (.iconst 0, 1) := by decide +kernel
theorem dX11_served_166 : decode cX11_served 166 = .ok (.istore 10, 2) := by decide +kernel
theorem dX11_served_168 : decode cX11_served 168 = .ok (.iconst 0, 1) := by decide +kernel
theorem dX11_served_169 : decode cX11_served 169 = .ok (.istore 11, 2) := by decide +kernel
theorem dX11_served_171 : decode cX11_served 171 = .ok (.iload 11, 2) := by decide +kernel
theorem dX11_served_173 : decode cX11_served 173 = .ok (.iload 8, 2) := by decide +kernel
theorem dX11_served_175 : decode cX11_served 175 = .ok (.if_icmp .ge 55, 3) := by decide +kernel
theorem dX11_served_178 : decode cX11_served 178 = .ok (.iload 9, 2) := by decide +kernel
theorem dX11_served_180 : decode cX11_served 180 = .ok (.aload_n 0, 1) := by decide +kernel
theorem dX11_served_181 : decode cX11_served 181 = .ok (.iload 11, 2) := by decide +kernel
theorem dX11_served_183 : decode cX11_served 183 = .ok (.invokevirtual 140, 3) := by decide +kernel
theorem dX11_served_186 : decode cX11_served 186 = .ok (.aload_n 0, 1) := by decide +kernel
theorem dX11_served_187 : decode cX11_served 187 = .ok (.iload 11, 2) := by decide +kernel
theorem dX11_served_189 : decode cX11_served 189 = .ok (.invokevirtual 143, 3) := by decide +kernel
theorem dX11_served_192 : decode cX11_served 192 = .ok (.isub, 1) := by decide +kernel
theorem dX11_served_193 : decode cX11_served 193 = .ok (.iadd, 1) := by decide +kernel
theorem dX11_served_194 : decode cX11_served 194 = .ok (.istore 9, 2) := by decide +kernel
theorem dX11_served_196 : decode cX11_served 196 = .ok (.iload 10, 2) := by decide +kernel
theorem dX11_served_198 : decode cX11_served 198 = .ok (.aload_n 0, 1) := by decide +kernel
theorem dX11_served_199 : decode cX11_served 199 = .ok (.iload 6, 2) := by decide +kernel
theorem dX11_served_201 : decode cX11_served 201 = .ok (.iconst 1, 1) := by decide +kernel
theorem dX11_served_202 : decode cX11_served 202 = .ok (.isub, 1) := by decide +kernel
theorem dX11_served_203 : decode cX11_served 203 = .ok (.iload 11, 2) := by decide +kernel
theorem dX11_served_205 : decode cX11_served 205 = .ok (.isub, 1) := by decide +kernel
theorem dX11_served_206 : decode cX11_served 206 = .ok (.invokevirtual 140, 3) := by decide +kernel
theorem dX11_served_209 : decode cX11_served 209 = .ok (.aload_n 0, 1) := by decide +kernel
theorem dX11_served_210 : decode cX11_served 210 = .ok (.iload 7, 2) := by decide +kernel
theorem dX11_served_212 : decode cX11_served 212 = .ok (.iconst 1, 1) := by decide +kernel
theorem dX11_served_213 : decode cX11_served 213 = .ok (.isub, 1) := by decide +kernel
theorem dX11_served_214 : decode cX11_served 214 = .ok (.iload 11, 2) := by decide +kernel
theorem dX11_served_216 : decode cX11_served 216 = .ok (.isub, 1) := by decide +kernel
theorem dX11_served_217 : decode cX11_served 217 = .ok (.invokevirtual 143, 3) := by decide +kernel
theorem dX11_served_220 : decode cX11_served 220 = .ok (.isub, 1) := by decide +kernel
theorem dX11_served_221 : decode cX11_served 221 = .ok (.iadd, 1) := by decide +kernel
theorem dX11_served_222 : decode cX11_served 222 = .ok (.istore 10, 2) := by decide +kernel
theorem dX11_served_224 : decode cX11_served 224 = .ok (.iinc 11 1, 3) := by decide +kernel
theorem dX11_served_227 : decode cX11_served 227 = .ok (.goto (-56), 3) := by decide +kernel
theorem dX11_served_230 : decode cX11_served 230 = .ok (.iload_n 1, 1) := by decide +kernel
theorem dX11_served_231 : decode cX11_served 231 = .ok (.ifCond .ne 8, 3) := by decide +kernel
theorem dX11_served_234 : decode cX11_served 234 = .ok (.iload 8, 2) := by decide +kernel
theorem dX11_served_236 : decode cX11_served 236 = .ok (.goto 28, 3) := by decide +kernel
theorem dX11_served_239 : decode cX11_served 239 = .ok (.iload_n 1, 1) := by decide +kernel
theorem dX11_served_240 : decode cX11_served 240 = .ok (.iconst 1, 1) := by decide +kernel
theorem dX11_served_241 : decode cX11_served 241 = .ok (.if_icmp .ne 8, 3) := by decide +kernel
theorem dX11_served_244 : decode cX11_served 244 = .ok (.iload 9, 2) := by decide +kernel
theorem dX11_served_246 : decode cX11_served 246 = .ok (.goto 18, 3) := by decide +kernel
theorem dX11_served_249 : decode cX11_served 249 = .ok (.iload_n 1, 1) := by decide +kernel
theorem dX11_served_250 : decode cX11_served 250 = .ok (.iconst 2, 1) := by decide +kernel
theorem dX11_served_251 : decode cX11_served 251 = .ok (.if_icmp .ne 8, 3) := by decide +kernel
theorem dX11_served_254 : decode cX11_served 254 = .ok (.iload 10, 2) := by decide +kernel
theorem dX11_served_256 : decode cX11_served 256 = .ok (.goto 8, 3) := by decide +kernel
theorem dX11_served_259 : decode cX11_served 259 = .ok (.iload 5, 2) := by decide +kernel
theorem dX11_served_261 : decode cX11_served 261 = .ok (.iload 10, 2) := by decide +kernel
theorem dX11_served_263 : decode cX11_served 263 = .ok (.isub, 1) := by decide +kernel
theorem dX11_served_264 : decode cX11_served 264 = .ok (.ireturn, 1) := by decide +kernel
theorem dX11_common_0 : decode cX11_common 0 = .ok (.lload_n 0, 1) := by decide +kernel
theorem dX11_common_1 : decode cX11_common 1 = .ok (.lstore 4, 2) := by decide +kernel
theorem dX11_common_3 : decode cX11_common 3 = .ok (.lload_n 2, 1) := by decide +kernel
theorem dX11_common_4 : decode cX11_common 4 = .ok (.lstore 6, 2) := by decide +kernel
theorem dX11_common_6 : decode cX11_common 6 = .ok (.lload 6, 2) := by decide +kernel
theorem dX11_common_8 : decode cX11_common 8 = .ok (.lconst 0, 1) := by decide +kernel
theorem dX11_common_9 : decode cX11_common 9 = .ok (.lcmp, 1) := by decide +kernel
theorem dX11_common_10 : decode cX11_common 10 = .ok (.ifCond .eq 21, 3) := by decide +kernel
theorem dX11_common_13 : decode cX11_common 13 = .ok (.lload 4, 2) := by decide +kernel
theorem dX11_common_15 : decode cX11_common 15 = .ok (.lload 6, 2) := by decide +kernel
theorem dX11_common_17 : decode cX11_common 17 = .ok (.lrem, 1) := by decide +kernel
theorem dX11_common_18 : decode cX11_common 18 = .ok (.lstore 8, 2) := by decide +kernel
theorem dX11_common_20 : decode cX11_common 20 = .ok (.lload 6, 2) := by decide +kernel
theorem dX11_common_22 : decode cX11_common 22 = .ok (.lstore 4, 2) := by decide +kernel
theorem dX11_common_24 : decode cX11_common 24 = .ok (.lload 8, 2) := by decide +kernel
theorem dX11_common_26 : decode cX11_common 26 = .ok (.lstore 6, 2) := by decide +kernel
theorem dX11_common_28 : decode cX11_common 28 = .ok (.goto (-22), 3) := by decide +kernel
theorem dX11_common_31 : decode cX11_common 31 = .ok (.lload 4, 2) := by decide +kernel
theorem dX11_common_33 : decode cX11_common 33 = .ok (.lreturn, 1) := by decide +kernel
theorem dX11_pairs_0 : decode cX11_pairs 0 = .ok (.iload_n 1, 1) := by decide +kernel
theorem dX11_pairs_1 : decode cX11_pairs 1 = .ok (.i2l, 1) := by decide +kernel
theorem dX11_pairs_2 : decode cX11_pairs 2 = .ok (.lconst 0, 1) := by decide +kernel
theorem dX11_pairs_3 : decode cX11_pairs 3 = .ok (.lconst 1, 1) := by decide +kernel
theorem dX11_pairs_4 : decode cX11_pairs 4 = .ok (.invokestatic 79, 3) := by decide +kernel
theorem dX11_pairs_7 : decode cX11_pairs 7 = .ok (.ifCond .ne 7, 3) := by decide +kernel
theorem dX11_pairs_10 : decode cX11_pairs 10 = .ok (.ldc2_w 167, 3) := by decide +kernel
theorem dX11_pairs_13 : decode cX11_pairs 13 = .ok (.lreturn, 1) := by decide +kernel
theorem dX11_pairs_14 : decode cX11_pairs 14 = .ok (.lconst 0, 1) := by decide +kernel
theorem dX11_pairs_15 : decode cX11_pairs 15 = .ok (.lstore_n 2, 1) := by decide +kernel
theorem dX11_pairs_16 : decode cX11_pairs 16 = .ok (.iconst 0, 1) := by decide +kernel
theorem dX11_pairs_17 : decode cX11_pairs 17 = .ok (.istore 4, 2) := by decide +kernel
theorem dX11_pairs_19 : decode cX11_pairs 19 = .ok (.iload 4, 2) := by decide +kernel
theorem dX11_pairs_21 : decode cX11_pairs 21 = .ok (.aload_n 0, 1) := by decide +kernel
theorem dX11_pairs_22 : decode cX11_pairs 22 = .ok (.getfield 13, 3) := by decide +kernel
theorem dX11_pairs_25 : decode cX11_pairs 25 = .ok (.iconst 0, 1) := by decide +kernel
theorem dX11_pairs_26 : decode cX11_pairs 26 = .ok (.iaload, 1) := by decide +kernel
theorem dX11_pairs_27 : decode cX11_pairs 27 = .ok (.if_icmp .ge 109, 3) := by decide +kernel
theorem dX11_pairs_30 : decode cX11_pairs 30 = .ok (.iconst 0, 1) := by decide +kernel
theorem dX11_pairs_31 : decode cX11_pairs 31 = .ok (.istore 5, 2) := by decide +kernel
theorem dX11_pairs_33 : decode cX11_pairs 33 = .ok (.iload 5, 2) := by decide +kernel
theorem dX11_pairs_35 : decode cX11_pairs 35 = .ok (.aload_n 0, 1) := by decide +kernel
theorem dX11_pairs_36 : decode cX11_pairs 36 = .ok (.getfield 13, 3) := by decide +kernel
theorem dX11_pairs_39 : decode cX11_pairs 39 = .ok (.iconst 0, 1) := by decide +kernel
theorem dX11_pairs_40 : decode cX11_pairs 40 = .ok (.iaload, 1) := by decide +kernel
theorem dX11_pairs_41 : decode cX11_pairs 41 = .ok (.if_icmp .ge 89, 3) := by decide +kernel
theorem dX11_pairs_44 : decode cX11_pairs 44 = .ok (.aload_n 0, 1) := by decide +kernel
theorem dX11_pairs_45 : decode cX11_pairs 45 = .ok (.getfield 16, 3) := by decide +kernel
theorem dX11_pairs_48 : decode cX11_pairs 48 = .ok (.iload 4, 2) := by decide +kernel
theorem dX11_pairs_50 : decode cX11_pairs 50 = .ok (.iaload, 1) := by decide +kernel
theorem dX11_pairs_51 : decode cX11_pairs 51 = .ok (.ifCond .ne 42, 3) := by decide +kernel
theorem dX11_pairs_54 : decode cX11_pairs 54 = .ok (.aload_n 0, 1) := by decide +kernel
theorem dX11_pairs_55 : decode cX11_pairs 55 = .ok (.getfield 16, 3) := by decide +kernel
theorem dX11_pairs_58 : decode cX11_pairs 58 = .ok (.iload 5, 2) := by decide +kernel
theorem dX11_pairs_60 : decode cX11_pairs 60 = .ok (.iaload, 1) := by decide +kernel
theorem dX11_pairs_61 : decode cX11_pairs 61 = .ok (.iconst 1, 1) := by decide +kernel
theorem dX11_pairs_62 : decode cX11_pairs 62 = .ok (.if_icmp .ne 31, 3) := by decide +kernel
theorem dX11_pairs_65 : decode cX11_pairs 65 = .ok (.aload_n 0, 1) := by decide +kernel
theorem dX11_pairs_66 : decode cX11_pairs 66 = .ok (.getfield 19, 3) := by decide +kernel
theorem dX11_pairs_69 : decode cX11_pairs 69 = .ok (.iload 4, 2) := by decide +kernel
theorem dX11_pairs_71 : decode cX11_pairs 71 = .ok (.iaload, 1) := by decide +kernel
theorem dX11_pairs_72 : decode cX11_pairs 72 = .ok (.aload_n 0, 1) := by decide +kernel
theorem dX11_pairs_73 : decode cX11_pairs 73 = .ok (.getfield 19, 3) := by decide +kernel
theorem dX11_pairs_76 : decode cX11_pairs 76 = .ok (.iload 5, 2) := by decide +kernel
theorem dX11_pairs_78 : decode cX11_pairs 78 = .ok (.iaload, 1) := by decide +kernel
theorem dX11_pairs_79 : decode cX11_pairs 79 = .ok (.aload_n 0, 1) := by decide +kernel
theorem dX11_pairs_80 : decode cX11_pairs 80 = .ok (.getfield 25, 3) := by decide +kernel
theorem dX11_pairs_83 : decode cX11_pairs 83 = .ok (.iconst 1, 1) := by decide +kernel
theorem dX11_pairs_84 : decode cX11_pairs 84 = .ok (.iaload, 1) := by decide +kernel
theorem dX11_pairs_85 : decode cX11_pairs 85 = .ok (.iadd, 1) := by decide +kernel
theorem dX11_pairs_86 : decode cX11_pairs 86 = .ok (.if_icmp .lt 7, 3) := by decide +kernel
theorem dX11_pairs_89 : decode cX11_pairs 89 = .ok (.iconst 1, 1) := by decide +kernel
theorem dX11_pairs_90 : decode cX11_pairs 90 = .ok (.goto 4, 3) := by decide +kernel
theorem dX11_pairs_93 : decode cX11_pairs 93 = .ok (.iconst 0, 1) := by decide +kernel
theorem dX11_pairs_94 : decode cX11_pairs 94 = .ok (.istore 6, 2) := by decide +kernel
theorem dX11_pairs_96 : decode cX11_pairs 96 = .ok (.lload_n 2, 1) := by decide +kernel
theorem dX11_pairs_97 : decode cX11_pairs 97 = .ok (.iload 6, 2) := by decide +kernel
theorem dX11_pairs_99 : decode cX11_pairs 99 = .ok (.ifCond .eq 22, 3) := by decide +kernel
theorem dX11_pairs_102 : decode cX11_pairs 102 = .ok (.aload_n 0, 1) := by decide +kernel
theorem dX11_pairs_103 : decode cX11_pairs 103 = .ok (.getfield 19, 3) := by decide +kernel
theorem dX11_pairs_106 : decode cX11_pairs 106 = .ok (.iload 4, 2) := by decide +kernel
theorem dX11_pairs_108 : decode cX11_pairs 108 = .ok (.iaload, 1) := by decide +kernel
theorem dX11_pairs_109 : decode cX11_pairs 109 = .ok (.aload_n 0, 1) := by decide +kernel
theorem dX11_pairs_110 : decode cX11_pairs 110 = .ok (.getfield 19, 3) := by decide +kernel
theorem dX11_pairs_113 : decode cX11_pairs 113 = .ok (.iload 5, 2) := by decide +kernel
theorem dX11_pairs_115 : decode cX11_pairs 115 = .ok (.iaload, 1) := by decide +kernel
theorem dX11_pairs_116 : decode cX11_pairs 116 = .ok (.isub, 1) := by decide +kernel
theorem dX11_pairs_117 : decode cX11_pairs 117 = .ok (.i2l, 1) := by decide +kernel
theorem dX11_pairs_118 : decode cX11_pairs 118 = .ok (.goto 4, 3) := by decide +kernel
theorem dX11_pairs_121 : decode cX11_pairs 121 = .ok (.lconst 0, 1) := by decide +kernel
theorem dX11_pairs_122 : decode cX11_pairs 122 = .ok (.ladd, 1) := by decide +kernel
theorem dX11_pairs_123 : decode cX11_pairs 123 = .ok (.lstore_n 2, 1) := by decide +kernel
theorem dX11_pairs_124 : decode cX11_pairs 124 = .ok (.iinc 5 1, 3) := by decide +kernel
theorem dX11_pairs_127 : decode cX11_pairs 127 = .ok (.goto (-94), 3) := by decide +kernel
theorem dX11_pairs_130 : decode cX11_pairs 130 = .ok (.iinc 4 1, 3) := by decide +kernel
theorem dX11_pairs_133 : decode cX11_pairs 133 = .ok (.goto (-114), 3) := by decide +kernel
theorem dX11_pairs_136 : decode cX11_pairs 136 = .ok (.aload_n 0, 1) := by decide +kernel
theorem dX11_pairs_137 : decode cX11_pairs 137 = .ok (.iconst 0, 1) := by decide +kernel
theorem dX11_pairs_138 : decode cX11_pairs 138 = .ok (.invokevirtual 169, 3) := by decide +kernel
theorem dX11_pairs_141 : decode cX11_pairs 141 = .ok (.aload_n 0, 1) := by decide +kernel
theorem dX11_pairs_142 : decode cX11_pairs 142 = .ok (.iconst 1, 1) := by decide +kernel
theorem dX11_pairs_143 : decode cX11_pairs 143 = .ok (.invokevirtual 169, 3) := by decide +kernel
theorem dX11_pairs_146 : decode cX11_pairs 146 = .ok (.if_icmp .le 11, 3) := by decide +kernel
theorem dX11_pairs_149 : decode cX11_pairs 149 = .ok (.aload_n 0, 1) := by decide +kernel
theorem dX11_pairs_150 : decode cX11_pairs 150 = .ok (.iconst 0, 1) := by decide +kernel
theorem dX11_pairs_151 : decode cX11_pairs 151 = .ok (.invokevirtual 169, 3) := by decide +kernel
theorem dX11_pairs_154 : decode cX11_pairs 154 = .ok (.goto 8, 3) := by decide +kernel
theorem dX11_pairs_157 : decode cX11_pairs 157 = .ok (.aload_n 0, 1) := by decide +kernel
theorem dX11_pairs_158 : decode cX11_pairs 158 = .ok (.iconst 1, 1) := by decide +kernel
theorem dX11_pairs_159 : decode cX11_pairs 159 = .ok (.invokevirtual 169, 3) := by decide +kernel
theorem dX11_pairs_162 : decode cX11_pairs 162 = .ok (.istore 4, 2) := by decide +kernel
theorem dX11_pairs_164 : decode cX11_pairs 164 = .ok (.lload_n 2, 1) := by decide +kernel
theorem dX11_pairs_165 : decode cX11_pairs 165 = .ok (.iload 4, 2) := by decide +kernel
theorem dX11_pairs_167 : decode cX11_pairs 167 = .ok (.i2l, 1) := by decide +kernel
theorem dX11_pairs_168 : decode cX11_pairs 168 = .ok (.invokestatic 172, 3) := by decide +kernel
theorem dX11_pairs_171 : decode cX11_pairs 171 = .ok (.lstore 5, 2) := by decide +kernel
theorem dX11_pairs_173 : decode cX11_pairs 173 = .ok (.iload_n 1, 1) := by decide +kernel
theorem dX11_pairs_174 : decode cX11_pairs 174 = .ok (.ifCond .ne 10, 3) := by decide +kernel
theorem dX11_pairs_177 : decode cX11_pairs 177 = .ok (.lload_n 2, 1) := by decide +kernel
theorem dX11_pairs_178 : decode cX11_pairs 178 = .ok (.lload 5, 2) := by decide +kernel
theorem dX11_pairs_180 : decode cX11_pairs 180 = .ok (.ldiv, 1) := by decide +kernel
theorem dX11_pairs_181 : decode cX11_pairs 181 = .ok (.goto 9, 3) := by decide +kernel
theorem dX11_pairs_184 : decode cX11_pairs 184 = .ok (.iload 4, 2) := by decide +kernel
theorem dX11_pairs_186 : decode cX11_pairs 186 = .ok (.i2l, 1) := by decide +kernel
theorem dX11_pairs_187 : decode cX11_pairs 187 = .ok (.lload 5, 2) := by decide +kernel
theorem dX11_pairs_189 : decode cX11_pairs 189 = .ok (.ldiv, 1) := by decide +kernel
theorem dX11_pairs_190 : decode cX11_pairs 190 = .ok (.lreturn, 1) := by decide +kernel
theorem dX11_isFirst_0 : decode cX11_isFirst 0 = .ok (.iconst 0, 1) := by decide +kernel
theorem dX11_isFirst_1 : decode cX11_isFirst 1 = .ok (.istore_n 3, 1) := by decide +kernel
theorem dX11_isFirst_2 : decode cX11_isFirst 2 = .ok (.iconst 0, 1) := by decide +kernel
theorem dX11_isFirst_3 : decode cX11_isFirst 3 = .ok (.istore 4, 2) := by decide +kernel
theorem dX11_isFirst_5 : decode cX11_isFirst 5 = .ok (.iload 4, 2) := by decide +kernel
theorem dX11_isFirst_7 : decode cX11_isFirst 7 = .ok (.iload_n 2, 1) := by decide +kernel
theorem dX11_isFirst_8 : decode cX11_isFirst 8 = .ok (.if_icmp .ge 41, 3) := by decide +kernel
theorem dX11_isFirst_11 : decode cX11_isFirst 11 = .ok (.iload_n 3, 1) := by decide +kernel
theorem dX11_isFirst_12 : decode cX11_isFirst 12 = .ok (.ifCond .ne 25, 3) := by decide +kernel
theorem dX11_isFirst_15 : decode cX11_isFirst 15 = .ok (.aload_n 0, 1) := by decide +kernel
theorem dX11_isFirst_16 : decode cX11_isFirst 16 = .ok (.getfield 52, 3) := by decide +kernel
theorem dX11_isFirst_19 : decode cX11_isFirst 19 = .ok (.iload 4, 2) := by decide +kernel
theorem dX11_isFirst_21 : decode cX11_isFirst 21 = .ok (.iaload, 1) := by decide +kernel
theorem dX11_isFirst_22 : decode cX11_isFirst 22 = .ok (.iload_n 1, 1) := by decide +kernel
theorem dX11_isFirst_23 : decode cX11_isFirst 23 = .ok (.if_icmp .eq 14, 3) := by decide +kernel
theorem dX11_isFirst_26 : decode cX11_isFirst 26 = .ok (.aload_n 0, 1) := by decide +kernel
theorem dX11_isFirst_27 : decode cX11_isFirst 27 = .ok (.getfield 55, 3) := by decide +kernel
theorem dX11_isFirst_30 : decode cX11_isFirst 30 = .ok (.iload 4, 2) := by decide +kernel
theorem dX11_isFirst_32 : decode cX11_isFirst 32 = .ok (.iaload, 1) := by decide +kernel
theorem dX11_isFirst_33 : decode cX11_isFirst 33 = .ok (.iload_n 1, 1) := by decide +kernel
theorem dX11_isFirst_34 : decode cX11_isFirst 34 = .ok (.if_icmp .ne 7, 3) := by decide +kernel
theorem dX11_isFirst_37 : decode cX11_isFirst 37 = .ok (.iconst 1, 1) := by decide +kernel
theorem dX11_isFirst_38 : decode cX11_isFirst 38 = .ok (.goto 4, 3) := by decide +kernel
theorem dX11_isFirst_41 : decode cX11_isFirst 41 = .ok (.iconst 0, 1) := by decide +kernel
theorem dX11_isFirst_42 : decode cX11_isFirst 42 = .ok (.istore_n 3, 1) := by decide +kernel
theorem dX11_isFirst_43 : decode cX11_isFirst 43 = .ok (.iinc 4 1, 3) := by decide +kernel
theorem dX11_isFirst_46 : decode cX11_isFirst 46 = .ok (.goto (-41), 3) := by decide +kernel
theorem dX11_isFirst_49 : decode cX11_isFirst 49 = .ok (.iload_n 3, 1) := by decide +kernel
theorem dX11_isFirst_50 : decode cX11_isFirst 50 = .ok (.ireturn, 1) := by decide +kernel
theorem dX11_bellOf_0 : decode cX11_bellOf 0 = .ok (.aload_n 0, 1) := by decide +kernel
theorem dX11_bellOf_1 : decode cX11_bellOf 1 = .ok (.invokevirtual 148, 3) := by decide +kernel
theorem dX11_bellOf_4 : decode cX11_bellOf 4 = .ok (.aload_n 0, 1) := by decide +kernel
theorem dX11_bellOf_5 : decode cX11_bellOf 5 = .ok (.getfield 49, 3) := by decide +kernel
theorem dX11_bellOf_8 : decode cX11_bellOf 8 = .ok (.iload_n 1, 1) := by decide +kernel
theorem dX11_bellOf_9 : decode cX11_bellOf 9 = .ok (.iload_n 2, 1) := by decide +kernel
theorem dX11_bellOf_10 : decode cX11_bellOf 10 = .ok (.iastore, 1) := by decide +kernel
theorem dX11_bellOf_11 : decode cX11_bellOf 11 = .ok (.aload_n 0, 1) := by decide +kernel
theorem dX11_bellOf_12 : decode cX11_bellOf 12 = .ok (.invokevirtual 151, 3) := by decide +kernel
theorem dX11_bellOf_15 : decode cX11_bellOf 15 = .ok (.aload_n 0, 1) := by decide +kernel
theorem dX11_bellOf_16 : decode cX11_bellOf 16 = .ok (.getfield 25, 3) := by decide +kernel
theorem dX11_bellOf_19 : decode cX11_bellOf 19 = .ok (.iconst 1, 1) := by decide +kernel
theorem dX11_bellOf_20 : decode cX11_bellOf 20 = .ok (.iaload, 1) := by decide +kernel
theorem dX11_bellOf_21 : decode cX11_bellOf 21 = .ok (.istore_n 3, 1) := by decide +kernel
theorem dX11_bellOf_22 : decode cX11_bellOf 22 = .ok (.aload_n 0, 1) := by decide +kernel
theorem dX11_bellOf_23 : decode cX11_bellOf 23 = .ok (.iload_n 3, 1) := by decide +kernel
theorem dX11_bellOf_24 : decode cX11_bellOf 24 = .ok (.invokevirtual 154, 3) := by decide +kernel
theorem dX11_bellOf_27 : decode cX11_bellOf 27 = .ok (.istore 4, 2) := by decide +kernel
theorem dX11_bellOf_29 : decode cX11_bellOf 29 = .ok (.iload 4, 2) := by decide +kernel
theorem dX11_bellOf_31 : decode cX11_bellOf 31 = .ok (.ifCond .eq 13, 3) := by decide +kernel
theorem dX11_bellOf_34 : decode cX11_bellOf 34 = .ok (.aload_n 0, 1) := by decide +kernel
theorem dX11_bellOf_35 : decode cX11_bellOf 35 = .ok (.iload_n 1, 1) := by decide +kernel
theorem dX11_bellOf_36 : decode cX11_bellOf 36 = .ok (.iload 4, 2) := by decide +kernel
theorem dX11_bellOf_38 : decode cX11_bellOf 38 = .ok (.invokevirtual 176, 3) := by decide +kernel
theorem dX11_bellOf_41 : decode cX11_bellOf 41 = .ok (.ifCond .ne 5, 3) := by decide +kernel
theorem dX11_bellOf_44 : decode cX11_bellOf 44 = .ok (.iconst 0, 1) := by decide +kernel
theorem dX11_bellOf_45 : decode cX11_bellOf 45 = .ok (.ireturn, 1) := by decide +kernel
theorem dX11_bellOf_46 : decode cX11_bellOf 46 = .ok (.aload_n 0, 1) := by decide +kernel
theorem dX11_bellOf_47 : decode cX11_bellOf 47 = .ok (.iload 4, 2) := by decide +kernel
theorem dX11_bellOf_49 : decode cX11_bellOf 49 = .ok (.iload_n 3, 1) := by decide +kernel
theorem dX11_bellOf_50 : decode cX11_bellOf 50 = .ok (.invokevirtual 160, 3) := by decide +kernel
theorem dX11_bellOf_53 : decode cX11_bellOf 53 = .ok (.istore 5, 2) := by decide +kernel
theorem dX11_bellOf_55 : decode cX11_bellOf 55 = .ok (.aload_n 0, 1) := by decide +kernel
theorem dX11_bellOf_56 : decode cX11_bellOf 56 = .ok (.getfield 16, 3) := by decide +kernel
theorem dX11_bellOf_59 : decode cX11_bellOf 59 = .ok (.iload_n 1, 1) := by decide +kernel
theorem dX11_bellOf_60 : decode cX11_bellOf 60 = .ok (.iaload, 1) := by decide +kernel
theorem dX11_bellOf_61 : decode cX11_bellOf 61 = .ok (.ifCond .ne 15, 3) := by decide +kernel
theorem dX11_bellOf_64 : decode cX11_bellOf 64 = .ok (.aload_n 0, 1) := by decide +kernel
theorem dX11_bellOf_65 : decode cX11_bellOf 65 = .ok (.getfield 19, 3) := by decide +kernel
theorem dX11_bellOf_68 : decode cX11_bellOf 68 = .ok (.iload_n 1, 1) := by decide +kernel
theorem dX11_bellOf_69 : decode cX11_bellOf 69 = .ok (.iaload, 1) := by decide +kernel
theorem dX11_bellOf_70 : decode cX11_bellOf 70 = .ok (.iload 5, 2) := by decide +kernel
theorem dX11_bellOf_72 : decode cX11_bellOf 72 = .ok (.isub, 1) := by decide +kernel
theorem dX11_bellOf_73 : decode cX11_bellOf 73 = .ok (.goto 14, 3) := by decide +kernel
theorem dX11_bellOf_76 : decode cX11_bellOf 76 = .ok (.iload 5, 2) := by decide +kernel
theorem dX11_bellOf_78 : decode cX11_bellOf 78 = .ok (.iload_n 3, 1) := by decide +kernel
theorem dX11_bellOf_79 : decode cX11_bellOf 79 = .ok (.isub, 1) := by decide +kernel
theorem dX11_bellOf_80 : decode cX11_bellOf 80 = .ok (.aload_n 0, 1) := by decide +kernel
theorem dX11_bellOf_81 : decode cX11_bellOf 81 = .ok (.getfield 19, 3) := by decide +kernel
theorem dX11_bellOf_84 : decode cX11_bellOf 84 = .ok (.iload_n 1, 1) := by decide +kernel
theorem dX11_bellOf_85 : decode cX11_bellOf 85 = .ok (.iaload, 1) := by decide +kernel
theorem dX11_bellOf_86 : decode cX11_bellOf 86 = .ok (.isub, 1) := by decide +kernel
theorem dX11_bellOf_87 : decode cX11_bellOf 87 = .ok (.ireturn, 1) := by decide +kernel
theorem dX11_bell_0 : decode cX11_bell 0 = .ok (.aload_n 0, 1) := by decide +kernel
theorem dX11_bell_1 : decode cX11_bell 1 = .ok (.iload_n 1, 1) := by decide +kernel
theorem dX11_bell_2 : decode cX11_bell 2 = .ok (.invokevirtual 127, 3) := by decide +kernel
theorem dX11_bell_5 : decode cX11_bell 5 = .ok (.ifCond .eq 24, 3) := by decide +kernel
theorem dX11_bell_8 : decode cX11_bell 8 = .ok (.iload_n 2, 1) := by decide +kernel
theorem dX11_bell_9 : decode cX11_bell 9 = .ok (.i2l, 1) := by decide +kernel
theorem dX11_bell_10 : decode cX11_bell 10 = .ok (.lconst 0, 1) := by decide +kernel
theorem dX11_bell_11 : decode cX11_bell 11 = .ok (.ldc2_w 180, 3) := by decide +kernel
theorem dX11_bell_14 : decode cX11_bell 14 = .ok (.invokestatic 79, 3) := by decide +kernel
theorem dX11_bell_17 : decode cX11_bell 17 = .ok (.ifCond .eq 12, 3) := by decide +kernel
theorem dX11_bell_20 : decode cX11_bell 20 = .ok (.aload_n 0, 1) := by decide +kernel
theorem dX11_bell_21 : decode cX11_bell 21 = .ok (.iload_n 1, 1) := by decide +kernel
theorem dX11_bell_22 : decode cX11_bell 22 = .ok (.iload_n 2, 1) := by decide +kernel
theorem dX11_bell_23 : decode cX11_bell 23 = .ok (.invokevirtual 182, 3) := by decide +kernel
theorem dX11_bell_26 : decode cX11_bell 26 = .ok (.goto 6, 3) := by decide +kernel
theorem dX11_bell_29 : decode cX11_bell 29 = .ok (.sipush (-1000), 3) := by decide +kernel
theorem dX11_bell_32 : decode cX11_bell 32 = .ok (.ireturn, 1) := by decide +kernel
theorem dX11_best_0 : decode cX11_best 0 = .ok (.aload_n 0, 1) := by decide +kernel
theorem dX11_best_1 : decode cX11_best 1 = .ok (.iload_n 1, 1) := by decide +kernel
theorem dX11_best_2 : decode cX11_best 2 = .ok (.invokevirtual 127, 3) := by decide +kernel
theorem dX11_best_5 : decode cX11_best 5 = .ok (.ifCond .eq 13, 3) := by decide +kernel
theorem dX11_best_8 : decode cX11_best 8 = .ok (.iload_n 2, 1) := by decide +kernel
theorem dX11_best_9 : decode cX11_best 9 = .ok (.i2l, 1) := by decide +kernel
theorem dX11_best_10 : decode cX11_best 10 = .ok (.lconst 0, 1) := by decide +kernel
theorem dX11_best_11 : decode cX11_best 11 = .ok (.lconst 1, 1) := by decide +kernel
theorem dX11_best_12 : decode cX11_best 12 = .ok (.invokestatic 79, 3) := by decide +kernel
theorem dX11_best_15 : decode cX11_best 15 = .ok (.ifCond .ne 5, 3) := by decide +kernel
theorem dX11_best_18 : decode cX11_best 18 = .ok (.iconst (-1), 1) := by decide +kernel
theorem dX11_best_19 : decode cX11_best 19 = .ok (.ireturn, 1) := by decide +kernel
theorem dX11_best_20 : decode cX11_best 20 = .ok (.aload_n 0, 1) := by decide +kernel
theorem dX11_best_21 : decode cX11_best 21 = .ok (.getfield 19, 3) := by decide +kernel
theorem dX11_best_24 : decode cX11_best 24 = .ok (.iload_n 1, 1) := by decide +kernel
theorem dX11_best_25 : decode cX11_best 25 = .ok (.iaload, 1) := by decide +kernel
theorem dX11_best_26 : decode cX11_best 26 = .ok (.istore_n 3, 1) := by decide +kernel
theorem dX11_best_27 : decode cX11_best 27 = .ok (.aload_n 0, 1) := by decide +kernel
theorem dX11_best_28 : decode cX11_best 28 = .ok (.iload_n 1, 1) := by decide +kernel
theorem dX11_best_29 : decode cX11_best 29 = .ok (.iload_n 3, 1) := by decide +kernel
theorem dX11_best_30 : decode cX11_best 30 = .ok (.invokevirtual 182, 3) := by decide +kernel
theorem dX11_best_33 : decode cX11_best 33 = .ok (.istore 4, 2) := by decide +kernel
theorem dX11_best_35 : decode cX11_best 35 = .ok (.iconst 1, 1) := by decide +kernel
theorem dX11_best_36 : decode cX11_best 36 = .ok (.istore 5, 2) := by decide +kernel
theorem dX11_best_38 : decode cX11_best 38 = .ok (.iload 5, 2) := by decide +kernel
theorem dX11_best_40 : decode cX11_best 40 = .ok (.bipush 100, 2) := by decide +kernel
theorem dX11_best_42 : decode cX11_best 42 = .ok (.if_icmp .ge 75, 3) := by decide +kernel
theorem dX11_best_45 : decode cX11_best 45 = .ok (.iconst (-1), 1) := by decide +kernel
theorem dX11_best_46 : decode cX11_best 46 = .ok (.istore 6, 2) := by decide +kernel
theorem dX11_best_48 : decode cX11_best 48 = .ok (.iload 6, 2) := by decide +kernel
theorem dX11_best_50 : decode cX11_best 50 = .ok (.iconst 2, 1) := by decide +kernel
theorem dX11_best_51 : decode cX11_best 51 = .ok (.if_icmp .ge 60, 3) := by decide +kernel
theorem dX11_best_54 : decode cX11_best 54 = .ok (.aload_n 0, 1) := by decide +kernel
theorem dX11_best_55 : decode cX11_best 55 = .ok (.getfield 19, 3) := by decide +kernel
theorem dX11_best_58 : decode cX11_best 58 = .ok (.iload_n 1, 1) := by decide +kernel
theorem dX11_best_59 : decode cX11_best 59 = .ok (.iaload, 1) := by decide +kernel
theorem dX11_best_60 : decode cX11_best 60 = .ok (.iload 6, 2) := by decide +kernel
theorem dX11_best_62 : decode cX11_best 62 = .ok (.iload 5, 2) := by decide +kernel
theorem dX11_best_64 : decode cX11_best 64 = .ok (.imul, 1) := by decide +kernel
theorem dX11_best_65 : decode cX11_best 65 = .ok (.iadd, 1) := by decide +kernel
theorem dX11_best_66 : decode cX11_best 66 = .ok (.istore 7, 2) := by decide +kernel
theorem dX11_best_68 : decode cX11_best 68 = .ok (.iload 7, 2) := by decide +kernel
theorem dX11_best_70 : decode cX11_best 70 = .ok (.i2l, 1) := by decide +kernel
theorem dX11_best_71 : decode cX11_best 71 = .ok (.lconst 0, 1) := by decide +kernel
theorem dX11_best_72 : decode cX11_best 72 = .ok (.ldc2_w 180, 3) := by decide +kernel
theorem dX11_best_75 : decode cX11_best 75 = .ok (.invokestatic 79, 3) := by decide +kernel
theorem dX11_best_78 : decode cX11_best 78 = .ok (.ifCond .eq 27, 3) := by decide +kernel
theorem dX11_best_81 : decode cX11_best 81 = .ok (.aload_n 0, 1) := by decide +kernel
theorem dX11_best_82 : decode cX11_best 82 = .ok (.iload_n 1, 1) := by decide +kernel
theorem dX11_best_83 : decode cX11_best 83 = .ok (.iload 7, 2) := by decide +kernel
theorem dX11_best_85 : decode cX11_best 85 = .ok (.invokevirtual 182, 3) := by decide +kernel
theorem dX11_best_88 : decode cX11_best 88 = .ok (.iload 4, 2) := by decide +kernel
theorem dX11_best_90 : decode cX11_best 90 = .ok (.if_icmp .le 15, 3) := by decide +kernel
theorem dX11_best_93 : decode cX11_best 93 = .ok (.aload_n 0, 1) := by decide +kernel
theorem dX11_best_94 : decode cX11_best 94 = .ok (.iload_n 1, 1) := by decide +kernel
theorem dX11_best_95 : decode cX11_best 95 = .ok (.iload 7, 2) := by decide +kernel
theorem dX11_best_97 : decode cX11_best 97 = .ok (.invokevirtual 182, 3) := by decide +kernel
theorem dX11_best_100 : decode cX11_best 100 = .ok (.istore 4, 2) := by decide +kernel
theorem dX11_best_102 : decode cX11_best 102 = .ok (.iload 7, 2) := by decide +kernel
theorem dX11_best_104 : decode cX11_best 104 = .ok (.istore_n 3, 1) := by decide +kernel
theorem dX11_best_105 : decode cX11_best 105 = .ok (.iinc 6 2, 3) := by decide +kernel
theorem dX11_best_108 : decode cX11_best 108 = .ok (.goto (-60), 3) := by decide +kernel
theorem dX11_best_111 : decode cX11_best 111 = .ok (.iinc 5 1, 3) := by decide +kernel
theorem dX11_best_114 : decode cX11_best 114 = .ok (.goto (-76), 3) := by decide +kernel
theorem dX11_best_117 : decode cX11_best 117 = .ok (.iload_n 2, 1) := by decide +kernel
theorem dX11_best_118 : decode cX11_best 118 = .ok (.ifCond .ne 7, 3) := by decide +kernel
theorem dX11_best_121 : decode cX11_best 121 = .ok (.iload_n 3, 1) := by decide +kernel
theorem dX11_best_122 : decode cX11_best 122 = .ok (.goto 5, 3) := by decide +kernel
theorem dX11_best_125 : decode cX11_best 125 = .ok (.iload 4, 2) := by decide +kernel
theorem dX11_best_127 : decode cX11_best 127 = .ok (.ireturn, 1) := by decide +kernel
theorem dX11_draw_0 : decode cX11_draw 0 = .ok (.ldc2_w 185, 3) := by decide +kernel
theorem dX11_draw_3 : decode cX11_draw 3 = .ok (.aload_n 0, 1) := by decide +kernel
theorem dX11_draw_4 : decode cX11_draw 4 = .ok (.getfield 187, 3) := by decide +kernel
theorem dX11_draw_7 : decode cX11_draw 7 = .ok (.i2l, 1) := by decide +kernel
theorem dX11_draw_8 : decode cX11_draw 8 = .ok (.lmul, 1) := by decide +kernel
theorem dX11_draw_9 : decode cX11_draw 9 = .ok (.ldc2_w 190, 3) := by decide +kernel
theorem dX11_draw_12 : decode cX11_draw 12 = .ok (.iload_n 1, 1) := by decide +kernel
theorem dX11_draw_13 : decode cX11_draw 13 = .ok (.i2l, 1) := by decide +kernel
theorem dX11_draw_14 : decode cX11_draw 14 = .ok (.lmul, 1) := by decide +kernel
theorem dX11_draw_15 : decode cX11_draw 15 = .ok (.ladd, 1) := by decide +kernel
theorem dX11_draw_16 : decode cX11_draw 16 = .ok (.ldc2_w 192, 3) := by decide +kernel
theorem dX11_draw_19 : decode cX11_draw 19 = .ok (.iload_n 2, 1) := by decide +kernel
theorem dX11_draw_20 : decode cX11_draw 20 = .ok (.i2l, 1) := by decide +kernel
theorem dX11_draw_21 : decode cX11_draw 21 = .ok (.lmul, 1) := by decide +kernel
theorem dX11_draw_22 : decode cX11_draw 22 = .ok (.ladd, 1) := by decide +kernel
theorem dX11_draw_23 : decode cX11_draw 23 = .ok (.lconst 1, 1) := by decide +kernel
theorem dX11_draw_24 : decode cX11_draw 24 = .ok (.ladd, 1) := by decide +kernel
theorem dX11_draw_25 : decode cX11_draw 25 = .ok (.lstore_n 3, 1) := by decide +kernel
theorem dX11_draw_26 : decode cX11_draw 26 = .ok (.lload_n 3, 1) := by decide +kernel
theorem dX11_draw_27 : decode cX11_draw 27 = .ok (.lload_n 3, 1) := by decide +kernel
theorem dX11_draw_28 : decode cX11_draw 28 = .ok (.lmul, 1) := by decide +kernel
theorem dX11_draw_29 : decode cX11_draw 29 = .ok (.ldc2_w 194, 3) := by decide +kernel
theorem dX11_draw_32 : decode cX11_draw 32 = .ok (.lrem, 1) := by decide +kernel
theorem dX11_draw_33 : decode cX11_draw 33 = .ok (.l2i, 1) := by decide +kernel
theorem dX11_draw_34 : decode cX11_draw 34 = .ok (.ireturn, 1) := by decide +kernel
theorem dX11_shoutBy_0 : decode cX11_shoutBy 0 = .ok (.iload_n 2, 1) := by decide +kernel
theorem dX11_shoutBy_1 : decode cX11_shoutBy 1 = .ok (.ifCond .ne 12, 3) := by decide +kernel
theorem dX11_shoutBy_4 : decode cX11_shoutBy 4 = .ok (.iload 6, 2) := by decide +kernel
theorem dX11_shoutBy_6 : decode cX11_shoutBy 6 = .ok (.iload_n 3, 1) := by decide +kernel
theorem dX11_shoutBy_7 : decode cX11_shoutBy 7 = .ok (.iconst 1, 1) := by decide +kernel
theorem dX11_shoutBy_8 : decode cX11_shoutBy 8 = .ok (.iadd, 1) := by decide +kernel
theorem dX11_shoutBy_9 : decode cX11_shoutBy 9 = .ok (.irem, 1) := by decide +kernel
theorem dX11_shoutBy_10 : decode cX11_shoutBy 10 = .ok (.goto 12, 3) := by decide +kernel
theorem dX11_shoutBy_13 : decode cX11_shoutBy 13 = .ok (.iload_n 3, 1) := by decide +kernel
theorem dX11_shoutBy_14 : decode cX11_shoutBy 14 = .ok (.iload 6, 2) := by decide +kernel
theorem dX11_shoutBy_16 : decode cX11_shoutBy 16 = .ok (.bipush 100, 2) := by decide +kernel
theorem dX11_shoutBy_18 : decode cX11_shoutBy 18 = .ok (.iload_n 3, 1) := by decide +kernel
theorem dX11_shoutBy_19 : decode cX11_shoutBy 19 = .ok (.isub, 1) := by decide +kernel
theorem dX11_shoutBy_20 : decode cX11_shoutBy 20 = .ok (.irem, 1) := by decide +kernel
theorem dX11_shoutBy_21 : decode cX11_shoutBy 21 = .ok (.iadd, 1) := by decide +kernel
theorem dX11_shoutBy_22 : decode cX11_shoutBy 22 = .ok (.istore 7, 2) := by decide +kernel
theorem dX11_shoutBy_24 : decode cX11_shoutBy 24 = .ok (.iload 7, 2) := by decide +kernel
theorem dX11_shoutBy_26 : decode cX11_shoutBy 26 = .ok (.istore 8, 2) := by decide +kernel
theorem dX11_shoutBy_28 : decode cX11_shoutBy 28 = .ok (.iload_n 1, 1) := by decide +kernel
theorem dX11_shoutBy_29 : decode cX11_shoutBy 29 = .ok (.iconst 3, 1) := by decide +kernel
theorem dX11_shoutBy_30 : decode cX11_shoutBy 30 = .ok (.if_icmp .ne 22, 3) := by decide +kernel
theorem dX11_shoutBy_33 : decode cX11_shoutBy 33 = .ok (.iconst 4, 1) := by decide +kernel
theorem dX11_shoutBy_34 : decode cX11_shoutBy 34 = .ok (.iload 4, 2) := by decide +kernel
theorem dX11_shoutBy_36 : decode cX11_shoutBy 36 = .ok (.imul, 1) := by decide +kernel
theorem dX11_shoutBy_37 : decode cX11_shoutBy 37 = .ok (.iconst 3, 1) := by decide +kernel
theorem dX11_shoutBy_38 : decode cX11_shoutBy 38 = .ok (.aload_n 0, 1) := by decide +kernel
theorem dX11_shoutBy_39 : decode cX11_shoutBy 39 = .ok (.getfield 25, 3) := by decide +kernel
theorem dX11_shoutBy_42 : decode cX11_shoutBy 42 = .ok (.iconst 0, 1) := by decide +kernel
theorem dX11_shoutBy_43 : decode cX11_shoutBy 43 = .ok (.iaload, 1) := by decide +kernel
theorem dX11_shoutBy_44 : decode cX11_shoutBy 44 = .ok (.imul, 1) := by decide +kernel
theorem dX11_shoutBy_45 : decode cX11_shoutBy 45 = .ok (.if_icmp .lt 7, 3) := by decide +kernel
theorem dX11_shoutBy_48 : decode cX11_shoutBy 48 = .ok (.iconst 1, 1) := by decide +kernel
theorem dX11_shoutBy_49 : decode cX11_shoutBy 49 = .ok (.goto 4, 3) := by decide +kernel
theorem dX11_shoutBy_52 : decode cX11_shoutBy 52 = .ok (.iconst 0, 1) := by decide +kernel
theorem dX11_shoutBy_53 : decode cX11_shoutBy 53 = .ok (.istore 9, 2) := by decide +kernel
theorem dX11_shoutBy_55 : decode cX11_shoutBy 55 = .ok (.iload 9, 2) := by decide +kernel
theorem dX11_shoutBy_57 : decode cX11_shoutBy 57 = .ok (.ifCond .eq 9, 3) := by decide +kernel
theorem dX11_shoutBy_60 : decode cX11_shoutBy 60 = .ok (.iload_n 3, 1) := by decide +kernel
theorem dX11_shoutBy_61 : decode cX11_shoutBy 61 = .ok (.istore 8, 2) := by decide +kernel
theorem dX11_shoutBy_63 : decode cX11_shoutBy 63 = .ok (.goto 222, 3) := by decide +kernel
theorem dX11_shoutBy_66 : decode cX11_shoutBy 66 = .ok (.iload_n 1, 1) := by decide +kernel
theorem dX11_shoutBy_67 : decode cX11_shoutBy 67 = .ok (.iconst 1, 1) := by decide +kernel
theorem dX11_shoutBy_68 : decode cX11_shoutBy 68 = .ok (.if_icmp .eq 8, 3) := by decide +kernel
theorem dX11_shoutBy_71 : decode cX11_shoutBy 71 = .ok (.iload_n 1, 1) := by decide +kernel
theorem dX11_shoutBy_72 : decode cX11_shoutBy 72 = .ok (.iconst 3, 1) := by decide +kernel
theorem dX11_shoutBy_73 : decode cX11_shoutBy 73 = .ok (.if_icmp .ne 90, 3) := by decide +kernel
theorem dX11_shoutBy_76 : decode cX11_shoutBy 76 = .ok (.iload 5, 2) := by decide +kernel
theorem dX11_shoutBy_78 : decode cX11_shoutBy 78 = .ok (.ifCond .lt 85, 3) := by decide +kernel
theorem dX11_shoutBy_81 : decode cX11_shoutBy 81 = .ok (.iload 5, 2) := by decide +kernel
theorem dX11_shoutBy_83 : decode cX11_shoutBy 83 = .ok (.aload_n 0, 1) := by decide +kernel
theorem dX11_shoutBy_84 : decode cX11_shoutBy 84 = .ok (.getfield 25, 3) := by decide +kernel
theorem dX11_shoutBy_87 : decode cX11_shoutBy 87 = .ok (.iconst 3, 1) := by decide +kernel
theorem dX11_shoutBy_88 : decode cX11_shoutBy 88 = .ok (.iaload, 1) := by decide +kernel
theorem dX11_shoutBy_89 : decode cX11_shoutBy 89 = .ok (.isub, 1) := by decide +kernel
theorem dX11_shoutBy_90 : decode cX11_shoutBy 90 = .ok (.iload 6, 2) := by decide +kernel
theorem dX11_shoutBy_92 : decode cX11_shoutBy 92 = .ok (.iconst 2, 1) := by decide +kernel
theorem dX11_shoutBy_93 : decode cX11_shoutBy 93 = .ok (.aload_n 0, 1) := by decide +kernel
theorem dX11_shoutBy_94 : decode cX11_shoutBy 94 = .ok (.getfield 25, 3) := by decide +kernel
theorem dX11_shoutBy_97 : decode cX11_shoutBy 97 = .ok (.iconst 3, 1) := by decide +kernel
theorem dX11_shoutBy_98 : decode cX11_shoutBy 98 = .ok (.iaload, 1) := by decide +kernel
theorem dX11_shoutBy_99 : decode cX11_shoutBy 99 = .ok (.imul, 1) := by decide +kernel
theorem dX11_shoutBy_100 : decode cX11_shoutBy 100 = .ok (.iconst 1, 1) := by decide +kernel
theorem dX11_shoutBy_101 : decode cX11_shoutBy 101 = .ok (.iadd, 1) := by decide +kernel
theorem dX11_shoutBy_102 : decode cX11_shoutBy 102 = .ok (.irem, 1) := by decide +kernel
theorem dX11_shoutBy_103 : decode cX11_shoutBy 103 = .ok (.iadd, 1) := by decide +kernel
theorem dX11_shoutBy_104 : decode cX11_shoutBy 104 = .ok (.istore 8, 2) := by decide +kernel
theorem dX11_shoutBy_106 : decode cX11_shoutBy 106 = .ok (.iload_n 2, 1) := by decide +kernel
theorem dX11_shoutBy_107 : decode cX11_shoutBy 107 = .ok (.ifCond .ne 9, 3) := by decide +kernel
theorem dX11_shoutBy_110 : decode cX11_shoutBy 110 = .ok (.iload 8, 2) := by decide +kernel
theorem dX11_shoutBy_112 : decode cX11_shoutBy 112 = .ok (.iload_n 3, 1) := by decide +kernel
theorem dX11_shoutBy_113 : decode cX11_shoutBy 113 = .ok (.if_icmp .gt 14, 3) := by decide +kernel
theorem dX11_shoutBy_116 : decode cX11_shoutBy 116 = .ok (.iload_n 2, 1) := by decide +kernel
theorem dX11_shoutBy_117 : decode cX11_shoutBy 117 = .ok (.iconst 1, 1) := by decide +kernel
theorem dX11_shoutBy_118 : decode cX11_shoutBy 118 = .ok (.if_icmp .ne 13, 3) := by decide +kernel
theorem dX11_shoutBy_121 : decode cX11_shoutBy 121 = .ok (.iload 8, 2) := by decide +kernel
theorem dX11_shoutBy_123 : decode cX11_shoutBy 123 = .ok (.iload_n 3, 1) := by decide +kernel
theorem dX11_shoutBy_124 : decode cX11_shoutBy 124 = .ok (.if_icmp .ge 7, 3) := by decide +kernel
theorem dX11_shoutBy_127 : decode cX11_shoutBy 127 = .ok (.iload_n 3, 1) := by decide +kernel
theorem dX11_shoutBy_128 : decode cX11_shoutBy 128 = .ok (.goto 5, 3) := by decide +kernel
theorem dX11_shoutBy_131 : decode cX11_shoutBy 131 = .ok (.iload 8, 2) := by decide +kernel
theorem dX11_shoutBy_133 : decode cX11_shoutBy 133 = .ok (.istore 8, 2) := by decide +kernel
theorem dX11_shoutBy_135 : decode cX11_shoutBy 135 = .ok (.iload 8, 2) := by decide +kernel
theorem dX11_shoutBy_137 : decode cX11_shoutBy 137 = .ok (.ifCond .ge 7, 3) := by decide +kernel
theorem dX11_shoutBy_140 : decode cX11_shoutBy 140 = .ok (.iconst 0, 1) := by decide +kernel
theorem dX11_shoutBy_141 : decode cX11_shoutBy 141 = .ok (.goto 17, 3) := by decide +kernel
theorem dX11_shoutBy_144 : decode cX11_shoutBy 144 = .ok (.iload 8, 2) := by decide +kernel
theorem dX11_shoutBy_146 : decode cX11_shoutBy 146 = .ok (.bipush 99, 2) := by decide +kernel
theorem dX11_shoutBy_148 : decode cX11_shoutBy 148 = .ok (.if_icmp .le 8, 3) := by decide +kernel
theorem dX11_shoutBy_151 : decode cX11_shoutBy 151 = .ok (.bipush 99, 2) := by decide +kernel
theorem dX11_shoutBy_153 : decode cX11_shoutBy 153 = .ok (.goto 5, 3) := by decide +kernel
theorem dX11_shoutBy_156 : decode cX11_shoutBy 156 = .ok (.iload 8, 2) := by decide +kernel
theorem dX11_shoutBy_158 : decode cX11_shoutBy 158 = .ok (.istore 8, 2) := by decide +kernel
theorem dX11_shoutBy_160 : decode cX11_shoutBy 160 = .ok (.goto 125, 3) := by decide +kernel
theorem dX11_shoutBy_163 : decode cX11_shoutBy 163 = .ok (.iload_n 1, 1) := by decide +kernel
theorem dX11_shoutBy_164 : decode cX11_shoutBy 164 = .ok (.iconst 2, 1) := by decide +kernel
theorem dX11_shoutBy_165 : decode cX11_shoutBy 165 = .ok (.if_icmp .ne 47, 3) := by decide +kernel
theorem dX11_shoutBy_168 : decode cX11_shoutBy 168 = .ok (.iload_n 2, 1) := by decide +kernel
theorem dX11_shoutBy_169 : decode cX11_shoutBy 169 = .ok (.ifCond .ne 19, 3) := by decide +kernel
theorem dX11_shoutBy_172 : decode cX11_shoutBy 172 = .ok (.iload_n 3, 1) := by decide +kernel
theorem dX11_shoutBy_173 : decode cX11_shoutBy 173 = .ok (.iload 4, 2) := by decide +kernel
theorem dX11_shoutBy_175 : decode cX11_shoutBy 175 = .ok (.iconst 1, 1) := by decide +kernel
theorem dX11_shoutBy_176 : decode cX11_shoutBy 176 = .ok (.iadd, 1) := by decide +kernel
theorem dX11_shoutBy_177 : decode cX11_shoutBy 177 = .ok (.imul, 1) := by decide +kernel
theorem dX11_shoutBy_178 : decode cX11_shoutBy 178 = .ok (.aload_n 0, 1) := by decide +kernel
theorem dX11_shoutBy_179 : decode cX11_shoutBy 179 = .ok (.getfield 25, 3) := by decide +kernel
theorem dX11_shoutBy_182 : decode cX11_shoutBy 182 = .ok (.iconst 0, 1) := by decide +kernel
theorem dX11_shoutBy_183 : decode cX11_shoutBy 183 = .ok (.iaload, 1) := by decide +kernel
theorem dX11_shoutBy_184 : decode cX11_shoutBy 184 = .ok (.idiv, 1) := by decide +kernel
theorem dX11_shoutBy_185 : decode cX11_shoutBy 185 = .ok (.goto 22, 3) := by decide +kernel
theorem dX11_shoutBy_188 : decode cX11_shoutBy 188 = .ok (.bipush 99, 2) := by decide +kernel
theorem dX11_shoutBy_190 : decode cX11_shoutBy 190 = .ok (.bipush 99, 2) := by decide +kernel
theorem dX11_shoutBy_192 : decode cX11_shoutBy 192 = .ok (.iload_n 3, 1) := by decide +kernel
theorem dX11_shoutBy_193 : decode cX11_shoutBy 193 = .ok (.isub, 1) := by decide +kernel
theorem dX11_shoutBy_194 : decode cX11_shoutBy 194 = .ok (.iload 4, 2) := by decide +kernel
theorem dX11_shoutBy_196 : decode cX11_shoutBy 196 = .ok (.iconst 1, 1) := by decide +kernel
theorem dX11_shoutBy_197 : decode cX11_shoutBy 197 = .ok (.iadd, 1) := by decide +kernel
theorem dX11_shoutBy_198 : decode cX11_shoutBy 198 = .ok (.imul, 1) := by decide +kernel
theorem dX11_shoutBy_199 : decode cX11_shoutBy 199 = .ok (.aload_n 0, 1) := by decide +kernel
theorem dX11_shoutBy_200 : decode cX11_shoutBy 200 = .ok (.getfield 25, 3) := by decide +kernel
theorem dX11_shoutBy_203 : decode cX11_shoutBy 203 = .ok (.iconst 0, 1) := by decide +kernel
theorem dX11_shoutBy_204 : decode cX11_shoutBy 204 = .ok (.iaload, 1) := by decide +kernel
theorem dX11_shoutBy_205 : decode cX11_shoutBy 205 = .ok (.idiv, 1) := by decide +kernel
theorem dX11_shoutBy_206 : decode cX11_shoutBy 206 = .ok (.isub, 1) := by decide +kernel
theorem dX11_shoutBy_207 : decode cX11_shoutBy 207 = .ok (.istore 8, 2) := by decide +kernel
theorem dX11_shoutBy_209 : decode cX11_shoutBy 209 = .ok (.goto 76, 3) := by decide +kernel
theorem dX11_shoutBy_212 : decode cX11_shoutBy 212 = .ok (.iload_n 1, 1) := by decide +kernel
theorem dX11_shoutBy_213 : decode cX11_shoutBy 213 = .ok (.iconst 4, 1) := by decide +kernel
theorem dX11_shoutBy_214 : decode cX11_shoutBy 214 = .ok (.if_icmp .ne 59, 3) := by decide +kernel
theorem dX11_shoutBy_217 : decode cX11_shoutBy 217 = .ok (.iload_n 2, 1) := by decide +kernel
theorem dX11_shoutBy_218 : decode cX11_shoutBy 218 = .ok (.ifCond .ne 28, 3) := by decide +kernel
theorem dX11_shoutBy_221 : decode cX11_shoutBy 221 = .ok (.iload 7, 2) := by decide +kernel
theorem dX11_shoutBy_223 : decode cX11_shoutBy 223 = .ok (.aload_n 0, 1) := by decide +kernel
theorem dX11_shoutBy_224 : decode cX11_shoutBy 224 = .ok (.getfield 25, 3) := by decide +kernel
theorem dX11_shoutBy_227 : decode cX11_shoutBy 227 = .ok (.iconst 4, 1) := by decide +kernel
theorem dX11_shoutBy_228 : decode cX11_shoutBy 228 = .ok (.iaload, 1) := by decide +kernel
theorem dX11_shoutBy_229 : decode cX11_shoutBy 229 = .ok (.if_icmp .ge 8, 3) := by decide +kernel
theorem dX11_shoutBy_232 : decode cX11_shoutBy 232 = .ok (.iload 7, 2) := by decide +kernel
theorem dX11_shoutBy_234 : decode cX11_shoutBy 234 = .ok (.goto 34, 3) := by decide +kernel
theorem dX11_shoutBy_237 : decode cX11_shoutBy 237 = .ok (.aload_n 0, 1) := by decide +kernel
theorem dX11_shoutBy_238 : decode cX11_shoutBy 238 = .ok (.getfield 25, 3) := by decide +kernel
theorem dX11_shoutBy_241 : decode cX11_shoutBy 241 = .ok (.iconst 4, 1) := by decide +kernel
theorem dX11_shoutBy_242 : decode cX11_shoutBy 242 = .ok (.iaload, 1) := by decide +kernel
theorem dX11_shoutBy_243 : decode cX11_shoutBy 243 = .ok (.goto 25, 3) := by decide +kernel
theorem dX11_shoutBy_246 : decode cX11_shoutBy 246 = .ok (.iload 7, 2) := by decide +kernel
theorem dX11_shoutBy_248 : decode cX11_shoutBy 248 = .ok (.aload_n 0, 1) := by decide +kernel
theorem dX11_shoutBy_249 : decode cX11_shoutBy 249 = .ok (.getfield 25, 3) := by decide +kernel
theorem dX11_shoutBy_252 : decode cX11_shoutBy 252 = .ok (.iconst 4, 1) := by decide +kernel
theorem dX11_shoutBy_253 : decode cX11_shoutBy 253 = .ok (.iaload, 1) := by decide +kernel
theorem dX11_shoutBy_254 : decode cX11_shoutBy 254 = .ok (.if_icmp .le 8, 3) := by decide +kernel
theorem dX11_shoutBy_257 : decode cX11_shoutBy 257 = .ok (.iload 7, 2) := by decide +kernel
theorem dX11_shoutBy_259 : decode cX11_shoutBy 259 = .ok (.goto 9, 3) := by decide +kernel
theorem dX11_shoutBy_262 : decode cX11_shoutBy 262 = .ok (.aload_n 0, 1) := by decide +kernel
theorem dX11_shoutBy_263 : decode cX11_shoutBy 263 = .ok (.getfield 25, 3) := by decide +kernel
theorem dX11_shoutBy_266 : decode cX11_shoutBy 266 = .ok (.iconst 4, 1) := by decide +kernel
theorem dX11_shoutBy_267 : decode cX11_shoutBy 267 = .ok (.iaload, 1) := by decide +kernel
theorem dX11_shoutBy_268 : decode cX11_shoutBy 268 = .ok (.istore 8, 2) := by decide +kernel
theorem dX11_shoutBy_270 : decode cX11_shoutBy 270 = .ok (.goto 15, 3) := by decide +kernel
theorem dX11_shoutBy_273 : decode cX11_shoutBy 273 = .ok (.iload_n 1, 1) := by decide +kernel
theorem dX11_shoutBy_274 : decode cX11_shoutBy 274 = .ok (.iconst 5, 1) := by decide +kernel
theorem dX11_shoutBy_275 : decode cX11_shoutBy 275 = .ok (.if_icmp .ne 10, 3) := by decide +kernel
theorem dX11_shoutBy_278 : decode cX11_shoutBy 278 = .ok (.iload 6, 2) := by decide +kernel
theorem dX11_shoutBy_280 : decode cX11_shoutBy 280 = .ok (.bipush 100, 2) := by decide +kernel
theorem dX11_shoutBy_282 : decode cX11_shoutBy 282 = .ok (.irem, 1) := by decide +kernel
theorem dX11_shoutBy_283 : decode cX11_shoutBy 283 = .ok (.istore 8, 2) := by decide +kernel
theorem dX11_shoutBy_285 : decode cX11_shoutBy 285 = .ok (.iload_n 2, 1) := by decide +kernel
theorem dX11_shoutBy_286 : decode cX11_shoutBy 286 = .ok (.iconst 1, 1) := by decide +kernel
theorem dX11_shoutBy_287 : decode cX11_shoutBy 287 = .ok (.if_icmp .ne 29, 3) := by decide +kernel
theorem dX11_shoutBy_290 : decode cX11_shoutBy 290 = .ok (.iload 8, 2) := by decide +kernel
theorem dX11_shoutBy_292 : decode cX11_shoutBy 292 = .ok (.aload_n 0, 1) := by decide +kernel
theorem dX11_shoutBy_293 : decode cX11_shoutBy 293 = .ok (.getfield 25, 3) := by decide +kernel
theorem dX11_shoutBy_296 : decode cX11_shoutBy 296 = .ok (.iconst 1, 1) := by decide +kernel
theorem dX11_shoutBy_297 : decode cX11_shoutBy 297 = .ok (.iaload, 1) := by decide +kernel
theorem dX11_shoutBy_298 : decode cX11_shoutBy 298 = .ok (.iadd, 1) := by decide +kernel
theorem dX11_shoutBy_299 : decode cX11_shoutBy 299 = .ok (.aload_n 0, 1) := by decide +kernel
theorem dX11_shoutBy_300 : decode cX11_shoutBy 300 = .ok (.getfield 25, 3) := by decide +kernel
theorem dX11_shoutBy_303 : decode cX11_shoutBy 303 = .ok (.iconst 2, 1) := by decide +kernel
theorem dX11_shoutBy_304 : decode cX11_shoutBy 304 = .ok (.iaload, 1) := by decide +kernel
theorem dX11_shoutBy_305 : decode cX11_shoutBy 305 = .ok (.if_icmp .le 8, 3) := by decide +kernel
theorem dX11_shoutBy_308 : decode cX11_shoutBy 308 = .ok (.bipush (-4), 2) := by decide +kernel
theorem dX11_shoutBy_310 : decode cX11_shoutBy 310 = .ok (.goto 5, 3) := by decide +kernel
theorem dX11_shoutBy_313 : decode cX11_shoutBy 313 = .ok (.iload 8, 2) := by decide +kernel
theorem dX11_shoutBy_315 : decode cX11_shoutBy 315 = .ok (.ireturn, 1) := by decide +kernel
theorem dX11_shoutBy_316 : decode cX11_shoutBy 316 = .ok (.iload 8, 2) := by decide +kernel
theorem dX11_shoutBy_318 : decode cX11_shoutBy 318 = .ok (.aload_n 0, 1) := by decide +kernel
theorem dX11_shoutBy_319 : decode cX11_shoutBy 319 = .ok (.getfield 25, 3) := by decide +kernel
theorem dX11_shoutBy_322 : decode cX11_shoutBy 322 = .ok (.iconst 2, 1) := by decide +kernel
theorem dX11_shoutBy_323 : decode cX11_shoutBy 323 = .ok (.iaload, 1) := by decide +kernel
theorem dX11_shoutBy_324 : decode cX11_shoutBy 324 = .ok (.if_icmp .le 12, 3) := by decide +kernel
theorem dX11_shoutBy_327 : decode cX11_shoutBy 327 = .ok (.aload_n 0, 1) := by decide +kernel
theorem dX11_shoutBy_328 : decode cX11_shoutBy 328 = .ok (.getfield 25, 3) := by decide +kernel
theorem dX11_shoutBy_331 : decode cX11_shoutBy 331 = .ok (.iconst 2, 1) := by decide +kernel
theorem dX11_shoutBy_332 : decode cX11_shoutBy 332 = .ok (.iaload, 1) := by decide +kernel
theorem dX11_shoutBy_333 : decode cX11_shoutBy 333 = .ok (.goto 5, 3) := by decide +kernel
theorem dX11_shoutBy_336 : decode cX11_shoutBy 336 = .ok (.iload 8, 2) := by decide +kernel
theorem dX11_shoutBy_338 : decode cX11_shoutBy 338 = .ok (.ireturn, 1) := by decide +kernel
theorem dX11_shoutOf_0 : decode cX11_shoutOf 0 = .ok (.aload_n 0, 1) := by decide +kernel
theorem dX11_shoutOf_1 : decode cX11_shoutOf 1 = .ok (.aload_n 0, 1) := by decide +kernel
theorem dX11_shoutOf_2 : decode cX11_shoutOf 2 = .ok (.getfield 22, 3) := by decide +kernel
theorem dX11_shoutOf_5 : decode cX11_shoutOf 5 = .ok (.iload_n 1, 1) := by decide +kernel
theorem dX11_shoutOf_6 : decode cX11_shoutOf 6 = .ok (.iaload, 1) := by decide +kernel
theorem dX11_shoutOf_7 : decode cX11_shoutOf 7 = .ok (.aload_n 0, 1) := by decide +kernel
theorem dX11_shoutOf_8 : decode cX11_shoutOf 8 = .ok (.getfield 16, 3) := by decide +kernel
theorem dX11_shoutOf_11 : decode cX11_shoutOf 11 = .ok (.iload_n 1, 1) := by decide +kernel
theorem dX11_shoutOf_12 : decode cX11_shoutOf 12 = .ok (.iaload, 1) := by decide +kernel
theorem dX11_shoutOf_13 : decode cX11_shoutOf 13 = .ok (.aload_n 0, 1) := by decide +kernel
theorem dX11_shoutOf_14 : decode cX11_shoutOf 14 = .ok (.getfield 19, 3) := by decide +kernel
theorem dX11_shoutOf_17 : decode cX11_shoutOf 17 = .ok (.iload_n 1, 1) := by decide +kernel
theorem dX11_shoutOf_18 : decode cX11_shoutOf 18 = .ok (.iaload, 1) := by decide +kernel
theorem dX11_shoutOf_19 : decode cX11_shoutOf 19 = .ok (.iload_n 2, 1) := by decide +kernel
theorem dX11_shoutOf_20 : decode cX11_shoutOf 20 = .ok (.aload_n 0, 1) := by decide +kernel
theorem dX11_shoutOf_21 : decode cX11_shoutOf 21 = .ok (.getfield 196, 3) := by decide +kernel
theorem dX11_shoutOf_24 : decode cX11_shoutOf 24 = .ok (.aload_n 0, 1) := by decide +kernel
theorem dX11_shoutOf_25 : decode cX11_shoutOf 25 = .ok (.iload_n 3, 1) := by decide +kernel
theorem dX11_shoutOf_26 : decode cX11_shoutOf 26 = .ok (.iload 4, 2) := by decide +kernel
theorem dX11_shoutOf_28 : decode cX11_shoutOf 28 = .ok (.invokevirtual 199, 3) := by decide +kernel
theorem dX11_shoutOf_31 : decode cX11_shoutOf 31 = .ok (.invokevirtual 202, 3) := by decide +kernel
theorem dX11_shoutOf_34 : decode cX11_shoutOf 34 = .ok (.ireturn, 1) := by decide +kernel
theorem dX11_trade_0 : decode cX11_trade 0 = .ok (.aload_n 0, 1) := by decide +kernel
theorem dX11_trade_1 : decode cX11_trade 1 = .ok (.getfield 58, 3) := by decide +kernel
theorem dX11_trade_4 : decode cX11_trade 4 = .ok (.iload_n 1, 1) := by decide +kernel
theorem dX11_trade_5 : decode cX11_trade 5 = .ok (.iload_n 3, 1) := by decide +kernel
theorem dX11_trade_6 : decode cX11_trade 6 = .ok (.iastore, 1) := by decide +kernel
theorem dX11_trade_7 : decode cX11_trade 7 = .ok (.aload_n 0, 1) := by decide +kernel
theorem dX11_trade_8 : decode cX11_trade 8 = .ok (.getfield 58, 3) := by decide +kernel
theorem dX11_trade_11 : decode cX11_trade 11 = .ok (.iload_n 2, 1) := by decide +kernel
theorem dX11_trade_12 : decode cX11_trade 12 = .ok (.iload_n 3, 1) := by decide +kernel
theorem dX11_trade_13 : decode cX11_trade 13 = .ok (.iastore, 1) := by decide +kernel
theorem dX11_trade_14 : decode cX11_trade 14 = .ok (.aload_n 0, 1) := by decide +kernel
theorem dX11_trade_15 : decode cX11_trade 15 = .ok (.dup, 1) := by decide +kernel
theorem dX11_trade_16 : decode cX11_trade 16 = .ok (.getfield 206, 3) := by decide +kernel
theorem dX11_trade_19 : decode cX11_trade 19 = .ok (.aload_n 0, 1) := by decide +kernel
theorem dX11_trade_20 : decode cX11_trade 20 = .ok (.getfield 19, 3) := by decide +kernel
theorem dX11_trade_23 : decode cX11_trade 23 = .ok (.iload_n 1, 1) := by decide +kernel
theorem dX11_trade_24 : decode cX11_trade 24 = .ok (.iaload, 1) := by decide +kernel
theorem dX11_trade_25 : decode cX11_trade 25 = .ok (.aload_n 0, 1) := by decide +kernel
theorem dX11_trade_26 : decode cX11_trade 26 = .ok (.getfield 19, 3) := by decide +kernel
theorem dX11_trade_29 : decode cX11_trade 29 = .ok (.iload_n 2, 1) := by decide +kernel
theorem dX11_trade_30 : decode cX11_trade 30 = .ok (.iaload, 1) := by decide +kernel
theorem dX11_trade_31 : decode cX11_trade 31 = .ok (.isub, 1) := by decide +kernel
theorem dX11_trade_32 : decode cX11_trade 32 = .ok (.iadd, 1) := by decide +kernel
theorem dX11_trade_33 : decode cX11_trade 33 = .ok (.putfield 206, 3) := by decide +kernel
theorem dX11_trade_36 : decode cX11_trade 36 = .ok (.aload_n 0, 1) := by decide +kernel
theorem dX11_trade_37 : decode cX11_trade 37 = .ok (.aload_n 0, 1) := by decide +kernel
theorem dX11_trade_38 : decode cX11_trade 38 = .ok (.getfield 209, 3) := by decide +kernel
theorem dX11_trade_41 : decode cX11_trade 41 = .ok (.ifCond .eq 11, 3) := by decide +kernel
theorem dX11_trade_44 : decode cX11_trade 44 = .ok (.iload_n 3, 1) := by decide +kernel
theorem dX11_trade_45 : decode cX11_trade 45 = .ok (.aload_n 0, 1) := by decide +kernel
theorem dX11_trade_46 : decode cX11_trade 46 = .ok (.getfield 212, 3) := by decide +kernel
theorem dX11_trade_49 : decode cX11_trade 49 = .ok (.if_icmp .ge 7, 3) := by decide +kernel
theorem dX11_trade_52 : decode cX11_trade 52 = .ok (.iload_n 3, 1) := by decide +kernel
theorem dX11_trade_53 : decode cX11_trade 53 = .ok (.goto 7, 3) := by decide +kernel
theorem dX11_trade_56 : decode cX11_trade 56 = .ok (.aload_n 0, 1) := by decide +kernel
theorem dX11_trade_57 : decode cX11_trade 57 = .ok (.getfield 212, 3) := by decide +kernel
theorem dX11_trade_60 : decode cX11_trade 60 = .ok (.putfield 212, 3) := by decide +kernel
theorem dX11_trade_63 : decode cX11_trade 63 = .ok (.aload_n 0, 1) := by decide +kernel
theorem dX11_trade_64 : decode cX11_trade 64 = .ok (.aload_n 0, 1) := by decide +kernel
theorem dX11_trade_65 : decode cX11_trade 65 = .ok (.getfield 209, 3) := by decide +kernel
theorem dX11_trade_68 : decode cX11_trade 68 = .ok (.ifCond .eq 11, 3) := by decide +kernel
theorem dX11_trade_71 : decode cX11_trade 71 = .ok (.iload_n 3, 1) := by decide +kernel
theorem dX11_trade_72 : decode cX11_trade 72 = .ok (.aload_n 0, 1) := by decide +kernel
theorem dX11_trade_73 : decode cX11_trade 73 = .ok (.getfield 215, 3) := by decide +kernel
theorem dX11_trade_76 : decode cX11_trade 76 = .ok (.if_icmp .le 7, 3) := by decide +kernel
theorem dX11_trade_79 : decode cX11_trade 79 = .ok (.iload_n 3, 1) := by decide +kernel
theorem dX11_trade_80 : decode cX11_trade 80 = .ok (.goto 7, 3) := by decide +kernel
theorem dX11_trade_83 : decode cX11_trade 83 = .ok (.aload_n 0, 1) := by decide +kernel
theorem dX11_trade_84 : decode cX11_trade 84 = .ok (.getfield 215, 3) := by decide +kernel
theorem dX11_trade_87 : decode cX11_trade 87 = .ok (.putfield 215, 3) := by decide +kernel
theorem dX11_trade_90 : decode cX11_trade 90 = .ok (.aload_n 0, 1) := by decide +kernel
theorem dX11_trade_91 : decode cX11_trade 91 = .ok (.dup, 1) := by decide +kernel
theorem dX11_trade_92 : decode cX11_trade 92 = .ok (.getfield 209, 3) := by decide +kernel
theorem dX11_trade_95 : decode cX11_trade 95 = .ok (.iconst 1, 1) := by decide +kernel
theorem dX11_trade_96 : decode cX11_trade 96 = .ok (.iadd, 1) := by decide +kernel
theorem dX11_trade_97 : decode cX11_trade 97 = .ok (.putfield 209, 3) := by decide +kernel
theorem dX11_trade_100 : decode cX11_trade 100 = .ok (.aload_n 0, 1) := by decide +kernel
theorem dX11_trade_101 : decode cX11_trade 101 = .ok (.iload 4, 2) := by decide +kernel
theorem dX11_trade_103 : decode cX11_trade 103 = .ok (.iconst 1, 1) := by decide +kernel
theorem dX11_trade_104 : decode cX11_trade 104 = .ok (.iadd, 1) := by decide +kernel
theorem dX11_trade_105 : decode cX11_trade 105 = .ok (.putfield 218, 3) := by decide +kernel
theorem dX11_trade_108 : decode cX11_trade 108 = .ok (.aload_n 0, 1) := by decide +kernel
theorem dX11_trade_109 : decode cX11_trade 109 = .ok (.iload_n 3, 1) := by decide +kernel
theorem dX11_trade_110 : decode cX11_trade 110 = .ok (.putfield 196, 3) := by decide +kernel
theorem dX11_trade_113 : decode cX11_trade 113 = .ok (.return_, 1) := by decide +kernel
theorem dX11_note_0 : decode cX11_note 0 = .ok (.aload_n 0, 1) := by decide +kernel
theorem dX11_note_1 : decode cX11_note 1 = .ok (.getfield 221, 3) := by decide +kernel
theorem dX11_note_4 : decode cX11_note 4 = .ok (.ifCond .eq 76, 3) := by decide +kernel
theorem dX11_note_7 : decode cX11_note 7 = .ok (.aload_n 0, 1) := by decide +kernel
theorem dX11_note_8 : decode cX11_note 8 = .ok (.getfield 28, 3) := by decide +kernel
theorem dX11_note_11 : decode cX11_note 11 = .ok (.iconst 0, 1) := by decide +kernel
theorem dX11_note_12 : decode cX11_note 12 = .ok (.iaload, 1) := by decide +kernel
theorem dX11_note_13 : decode cX11_note 13 = .ok (.sipush 200, 3) := by decide +kernel
theorem dX11_note_16 : decode cX11_note 16 = .ok (.if_icmp .ge 64, 3) := by decide +kernel
theorem dX11_note_19 : decode cX11_note 19 = .ok (.aload_n 0, 1) := by decide +kernel
theorem dX11_note_20 : decode cX11_note 20 = .ok (.getfield 31, 3) := by decide +kernel
theorem dX11_note_23 : decode cX11_note 23 = .ok (.aload_n 0, 1) := by decide +kernel
theorem dX11_note_24 : decode cX11_note 24 = .ok (.getfield 28, 3) := by decide +kernel
theorem dX11_note_27 : decode cX11_note 27 = .ok (.iconst 0, 1) := by decide +kernel
theorem dX11_note_28 : decode cX11_note 28 = .ok (.iaload, 1) := by decide +kernel
theorem dX11_note_29 : decode cX11_note 29 = .ok (.iload_n 1, 1) := by decide +kernel
theorem dX11_note_30 : decode cX11_note 30 = .ok (.iastore, 1) := by decide +kernel
theorem dX11_note_31 : decode cX11_note 31 = .ok (.aload_n 0, 1) := by decide +kernel
theorem dX11_note_32 : decode cX11_note 32 = .ok (.getfield 34, 3) := by decide +kernel
theorem dX11_note_35 : decode cX11_note 35 = .ok (.aload_n 0, 1) := by decide +kernel
theorem dX11_note_36 : decode cX11_note 36 = .ok (.getfield 28, 3) := by decide +kernel
theorem dX11_note_39 : decode cX11_note 39 = .ok (.iconst 0, 1) := by decide +kernel
theorem dX11_note_40 : decode cX11_note 40 = .ok (.iaload, 1) := by decide +kernel
theorem dX11_note_41 : decode cX11_note 41 = .ok (.iload_n 2, 1) := by decide +kernel
theorem dX11_note_42 : decode cX11_note 42 = .ok (.iastore, 1) := by decide +kernel
theorem dX11_note_43 : decode cX11_note 43 = .ok (.aload_n 0, 1) := by decide +kernel
theorem dX11_note_44 : decode cX11_note 44 = .ok (.getfield 37, 3) := by decide +kernel
theorem dX11_note_47 : decode cX11_note 47 = .ok (.aload_n 0, 1) := by decide +kernel
theorem dX11_note_48 : decode cX11_note 48 = .ok (.getfield 28, 3) := by decide +kernel
theorem dX11_note_51 : decode cX11_note 51 = .ok (.iconst 0, 1) := by decide +kernel
theorem dX11_note_52 : decode cX11_note 52 = .ok (.iaload, 1) := by decide +kernel
theorem dX11_note_53 : decode cX11_note 53 = .ok (.iload_n 3, 1) := by decide +kernel
theorem dX11_note_54 : decode cX11_note 54 = .ok (.iastore, 1) := by decide +kernel
theorem dX11_note_55 : decode cX11_note 55 = .ok (.aload_n 0, 1) := by decide +kernel
theorem dX11_note_56 : decode cX11_note 56 = .ok (.getfield 40, 3) := by decide +kernel
theorem dX11_note_59 : decode cX11_note 59 = .ok (.aload_n 0, 1) := by decide +kernel
theorem dX11_note_60 : decode cX11_note 60 = .ok (.getfield 28, 3) := by decide +kernel
theorem dX11_note_63 : decode cX11_note 63 = .ok (.iconst 0, 1) := by decide +kernel
theorem dX11_note_64 : decode cX11_note 64 = .ok (.iaload, 1) := by decide +kernel
theorem dX11_note_65 : decode cX11_note 65 = .ok (.aload_n 0, 1) := by decide +kernel
theorem dX11_note_66 : decode cX11_note 66 = .ok (.getfield 196, 3) := by decide +kernel
theorem dX11_note_69 : decode cX11_note 69 = .ok (.iastore, 1) := by decide +kernel
theorem dX11_note_70 : decode cX11_note 70 = .ok (.aload_n 0, 1) := by decide +kernel
theorem dX11_note_71 : decode cX11_note 71 = .ok (.getfield 28, 3) := by decide +kernel
theorem dX11_note_74 : decode cX11_note 74 = .ok (.iconst 0, 1) := by decide +kernel
theorem dX11_note_75 : decode cX11_note 75 = .ok (.dup2, 1) := by decide +kernel
theorem dX11_note_76 : decode cX11_note 76 = .ok (.iaload, 1) := by decide +kernel
theorem dX11_note_77 : decode cX11_note 77 = .ok (.iconst 1, 1) := by decide +kernel
theorem dX11_note_78 : decode cX11_note 78 = .ok (.iadd, 1) := by decide +kernel
theorem dX11_note_79 : decode cX11_note 79 = .ok (.iastore, 1) := by decide +kernel
theorem dX11_note_80 : decode cX11_note 80 = .ok (.return_, 1) := by decide +kernel
theorem dX11_goShouts_0 : decode cX11_goShouts 0 = .ok (.bipush (-4), 2) := by decide +kernel
theorem dX11_goShouts_2 : decode cX11_goShouts 2 = .ok (.istore_n 1, 1) := by decide +kernel
theorem dX11_goShouts_3 : decode cX11_goShouts 3 = .ok (.iconst 0, 1) := by decide +kernel
theorem dX11_goShouts_4 : decode cX11_goShouts 4 = .ok (.istore_n 2, 1) := by decide +kernel
theorem dX11_goShouts_5 : decode cX11_goShouts 5 = .ok (.bipush (-4), 2) := by decide +kernel
theorem dX11_goShouts_7 : decode cX11_goShouts 7 = .ok (.istore_n 3, 1) := by decide +kernel
theorem dX11_goShouts_8 : decode cX11_goShouts 8 = .ok (.iconst 0, 1) := by decide +kernel
theorem dX11_goShouts_9 : decode cX11_goShouts 9 = .ok (.istore 4, 2) := by decide +kernel
theorem dX11_goShouts_11 : decode cX11_goShouts 11 = .ok (.iconst 0, 1) := by decide +kernel
theorem dX11_goShouts_12 : decode cX11_goShouts 12 = .ok (.istore 5, 2) := by decide +kernel
theorem dX11_goShouts_14 : decode cX11_goShouts 14 = .ok (.iload 5, 2) := by decide +kernel
theorem dX11_goShouts_16 : decode cX11_goShouts 16 = .ok (.aload_n 0, 1) := by decide +kernel
theorem dX11_goShouts_17 : decode cX11_goShouts 17 = .ok (.getfield 25, 3) := by decide +kernel
theorem dX11_goShouts_20 : decode cX11_goShouts 20 = .ok (.iconst 0, 1) := by decide +kernel
theorem dX11_goShouts_21 : decode cX11_goShouts 21 = .ok (.iaload, 1) := by decide +kernel
theorem dX11_goShouts_22 : decode cX11_goShouts 22 = .ok (.if_icmp .ge 258, 3) := by decide +kernel
theorem dX11_goShouts_25 : decode cX11_goShouts 25 = .ok (.aload_n 0, 1) := by decide +kernel
theorem dX11_goShouts_26 : decode cX11_goShouts 26 = .ok (.iload 5, 2) := by decide +kernel
theorem dX11_goShouts_28 : decode cX11_goShouts 28 = .ok (.iconst 0, 1) := by decide +kernel
theorem dX11_goShouts_29 : decode cX11_goShouts 29 = .ok (.invokevirtual 199, 3) := by decide +kernel
theorem dX11_goShouts_32 : decode cX11_goShouts 32 = .ok (.aload_n 0, 1) := by decide +kernel
theorem dX11_goShouts_33 : decode cX11_goShouts 33 = .ok (.getfield 13, 3) := by decide +kernel
theorem dX11_goShouts_36 : decode cX11_goShouts 36 = .ok (.iconst 0, 1) := by decide +kernel
theorem dX11_goShouts_37 : decode cX11_goShouts 37 = .ok (.iaload, 1) := by decide +kernel
theorem dX11_goShouts_38 : decode cX11_goShouts 38 = .ok (.irem, 1) := by decide +kernel
theorem dX11_goShouts_39 : decode cX11_goShouts 39 = .ok (.istore 6, 2) := by decide +kernel
theorem dX11_goShouts_41 : decode cX11_goShouts 41 = .ok (.aload_n 0, 1) := by decide +kernel
theorem dX11_goShouts_42 : decode cX11_goShouts 42 = .ok (.iload 6, 2) := by decide +kernel
theorem dX11_goShouts_44 : decode cX11_goShouts 44 = .ok (.iload 5, 2) := by decide +kernel
theorem dX11_goShouts_46 : decode cX11_goShouts 46 = .ok (.iload 5, 2) := by decide +kernel
theorem dX11_goShouts_48 : decode cX11_goShouts 48 = .ok (.iconst 1, 1) := by decide +kernel
theorem dX11_goShouts_49 : decode cX11_goShouts 49 = .ok (.invokevirtual 225, 3) := by decide +kernel
theorem dX11_goShouts_52 : decode cX11_goShouts 52 = .ok (.istore 7, 2) := by decide +kernel
theorem dX11_goShouts_54 : decode cX11_goShouts 54 = .ok (.aload_n 0, 1) := by decide +kernel
theorem dX11_goShouts_55 : decode cX11_goShouts 55 = .ok (.getfield 58, 3) := by decide +kernel
theorem dX11_goShouts_58 : decode cX11_goShouts 58 = .ok (.iload 6, 2) := by decide +kernel
theorem dX11_goShouts_60 : decode cX11_goShouts 60 = .ok (.iaload, 1) := by decide +kernel
theorem dX11_goShouts_61 : decode cX11_goShouts 61 = .ok (.bipush (-4), 2) := by decide +kernel
theorem dX11_goShouts_63 : decode cX11_goShouts 63 = .ok (.if_icmp .ne 211, 3) := by decide +kernel
theorem dX11_goShouts_66 : decode cX11_goShouts 66 = .ok (.iload 7, 2) := by decide +kernel
theorem dX11_goShouts_68 : decode cX11_goShouts 68 = .ok (.ifCond .lt 206, 3) := by decide +kernel
theorem dX11_goShouts_71 : decode cX11_goShouts 71 = .ok (.aload_n 0, 1) := by decide +kernel
theorem dX11_goShouts_72 : decode cX11_goShouts 72 = .ok (.iload 6, 2) := by decide +kernel
theorem dX11_goShouts_74 : decode cX11_goShouts 74 = .ok (.iload 7, 2) := by decide +kernel
theorem dX11_goShouts_76 : decode cX11_goShouts 76 = .ok (.iload 5, 2) := by decide +kernel
theorem dX11_goShouts_78 : decode cX11_goShouts 78 = .ok (.invokevirtual 229, 3) := by decide +kernel
theorem dX11_goShouts_81 : decode cX11_goShouts 81 = .ok (.aload_n 0, 1) := by decide +kernel
theorem dX11_goShouts_82 : decode cX11_goShouts 82 = .ok (.getfield 16, 3) := by decide +kernel
theorem dX11_goShouts_85 : decode cX11_goShouts 85 = .ok (.iload 6, 2) := by decide +kernel
theorem dX11_goShouts_87 : decode cX11_goShouts 87 = .ok (.iaload, 1) := by decide +kernel
theorem dX11_goShouts_88 : decode cX11_goShouts 88 = .ok (.ifCond .ne 29, 3) := by decide +kernel
theorem dX11_goShouts_91 : decode cX11_goShouts 91 = .ok (.iload_n 3, 1) := by decide +kernel
theorem dX11_goShouts_92 : decode cX11_goShouts 92 = .ok (.ifCond .lt 21, 3) := by decide +kernel
theorem dX11_goShouts_95 : decode cX11_goShouts 95 = .ok (.iload 7, 2) := by decide +kernel
theorem dX11_goShouts_97 : decode cX11_goShouts 97 = .ok (.iload 4, 2) := by decide +kernel
theorem dX11_goShouts_99 : decode cX11_goShouts 99 = .ok (.aload_n 0, 1) := by decide +kernel
theorem dX11_goShouts_100 : decode cX11_goShouts 100 = .ok (.getfield 25, 3) := by decide +kernel
theorem dX11_goShouts_103 : decode cX11_goShouts 103 = .ok (.iconst 1, 1) := by decide +kernel
theorem dX11_goShouts_104 : decode cX11_goShouts 104 = .ok (.iaload, 1) := by decide +kernel
theorem dX11_goShouts_105 : decode cX11_goShouts 105 = .ok (.iadd, 1) := by decide +kernel
theorem dX11_goShouts_106 : decode cX11_goShouts 106 = .ok (.if_icmp .lt 7, 3) := by decide +kernel
theorem dX11_goShouts_109 : decode cX11_goShouts 109 = .ok (.iconst 1, 1) := by decide +kernel
theorem dX11_goShouts_110 : decode cX11_goShouts 110 = .ok (.goto 29, 3) := by decide +kernel
theorem dX11_goShouts_113 : decode cX11_goShouts 113 = .ok (.iconst 0, 1) := by decide +kernel
theorem dX11_goShouts_114 : decode cX11_goShouts 114 = .ok (.goto 25, 3) := by decide +kernel
theorem dX11_goShouts_117 : decode cX11_goShouts 117 = .ok (.iload_n 1, 1) := by decide +kernel
theorem dX11_goShouts_118 : decode cX11_goShouts 118 = .ok (.ifCond .lt 20, 3) := by decide +kernel
theorem dX11_goShouts_121 : decode cX11_goShouts 121 = .ok (.iload 7, 2) := by decide +kernel
theorem dX11_goShouts_123 : decode cX11_goShouts 123 = .ok (.aload_n 0, 1) := by decide +kernel
theorem dX11_goShouts_124 : decode cX11_goShouts 124 = .ok (.getfield 25, 3) := by decide +kernel
theorem dX11_goShouts_127 : decode cX11_goShouts 127 = .ok (.iconst 1, 1) := by decide +kernel
theorem dX11_goShouts_128 : decode cX11_goShouts 128 = .ok (.iaload, 1) := by decide +kernel
theorem dX11_goShouts_129 : decode cX11_goShouts 129 = .ok (.iadd, 1) := by decide +kernel
theorem dX11_goShouts_130 : decode cX11_goShouts 130 = .ok (.iload_n 2, 1) := by decide +kernel
theorem dX11_goShouts_131 : decode cX11_goShouts 131 = .ok (.if_icmp .gt 7, 3) := by decide +kernel
theorem dX11_goShouts_134 : decode cX11_goShouts 134 = .ok (.iconst 1, 1) := by decide +kernel
theorem dX11_goShouts_135 : decode cX11_goShouts 135 = .ok (.goto 4, 3) := by decide +kernel
theorem dX11_goShouts_138 : decode cX11_goShouts 138 = .ok (.iconst 0, 1) := by decide +kernel
theorem dX11_goShouts_139 : decode cX11_goShouts 139 = .ok (.istore 8, 2) := by decide +kernel
theorem dX11_goShouts_141 : decode cX11_goShouts 141 = .ok (.iload 8, 2) := by decide +kernel
theorem dX11_goShouts_143 : decode cX11_goShouts 143 = .ok (.ifCond .eq 73, 3) := by decide +kernel
theorem dX11_goShouts_146 : decode cX11_goShouts 146 = .ok (.aload_n 0, 1) := by decide +kernel
theorem dX11_goShouts_147 : decode cX11_goShouts 147 = .ok (.aload_n 0, 1) := by decide +kernel
theorem dX11_goShouts_148 : decode cX11_goShouts 148 = .ok (.getfield 16, 3) := by decide +kernel
theorem dX11_goShouts_151 : decode cX11_goShouts 151 = .ok (.iload 6, 2) := by decide +kernel
theorem dX11_goShouts_153 : decode cX11_goShouts 153 = .ok (.iaload, 1) := by decide +kernel
theorem dX11_goShouts_154 : decode cX11_goShouts 154 = .ok (.ifCond .ne 8, 3) := by decide +kernel
theorem dX11_goShouts_157 : decode cX11_goShouts 157 = .ok (.iload 6, 2) := by decide +kernel
theorem dX11_goShouts_159 : decode cX11_goShouts 159 = .ok (.goto 4, 3) := by decide +kernel
theorem dX11_goShouts_162 : decode cX11_goShouts 162 = .ok (.iload_n 1, 1) := by decide +kernel
theorem dX11_goShouts_163 : decode cX11_goShouts 163 = .ok (.aload_n 0, 1) := by decide +kernel
theorem dX11_goShouts_164 : decode cX11_goShouts 164 = .ok (.getfield 16, 3) := by decide +kernel
theorem dX11_goShouts_167 : decode cX11_goShouts 167 = .ok (.iload 6, 2) := by decide +kernel
theorem dX11_goShouts_169 : decode cX11_goShouts 169 = .ok (.iaload, 1) := by decide +kernel
theorem dX11_goShouts_170 : decode cX11_goShouts 170 = .ok (.ifCond .ne 7, 3) := by decide +kernel
theorem dX11_goShouts_173 : decode cX11_goShouts 173 = .ok (.iload_n 3, 1) := by decide +kernel
theorem dX11_goShouts_174 : decode cX11_goShouts 174 = .ok (.goto 5, 3) := by decide +kernel
theorem dX11_goShouts_177 : decode cX11_goShouts 177 = .ok (.iload 6, 2) := by decide +kernel
theorem dX11_goShouts_179 : decode cX11_goShouts 179 = .ok (.aload_n 0, 1) := by decide +kernel
theorem dX11_goShouts_180 : decode cX11_goShouts 180 = .ok (.getfield 16, 3) := by decide +kernel
theorem dX11_goShouts_183 : decode cX11_goShouts 183 = .ok (.iload 6, 2) := by decide +kernel
theorem dX11_goShouts_185 : decode cX11_goShouts 185 = .ok (.iaload, 1) := by decide +kernel
theorem dX11_goShouts_186 : decode cX11_goShouts 186 = .ok (.ifCond .ne 15, 3) := by decide +kernel
theorem dX11_goShouts_189 : decode cX11_goShouts 189 = .ok (.iload 4, 2) := by decide +kernel
theorem dX11_goShouts_191 : decode cX11_goShouts 191 = .ok (.aload_n 0, 1) := by decide +kernel
theorem dX11_goShouts_192 : decode cX11_goShouts 192 = .ok (.getfield 25, 3) := by decide +kernel
theorem dX11_goShouts_195 : decode cX11_goShouts 195 = .ok (.iconst 1, 1) := by decide +kernel
theorem dX11_goShouts_196 : decode cX11_goShouts 196 = .ok (.iaload, 1) := by decide +kernel
theorem dX11_goShouts_197 : decode cX11_goShouts 197 = .ok (.iadd, 1) := by decide +kernel
theorem dX11_goShouts_198 : decode cX11_goShouts 198 = .ok (.goto 4, 3) := by decide +kernel
theorem dX11_goShouts_201 : decode cX11_goShouts 201 = .ok (.iload_n 2, 1) := by decide +kernel
theorem dX11_goShouts_202 : decode cX11_goShouts 202 = .ok (.iload 5, 2) := by decide +kernel
theorem dX11_goShouts_204 : decode cX11_goShouts 204 = .ok (.invokevirtual 233, 3) := by decide +kernel
theorem dX11_goShouts_207 : decode cX11_goShouts 207 = .ok (.bipush (-4), 2) := by decide +kernel
theorem dX11_goShouts_209 : decode cX11_goShouts 209 = .ok (.istore_n 1, 1) := by decide +kernel
theorem dX11_goShouts_210 : decode cX11_goShouts 210 = .ok (.bipush (-4), 2) := by decide +kernel
theorem dX11_goShouts_212 : decode cX11_goShouts 212 = .ok (.istore_n 3, 1) := by decide +kernel
theorem dX11_goShouts_213 : decode cX11_goShouts 213 = .ok (.goto 61, 3) := by decide +kernel
theorem dX11_goShouts_216 : decode cX11_goShouts 216 = .ok (.aload_n 0, 1) := by decide +kernel
theorem dX11_goShouts_217 : decode cX11_goShouts 217 = .ok (.getfield 16, 3) := by decide +kernel
theorem dX11_goShouts_220 : decode cX11_goShouts 220 = .ok (.iload 6, 2) := by decide +kernel
theorem dX11_goShouts_222 : decode cX11_goShouts 222 = .ok (.iaload, 1) := by decide +kernel
theorem dX11_goShouts_223 : decode cX11_goShouts 223 = .ok (.ifCond .ne 22, 3) := by decide +kernel
theorem dX11_goShouts_226 : decode cX11_goShouts 226 = .ok (.iload_n 1, 1) := by decide +kernel
theorem dX11_goShouts_227 : decode cX11_goShouts 227 = .ok (.ifCond .lt 9, 3) := by decide +kernel
theorem dX11_goShouts_230 : decode cX11_goShouts 230 = .ok (.iload 7, 2) := by decide +kernel
theorem dX11_goShouts_232 : decode cX11_goShouts 232 = .ok (.iload_n 2, 1) := by decide +kernel
theorem dX11_goShouts_233 : decode cX11_goShouts 233 = .ok (.if_icmp .le 12, 3) := by decide +kernel
theorem dX11_goShouts_236 : decode cX11_goShouts 236 = .ok (.iload 6, 2) := by decide +kernel
theorem dX11_goShouts_238 : decode cX11_goShouts 238 = .ok (.istore_n 1, 1) := by decide +kernel
theorem dX11_goShouts_239 : decode cX11_goShouts 239 = .ok (.iload 7, 2) := by decide +kernel
theorem dX11_goShouts_241 : decode cX11_goShouts 241 = .ok (.istore_n 2, 1) := by decide +kernel
theorem dX11_goShouts_242 : decode cX11_goShouts 242 = .ok (.goto 32, 3) := by decide +kernel
theorem dX11_goShouts_245 : decode cX11_goShouts 245 = .ok (.aload_n 0, 1) := by decide +kernel
theorem dX11_goShouts_246 : decode cX11_goShouts 246 = .ok (.getfield 16, 3) := by decide +kernel
theorem dX11_goShouts_249 : decode cX11_goShouts 249 = .ok (.iload 6, 2) := by decide +kernel
theorem dX11_goShouts_251 : decode cX11_goShouts 251 = .ok (.iaload, 1) := by decide +kernel
theorem dX11_goShouts_252 : decode cX11_goShouts 252 = .ok (.iconst 1, 1) := by decide +kernel
theorem dX11_goShouts_253 : decode cX11_goShouts 253 = .ok (.if_icmp .ne 21, 3) := by decide +kernel
theorem dX11_goShouts_256 : decode cX11_goShouts 256 = .ok (.iload_n 3, 1) := by decide +kernel
theorem dX11_goShouts_257 : decode cX11_goShouts 257 = .ok (.ifCond .lt 10, 3) := by decide +kernel
theorem dX11_goShouts_260 : decode cX11_goShouts 260 = .ok (.iload 7, 2) := by decide +kernel
theorem dX11_goShouts_262 : decode cX11_goShouts 262 = .ok (.iload 4, 2) := by decide +kernel
theorem dX11_goShouts_264 : decode cX11_goShouts 264 = .ok (.if_icmp .ge 10, 3) := by decide +kernel
theorem dX11_goShouts_267 : decode cX11_goShouts 267 = .ok (.iload 6, 2) := by decide +kernel
theorem dX11_goShouts_269 : decode cX11_goShouts 269 = .ok (.istore_n 3, 1) := by decide +kernel
theorem dX11_goShouts_270 : decode cX11_goShouts 270 = .ok (.iload 7, 2) := by decide +kernel
theorem dX11_goShouts_272 : decode cX11_goShouts 272 = .ok (.istore 4, 2) := by decide +kernel
theorem dX11_goShouts_274 : decode cX11_goShouts 274 = .ok (.iinc 5 1, 3) := by decide +kernel
theorem dX11_goShouts_277 : decode cX11_goShouts 277 = .ok (.goto (-263), 3) := by decide +kernel
theorem dX11_goShouts_280 : decode cX11_goShouts 280 = .ok (.return_, 1) := by decide +kernel
theorem dX11_personOf_0 : decode cX11_personOf 0 = .ok (.iload_n 2, 1) := by decide +kernel
theorem dX11_personOf_1 : decode cX11_personOf 1 = .ok (.istore_n 3, 1) := by decide +kernel
theorem dX11_personOf_2 : decode cX11_personOf 2 = .ok (.iconst 0, 1) := by decide +kernel
theorem dX11_personOf_3 : decode cX11_personOf 3 = .ok (.istore 4, 2) := by decide +kernel
theorem dX11_personOf_5 : decode cX11_personOf 5 = .ok (.aload_n 0, 1) := by decide +kernel
theorem dX11_personOf_6 : decode cX11_personOf 6 = .ok (.getfield 16, 3) := by decide +kernel
theorem dX11_personOf_9 : decode cX11_personOf 9 = .ok (.iload 4, 2) := by decide +kernel
theorem dX11_personOf_11 : decode cX11_personOf 11 = .ok (.iaload, 1) := by decide +kernel
theorem dX11_personOf_12 : decode cX11_personOf 12 = .ok (.iload_n 1, 1) := by decide +kernel
theorem dX11_personOf_13 : decode cX11_personOf 13 = .ok (.if_icmp .ne 7, 3) := by decide +kernel
theorem dX11_personOf_16 : decode cX11_personOf 16 = .ok (.iload_n 3, 1) := by decide +kernel
theorem dX11_personOf_17 : decode cX11_personOf 17 = .ok (.ifCond .le 28, 3) := by decide +kernel
theorem dX11_personOf_20 : decode cX11_personOf 20 = .ok (.iload_n 3, 1) := by decide +kernel
theorem dX11_personOf_21 : decode cX11_personOf 21 = .ok (.aload_n 0, 1) := by decide +kernel
theorem dX11_personOf_22 : decode cX11_personOf 22 = .ok (.getfield 16, 3) := by decide +kernel
theorem dX11_personOf_25 : decode cX11_personOf 25 = .ok (.iload 4, 2) := by decide +kernel
theorem dX11_personOf_27 : decode cX11_personOf 27 = .ok (.iaload, 1) := by decide +kernel
theorem dX11_personOf_28 : decode cX11_personOf 28 = .ok (.iload_n 1, 1) := by decide +kernel
theorem dX11_personOf_29 : decode cX11_personOf 29 = .ok (.if_icmp .ne 7, 3) := by decide +kernel
theorem dX11_personOf_32 : decode cX11_personOf 32 = .ok (.iconst 1, 1) := by decide +kernel
theorem dX11_personOf_33 : decode cX11_personOf 33 = .ok (.goto 4, 3) := by decide +kernel
theorem dX11_personOf_36 : decode cX11_personOf 36 = .ok (.iconst 0, 1) := by decide +kernel
theorem dX11_personOf_37 : decode cX11_personOf 37 = .ok (.isub, 1) := by decide +kernel
theorem dX11_personOf_38 : decode cX11_personOf 38 = .ok (.istore_n 3, 1) := by decide +kernel
theorem dX11_personOf_39 : decode cX11_personOf 39 = .ok (.iinc 4 1, 3) := by decide +kernel
theorem dX11_personOf_42 : decode cX11_personOf 42 = .ok (.goto (-37), 3) := by decide +kernel
theorem dX11_personOf_45 : decode cX11_personOf 45 = .ok (.iload 4, 2) := by decide +kernel
theorem dX11_personOf_47 : decode cX11_personOf 47 = .ok (.ireturn, 1) := by decide +kernel
theorem dX11_goPairs_0 : decode cX11_goPairs 0 = .ok (.iconst 0, 1) := by decide +kernel
theorem dX11_goPairs_1 : decode cX11_goPairs 1 = .ok (.istore_n 1, 1) := by decide +kernel
theorem dX11_goPairs_2 : decode cX11_goPairs 2 = .ok (.iload_n 1, 1) := by decide +kernel
theorem dX11_goPairs_3 : decode cX11_goPairs 3 = .ok (.aload_n 0, 1) := by decide +kernel
theorem dX11_goPairs_4 : decode cX11_goPairs 4 = .ok (.getfield 25, 3) := by decide +kernel
theorem dX11_goPairs_7 : decode cX11_goPairs 7 = .ok (.iconst 0, 1) := by decide +kernel
theorem dX11_goPairs_8 : decode cX11_goPairs 8 = .ok (.iaload, 1) := by decide +kernel
theorem dX11_goPairs_9 : decode cX11_goPairs 9 = .ok (.if_icmp .ge 118, 3) := by decide +kernel
theorem dX11_goPairs_12 : decode cX11_goPairs 12 = .ok (.aload_n 0, 1) := by decide +kernel
theorem dX11_goPairs_13 : decode cX11_goPairs 13 = .ok (.iconst 0, 1) := by decide +kernel
theorem dX11_goPairs_14 : decode cX11_goPairs 14 = .ok (.aload_n 0, 1) := by decide +kernel
theorem dX11_goPairs_15 : decode cX11_goPairs 15 = .ok (.iload_n 1, 1) := by decide +kernel
theorem dX11_goPairs_16 : decode cX11_goPairs 16 = .ok (.iconst 0, 1) := by decide +kernel
theorem dX11_goPairs_17 : decode cX11_goPairs 17 = .ok (.invokevirtual 199, 3) := by decide +kernel
theorem dX11_goPairs_20 : decode cX11_goPairs 20 = .ok (.aload_n 0, 1) := by decide +kernel
theorem dX11_goPairs_21 : decode cX11_goPairs 21 = .ok (.iconst 0, 1) := by decide +kernel
theorem dX11_goPairs_22 : decode cX11_goPairs 22 = .ok (.invokevirtual 169, 3) := by decide +kernel
theorem dX11_goPairs_25 : decode cX11_goPairs 25 = .ok (.irem, 1) := by decide +kernel
theorem dX11_goPairs_26 : decode cX11_goPairs 26 = .ok (.invokevirtual 237, 3) := by decide +kernel
theorem dX11_goPairs_29 : decode cX11_goPairs 29 = .ok (.istore_n 2, 1) := by decide +kernel
theorem dX11_goPairs_30 : decode cX11_goPairs 30 = .ok (.aload_n 0, 1) := by decide +kernel
theorem dX11_goPairs_31 : decode cX11_goPairs 31 = .ok (.iconst 1, 1) := by decide +kernel
theorem dX11_goPairs_32 : decode cX11_goPairs 32 = .ok (.aload_n 0, 1) := by decide +kernel
theorem dX11_goPairs_33 : decode cX11_goPairs 33 = .ok (.iload_n 1, 1) := by decide +kernel
theorem dX11_goPairs_34 : decode cX11_goPairs 34 = .ok (.iconst 2, 1) := by decide +kernel
theorem dX11_goPairs_35 : decode cX11_goPairs 35 = .ok (.invokevirtual 199, 3) := by decide +kernel
theorem dX11_goPairs_38 : decode cX11_goPairs 38 = .ok (.aload_n 0, 1) := by decide +kernel
theorem dX11_goPairs_39 : decode cX11_goPairs 39 = .ok (.iconst 1, 1) := by decide +kernel
theorem dX11_goPairs_40 : decode cX11_goPairs 40 = .ok (.invokevirtual 169, 3) := by decide +kernel
theorem dX11_goPairs_43 : decode cX11_goPairs 43 = .ok (.irem, 1) := by decide +kernel
theorem dX11_goPairs_44 : decode cX11_goPairs 44 = .ok (.invokevirtual 237, 3) := by decide +kernel
theorem dX11_goPairs_47 : decode cX11_goPairs 47 = .ok (.istore_n 3, 1) := by decide +kernel
theorem dX11_goPairs_48 : decode cX11_goPairs 48 = .ok (.aload_n 0, 1) := by decide +kernel
theorem dX11_goPairs_49 : decode cX11_goPairs 49 = .ok (.getfield 58, 3) := by decide +kernel
theorem dX11_goPairs_52 : decode cX11_goPairs 52 = .ok (.iload_n 2, 1) := by decide +kernel
theorem dX11_goPairs_53 : decode cX11_goPairs 53 = .ok (.iaload, 1) := by decide +kernel
theorem dX11_goPairs_54 : decode cX11_goPairs 54 = .ok (.bipush (-4), 2) := by decide +kernel
theorem dX11_goPairs_56 : decode cX11_goPairs 56 = .ok (.if_icmp .ne 65, 3) := by decide +kernel
theorem dX11_goPairs_59 : decode cX11_goPairs 59 = .ok (.aload_n 0, 1) := by decide +kernel
theorem dX11_goPairs_60 : decode cX11_goPairs 60 = .ok (.getfield 58, 3) := by decide +kernel
theorem dX11_goPairs_63 : decode cX11_goPairs 63 = .ok (.iload_n 3, 1) := by decide +kernel
theorem dX11_goPairs_64 : decode cX11_goPairs 64 = .ok (.iaload, 1) := by decide +kernel
theorem dX11_goPairs_65 : decode cX11_goPairs 65 = .ok (.bipush (-4), 2) := by decide +kernel
theorem dX11_goPairs_67 : decode cX11_goPairs 67 = .ok (.if_icmp .ne 54, 3) := by decide +kernel
theorem dX11_goPairs_70 : decode cX11_goPairs 70 = .ok (.aload_n 0, 1) := by decide +kernel
theorem dX11_goPairs_71 : decode cX11_goPairs 71 = .ok (.iload_n 3, 1) := by decide +kernel
theorem dX11_goPairs_72 : decode cX11_goPairs 72 = .ok (.iload_n 1, 1) := by decide +kernel
theorem dX11_goPairs_73 : decode cX11_goPairs 73 = .ok (.iload_n 1, 1) := by decide +kernel
theorem dX11_goPairs_74 : decode cX11_goPairs 74 = .ok (.iconst 3, 1) := by decide +kernel
theorem dX11_goPairs_75 : decode cX11_goPairs 75 = .ok (.invokevirtual 225, 3) := by decide +kernel
theorem dX11_goPairs_78 : decode cX11_goPairs 78 = .ok (.istore 4, 2) := by decide +kernel
theorem dX11_goPairs_80 : decode cX11_goPairs 80 = .ok (.iload 4, 2) := by decide +kernel
theorem dX11_goPairs_82 : decode cX11_goPairs 82 = .ok (.ifCond .lt 39, 3) := by decide +kernel
theorem dX11_goPairs_85 : decode cX11_goPairs 85 = .ok (.aload_n 0, 1) := by decide +kernel
theorem dX11_goPairs_86 : decode cX11_goPairs 86 = .ok (.iload_n 2, 1) := by decide +kernel
theorem dX11_goPairs_87 : decode cX11_goPairs 87 = .ok (.iload_n 1, 1) := by decide +kernel
theorem dX11_goPairs_88 : decode cX11_goPairs 88 = .ok (.iload_n 1, 1) := by decide +kernel
theorem dX11_goPairs_89 : decode cX11_goPairs 89 = .ok (.iconst 1, 1) := by decide +kernel
theorem dX11_goPairs_90 : decode cX11_goPairs 90 = .ok (.invokevirtual 225, 3) := by decide +kernel
theorem dX11_goPairs_93 : decode cX11_goPairs 93 = .ok (.iload 4, 2) := by decide +kernel
theorem dX11_goPairs_95 : decode cX11_goPairs 95 = .ok (.aload_n 0, 1) := by decide +kernel
theorem dX11_goPairs_96 : decode cX11_goPairs 96 = .ok (.getfield 25, 3) := by decide +kernel
theorem dX11_goPairs_99 : decode cX11_goPairs 99 = .ok (.iconst 1, 1) := by decide +kernel
theorem dX11_goPairs_100 : decode cX11_goPairs 100 = .ok (.iaload, 1) := by decide +kernel
theorem dX11_goPairs_101 : decode cX11_goPairs 101 = .ok (.iadd, 1) := by decide +kernel
theorem dX11_goPairs_102 : decode cX11_goPairs 102 = .ok (.if_icmp .lt 19, 3) := by decide +kernel
theorem dX11_goPairs_105 : decode cX11_goPairs 105 = .ok (.aload_n 0, 1) := by decide +kernel
theorem dX11_goPairs_106 : decode cX11_goPairs 106 = .ok (.iload_n 2, 1) := by decide +kernel
theorem dX11_goPairs_107 : decode cX11_goPairs 107 = .ok (.iload_n 3, 1) := by decide +kernel
theorem dX11_goPairs_108 : decode cX11_goPairs 108 = .ok (.iload 4, 2) := by decide +kernel
theorem dX11_goPairs_110 : decode cX11_goPairs 110 = .ok (.aload_n 0, 1) := by decide +kernel
theorem dX11_goPairs_111 : decode cX11_goPairs 111 = .ok (.getfield 25, 3) := by decide +kernel
theorem dX11_goPairs_114 : decode cX11_goPairs 114 = .ok (.iconst 1, 1) := by decide +kernel
theorem dX11_goPairs_115 : decode cX11_goPairs 115 = .ok (.iaload, 1) := by decide +kernel
theorem dX11_goPairs_116 : decode cX11_goPairs 116 = .ok (.iadd, 1) := by decide +kernel
theorem dX11_goPairs_117 : decode cX11_goPairs 117 = .ok (.iload_n 1, 1) := by decide +kernel
theorem dX11_goPairs_118 : decode cX11_goPairs 118 = .ok (.invokevirtual 233, 3) := by decide +kernel
theorem dX11_goPairs_121 : decode cX11_goPairs 121 = .ok (.iinc 1 1, 3) := by decide +kernel
theorem dX11_goPairs_124 : decode cX11_goPairs 124 = .ok (.goto (-122), 3) := by decide +kernel
theorem dX11_goPairs_127 : decode cX11_goPairs 127 = .ok (.return_, 1) := by decide +kernel
theorem dX11_goPosted_0 : decode cX11_goPosted 0 = .ok (.iconst 0, 1) := by decide +kernel
theorem dX11_goPosted_1 : decode cX11_goPosted 1 = .ok (.istore_n 1, 1) := by decide +kernel
theorem dX11_goPosted_2 : decode cX11_goPosted 2 = .ok (.iload_n 1, 1) := by decide +kernel
theorem dX11_goPosted_3 : decode cX11_goPosted 3 = .ok (.aload_n 0, 1) := by decide +kernel
theorem dX11_goPosted_4 : decode cX11_goPosted 4 = .ok (.getfield 13, 3) := by decide +kernel
theorem dX11_goPosted_7 : decode cX11_goPosted 7 = .ok (.iconst 0, 1) := by decide +kernel
theorem dX11_goPosted_8 : decode cX11_goPosted 8 = .ok (.iaload, 1) := by decide +kernel
theorem dX11_goPosted_9 : decode cX11_goPosted 9 = .ok (.if_icmp .ge 38, 3) := by decide +kernel
theorem dX11_goPosted_12 : decode cX11_goPosted 12 = .ok (.aload_n 0, 1) := by decide +kernel
theorem dX11_goPosted_13 : decode cX11_goPosted 13 = .ok (.getfield 61, 3) := by decide +kernel
theorem dX11_goPosted_16 : decode cX11_goPosted 16 = .ok (.iload_n 1, 1) := by decide +kernel
theorem dX11_goPosted_17 : decode cX11_goPosted 17 = .ok (.aload_n 0, 1) := by decide +kernel
theorem dX11_goPosted_18 : decode cX11_goPosted 18 = .ok (.getfield 16, 3) := by decide +kernel
theorem dX11_goPosted_21 : decode cX11_goPosted 21 = .ok (.iload_n 1, 1) := by decide +kernel
theorem dX11_goPosted_22 : decode cX11_goPosted 22 = .ok (.iaload, 1) := by decide +kernel
theorem dX11_goPosted_23 : decode cX11_goPosted 23 = .ok (.iconst 1, 1) := by decide +kernel
theorem dX11_goPosted_24 : decode cX11_goPosted 24 = .ok (.if_icmp .ne 14, 3) := by decide +kernel
theorem dX11_goPosted_27 : decode cX11_goPosted 27 = .ok (.aload_n 0, 1) := by decide +kernel
theorem dX11_goPosted_28 : decode cX11_goPosted 28 = .ok (.iload_n 1, 1) := by decide +kernel
theorem dX11_goPosted_29 : decode cX11_goPosted 29 = .ok (.iconst 0, 1) := by decide +kernel
theorem dX11_goPosted_30 : decode cX11_goPosted 30 = .ok (.iload_n 1, 1) := by decide +kernel
theorem dX11_goPosted_31 : decode cX11_goPosted 31 = .ok (.iconst 1, 1) := by decide +kernel
theorem dX11_goPosted_32 : decode cX11_goPosted 32 = .ok (.invokevirtual 225, 3) := by decide +kernel
theorem dX11_goPosted_35 : decode cX11_goPosted 35 = .ok (.goto 5, 3) := by decide +kernel
theorem dX11_goPosted_38 : decode cX11_goPosted 38 = .ok (.bipush (-4), 2) := by decide +kernel
theorem dX11_goPosted_40 : decode cX11_goPosted 40 = .ok (.iastore, 1) := by decide +kernel
theorem dX11_goPosted_41 : decode cX11_goPosted 41 = .ok (.iinc 1 1, 3) := by decide +kernel
theorem dX11_goPosted_44 : decode cX11_goPosted 44 = .ok (.goto (-42), 3) := by decide +kernel
theorem dX11_goPosted_47 : decode cX11_goPosted 47 = .ok (.iconst 0, 1) := by decide +kernel
theorem dX11_goPosted_48 : decode cX11_goPosted 48 = .ok (.istore_n 1, 1) := by decide +kernel
theorem dX11_goPosted_49 : decode cX11_goPosted 49 = .ok (.iload_n 1, 1) := by decide +kernel
theorem dX11_goPosted_50 : decode cX11_goPosted 50 = .ok (.aload_n 0, 1) := by decide +kernel
theorem dX11_goPosted_51 : decode cX11_goPosted 51 = .ok (.getfield 25, 3) := by decide +kernel
theorem dX11_goPosted_54 : decode cX11_goPosted 54 = .ok (.iconst 0, 1) := by decide +kernel
theorem dX11_goPosted_55 : decode cX11_goPosted 55 = .ok (.iaload, 1) := by decide +kernel
theorem dX11_goPosted_56 : decode cX11_goPosted 56 = .ok (.if_icmp .ge 179, 3) := by decide +kernel
theorem dX11_goPosted_59 : decode cX11_goPosted 59 = .ok (.aload_n 0, 1) := by decide +kernel
theorem dX11_goPosted_60 : decode cX11_goPosted 60 = .ok (.iconst 0, 1) := by decide +kernel
theorem dX11_goPosted_61 : decode cX11_goPosted 61 = .ok (.aload_n 0, 1) := by decide +kernel
theorem dX11_goPosted_62 : decode cX11_goPosted 62 = .ok (.iload_n 1, 1) := by decide +kernel
theorem dX11_goPosted_63 : decode cX11_goPosted 63 = .ok (.iconst 0, 1) := by decide +kernel
theorem dX11_goPosted_64 : decode cX11_goPosted 64 = .ok (.invokevirtual 199, 3) := by decide +kernel
theorem dX11_goPosted_67 : decode cX11_goPosted 67 = .ok (.aload_n 0, 1) := by decide +kernel
theorem dX11_goPosted_68 : decode cX11_goPosted 68 = .ok (.iconst 0, 1) := by decide +kernel
theorem dX11_goPosted_69 : decode cX11_goPosted 69 = .ok (.invokevirtual 169, 3) := by decide +kernel
theorem dX11_goPosted_72 : decode cX11_goPosted 72 = .ok (.irem, 1) := by decide +kernel
theorem dX11_goPosted_73 : decode cX11_goPosted 73 = .ok (.invokevirtual 237, 3) := by decide +kernel
theorem dX11_goPosted_76 : decode cX11_goPosted 76 = .ok (.istore_n 2, 1) := by decide +kernel
theorem dX11_goPosted_77 : decode cX11_goPosted 77 = .ok (.bipush (-4), 2) := by decide +kernel
theorem dX11_goPosted_79 : decode cX11_goPosted 79 = .ok (.istore_n 3, 1) := by decide +kernel
theorem dX11_goPosted_80 : decode cX11_goPosted 80 = .ok (.iconst 0, 1) := by decide +kernel
theorem dX11_goPosted_81 : decode cX11_goPosted 81 = .ok (.istore 4, 2) := by decide +kernel
theorem dX11_goPosted_83 : decode cX11_goPosted 83 = .ok (.iload 4, 2) := by decide +kernel
theorem dX11_goPosted_85 : decode cX11_goPosted 85 = .ok (.aload_n 0, 1) := by decide +kernel
theorem dX11_goPosted_86 : decode cX11_goPosted 86 = .ok (.getfield 13, 3) := by decide +kernel
theorem dX11_goPosted_89 : decode cX11_goPosted 89 = .ok (.iconst 0, 1) := by decide +kernel
theorem dX11_goPosted_90 : decode cX11_goPosted 90 = .ok (.iaload, 1) := by decide +kernel
theorem dX11_goPosted_91 : decode cX11_goPosted 91 = .ok (.if_icmp .ge 81, 3) := by decide +kernel
theorem dX11_goPosted_94 : decode cX11_goPosted 94 = .ok (.aload_n 0, 1) := by decide +kernel
theorem dX11_goPosted_95 : decode cX11_goPosted 95 = .ok (.getfield 16, 3) := by decide +kernel
theorem dX11_goPosted_98 : decode cX11_goPosted 98 = .ok (.iload 4, 2) := by decide +kernel
theorem dX11_goPosted_100 : decode cX11_goPosted 100 = .ok (.iaload, 1) := by decide +kernel
theorem dX11_goPosted_101 : decode cX11_goPosted 101 = .ok (.iconst 1, 1) := by decide +kernel
theorem dX11_goPosted_102 : decode cX11_goPosted 102 = .ok (.if_icmp .ne 29, 3) := by decide +kernel
theorem dX11_goPosted_105 : decode cX11_goPosted 105 = .ok (.aload_n 0, 1) := by decide +kernel
theorem dX11_goPosted_106 : decode cX11_goPosted 106 = .ok (.getfield 58, 3) := by decide +kernel
theorem dX11_goPosted_109 : decode cX11_goPosted 109 = .ok (.iload 4, 2) := by decide +kernel
theorem dX11_goPosted_111 : decode cX11_goPosted 111 = .ok (.iaload, 1) := by decide +kernel
theorem dX11_goPosted_112 : decode cX11_goPosted 112 = .ok (.bipush (-4), 2) := by decide +kernel
theorem dX11_goPosted_114 : decode cX11_goPosted 114 = .ok (.if_icmp .ne 17, 3) := by decide +kernel
theorem dX11_goPosted_117 : decode cX11_goPosted 117 = .ok (.aload_n 0, 1) := by decide +kernel
theorem dX11_goPosted_118 : decode cX11_goPosted 118 = .ok (.getfield 61, 3) := by decide +kernel
theorem dX11_goPosted_121 : decode cX11_goPosted 121 = .ok (.iload 4, 2) := by decide +kernel
theorem dX11_goPosted_123 : decode cX11_goPosted 123 = .ok (.iaload, 1) := by decide +kernel
theorem dX11_goPosted_124 : decode cX11_goPosted 124 = .ok (.ifCond .lt 7, 3) := by decide +kernel
theorem dX11_goPosted_127 : decode cX11_goPosted 127 = .ok (.iconst 1, 1) := by decide +kernel
theorem dX11_goPosted_128 : decode cX11_goPosted 128 = .ok (.goto 4, 3) := by decide +kernel
theorem dX11_goPosted_131 : decode cX11_goPosted 131 = .ok (.iconst 0, 1) := by decide +kernel
theorem dX11_goPosted_132 : decode cX11_goPosted 132 = .ok (.istore 5, 2) := by decide +kernel
theorem dX11_goPosted_134 : decode cX11_goPosted 134 = .ok (.iload 5, 2) := by decide +kernel
theorem dX11_goPosted_136 : decode cX11_goPosted 136 = .ok (.ifCond .eq 28, 3) := by decide +kernel
theorem dX11_goPosted_139 : decode cX11_goPosted 139 = .ok (.iload_n 3, 1) := by decide +kernel
theorem dX11_goPosted_140 : decode cX11_goPosted 140 = .ok (.ifCond .lt 19, 3) := by decide +kernel
theorem dX11_goPosted_143 : decode cX11_goPosted 143 = .ok (.aload_n 0, 1) := by decide +kernel
theorem dX11_goPosted_144 : decode cX11_goPosted 144 = .ok (.getfield 61, 3) := by decide +kernel
theorem dX11_goPosted_147 : decode cX11_goPosted 147 = .ok (.iload 4, 2) := by decide +kernel
theorem dX11_goPosted_149 : decode cX11_goPosted 149 = .ok (.iaload, 1) := by decide +kernel
theorem dX11_goPosted_150 : decode cX11_goPosted 150 = .ok (.aload_n 0, 1) := by decide +kernel
theorem dX11_goPosted_151 : decode cX11_goPosted 151 = .ok (.getfield 61, 3) := by decide +kernel
theorem dX11_goPosted_154 : decode cX11_goPosted 154 = .ok (.iload_n 3, 1) := by decide +kernel
theorem dX11_goPosted_155 : decode cX11_goPosted 155 = .ok (.iaload, 1) := by decide +kernel
theorem dX11_goPosted_156 : decode cX11_goPosted 156 = .ok (.if_icmp .ge 8, 3) := by decide +kernel
theorem dX11_goPosted_159 : decode cX11_goPosted 159 = .ok (.iload 4, 2) := by decide +kernel
theorem dX11_goPosted_161 : decode cX11_goPosted 161 = .ok (.goto 4, 3) := by decide +kernel
theorem dX11_goPosted_164 : decode cX11_goPosted 164 = .ok (.iload_n 3, 1) := by decide +kernel
theorem dX11_goPosted_165 : decode cX11_goPosted 165 = .ok (.istore_n 3, 1) := by decide +kernel
theorem dX11_goPosted_166 : decode cX11_goPosted 166 = .ok (.iinc 4 1, 3) := by decide +kernel
theorem dX11_goPosted_169 : decode cX11_goPosted 169 = .ok (.goto (-86), 3) := by decide +kernel
theorem dX11_goPosted_172 : decode cX11_goPosted 172 = .ok (.aload_n 0, 1) := by decide +kernel
theorem dX11_goPosted_173 : decode cX11_goPosted 173 = .ok (.getfield 58, 3) := by decide +kernel
theorem dX11_goPosted_176 : decode cX11_goPosted 176 = .ok (.iload_n 2, 1) := by decide +kernel
theorem dX11_goPosted_177 : decode cX11_goPosted 177 = .ok (.iaload, 1) := by decide +kernel
theorem dX11_goPosted_178 : decode cX11_goPosted 178 = .ok (.bipush (-4), 2) := by decide +kernel
theorem dX11_goPosted_180 : decode cX11_goPosted 180 = .ok (.if_icmp .ne 49, 3) := by decide +kernel
theorem dX11_goPosted_183 : decode cX11_goPosted 183 = .ok (.iload_n 3, 1) := by decide +kernel
theorem dX11_goPosted_184 : decode cX11_goPosted 184 = .ok (.ifCond .lt 45, 3) := by decide +kernel
theorem dX11_goPosted_187 : decode cX11_goPosted 187 = .ok (.aload_n 0, 1) := by decide +kernel
theorem dX11_goPosted_188 : decode cX11_goPosted 188 = .ok (.getfield 61, 3) := by decide +kernel
theorem dX11_goPosted_191 : decode cX11_goPosted 191 = .ok (.iload_n 3, 1) := by decide +kernel
theorem dX11_goPosted_192 : decode cX11_goPosted 192 = .ok (.iaload, 1) := by decide +kernel
theorem dX11_goPosted_193 : decode cX11_goPosted 193 = .ok (.aload_n 0, 1) := by decide +kernel
theorem dX11_goPosted_194 : decode cX11_goPosted 194 = .ok (.getfield 25, 3) := by decide +kernel
theorem dX11_goPosted_197 : decode cX11_goPosted 197 = .ok (.iconst 1, 1) := by decide +kernel
theorem dX11_goPosted_198 : decode cX11_goPosted 198 = .ok (.iaload, 1) := by decide +kernel
theorem dX11_goPosted_199 : decode cX11_goPosted 199 = .ok (.iadd, 1) := by decide +kernel
theorem dX11_goPosted_200 : decode cX11_goPosted 200 = .ok (.aload_n 0, 1) := by decide +kernel
theorem dX11_goPosted_201 : decode cX11_goPosted 201 = .ok (.getfield 19, 3) := by decide +kernel
theorem dX11_goPosted_204 : decode cX11_goPosted 204 = .ok (.iload_n 2, 1) := by decide +kernel
theorem dX11_goPosted_205 : decode cX11_goPosted 205 = .ok (.iaload, 1) := by decide +kernel
theorem dX11_goPosted_206 : decode cX11_goPosted 206 = .ok (.if_icmp .gt 23, 3) := by decide +kernel
theorem dX11_goPosted_209 : decode cX11_goPosted 209 = .ok (.aload_n 0, 1) := by decide +kernel
theorem dX11_goPosted_210 : decode cX11_goPosted 210 = .ok (.iload_n 2, 1) := by decide +kernel
theorem dX11_goPosted_211 : decode cX11_goPosted 211 = .ok (.iload_n 3, 1) := by decide +kernel
theorem dX11_goPosted_212 : decode cX11_goPosted 212 = .ok (.aload_n 0, 1) := by decide +kernel
theorem dX11_goPosted_213 : decode cX11_goPosted 213 = .ok (.getfield 61, 3) := by decide +kernel
theorem dX11_goPosted_216 : decode cX11_goPosted 216 = .ok (.iload_n 3, 1) := by decide +kernel
theorem dX11_goPosted_217 : decode cX11_goPosted 217 = .ok (.iaload, 1) := by decide +kernel
theorem dX11_goPosted_218 : decode cX11_goPosted 218 = .ok (.aload_n 0, 1) := by decide +kernel
theorem dX11_goPosted_219 : decode cX11_goPosted 219 = .ok (.getfield 25, 3) := by decide +kernel
theorem dX11_goPosted_222 : decode cX11_goPosted 222 = .ok (.iconst 1, 1) := by decide +kernel
theorem dX11_goPosted_223 : decode cX11_goPosted 223 = .ok (.iaload, 1) := by decide +kernel
theorem dX11_goPosted_224 : decode cX11_goPosted 224 = .ok (.iadd, 1) := by decide +kernel
theorem dX11_goPosted_225 : decode cX11_goPosted 225 = .ok (.iload_n 1, 1) := by decide +kernel
theorem dX11_goPosted_226 : decode cX11_goPosted 226 = .ok (.invokevirtual 233, 3) := by decide +kernel
theorem dX11_goPosted_229 : decode cX11_goPosted 229 = .ok (.iinc 1 1, 3) := by decide +kernel
theorem dX11_goPosted_232 : decode cX11_goPosted 232 = .ok (.goto (-183), 3) := by decide +kernel
theorem dX11_goPosted_235 : decode cX11_goPosted 235 = .ok (.return_, 1) := by decide +kernel
theorem dX11_goBell_0 : decode cX11_goBell 0 = .ok (.iconst 0, 1) := by decide +kernel
theorem dX11_goBell_1 : decode cX11_goBell 1 = .ok (.istore_n 1, 1) := by decide +kernel
theorem dX11_goBell_2 : decode cX11_goBell 2 = .ok (.iload_n 1, 1) := by decide +kernel
theorem dX11_goBell_3 : decode cX11_goBell 3 = .ok (.aload_n 0, 1) := by decide +kernel
theorem dX11_goBell_4 : decode cX11_goBell 4 = .ok (.getfield 13, 3) := by decide +kernel
theorem dX11_goBell_7 : decode cX11_goBell 7 = .ok (.iconst 0, 1) := by decide +kernel
theorem dX11_goBell_8 : decode cX11_goBell 8 = .ok (.iaload, 1) := by decide +kernel
theorem dX11_goBell_9 : decode cX11_goBell 9 = .ok (.if_icmp .ge 30, 3) := by decide +kernel
theorem dX11_goBell_12 : decode cX11_goBell 12 = .ok (.aload_n 0, 1) := by decide +kernel
theorem dX11_goBell_13 : decode cX11_goBell 13 = .ok (.getfield 49, 3) := by decide +kernel
theorem dX11_goBell_16 : decode cX11_goBell 16 = .ok (.iload_n 1, 1) := by decide +kernel
theorem dX11_goBell_17 : decode cX11_goBell 17 = .ok (.aload_n 0, 1) := by decide +kernel
theorem dX11_goBell_18 : decode cX11_goBell 18 = .ok (.iload_n 1, 1) := by decide +kernel
theorem dX11_goBell_19 : decode cX11_goBell 19 = .ok (.aload_n 0, 1) := by decide +kernel
theorem dX11_goBell_20 : decode cX11_goBell 20 = .ok (.getfield 25, 3) := by decide +kernel
theorem dX11_goBell_23 : decode cX11_goBell 23 = .ok (.iconst 0, 1) := by decide +kernel
theorem dX11_goBell_24 : decode cX11_goBell 24 = .ok (.iaload, 1) := by decide +kernel
theorem dX11_goBell_25 : decode cX11_goBell 25 = .ok (.iconst 1, 1) := by decide +kernel
theorem dX11_goBell_26 : decode cX11_goBell 26 = .ok (.isub, 1) := by decide +kernel
theorem dX11_goBell_27 : decode cX11_goBell 27 = .ok (.iload_n 1, 1) := by decide +kernel
theorem dX11_goBell_28 : decode cX11_goBell 28 = .ok (.iconst 1, 1) := by decide +kernel
theorem dX11_goBell_29 : decode cX11_goBell 29 = .ok (.invokevirtual 225, 3) := by decide +kernel
theorem dX11_goBell_32 : decode cX11_goBell 32 = .ok (.iastore, 1) := by decide +kernel
theorem dX11_goBell_33 : decode cX11_goBell 33 = .ok (.iinc 1 1, 3) := by decide +kernel
theorem dX11_goBell_36 : decode cX11_goBell 36 = .ok (.goto (-34), 3) := by decide +kernel
theorem dX11_goBell_39 : decode cX11_goBell 39 = .ok (.aload_n 0, 1) := by decide +kernel
theorem dX11_goBell_40 : decode cX11_goBell 40 = .ok (.invokevirtual 151, 3) := by decide +kernel
theorem dX11_goBell_43 : decode cX11_goBell 43 = .ok (.aload_n 0, 1) := by decide +kernel
theorem dX11_goBell_44 : decode cX11_goBell 44 = .ok (.aload_n 0, 1) := by decide +kernel
theorem dX11_goBell_45 : decode cX11_goBell 45 = .ok (.getfield 25, 3) := by decide +kernel
theorem dX11_goBell_48 : decode cX11_goBell 48 = .ok (.iconst 1, 1) := by decide +kernel
theorem dX11_goBell_49 : decode cX11_goBell 49 = .ok (.iaload, 1) := by decide +kernel
theorem dX11_goBell_50 : decode cX11_goBell 50 = .ok (.invokevirtual 154, 3) := by decide +kernel
theorem dX11_goBell_53 : decode cX11_goBell 53 = .ok (.istore_n 1, 1) := by decide +kernel
theorem dX11_goBell_54 : decode cX11_goBell 54 = .ok (.iload_n 1, 1) := by decide +kernel
theorem dX11_goBell_55 : decode cX11_goBell 55 = .ok (.ifCond .le 46, 3) := by decide +kernel
theorem dX11_goBell_58 : decode cX11_goBell 58 = .ok (.aload_n 0, 1) := by decide +kernel
theorem dX11_goBell_59 : decode cX11_goBell 59 = .ok (.iload_n 1, 1) := by decide +kernel
theorem dX11_goBell_60 : decode cX11_goBell 60 = .ok (.aload_n 0, 1) := by decide +kernel
theorem dX11_goBell_61 : decode cX11_goBell 61 = .ok (.getfield 25, 3) := by decide +kernel
theorem dX11_goBell_64 : decode cX11_goBell 64 = .ok (.iconst 1, 1) := by decide +kernel
theorem dX11_goBell_65 : decode cX11_goBell 65 = .ok (.iaload, 1) := by decide +kernel
theorem dX11_goBell_66 : decode cX11_goBell 66 = .ok (.invokevirtual 160, 3) := by decide +kernel
theorem dX11_goBell_69 : decode cX11_goBell 69 = .ok (.istore_n 2, 1) := by decide +kernel
theorem dX11_goBell_70 : decode cX11_goBell 70 = .ok (.iconst 0, 1) := by decide +kernel
theorem dX11_goBell_71 : decode cX11_goBell 71 = .ok (.istore_n 3, 1) := by decide +kernel
theorem dX11_goBell_72 : decode cX11_goBell 72 = .ok (.iload_n 3, 1) := by decide +kernel
theorem dX11_goBell_73 : decode cX11_goBell 73 = .ok (.iload_n 1, 1) := by decide +kernel
theorem dX11_goBell_74 : decode cX11_goBell 74 = .ok (.if_icmp .ge 27, 3) := by decide +kernel
theorem dX11_goBell_77 : decode cX11_goBell 77 = .ok (.aload_n 0, 1) := by decide +kernel
theorem dX11_goBell_78 : decode cX11_goBell 78 = .ok (.aload_n 0, 1) := by decide +kernel
theorem dX11_goBell_79 : decode cX11_goBell 79 = .ok (.getfield 52, 3) := by decide +kernel
theorem dX11_goBell_82 : decode cX11_goBell 82 = .ok (.iload_n 3, 1) := by decide +kernel
theorem dX11_goBell_83 : decode cX11_goBell 83 = .ok (.iaload, 1) := by decide +kernel
theorem dX11_goBell_84 : decode cX11_goBell 84 = .ok (.aload_n 0, 1) := by decide +kernel
theorem dX11_goBell_85 : decode cX11_goBell 85 = .ok (.getfield 55, 3) := by decide +kernel
theorem dX11_goBell_88 : decode cX11_goBell 88 = .ok (.iload_n 3, 1) := by decide +kernel
theorem dX11_goBell_89 : decode cX11_goBell 89 = .ok (.iaload, 1) := by decide +kernel
theorem dX11_goBell_90 : decode cX11_goBell 90 = .ok (.iload_n 2, 1) := by decide +kernel
theorem dX11_goBell_91 : decode cX11_goBell 91 = .ok (.iconst 0, 1) := by decide +kernel
theorem dX11_goBell_92 : decode cX11_goBell 92 = .ok (.invokevirtual 233, 3) := by decide +kernel
theorem dX11_goBell_95 : decode cX11_goBell 95 = .ok (.iinc 3 1, 3) := by decide +kernel
theorem dX11_goBell_98 : decode cX11_goBell 98 = .ok (.goto (-26), 3) := by decide +kernel
theorem dX11_goBell_101 : decode cX11_goBell 101 = .ok (.return_, 1) := by decide +kernel
theorem dX11_goRound_0 : decode cX11_goRound 0 = .ok (.aload_n 0, 1) := by decide +kernel
theorem dX11_goRound_1 : decode cX11_goRound 1 = .ok (.iload_n 2, 1) := by decide +kernel
theorem dX11_goRound_2 : decode cX11_goRound 2 = .ok (.putfield 187, 3) := by decide +kernel
theorem dX11_goRound_5 : decode cX11_goRound 5 = .ok (.aload_n 0, 1) := by decide +kernel
theorem dX11_goRound_6 : decode cX11_goRound 6 = .ok (.bipush (-4), 2) := by decide +kernel
theorem dX11_goRound_8 : decode cX11_goRound 8 = .ok (.putfield 196, 3) := by decide +kernel
theorem dX11_goRound_11 : decode cX11_goRound 11 = .ok (.aload_n 0, 1) := by decide +kernel
theorem dX11_goRound_12 : decode cX11_goRound 12 = .ok (.iconst 0, 1) := by decide +kernel
theorem dX11_goRound_13 : decode cX11_goRound 13 = .ok (.putfield 209, 3) := by decide +kernel
theorem dX11_goRound_16 : decode cX11_goRound 16 = .ok (.aload_n 0, 1) := by decide +kernel
theorem dX11_goRound_17 : decode cX11_goRound 17 = .ok (.iconst 0, 1) := by decide +kernel
theorem dX11_goRound_18 : decode cX11_goRound 18 = .ok (.putfield 206, 3) := by decide +kernel
theorem dX11_goRound_21 : decode cX11_goRound 21 = .ok (.aload_n 0, 1) := by decide +kernel
theorem dX11_goRound_22 : decode cX11_goRound 22 = .ok (.iconst 0, 1) := by decide +kernel
theorem dX11_goRound_23 : decode cX11_goRound 23 = .ok (.putfield 218, 3) := by decide +kernel
theorem dX11_goRound_26 : decode cX11_goRound 26 = .ok (.aload_n 0, 1) := by decide +kernel
theorem dX11_goRound_27 : decode cX11_goRound 27 = .ok (.iconst 0, 1) := by decide +kernel
theorem dX11_goRound_28 : decode cX11_goRound 28 = .ok (.putfield 212, 3) := by decide +kernel
theorem dX11_goRound_31 : decode cX11_goRound 31 = .ok (.aload_n 0, 1) := by decide +kernel
theorem dX11_goRound_32 : decode cX11_goRound 32 = .ok (.iconst 0, 1) := by decide +kernel
theorem dX11_goRound_33 : decode cX11_goRound 33 = .ok (.putfield 215, 3) := by decide +kernel
theorem dX11_goRound_36 : decode cX11_goRound 36 = .ok (.aload_n 0, 1) := by decide +kernel
theorem dX11_goRound_37 : decode cX11_goRound 37 = .ok (.iload_n 3, 1) := by decide +kernel
theorem dX11_goRound_38 : decode cX11_goRound 38 = .ok (.ifCond .eq 11, 3) := by decide +kernel
theorem dX11_goRound_41 : decode cX11_goRound 41 = .ok (.iload_n 1, 1) := by decide +kernel
theorem dX11_goRound_42 : decode cX11_goRound 42 = .ok (.ifCond .ne 7, 3) := by decide +kernel
theorem dX11_goRound_45 : decode cX11_goRound 45 = .ok (.iconst 1, 1) := by decide +kernel
theorem dX11_goRound_46 : decode cX11_goRound 46 = .ok (.goto 4, 3) := by decide +kernel
theorem dX11_goRound_49 : decode cX11_goRound 49 = .ok (.iconst 0, 1) := by decide +kernel
theorem dX11_goRound_50 : decode cX11_goRound 50 = .ok (.putfield 221, 3) := by decide +kernel
theorem dX11_goRound_53 : decode cX11_goRound 53 = .ok (.aload_n 0, 1) := by decide +kernel
theorem dX11_goRound_54 : decode cX11_goRound 54 = .ok (.getfield 28, 3) := by decide +kernel
theorem dX11_goRound_57 : decode cX11_goRound 57 = .ok (.iconst 0, 1) := by decide +kernel
theorem dX11_goRound_58 : decode cX11_goRound 58 = .ok (.aload_n 0, 1) := by decide +kernel
theorem dX11_goRound_59 : decode cX11_goRound 59 = .ok (.getfield 221, 3) := by decide +kernel
theorem dX11_goRound_62 : decode cX11_goRound 62 = .ok (.ifCond .eq 7, 3) := by decide +kernel
theorem dX11_goRound_65 : decode cX11_goRound 65 = .ok (.iconst 0, 1) := by decide +kernel
theorem dX11_goRound_66 : decode cX11_goRound 66 = .ok (.goto 9, 3) := by decide +kernel
theorem dX11_goRound_69 : decode cX11_goRound 69 = .ok (.aload_n 0, 1) := by decide +kernel
theorem dX11_goRound_70 : decode cX11_goRound 70 = .ok (.getfield 28, 3) := by decide +kernel
theorem dX11_goRound_73 : decode cX11_goRound 73 = .ok (.iconst 0, 1) := by decide +kernel
theorem dX11_goRound_74 : decode cX11_goRound 74 = .ok (.iaload, 1) := by decide +kernel
theorem dX11_goRound_75 : decode cX11_goRound 75 = .ok (.iastore, 1) := by decide +kernel
theorem dX11_goRound_76 : decode cX11_goRound 76 = .ok (.iconst 0, 1) := by decide +kernel
theorem dX11_goRound_77 : decode cX11_goRound 77 = .ok (.istore 4, 2) := by decide +kernel
theorem dX11_goRound_79 : decode cX11_goRound 79 = .ok (.iload 4, 2) := by decide +kernel
theorem dX11_goRound_81 : decode cX11_goRound 81 = .ok (.bipush 20, 2) := by decide +kernel
theorem dX11_goRound_83 : decode cX11_goRound 83 = .ok (.if_icmp .ge 18, 3) := by decide +kernel
theorem dX11_goRound_86 : decode cX11_goRound 86 = .ok (.aload_n 0, 1) := by decide +kernel
theorem dX11_goRound_87 : decode cX11_goRound 87 = .ok (.getfield 58, 3) := by decide +kernel
theorem dX11_goRound_90 : decode cX11_goRound 90 = .ok (.iload 4, 2) := by decide +kernel
theorem dX11_goRound_92 : decode cX11_goRound 92 = .ok (.bipush (-4), 2) := by decide +kernel
theorem dX11_goRound_94 : decode cX11_goRound 94 = .ok (.iastore, 1) := by decide +kernel
theorem dX11_goRound_95 : decode cX11_goRound 95 = .ok (.iinc 4 1, 3) := by decide +kernel
theorem dX11_goRound_98 : decode cX11_goRound 98 = .ok (.goto (-19), 3) := by decide +kernel
theorem dX11_goRound_101 : decode cX11_goRound 101 = .ok (.iload_n 1, 1) := by decide +kernel
theorem dX11_goRound_102 : decode cX11_goRound 102 = .ok (.tableswitch 47 0 2 #[26, 33, 40], 26) := by decide +kernel
theorem dX11_goRound_128 : decode cX11_goRound 128 = .ok (.aload_n 0, 1) := by decide +kernel
theorem dX11_goRound_129 : decode cX11_goRound 129 = .ok (.invokevirtual 240, 3) := by decide +kernel
theorem dX11_goRound_132 : decode cX11_goRound 132 = .ok (.goto 21, 3) := by decide +kernel
theorem dX11_goRound_135 : decode cX11_goRound 135 = .ok (.aload_n 0, 1) := by decide +kernel
theorem dX11_goRound_136 : decode cX11_goRound 136 = .ok (.invokevirtual 243, 3) := by decide +kernel
theorem dX11_goRound_139 : decode cX11_goRound 139 = .ok (.goto 14, 3) := by decide +kernel
theorem dX11_goRound_142 : decode cX11_goRound 142 = .ok (.aload_n 0, 1) := by decide +kernel
theorem dX11_goRound_143 : decode cX11_goRound 143 = .ok (.invokevirtual 246, 3) := by decide +kernel
theorem dX11_goRound_146 : decode cX11_goRound 146 = .ok (.goto 7, 3) := by decide +kernel
theorem dX11_goRound_149 : decode cX11_goRound 149 = .ok (.aload_n 0, 1) := by decide +kernel
theorem dX11_goRound_150 : decode cX11_goRound 150 = .ok (.invokevirtual 249, 3) := by decide +kernel
theorem dX11_goRound_153 : decode cX11_goRound 153 = .ok (.return_, 1) := by decide +kernel
theorem dX11_isRound_0 : decode cX11_isRound 0 = .ok (.iload_n 0, 1) := by decide +kernel
theorem dX11_isRound_1 : decode cX11_isRound 1 = .ok (.i2l, 1) := by decide +kernel
theorem dX11_isRound_2 : decode cX11_isRound 2 = .ok (.lconst 0, 1) := by decide +kernel
theorem dX11_isRound_3 : decode cX11_isRound 3 = .ok (.ldc2_w 100, 3) := by decide +kernel
theorem dX11_isRound_6 : decode cX11_isRound 6 = .ok (.invokestatic 79, 3) := by decide +kernel
theorem dX11_isRound_9 : decode cX11_isRound 9 = .ok (.ifCond .eq 19, 3) := by decide +kernel
theorem dX11_isRound_12 : decode cX11_isRound 12 = .ok (.iload_n 1, 1) := by decide +kernel
theorem dX11_isRound_13 : decode cX11_isRound 13 = .ok (.i2l, 1) := by decide +kernel
theorem dX11_isRound_14 : decode cX11_isRound 14 = .ok (.lconst 0, 1) := by decide +kernel
theorem dX11_isRound_15 : decode cX11_isRound 15 = .ok (.ldc2_w 252, 3) := by decide +kernel
theorem dX11_isRound_18 : decode cX11_isRound 18 = .ok (.invokestatic 79, 3) := by decide +kernel
theorem dX11_isRound_21 : decode cX11_isRound 21 = .ok (.ifCond .eq 7, 3) := by decide +kernel
theorem dX11_isRound_24 : decode cX11_isRound 24 = .ok (.iconst 1, 1) := by decide +kernel
theorem dX11_isRound_25 : decode cX11_isRound 25 = .ok (.goto 4, 3) := by decide +kernel
theorem dX11_isRound_28 : decode cX11_isRound 28 = .ok (.iconst 0, 1) := by decide +kernel
theorem dX11_isRound_29 : decode cX11_isRound 29 = .ok (.ireturn, 1) := by decide +kernel
theorem dX11_round_0 : decode cX11_round 0 = .ok (.iload_n 1, 1) := by decide +kernel
theorem dX11_round_1 : decode cX11_round 1 = .ok (.iload_n 2, 1) := by decide +kernel
theorem dX11_round_2 : decode cX11_round 2 = .ok (.invokestatic 254, 3) := by decide +kernel
theorem dX11_round_5 : decode cX11_round 5 = .ok (.ifCond .eq 15, 3) := by decide +kernel
theorem dX11_round_8 : decode cX11_round 8 = .ok (.iload_n 3, 1) := by decide +kernel
theorem dX11_round_9 : decode cX11_round 9 = .ok (.i2l, 1) := by decide +kernel
theorem dX11_round_10 : decode cX11_round 10 = .ok (.lconst 0, 1) := by decide +kernel
theorem dX11_round_11 : decode cX11_round 11 = .ok (.ldc2_w 100, 3) := by decide +kernel
theorem dX11_round_14 : decode cX11_round 14 = .ok (.invokestatic 79, 3) := by decide +kernel
theorem dX11_round_17 : decode cX11_round 17 = .ok (.ifCond .ne 7, 3) := by decide +kernel
theorem dX11_round_20 : decode cX11_round 20 = .ok (.sipush (-10000), 3) := by decide +kernel
theorem dX11_round_23 : decode cX11_round 23 = .ok (.ireturn, 1) := by decide +kernel
theorem dX11_round_24 : decode cX11_round 24 = .ok (.aload_n 0, 1) := by decide +kernel
theorem dX11_round_25 : decode cX11_round 25 = .ok (.iload_n 1, 1) := by decide +kernel
theorem dX11_round_26 : decode cX11_round 26 = .ok (.iload_n 2, 1) := by decide +kernel
theorem dX11_round_27 : decode cX11_round 27 = .ok (.iconst 1, 1) := by decide +kernel
theorem dX11_round_28 : decode cX11_round 28 = .ok (.invokevirtual 257, 3) := by decide +kernel
theorem dX11_round_31 : decode cX11_round 31 = .ok (.iload_n 3, 1) := by decide +kernel
theorem dX11_round_32 : decode cX11_round 32 = .ok (.ifCond .ne 10, 3) := by decide +kernel
theorem dX11_round_35 : decode cX11_round 35 = .ok (.aload_n 0, 1) := by decide +kernel
theorem dX11_round_36 : decode cX11_round 36 = .ok (.getfield 209, 3) := by decide +kernel
theorem dX11_round_39 : decode cX11_round 39 = .ok (.goto 36, 3) := by decide +kernel
theorem dX11_round_42 : decode cX11_round 42 = .ok (.iload_n 3, 1) := by decide +kernel
theorem dX11_round_43 : decode cX11_round 43 = .ok (.iconst 1, 1) := by decide +kernel
theorem dX11_round_44 : decode cX11_round 44 = .ok (.if_icmp .ne 10, 3) := by decide +kernel
theorem dX11_round_47 : decode cX11_round 47 = .ok (.aload_n 0, 1) := by decide +kernel
theorem dX11_round_48 : decode cX11_round 48 = .ok (.getfield 206, 3) := by decide +kernel
theorem dX11_round_51 : decode cX11_round 51 = .ok (.goto 24, 3) := by decide +kernel
theorem dX11_round_54 : decode cX11_round 54 = .ok (.iload_n 3, 1) := by decide +kernel
theorem dX11_round_55 : decode cX11_round 55 = .ok (.iconst 2, 1) := by decide +kernel
theorem dX11_round_56 : decode cX11_round 56 = .ok (.if_icmp .ne 10, 3) := by decide +kernel
theorem dX11_round_59 : decode cX11_round 59 = .ok (.aload_n 0, 1) := by decide +kernel
theorem dX11_round_60 : decode cX11_round 60 = .ok (.getfield 218, 3) := by decide +kernel
theorem dX11_round_63 : decode cX11_round 63 = .ok (.goto 12, 3) := by decide +kernel
theorem dX11_round_66 : decode cX11_round 66 = .ok (.aload_n 0, 1) := by decide +kernel
theorem dX11_round_67 : decode cX11_round 67 = .ok (.getfield 215, 3) := by decide +kernel
theorem dX11_round_70 : decode cX11_round 70 = .ok (.aload_n 0, 1) := by decide +kernel
theorem dX11_round_71 : decode cX11_round 71 = .ok (.getfield 212, 3) := by decide +kernel
theorem dX11_round_74 : decode cX11_round 74 = .ok (.isub, 1) := by decide +kernel
theorem dX11_round_75 : decode cX11_round 75 = .ok (.ireturn, 1) := by decide +kernel
theorem dX11_of_0 : decode cX11_of 0 = .ok (.iload_n 1, 1) := by decide +kernel
theorem dX11_of_1 : decode cX11_of 1 = .ok (.iload_n 2, 1) := by decide +kernel
theorem dX11_of_2 : decode cX11_of 2 = .ok (.invokestatic 254, 3) := by decide +kernel
theorem dX11_of_5 : decode cX11_of 5 = .ok (.ifCond .eq 11, 3) := by decide +kernel
theorem dX11_of_8 : decode cX11_of 8 = .ok (.aload_n 0, 1) := by decide +kernel
theorem dX11_of_9 : decode cX11_of 9 = .ok (.iload_n 3, 1) := by decide +kernel
theorem dX11_of_10 : decode cX11_of 10 = .ok (.invokevirtual 127, 3) := by decide +kernel
theorem dX11_of_13 : decode cX11_of 13 = .ok (.ifCond .ne 5, 3) := by decide +kernel
theorem dX11_of_16 : decode cX11_of 16 = .ok (.iconst (-1), 1) := by decide +kernel
theorem dX11_of_17 : decode cX11_of 17 = .ok (.ireturn, 1) := by decide +kernel
theorem dX11_of_18 : decode cX11_of 18 = .ok (.aload_n 0, 1) := by decide +kernel
theorem dX11_of_19 : decode cX11_of 19 = .ok (.iload_n 1, 1) := by decide +kernel
theorem dX11_of_20 : decode cX11_of 20 = .ok (.iload_n 2, 1) := by decide +kernel
theorem dX11_of_21 : decode cX11_of 21 = .ok (.iconst 1, 1) := by decide +kernel
theorem dX11_of_22 : decode cX11_of 22 = .ok (.invokevirtual 257, 3) := by decide +kernel
theorem dX11_of_25 : decode cX11_of 25 = .ok (.aload_n 0, 1) := by decide +kernel
theorem dX11_of_26 : decode cX11_of 26 = .ok (.getfield 58, 3) := by decide +kernel
theorem dX11_of_29 : decode cX11_of 29 = .ok (.iload_n 3, 1) := by decide +kernel
theorem dX11_of_30 : decode cX11_of 30 = .ok (.iaload, 1) := by decide +kernel
theorem dX11_of_31 : decode cX11_of 31 = .ok (.ireturn, 1) := by decide +kernel
theorem dX11_layMeans_0 : decode cX11_layMeans 0 = .ok (.iconst 0, 1) := by decide +kernel
theorem dX11_layMeans_1 : decode cX11_layMeans 1 = .ok (.istore_n 3, 1) := by decide +kernel
theorem dX11_layMeans_2 : decode cX11_layMeans 2 = .ok (.iload_n 3, 1) := by decide +kernel
theorem dX11_layMeans_3 : decode cX11_layMeans 3 = .ok (.iconst 3, 1) := by decide +kernel
theorem dX11_layMeans_4 : decode cX11_layMeans 4 = .ok (.if_icmp .ge 20, 3) := by decide +kernel
theorem dX11_layMeans_7 : decode cX11_layMeans 7 = .ok (.aload_n 0, 1) := by decide +kernel
theorem dX11_layMeans_8 : decode cX11_layMeans 8 = .ok (.getfield 64, 3) := by decide +kernel
theorem dX11_layMeans_11 : decode cX11_layMeans 11 = .ok (.iconst 3, 1) := by decide +kernel
theorem dX11_layMeans_12 : decode cX11_layMeans 12 = .ok (.iload_n 1, 1) := by decide +kernel
theorem dX11_layMeans_13 : decode cX11_layMeans 13 = .ok (.imul, 1) := by decide +kernel
theorem dX11_layMeans_14 : decode cX11_layMeans 14 = .ok (.iload_n 3, 1) := by decide +kernel
theorem dX11_layMeans_15 : decode cX11_layMeans 15 = .ok (.iadd, 1) := by decide +kernel
theorem dX11_layMeans_16 : decode cX11_layMeans 16 = .ok (.iconst 0, 1) := by decide +kernel
theorem dX11_layMeans_17 : decode cX11_layMeans 17 = .ok (.iastore, 1) := by decide +kernel
theorem dX11_layMeans_18 : decode cX11_layMeans 18 = .ok (.iinc 3 1, 3) := by decide +kernel
theorem dX11_layMeans_21 : decode cX11_layMeans 21 = .ok (.goto (-19), 3) := by decide +kernel
theorem dX11_layMeans_24 : decode cX11_layMeans 24 = .ok (.iconst 0, 1) := by decide +kernel
theorem dX11_layMeans_25 : decode cX11_layMeans 25 = .ok (.istore_n 3, 1) := by decide +kernel
theorem dX11_layMeans_26 : decode cX11_layMeans 26 = .ok (.iload_n 3, 1) := by decide +kernel
theorem dX11_layMeans_27 : decode cX11_layMeans 27 = .ok (.bipush 10, 2) := by decide +kernel
theorem dX11_layMeans_29 : decode cX11_layMeans 29 = .ok (.if_icmp .ge 76, 3) := by decide +kernel
theorem dX11_layMeans_32 : decode cX11_layMeans 32 = .ok (.aload_n 0, 1) := by decide +kernel
theorem dX11_layMeans_33 : decode cX11_layMeans 33 = .ok (.iload_n 1, 1) := by decide +kernel
theorem dX11_layMeans_34 : decode cX11_layMeans 34 = .ok (.iload_n 2, 1) := by decide +kernel
theorem dX11_layMeans_35 : decode cX11_layMeans 35 = .ok (.iload_n 3, 1) := by decide +kernel
theorem dX11_layMeans_36 : decode cX11_layMeans 36 = .ok (.iadd, 1) := by decide +kernel
theorem dX11_layMeans_37 : decode cX11_layMeans 37 = .ok (.sipush 10000, 3) := by decide +kernel
theorem dX11_layMeans_40 : decode cX11_layMeans 40 = .ok (.irem, 1) := by decide +kernel
theorem dX11_layMeans_41 : decode cX11_layMeans 41 = .ok (.iconst 0, 1) := by decide +kernel
theorem dX11_layMeans_42 : decode cX11_layMeans 42 = .ok (.invokevirtual 257, 3) := by decide +kernel
theorem dX11_layMeans_45 : decode cX11_layMeans 45 = .ok (.aload_n 0, 1) := by decide +kernel
theorem dX11_layMeans_46 : decode cX11_layMeans 46 = .ok (.getfield 64, 3) := by decide +kernel
theorem dX11_layMeans_49 : decode cX11_layMeans 49 = .ok (.iconst 3, 1) := by decide +kernel
theorem dX11_layMeans_50 : decode cX11_layMeans 50 = .ok (.iload_n 1, 1) := by decide +kernel
theorem dX11_layMeans_51 : decode cX11_layMeans 51 = .ok (.imul, 1) := by decide +kernel
theorem dX11_layMeans_52 : decode cX11_layMeans 52 = .ok (.dup2, 1) := by decide +kernel
theorem dX11_layMeans_53 : decode cX11_layMeans 53 = .ok (.iaload, 1) := by decide +kernel
theorem dX11_layMeans_54 : decode cX11_layMeans 54 = .ok (.aload_n 0, 1) := by decide +kernel
theorem dX11_layMeans_55 : decode cX11_layMeans 55 = .ok (.getfield 206, 3) := by decide +kernel
theorem dX11_layMeans_58 : decode cX11_layMeans 58 = .ok (.iadd, 1) := by decide +kernel
theorem dX11_layMeans_59 : decode cX11_layMeans 59 = .ok (.iastore, 1) := by decide +kernel
theorem dX11_layMeans_60 : decode cX11_layMeans 60 = .ok (.aload_n 0, 1) := by decide +kernel
theorem dX11_layMeans_61 : decode cX11_layMeans 61 = .ok (.getfield 64, 3) := by decide +kernel
theorem dX11_layMeans_64 : decode cX11_layMeans 64 = .ok (.iconst 3, 1) := by decide +kernel
theorem dX11_layMeans_65 : decode cX11_layMeans 65 = .ok (.iload_n 1, 1) := by decide +kernel
theorem dX11_layMeans_66 : decode cX11_layMeans 66 = .ok (.imul, 1) := by decide +kernel
theorem dX11_layMeans_67 : decode cX11_layMeans 67 = .ok (.iconst 1, 1) := by decide +kernel
theorem dX11_layMeans_68 : decode cX11_layMeans 68 = .ok (.iadd, 1) := by decide +kernel
theorem dX11_layMeans_69 : decode cX11_layMeans 69 = .ok (.dup2, 1) := by decide +kernel
theorem dX11_layMeans_70 : decode cX11_layMeans 70 = .ok (.iaload, 1) := by decide +kernel
theorem dX11_layMeans_71 : decode cX11_layMeans 71 = .ok (.aload_n 0, 1) := by decide +kernel
theorem dX11_layMeans_72 : decode cX11_layMeans 72 = .ok (.getfield 218, 3) := by decide +kernel
theorem dX11_layMeans_75 : decode cX11_layMeans 75 = .ok (.iadd, 1) := by decide +kernel
theorem dX11_layMeans_76 : decode cX11_layMeans 76 = .ok (.iastore, 1) := by decide +kernel
theorem dX11_layMeans_77 : decode cX11_layMeans 77 = .ok (.aload_n 0, 1) := by decide +kernel
theorem dX11_layMeans_78 : decode cX11_layMeans 78 = .ok (.getfield 64, 3) := by decide +kernel
theorem dX11_layMeans_81 : decode cX11_layMeans 81 = .ok (.iconst 3, 1) := by decide +kernel
theorem dX11_layMeans_82 : decode cX11_layMeans 82 = .ok (.iload_n 1, 1) := by decide +kernel
theorem dX11_layMeans_83 : decode cX11_layMeans 83 = .ok (.imul, 1) := by decide +kernel
theorem dX11_layMeans_84 : decode cX11_layMeans 84 = .ok (.iconst 2, 1) := by decide +kernel
theorem dX11_layMeans_85 : decode cX11_layMeans 85 = .ok (.iadd, 1) := by decide +kernel
theorem dX11_layMeans_86 : decode cX11_layMeans 86 = .ok (.dup2, 1) := by decide +kernel
theorem dX11_layMeans_87 : decode cX11_layMeans 87 = .ok (.iaload, 1) := by decide +kernel
theorem dX11_layMeans_88 : decode cX11_layMeans 88 = .ok (.aload_n 0, 1) := by decide +kernel
theorem dX11_layMeans_89 : decode cX11_layMeans 89 = .ok (.getfield 215, 3) := by decide +kernel
theorem dX11_layMeans_92 : decode cX11_layMeans 92 = .ok (.aload_n 0, 1) := by decide +kernel
theorem dX11_layMeans_93 : decode cX11_layMeans 93 = .ok (.getfield 212, 3) := by decide +kernel
theorem dX11_layMeans_96 : decode cX11_layMeans 96 = .ok (.isub, 1) := by decide +kernel
theorem dX11_layMeans_97 : decode cX11_layMeans 97 = .ok (.iadd, 1) := by decide +kernel
theorem dX11_layMeans_98 : decode cX11_layMeans 98 = .ok (.iastore, 1) := by decide +kernel
theorem dX11_layMeans_99 : decode cX11_layMeans 99 = .ok (.iinc 3 1, 3) := by decide +kernel
theorem dX11_layMeans_102 : decode cX11_layMeans 102 = .ok (.goto (-76), 3) := by decide +kernel
theorem dX11_layMeans_105 : decode cX11_layMeans 105 = .ok (.return_, 1) := by decide +kernel
theorem dX11_means_0 : decode cX11_means 0 = .ok (.iload_n 1, 1) := by decide +kernel
theorem dX11_means_1 : decode cX11_means 1 = .ok (.iload_n 2, 1) := by decide +kernel
theorem dX11_means_2 : decode cX11_means 2 = .ok (.invokestatic 254, 3) := by decide +kernel
theorem dX11_means_5 : decode cX11_means 5 = .ok (.ifCond .eq 15, 3) := by decide +kernel
theorem dX11_means_8 : decode cX11_means 8 = .ok (.iload_n 3, 1) := by decide +kernel
theorem dX11_means_9 : decode cX11_means 9 = .ok (.i2l, 1) := by decide +kernel
theorem dX11_means_10 : decode cX11_means 10 = .ok (.lconst 0, 1) := by decide +kernel
theorem dX11_means_11 : decode cX11_means 11 = .ok (.ldc2_w 130, 3) := by decide +kernel
theorem dX11_means_14 : decode cX11_means 14 = .ok (.invokestatic 79, 3) := by decide +kernel
theorem dX11_means_17 : decode cX11_means 17 = .ok (.ifCond .ne 7, 3) := by decide +kernel
theorem dX11_means_20 : decode cX11_means 20 = .ok (.sipush (-10000), 3) := by decide +kernel
theorem dX11_means_23 : decode cX11_means 23 = .ok (.ireturn, 1) := by decide +kernel
theorem dX11_means_24 : decode cX11_means 24 = .ok (.aload_n 0, 1) := by decide +kernel
theorem dX11_means_25 : decode cX11_means 25 = .ok (.iload_n 1, 1) := by decide +kernel
theorem dX11_means_26 : decode cX11_means 26 = .ok (.iload_n 2, 1) := by decide +kernel
theorem dX11_means_27 : decode cX11_means 27 = .ok (.invokevirtual 261, 3) := by decide +kernel
theorem dX11_means_30 : decode cX11_means 30 = .ok (.aload_n 0, 1) := by decide +kernel
theorem dX11_means_31 : decode cX11_means 31 = .ok (.getfield 64, 3) := by decide +kernel
theorem dX11_means_34 : decode cX11_means 34 = .ok (.iconst 3, 1) := by decide +kernel
theorem dX11_means_35 : decode cX11_means 35 = .ok (.iload_n 1, 1) := by decide +kernel
theorem dX11_means_36 : decode cX11_means 36 = .ok (.imul, 1) := by decide +kernel
theorem dX11_means_37 : decode cX11_means 37 = .ok (.iload_n 3, 1) := by decide +kernel
theorem dX11_means_38 : decode cX11_means 38 = .ok (.iadd, 1) := by decide +kernel
theorem dX11_means_39 : decode cX11_means 39 = .ok (.iaload, 1) := by decide +kernel
theorem dX11_means_40 : decode cX11_means 40 = .ok (.ireturn, 1) := by decide +kernel
theorem dX11_bestBy_0 : decode cX11_bestBy 0 = .ok (.iconst 0, 1) := by decide +kernel
theorem dX11_bestBy_1 : decode cX11_bestBy 1 = .ok (.istore_n 2, 1) := by decide +kernel
theorem dX11_bestBy_2 : decode cX11_bestBy 2 = .ok (.iconst 1, 1) := by decide +kernel
theorem dX11_bestBy_3 : decode cX11_bestBy 3 = .ok (.istore_n 3, 1) := by decide +kernel
theorem dX11_bestBy_4 : decode cX11_bestBy 4 = .ok (.iload_n 3, 1) := by decide +kernel
theorem dX11_bestBy_5 : decode cX11_bestBy 5 = .ok (.iconst 4, 1) := by decide +kernel
theorem dX11_bestBy_6 : decode cX11_bestBy 6 = .ok (.if_icmp .ge 56, 3) := by decide +kernel
theorem dX11_bestBy_9 : decode cX11_bestBy 9 = .ok (.aload_n 0, 1) := by decide +kernel
theorem dX11_bestBy_10 : decode cX11_bestBy 10 = .ok (.getfield 64, 3) := by decide +kernel
theorem dX11_bestBy_13 : decode cX11_bestBy 13 = .ok (.iconst 3, 1) := by decide +kernel
theorem dX11_bestBy_14 : decode cX11_bestBy 14 = .ok (.iload_n 3, 1) := by decide +kernel
theorem dX11_bestBy_15 : decode cX11_bestBy 15 = .ok (.imul, 1) := by decide +kernel
theorem dX11_bestBy_16 : decode cX11_bestBy 16 = .ok (.iload_n 1, 1) := by decide +kernel
theorem dX11_bestBy_17 : decode cX11_bestBy 17 = .ok (.iadd, 1) := by decide +kernel
theorem dX11_bestBy_18 : decode cX11_bestBy 18 = .ok (.iaload, 1) := by decide +kernel
theorem dX11_bestBy_19 : decode cX11_bestBy 19 = .ok (.aload_n 0, 1) := by decide +kernel
theorem dX11_bestBy_20 : decode cX11_bestBy 20 = .ok (.getfield 64, 3) := by decide +kernel
theorem dX11_bestBy_23 : decode cX11_bestBy 23 = .ok (.iconst 3, 1) := by decide +kernel
theorem dX11_bestBy_24 : decode cX11_bestBy 24 = .ok (.iload_n 2, 1) := by decide +kernel
theorem dX11_bestBy_25 : decode cX11_bestBy 25 = .ok (.imul, 1) := by decide +kernel
theorem dX11_bestBy_26 : decode cX11_bestBy 26 = .ok (.iload_n 1, 1) := by decide +kernel
theorem dX11_bestBy_27 : decode cX11_bestBy 27 = .ok (.iadd, 1) := by decide +kernel
theorem dX11_bestBy_28 : decode cX11_bestBy 28 = .ok (.iaload, 1) := by decide +kernel
theorem dX11_bestBy_29 : decode cX11_bestBy 29 = .ok (.isub, 1) := by decide +kernel
theorem dX11_bestBy_30 : decode cX11_bestBy 30 = .ok (.istore 4, 2) := by decide +kernel
theorem dX11_bestBy_32 : decode cX11_bestBy 32 = .ok (.iload_n 1, 1) := by decide +kernel
theorem dX11_bestBy_33 : decode cX11_bestBy 33 = .ok (.ifCond .ne 8, 3) := by decide +kernel
theorem dX11_bestBy_36 : decode cX11_bestBy 36 = .ok (.iload 4, 2) := by decide +kernel
theorem dX11_bestBy_38 : decode cX11_bestBy 38 = .ok (.ifCond .gt 12, 3) := by decide +kernel
theorem dX11_bestBy_41 : decode cX11_bestBy 41 = .ok (.iload_n 1, 1) := by decide +kernel
theorem dX11_bestBy_42 : decode cX11_bestBy 42 = .ok (.ifCond .le 12, 3) := by decide +kernel
theorem dX11_bestBy_45 : decode cX11_bestBy 45 = .ok (.iload 4, 2) := by decide +kernel
theorem dX11_bestBy_47 : decode cX11_bestBy 47 = .ok (.ifCond .ge 7, 3) := by decide +kernel
theorem dX11_bestBy_50 : decode cX11_bestBy 50 = .ok (.iload_n 3, 1) := by decide +kernel
theorem dX11_bestBy_51 : decode cX11_bestBy 51 = .ok (.goto 4, 3) := by decide +kernel
theorem dX11_bestBy_54 : decode cX11_bestBy 54 = .ok (.iload_n 2, 1) := by decide +kernel
theorem dX11_bestBy_55 : decode cX11_bestBy 55 = .ok (.istore_n 2, 1) := by decide +kernel
theorem dX11_bestBy_56 : decode cX11_bestBy 56 = .ok (.iinc 3 1, 3) := by decide +kernel
theorem dX11_bestBy_59 : decode cX11_bestBy 59 = .ok (.goto (-55), 3) := by decide +kernel
theorem dX11_bestBy_62 : decode cX11_bestBy 62 = .ok (.iload_n 2, 1) := by decide +kernel
theorem dX11_bestBy_63 : decode cX11_bestBy 63 = .ok (.ireturn, 1) := by decide +kernel
theorem dX11_rules_0 : decode cX11_rules 0 = .ok (.iload_n 1, 1) := by decide +kernel
theorem dX11_rules_1 : decode cX11_rules 1 = .ok (.i2l, 1) := by decide +kernel
theorem dX11_rules_2 : decode cX11_rules 2 = .ok (.lconst 0, 1) := by decide +kernel
theorem dX11_rules_3 : decode cX11_rules 3 = .ok (.ldc2_w 252, 3) := by decide +kernel
theorem dX11_rules_6 : decode cX11_rules 6 = .ok (.invokestatic 79, 3) := by decide +kernel
theorem dX11_rules_9 : decode cX11_rules 9 = .ok (.ifCond .eq 15, 3) := by decide +kernel
theorem dX11_rules_12 : decode cX11_rules 12 = .ok (.iload_n 2, 1) := by decide +kernel
theorem dX11_rules_13 : decode cX11_rules 13 = .ok (.i2l, 1) := by decide +kernel
theorem dX11_rules_14 : decode cX11_rules 14 = .ok (.lconst 0, 1) := by decide +kernel
theorem dX11_rules_15 : decode cX11_rules 15 = .ok (.ldc2_w 100, 3) := by decide +kernel
theorem dX11_rules_18 : decode cX11_rules 18 = .ok (.invokestatic 79, 3) := by decide +kernel
theorem dX11_rules_21 : decode cX11_rules 21 = .ok (.ifCond .ne 5, 3) := by decide +kernel
theorem dX11_rules_24 : decode cX11_rules 24 = .ok (.iconst (-1), 1) := by decide +kernel
theorem dX11_rules_25 : decode cX11_rules 25 = .ok (.ireturn, 1) := by decide +kernel
theorem dX11_rules_26 : decode cX11_rules 26 = .ok (.iconst 0, 1) := by decide +kernel
theorem dX11_rules_27 : decode cX11_rules 27 = .ok (.istore_n 3, 1) := by decide +kernel
theorem dX11_rules_28 : decode cX11_rules 28 = .ok (.iload_n 3, 1) := by decide +kernel
theorem dX11_rules_29 : decode cX11_rules 29 = .ok (.iconst 4, 1) := by decide +kernel
theorem dX11_rules_30 : decode cX11_rules 30 = .ok (.if_icmp .ge 15, 3) := by decide +kernel
theorem dX11_rules_33 : decode cX11_rules 33 = .ok (.aload_n 0, 1) := by decide +kernel
theorem dX11_rules_34 : decode cX11_rules 34 = .ok (.iload_n 3, 1) := by decide +kernel
theorem dX11_rules_35 : decode cX11_rules 35 = .ok (.iload_n 1, 1) := by decide +kernel
theorem dX11_rules_36 : decode cX11_rules 36 = .ok (.invokevirtual 261, 3) := by decide +kernel
theorem dX11_rules_39 : decode cX11_rules 39 = .ok (.iinc 3 1, 3) := by decide +kernel
theorem dX11_rules_42 : decode cX11_rules 42 = .ok (.goto (-14), 3) := by decide +kernel
theorem dX11_rules_45 : decode cX11_rules 45 = .ok (.iload_n 2, 1) := by decide +kernel
theorem dX11_rules_46 : decode cX11_rules 46 = .ok (.iconst 3, 1) := by decide +kernel
theorem dX11_rules_47 : decode cX11_rules 47 = .ok (.if_icmp .ge 9, 3) := by decide +kernel
theorem dX11_rules_50 : decode cX11_rules 50 = .ok (.aload_n 0, 1) := by decide +kernel
theorem dX11_rules_51 : decode cX11_rules 51 = .ok (.iload_n 2, 1) := by decide +kernel
theorem dX11_rules_52 : decode cX11_rules 52 = .ok (.invokevirtual 265, 3) := by decide +kernel
theorem dX11_rules_55 : decode cX11_rules 55 = .ok (.ireturn, 1) := by decide +kernel
theorem dX11_rules_56 : decode cX11_rules 56 = .ok (.aload_n 0, 1) := by decide +kernel
theorem dX11_rules_57 : decode cX11_rules 57 = .ok (.iconst 0, 1) := by decide +kernel
theorem dX11_rules_58 : decode cX11_rules 58 = .ok (.invokevirtual 265, 3) := by decide +kernel
theorem dX11_rules_61 : decode cX11_rules 61 = .ok (.aload_n 0, 1) := by decide +kernel
theorem dX11_rules_62 : decode cX11_rules 62 = .ok (.iconst 1, 1) := by decide +kernel
theorem dX11_rules_63 : decode cX11_rules 63 = .ok (.invokevirtual 265, 3) := by decide +kernel
theorem dX11_rules_66 : decode cX11_rules 66 = .ok (.if_icmp .ne 24, 3) := by decide +kernel
theorem dX11_rules_69 : decode cX11_rules 69 = .ok (.aload_n 0, 1) := by decide +kernel
theorem dX11_rules_70 : decode cX11_rules 70 = .ok (.iconst 1, 1) := by decide +kernel
theorem dX11_rules_71 : decode cX11_rules 71 = .ok (.invokevirtual 265, 3) := by decide +kernel
theorem dX11_rules_74 : decode cX11_rules 74 = .ok (.aload_n 0, 1) := by decide +kernel
theorem dX11_rules_75 : decode cX11_rules 75 = .ok (.iconst 2, 1) := by decide +kernel
theorem dX11_rules_76 : decode cX11_rules 76 = .ok (.invokevirtual 265, 3) := by decide +kernel
theorem dX11_rules_79 : decode cX11_rules 79 = .ok (.if_icmp .ne 11, 3) := by decide +kernel
theorem dX11_rules_82 : decode cX11_rules 82 = .ok (.aload_n 0, 1) := by decide +kernel
theorem dX11_rules_83 : decode cX11_rules 83 = .ok (.iconst 0, 1) := by decide +kernel
theorem dX11_rules_84 : decode cX11_rules 84 = .ok (.invokevirtual 265, 3) := by decide +kernel
theorem dX11_rules_87 : decode cX11_rules 87 = .ok (.goto 5, 3) := by decide +kernel
theorem dX11_rules_90 : decode cX11_rules 90 = .ok (.bipush (-4), 2) := by decide +kernel
theorem dX11_rules_92 : decode cX11_rules 92 = .ok (.ireturn, 1) := by decide +kernel
theorem dX11_shout_0 : decode cX11_shout 0 = .ok (.iload_n 1, 1) := by decide +kernel
theorem dX11_shout_1 : decode cX11_shout 1 = .ok (.i2l, 1) := by decide +kernel
theorem dX11_shout_2 : decode cX11_shout 2 = .ok (.lconst 0, 1) := by decide +kernel
theorem dX11_shout_3 : decode cX11_shout 3 = .ok (.aload_n 0, 1) := by decide +kernel
theorem dX11_shout_4 : decode cX11_shout 4 = .ok (.getfield 28, 3) := by decide +kernel
theorem dX11_shout_7 : decode cX11_shout 7 = .ok (.iconst 0, 1) := by decide +kernel
theorem dX11_shout_8 : decode cX11_shout 8 = .ok (.iaload, 1) := by decide +kernel
theorem dX11_shout_9 : decode cX11_shout 9 = .ok (.iconst 1, 1) := by decide +kernel
theorem dX11_shout_10 : decode cX11_shout 10 = .ok (.isub, 1) := by decide +kernel
theorem dX11_shout_11 : decode cX11_shout 11 = .ok (.i2l, 1) := by decide +kernel
theorem dX11_shout_12 : decode cX11_shout 12 = .ok (.invokestatic 79, 3) := by decide +kernel
theorem dX11_shout_15 : decode cX11_shout 15 = .ok (.ifCond .eq 15, 3) := by decide +kernel
theorem dX11_shout_18 : decode cX11_shout 18 = .ok (.iload_n 2, 1) := by decide +kernel
theorem dX11_shout_19 : decode cX11_shout 19 = .ok (.i2l, 1) := by decide +kernel
theorem dX11_shout_20 : decode cX11_shout 20 = .ok (.lconst 0, 1) := by decide +kernel
theorem dX11_shout_21 : decode cX11_shout 21 = .ok (.ldc2_w 100, 3) := by decide +kernel
theorem dX11_shout_24 : decode cX11_shout 24 = .ok (.invokestatic 79, 3) := by decide +kernel
theorem dX11_shout_27 : decode cX11_shout 27 = .ok (.ifCond .ne 5, 3) := by decide +kernel
theorem dX11_shout_30 : decode cX11_shout 30 = .ok (.iconst (-1), 1) := by decide +kernel
theorem dX11_shout_31 : decode cX11_shout 31 = .ok (.ireturn, 1) := by decide +kernel
theorem dX11_shout_32 : decode cX11_shout 32 = .ok (.iload_n 2, 1) := by decide +kernel
theorem dX11_shout_33 : decode cX11_shout 33 = .ok (.ifCond .ne 12, 3) := by decide +kernel
theorem dX11_shout_36 : decode cX11_shout 36 = .ok (.aload_n 0, 1) := by decide +kernel
theorem dX11_shout_37 : decode cX11_shout 37 = .ok (.getfield 31, 3) := by decide +kernel
theorem dX11_shout_40 : decode cX11_shout 40 = .ok (.iload_n 1, 1) := by decide +kernel
theorem dX11_shout_41 : decode cX11_shout 41 = .ok (.iaload, 1) := by decide +kernel
theorem dX11_shout_42 : decode cX11_shout 42 = .ok (.goto 37, 3) := by decide +kernel
theorem dX11_shout_45 : decode cX11_shout 45 = .ok (.iload_n 2, 1) := by decide +kernel
theorem dX11_shout_46 : decode cX11_shout 46 = .ok (.iconst 1, 1) := by decide +kernel
theorem dX11_shout_47 : decode cX11_shout 47 = .ok (.if_icmp .ne 12, 3) := by decide +kernel
theorem dX11_shout_50 : decode cX11_shout 50 = .ok (.aload_n 0, 1) := by decide +kernel
theorem dX11_shout_51 : decode cX11_shout 51 = .ok (.getfield 34, 3) := by decide +kernel
theorem dX11_shout_54 : decode cX11_shout 54 = .ok (.iload_n 1, 1) := by decide +kernel
theorem dX11_shout_55 : decode cX11_shout 55 = .ok (.iaload, 1) := by decide +kernel
theorem dX11_shout_56 : decode cX11_shout 56 = .ok (.goto 23, 3) := by decide +kernel
theorem dX11_shout_59 : decode cX11_shout 59 = .ok (.iload_n 2, 1) := by decide +kernel
theorem dX11_shout_60 : decode cX11_shout 60 = .ok (.iconst 2, 1) := by decide +kernel
theorem dX11_shout_61 : decode cX11_shout 61 = .ok (.if_icmp .ne 12, 3) := by decide +kernel
theorem dX11_shout_64 : decode cX11_shout 64 = .ok (.aload_n 0, 1) := by decide +kernel
theorem dX11_shout_65 : decode cX11_shout 65 = .ok (.getfield 37, 3) := by decide +kernel
theorem dX11_shout_68 : decode cX11_shout 68 = .ok (.iload_n 1, 1) := by decide +kernel
theorem dX11_shout_69 : decode cX11_shout 69 = .ok (.iaload, 1) := by decide +kernel
theorem dX11_shout_70 : decode cX11_shout 70 = .ok (.goto 9, 3) := by decide +kernel
theorem dX11_shout_73 : decode cX11_shout 73 = .ok (.aload_n 0, 1) := by decide +kernel
theorem dX11_shout_74 : decode cX11_shout 74 = .ok (.getfield 40, 3) := by decide +kernel
theorem dX11_shout_77 : decode cX11_shout 77 = .ok (.iload_n 1, 1) := by decide +kernel
theorem dX11_shout_78 : decode cX11_shout 78 = .ok (.iaload, 1) := by decide +kernel
theorem dX11_shout_79 : decode cX11_shout 79 = .ok (.ireturn, 1) := by decide +kernel
theorem dX11_knownOf_0 : decode cX11_knownOf 0 = .ok (.aload_n 0, 1) := by decide +kernel
theorem dX11_knownOf_1 : decode cX11_knownOf 1 = .ok (.getfield 16, 3) := by decide +kernel
theorem dX11_knownOf_4 : decode cX11_knownOf 4 = .ok (.iload_n 1, 1) := by decide +kernel
theorem dX11_knownOf_5 : decode cX11_knownOf 5 = .ok (.iaload, 1) := by decide +kernel
theorem dX11_knownOf_6 : decode cX11_knownOf 6 = .ok (.ifCond .ne 7, 3) := by decide +kernel
theorem dX11_knownOf_9 : decode cX11_knownOf 9 = .ok (.iconst 0, 1) := by decide +kernel
theorem dX11_knownOf_10 : decode cX11_knownOf 10 = .ok (.goto 5, 3) := by decide +kernel
theorem dX11_knownOf_13 : decode cX11_knownOf 13 = .ok (.bipush 99, 2) := by decide +kernel
theorem dX11_knownOf_15 : decode cX11_knownOf 15 = .ok (.istore_n 2, 1) := by decide +kernel
theorem dX11_knownOf_16 : decode cX11_knownOf 16 = .ok (.iconst 0, 1) := by decide +kernel
theorem dX11_knownOf_17 : decode cX11_knownOf 17 = .ok (.istore_n 3, 1) := by decide +kernel
theorem dX11_knownOf_18 : decode cX11_knownOf 18 = .ok (.iload_n 3, 1) := by decide +kernel
theorem dX11_knownOf_19 : decode cX11_knownOf 19 = .ok (.aload_n 0, 1) := by decide +kernel
theorem dX11_knownOf_20 : decode cX11_knownOf 20 = .ok (.getfield 28, 3) := by decide +kernel
theorem dX11_knownOf_23 : decode cX11_knownOf 23 = .ok (.iconst 0, 1) := by decide +kernel
theorem dX11_knownOf_24 : decode cX11_knownOf 24 = .ok (.iaload, 1) := by decide +kernel
theorem dX11_knownOf_25 : decode cX11_knownOf 25 = .ok (.if_icmp .ge 79, 3) := by decide +kernel
theorem dX11_knownOf_28 : decode cX11_knownOf 28 = .ok (.aload_n 0, 1) := by decide +kernel
theorem dX11_knownOf_29 : decode cX11_knownOf 29 = .ok (.getfield 16, 3) := by decide +kernel
theorem dX11_knownOf_32 : decode cX11_knownOf 32 = .ok (.iload_n 1, 1) := by decide +kernel
theorem dX11_knownOf_33 : decode cX11_knownOf 33 = .ok (.iaload, 1) := by decide +kernel
theorem dX11_knownOf_34 : decode cX11_knownOf 34 = .ok (.ifCond .ne 21, 3) := by decide +kernel
theorem dX11_knownOf_37 : decode cX11_knownOf 37 = .ok (.aload_n 0, 1) := by decide +kernel
theorem dX11_knownOf_38 : decode cX11_knownOf 38 = .ok (.getfield 34, 3) := by decide +kernel
theorem dX11_knownOf_41 : decode cX11_knownOf 41 = .ok (.iload_n 3, 1) := by decide +kernel
theorem dX11_knownOf_42 : decode cX11_knownOf 42 = .ok (.iaload, 1) := by decide +kernel
theorem dX11_knownOf_43 : decode cX11_knownOf 43 = .ok (.iload_n 2, 1) := by decide +kernel
theorem dX11_knownOf_44 : decode cX11_knownOf 44 = .ok (.if_icmp .le 7, 3) := by decide +kernel
theorem dX11_knownOf_47 : decode cX11_knownOf 47 = .ok (.iconst 1, 1) := by decide +kernel
theorem dX11_knownOf_48 : decode cX11_knownOf 48 = .ok (.goto 22, 3) := by decide +kernel
theorem dX11_knownOf_51 : decode cX11_knownOf 51 = .ok (.iconst 0, 1) := by decide +kernel
theorem dX11_knownOf_52 : decode cX11_knownOf 52 = .ok (.goto 18, 3) := by decide +kernel
theorem dX11_knownOf_55 : decode cX11_knownOf 55 = .ok (.aload_n 0, 1) := by decide +kernel
theorem dX11_knownOf_56 : decode cX11_knownOf 56 = .ok (.getfield 34, 3) := by decide +kernel
theorem dX11_knownOf_59 : decode cX11_knownOf 59 = .ok (.iload_n 3, 1) := by decide +kernel
theorem dX11_knownOf_60 : decode cX11_knownOf 60 = .ok (.iaload, 1) := by decide +kernel
theorem dX11_knownOf_61 : decode cX11_knownOf 61 = .ok (.iload_n 2, 1) := by decide +kernel
theorem dX11_knownOf_62 : decode cX11_knownOf 62 = .ok (.if_icmp .ge 7, 3) := by decide +kernel
theorem dX11_knownOf_65 : decode cX11_knownOf 65 = .ok (.iconst 1, 1) := by decide +kernel
theorem dX11_knownOf_66 : decode cX11_knownOf 66 = .ok (.goto 4, 3) := by decide +kernel
theorem dX11_knownOf_69 : decode cX11_knownOf 69 = .ok (.iconst 0, 1) := by decide +kernel
theorem dX11_knownOf_70 : decode cX11_knownOf 70 = .ok (.istore 4, 2) := by decide +kernel
theorem dX11_knownOf_72 : decode cX11_knownOf 72 = .ok (.aload_n 0, 1) := by decide +kernel
theorem dX11_knownOf_73 : decode cX11_knownOf 73 = .ok (.getfield 31, 3) := by decide +kernel
theorem dX11_knownOf_76 : decode cX11_knownOf 76 = .ok (.iload_n 3, 1) := by decide +kernel
theorem dX11_knownOf_77 : decode cX11_knownOf 77 = .ok (.iaload, 1) := by decide +kernel
theorem dX11_knownOf_78 : decode cX11_knownOf 78 = .ok (.iload_n 1, 1) := by decide +kernel
theorem dX11_knownOf_79 : decode cX11_knownOf 79 = .ok (.if_icmp .ne 17, 3) := by decide +kernel
theorem dX11_knownOf_82 : decode cX11_knownOf 82 = .ok (.iload 4, 2) := by decide +kernel
theorem dX11_knownOf_84 : decode cX11_knownOf 84 = .ok (.ifCond .eq 12, 3) := by decide +kernel
theorem dX11_knownOf_87 : decode cX11_knownOf 87 = .ok (.aload_n 0, 1) := by decide +kernel
theorem dX11_knownOf_88 : decode cX11_knownOf 88 = .ok (.getfield 34, 3) := by decide +kernel
theorem dX11_knownOf_91 : decode cX11_knownOf 91 = .ok (.iload_n 3, 1) := by decide +kernel
theorem dX11_knownOf_92 : decode cX11_knownOf 92 = .ok (.iaload, 1) := by decide +kernel
theorem dX11_knownOf_93 : decode cX11_knownOf 93 = .ok (.goto 4, 3) := by decide +kernel
theorem dX11_knownOf_96 : decode cX11_knownOf 96 = .ok (.iload_n 2, 1) := by decide +kernel
theorem dX11_knownOf_97 : decode cX11_knownOf 97 = .ok (.istore_n 2, 1) := by decide +kernel
theorem dX11_knownOf_98 : decode cX11_knownOf 98 = .ok (.iinc 3 1, 3) := by decide +kernel
theorem dX11_knownOf_101 : decode cX11_knownOf 101 = .ok (.goto (-83), 3) := by decide +kernel
theorem dX11_knownOf_104 : decode cX11_knownOf 104 = .ok (.iload_n 2, 1) := by decide +kernel
theorem dX11_knownOf_105 : decode cX11_knownOf 105 = .ok (.ireturn, 1) := by decide +kernel
theorem dX11_known_0 : decode cX11_known 0 = .ok (.aload_n 0, 1) := by decide +kernel
theorem dX11_known_1 : decode cX11_known 1 = .ok (.iload_n 1, 1) := by decide +kernel
theorem dX11_known_2 : decode cX11_known 2 = .ok (.invokevirtual 127, 3) := by decide +kernel
theorem dX11_known_5 : decode cX11_known 5 = .ok (.ifCond .eq 11, 3) := by decide +kernel
theorem dX11_known_8 : decode cX11_known 8 = .ok (.aload_n 0, 1) := by decide +kernel
theorem dX11_known_9 : decode cX11_known 9 = .ok (.iload_n 1, 1) := by decide +kernel
theorem dX11_known_10 : decode cX11_known 10 = .ok (.invokevirtual 268, 3) := by decide +kernel
theorem dX11_known_13 : decode cX11_known 13 = .ok (.goto 4, 3) := by decide +kernel
theorem dX11_known_16 : decode cX11_known 16 = .ok (.iconst (-1), 1) := by decide +kernel
theorem dX11_known_17 : decode cX11_known 17 = .ok (.ireturn, 1) := by decide +kernel
theorem dX11_least_0 : decode cX11_least 0 = .ok (.iload_n 1, 1) := by decide +kernel
theorem dX11_least_1 : decode cX11_least 1 = .ok (.i2l, 1) := by decide +kernel
theorem dX11_least_2 : decode cX11_least 2 = .ok (.lconst 0, 1) := by decide +kernel
theorem dX11_least_3 : decode cX11_least 3 = .ok (.lconst 1, 1) := by decide +kernel
theorem dX11_least_4 : decode cX11_least 4 = .ok (.invokestatic 79, 3) := by decide +kernel
theorem dX11_least_7 : decode cX11_least 7 = .ok (.ifCond .ne 5, 3) := by decide +kernel
theorem dX11_least_10 : decode cX11_least 10 = .ok (.iconst (-1), 1) := by decide +kernel
theorem dX11_least_11 : decode cX11_least 11 = .ok (.ireturn, 1) := by decide +kernel
theorem dX11_least_12 : decode cX11_least 12 = .ok (.iconst 0, 1) := by decide +kernel
theorem dX11_least_13 : decode cX11_least 13 = .ok (.istore_n 2, 1) := by decide +kernel
theorem dX11_least_14 : decode cX11_least 14 = .ok (.iload_n 2, 1) := by decide +kernel
theorem dX11_least_15 : decode cX11_least 15 = .ok (.aload_n 0, 1) := by decide +kernel
theorem dX11_least_16 : decode cX11_least 16 = .ok (.getfield 13, 3) := by decide +kernel
theorem dX11_least_19 : decode cX11_least 19 = .ok (.iconst 0, 1) := by decide +kernel
theorem dX11_least_20 : decode cX11_least 20 = .ok (.iaload, 1) := by decide +kernel
theorem dX11_least_21 : decode cX11_least 21 = .ok (.if_icmp .ge 20, 3) := by decide +kernel
theorem dX11_least_24 : decode cX11_least 24 = .ok (.aload_n 0, 1) := by decide +kernel
theorem dX11_least_25 : decode cX11_least 25 = .ok (.getfield 49, 3) := by decide +kernel
theorem dX11_least_28 : decode cX11_least 28 = .ok (.iload_n 2, 1) := by decide +kernel
theorem dX11_least_29 : decode cX11_least 29 = .ok (.aload_n 0, 1) := by decide +kernel
theorem dX11_least_30 : decode cX11_least 30 = .ok (.iload_n 2, 1) := by decide +kernel
theorem dX11_least_31 : decode cX11_least 31 = .ok (.invokevirtual 268, 3) := by decide +kernel
theorem dX11_least_34 : decode cX11_least 34 = .ok (.iastore, 1) := by decide +kernel
theorem dX11_least_35 : decode cX11_least 35 = .ok (.iinc 2 1, 3) := by decide +kernel
theorem dX11_least_38 : decode cX11_least 38 = .ok (.goto (-24), 3) := by decide +kernel
theorem dX11_least_41 : decode cX11_least 41 = .ok (.aload_n 0, 1) := by decide +kernel
theorem dX11_least_42 : decode cX11_least 42 = .ok (.invokevirtual 151, 3) := by decide +kernel
theorem dX11_least_45 : decode cX11_least 45 = .ok (.aload_n 0, 1) := by decide +kernel
theorem dX11_least_46 : decode cX11_least 46 = .ok (.aload_n 0, 1) := by decide +kernel
theorem dX11_least_47 : decode cX11_least 47 = .ok (.getfield 25, 3) := by decide +kernel
theorem dX11_least_50 : decode cX11_least 50 = .ok (.iconst 1, 1) := by decide +kernel
theorem dX11_least_51 : decode cX11_least 51 = .ok (.iaload, 1) := by decide +kernel
theorem dX11_least_52 : decode cX11_least 52 = .ok (.invokevirtual 154, 3) := by decide +kernel
theorem dX11_least_55 : decode cX11_least 55 = .ok (.istore_n 2, 1) := by decide +kernel
theorem dX11_least_56 : decode cX11_least 56 = .ok (.iload_n 1, 1) := by decide +kernel
theorem dX11_least_57 : decode cX11_least 57 = .ok (.ifCond .ne 7, 3) := by decide +kernel
theorem dX11_least_60 : decode cX11_least 60 = .ok (.iload_n 2, 1) := by decide +kernel
theorem dX11_least_61 : decode cX11_least 61 = .ok (.goto 8, 3) := by decide +kernel
theorem dX11_least_64 : decode cX11_least 64 = .ok (.aload_n 0, 1) := by decide +kernel
theorem dX11_least_65 : decode cX11_least 65 = .ok (.iload_n 2, 1) := by decide +kernel
theorem dX11_least_66 : decode cX11_least 66 = .ok (.invokevirtual 157, 3) := by decide +kernel
theorem dX11_least_69 : decode cX11_least 69 = .ok (.ireturn, 1) := by decide +kernel
theorem dX11_mayBe_0 : decode cX11_mayBe 0 = .ok (.aload_n 0, 1) := by decide +kernel
theorem dX11_mayBe_1 : decode cX11_mayBe 1 = .ok (.getfield 31, 3) := by decide +kernel
theorem dX11_mayBe_4 : decode cX11_mayBe 4 = .ok (.iload_n 2, 1) := by decide +kernel
theorem dX11_mayBe_5 : decode cX11_mayBe 5 = .ok (.iaload, 1) := by decide +kernel
theorem dX11_mayBe_6 : decode cX11_mayBe 6 = .ok (.istore_n 3, 1) := by decide +kernel
theorem dX11_mayBe_7 : decode cX11_mayBe 7 = .ok (.iconst 0, 1) := by decide +kernel
theorem dX11_mayBe_8 : decode cX11_mayBe 8 = .ok (.istore 4, 2) := by decide +kernel
theorem dX11_mayBe_10 : decode cX11_mayBe 10 = .ok (.iload 4, 2) := by decide +kernel
theorem dX11_mayBe_12 : decode cX11_mayBe 12 = .ok (.bipush 101, 2) := by decide +kernel
theorem dX11_mayBe_14 : decode cX11_mayBe 14 = .ok (.if_icmp .ge 51, 3) := by decide +kernel
theorem dX11_mayBe_17 : decode cX11_mayBe 17 = .ok (.aload_n 0, 1) := by decide +kernel
theorem dX11_mayBe_18 : decode cX11_mayBe 18 = .ok (.iload_n 1, 1) := by decide +kernel
theorem dX11_mayBe_19 : decode cX11_mayBe 19 = .ok (.aload_n 0, 1) := by decide +kernel
theorem dX11_mayBe_20 : decode cX11_mayBe 20 = .ok (.getfield 16, 3) := by decide +kernel
theorem dX11_mayBe_23 : decode cX11_mayBe 23 = .ok (.iload_n 3, 1) := by decide +kernel
theorem dX11_mayBe_24 : decode cX11_mayBe 24 = .ok (.iaload, 1) := by decide +kernel
theorem dX11_mayBe_25 : decode cX11_mayBe 25 = .ok (.aload_n 0, 1) := by decide +kernel
theorem dX11_mayBe_26 : decode cX11_mayBe 26 = .ok (.getfield 19, 3) := by decide +kernel
theorem dX11_mayBe_29 : decode cX11_mayBe 29 = .ok (.iload_n 3, 1) := by decide +kernel
theorem dX11_mayBe_30 : decode cX11_mayBe 30 = .ok (.iaload, 1) := by decide +kernel
theorem dX11_mayBe_31 : decode cX11_mayBe 31 = .ok (.aload_n 0, 1) := by decide +kernel
theorem dX11_mayBe_32 : decode cX11_mayBe 32 = .ok (.getfield 37, 3) := by decide +kernel
theorem dX11_mayBe_35 : decode cX11_mayBe 35 = .ok (.iload_n 2, 1) := by decide +kernel
theorem dX11_mayBe_36 : decode cX11_mayBe 36 = .ok (.iaload, 1) := by decide +kernel
theorem dX11_mayBe_37 : decode cX11_mayBe 37 = .ok (.aload_n 0, 1) := by decide +kernel
theorem dX11_mayBe_38 : decode cX11_mayBe 38 = .ok (.getfield 40, 3) := by decide +kernel
theorem dX11_mayBe_41 : decode cX11_mayBe 41 = .ok (.iload_n 2, 1) := by decide +kernel
theorem dX11_mayBe_42 : decode cX11_mayBe 42 = .ok (.iaload, 1) := by decide +kernel
theorem dX11_mayBe_43 : decode cX11_mayBe 43 = .ok (.iload 4, 2) := by decide +kernel
theorem dX11_mayBe_45 : decode cX11_mayBe 45 = .ok (.invokevirtual 202, 3) := by decide +kernel
theorem dX11_mayBe_48 : decode cX11_mayBe 48 = .ok (.aload_n 0, 1) := by decide +kernel
theorem dX11_mayBe_49 : decode cX11_mayBe 49 = .ok (.getfield 34, 3) := by decide +kernel
theorem dX11_mayBe_52 : decode cX11_mayBe 52 = .ok (.iload_n 2, 1) := by decide +kernel
theorem dX11_mayBe_53 : decode cX11_mayBe 53 = .ok (.iaload, 1) := by decide +kernel
theorem dX11_mayBe_54 : decode cX11_mayBe 54 = .ok (.if_icmp .ne 5, 3) := by decide +kernel
theorem dX11_mayBe_57 : decode cX11_mayBe 57 = .ok (.iconst 1, 1) := by decide +kernel
theorem dX11_mayBe_58 : decode cX11_mayBe 58 = .ok (.ireturn, 1) := by decide +kernel
theorem dX11_mayBe_59 : decode cX11_mayBe 59 = .ok (.iinc 4 1, 3) := by decide +kernel
theorem dX11_mayBe_62 : decode cX11_mayBe 62 = .ok (.goto (-52), 3) := by decide +kernel
theorem dX11_mayBe_65 : decode cX11_mayBe 65 = .ok (.iconst 0, 1) := by decide +kernel
theorem dX11_mayBe_66 : decode cX11_mayBe 66 = .ok (.ireturn, 1) := by decide +kernel
theorem dX11_laws_0 : decode cX11_laws 0 = .ok (.aload_n 0, 1) := by decide +kernel
theorem dX11_laws_1 : decode cX11_laws 1 = .ok (.iload_n 1, 1) := by decide +kernel
theorem dX11_laws_2 : decode cX11_laws 2 = .ok (.invokevirtual 127, 3) := by decide +kernel
theorem dX11_laws_5 : decode cX11_laws 5 = .ok (.ifCond .ne 5, 3) := by decide +kernel
theorem dX11_laws_8 : decode cX11_laws 8 = .ok (.iconst (-1), 1) := by decide +kernel
theorem dX11_laws_9 : decode cX11_laws 9 = .ok (.ireturn, 1) := by decide +kernel
theorem dX11_laws_10 : decode cX11_laws 10 = .ok (.iconst 0, 1) := by decide +kernel
theorem dX11_laws_11 : decode cX11_laws 11 = .ok (.istore_n 2, 1) := by decide +kernel
theorem dX11_laws_12 : decode cX11_laws 12 = .ok (.iconst 0, 1) := by decide +kernel
theorem dX11_laws_13 : decode cX11_laws 13 = .ok (.istore_n 3, 1) := by decide +kernel
theorem dX11_laws_14 : decode cX11_laws 14 = .ok (.iload_n 3, 1) := by decide +kernel
theorem dX11_laws_15 : decode cX11_laws 15 = .ok (.bipush 6, 2) := by decide +kernel
theorem dX11_laws_17 : decode cX11_laws 17 = .ok (.if_icmp .ge 80, 3) := by decide +kernel
theorem dX11_laws_20 : decode cX11_laws 20 = .ok (.iconst 1, 1) := by decide +kernel
theorem dX11_laws_21 : decode cX11_laws 21 = .ok (.istore 4, 2) := by decide +kernel
theorem dX11_laws_23 : decode cX11_laws 23 = .ok (.iconst 0, 1) := by decide +kernel
theorem dX11_laws_24 : decode cX11_laws 24 = .ok (.istore 5, 2) := by decide +kernel
theorem dX11_laws_26 : decode cX11_laws 26 = .ok (.iload 5, 2) := by decide +kernel
theorem dX11_laws_28 : decode cX11_laws 28 = .ok (.aload_n 0, 1) := by decide +kernel
theorem dX11_laws_29 : decode cX11_laws 29 = .ok (.getfield 28, 3) := by decide +kernel
theorem dX11_laws_32 : decode cX11_laws 32 = .ok (.iconst 0, 1) := by decide +kernel
theorem dX11_laws_33 : decode cX11_laws 33 = .ok (.iaload, 1) := by decide +kernel
theorem dX11_laws_34 : decode cX11_laws 34 = .ok (.if_icmp .ge 42, 3) := by decide +kernel
theorem dX11_laws_37 : decode cX11_laws 37 = .ok (.iload 4, 2) := by decide +kernel
theorem dX11_laws_39 : decode cX11_laws 39 = .ok (.ifCond .eq 37, 3) := by decide +kernel
theorem dX11_laws_42 : decode cX11_laws 42 = .ok (.aload_n 0, 1) := by decide +kernel
theorem dX11_laws_43 : decode cX11_laws 43 = .ok (.getfield 31, 3) := by decide +kernel
theorem dX11_laws_46 : decode cX11_laws 46 = .ok (.iload 5, 2) := by decide +kernel
theorem dX11_laws_48 : decode cX11_laws 48 = .ok (.iaload, 1) := by decide +kernel
theorem dX11_laws_49 : decode cX11_laws 49 = .ok (.iload_n 1, 1) := by decide +kernel
theorem dX11_laws_50 : decode cX11_laws 50 = .ok (.if_icmp .ne 13, 3) := by decide +kernel
theorem dX11_laws_53 : decode cX11_laws 53 = .ok (.aload_n 0, 1) := by decide +kernel
theorem dX11_laws_54 : decode cX11_laws 54 = .ok (.iload_n 3, 1) := by decide +kernel
theorem dX11_laws_55 : decode cX11_laws 55 = .ok (.iload 5, 2) := by decide +kernel
theorem dX11_laws_57 : decode cX11_laws 57 = .ok (.invokevirtual 271, 3) := by decide +kernel
theorem dX11_laws_60 : decode cX11_laws 60 = .ok (.ifCond .eq 7, 3) := by decide +kernel
theorem dX11_laws_63 : decode cX11_laws 63 = .ok (.iconst 1, 1) := by decide +kernel
theorem dX11_laws_64 : decode cX11_laws 64 = .ok (.goto 4, 3) := by decide +kernel
theorem dX11_laws_67 : decode cX11_laws 67 = .ok (.iconst 0, 1) := by decide +kernel
theorem dX11_laws_68 : decode cX11_laws 68 = .ok (.istore 4, 2) := by decide +kernel
theorem dX11_laws_70 : decode cX11_laws 70 = .ok (.iinc 5 1, 3) := by decide +kernel
theorem dX11_laws_73 : decode cX11_laws 73 = .ok (.goto (-47), 3) := by decide +kernel
theorem dX11_laws_76 : decode cX11_laws 76 = .ok (.iload_n 2, 1) := by decide +kernel
theorem dX11_laws_77 : decode cX11_laws 77 = .ok (.iload 4, 2) := by decide +kernel
theorem dX11_laws_79 : decode cX11_laws 79 = .ok (.ifCond .eq 9, 3) := by decide +kernel
theorem dX11_laws_82 : decode cX11_laws 82 = .ok (.iconst 1, 1) := by decide +kernel
theorem dX11_laws_83 : decode cX11_laws 83 = .ok (.iload_n 3, 1) := by decide +kernel
theorem dX11_laws_84 : decode cX11_laws 84 = .ok (.ishl, 1) := by decide +kernel
theorem dX11_laws_85 : decode cX11_laws 85 = .ok (.goto 4, 3) := by decide +kernel
theorem dX11_laws_88 : decode cX11_laws 88 = .ok (.iconst 0, 1) := by decide +kernel
theorem dX11_laws_89 : decode cX11_laws 89 = .ok (.ior, 1) := by decide +kernel
theorem dX11_laws_90 : decode cX11_laws 90 = .ok (.istore_n 2, 1) := by decide +kernel
theorem dX11_laws_91 : decode cX11_laws 91 = .ok (.iinc 3 1, 3) := by decide +kernel
theorem dX11_laws_94 : decode cX11_laws 94 = .ok (.goto (-80), 3) := by decide +kernel
theorem dX11_laws_97 : decode cX11_laws 97 = .ok (.iload_n 2, 1) := by decide +kernel
theorem dX11_laws_98 : decode cX11_laws 98 = .ok (.ireturn, 1) := by decide +kernel
theorem dX11_layRooms_0 : decode cX11_layRooms 0 = .ok (.aload_n 0, 1) := by decide +kernel
theorem dX11_layRooms_1 : decode cX11_layRooms 1 = .ok (.invokevirtual 148, 3) := by decide +kernel
theorem dX11_layRooms_4 : decode cX11_layRooms 4 = .ok (.aload_n 0, 1) := by decide +kernel
theorem dX11_layRooms_5 : decode cX11_layRooms 5 = .ok (.invokevirtual 151, 3) := by decide +kernel
theorem dX11_layRooms_8 : decode cX11_layRooms 8 = .ok (.iconst 0, 1) := by decide +kernel
theorem dX11_layRooms_9 : decode cX11_layRooms 9 = .ok (.istore_n 2, 1) := by decide +kernel
theorem dX11_layRooms_10 : decode cX11_layRooms 10 = .ok (.iload_n 2, 1) := by decide +kernel
theorem dX11_layRooms_11 : decode cX11_layRooms 11 = .ok (.iconst 2, 1) := by decide +kernel
theorem dX11_layRooms_12 : decode cX11_layRooms 12 = .ok (.if_icmp .ge 234, 3) := by decide +kernel
theorem dX11_layRooms_15 : decode cX11_layRooms 15 = .ok (.aload_n 0, 1) := by decide +kernel
theorem dX11_layRooms_16 : decode cX11_layRooms 16 = .ok (.getfield 70, 3) := by decide +kernel
theorem dX11_layRooms_19 : decode cX11_layRooms 19 = .ok (.iconst 2, 1) := by decide +kernel
theorem dX11_layRooms_20 : decode cX11_layRooms 20 = .ok (.iload_n 2, 1) := by decide +kernel
theorem dX11_layRooms_21 : decode cX11_layRooms 21 = .ok (.imul, 1) := by decide +kernel
theorem dX11_layRooms_22 : decode cX11_layRooms 22 = .ok (.iconst 0, 1) := by decide +kernel
theorem dX11_layRooms_23 : decode cX11_layRooms 23 = .ok (.iastore, 1) := by decide +kernel
theorem dX11_layRooms_24 : decode cX11_layRooms 24 = .ok (.aload_n 0, 1) := by decide +kernel
theorem dX11_layRooms_25 : decode cX11_layRooms 25 = .ok (.getfield 70, 3) := by decide +kernel
theorem dX11_layRooms_28 : decode cX11_layRooms 28 = .ok (.iconst 2, 1) := by decide +kernel
theorem dX11_layRooms_29 : decode cX11_layRooms 29 = .ok (.iload_n 2, 1) := by decide +kernel
theorem dX11_layRooms_30 : decode cX11_layRooms 30 = .ok (.imul, 1) := by decide +kernel
theorem dX11_layRooms_31 : decode cX11_layRooms 31 = .ok (.iconst 1, 1) := by decide +kernel
theorem dX11_layRooms_32 : decode cX11_layRooms 32 = .ok (.iadd, 1) := by decide +kernel
theorem dX11_layRooms_33 : decode cX11_layRooms 33 = .ok (.iconst 0, 1) := by decide +kernel
theorem dX11_layRooms_34 : decode cX11_layRooms 34 = .ok (.iastore, 1) := by decide +kernel
theorem dX11_layRooms_35 : decode cX11_layRooms 35 = .ok (.aload_n 0, 1) := by decide +kernel
theorem dX11_layRooms_36 : decode cX11_layRooms 36 = .ok (.getfield 67, 3) := by decide +kernel
theorem dX11_layRooms_39 : decode cX11_layRooms 39 = .ok (.bipush 22, 2) := by decide +kernel
theorem dX11_layRooms_41 : decode cX11_layRooms 41 = .ok (.iload_n 2, 1) := by decide +kernel
theorem dX11_layRooms_42 : decode cX11_layRooms 42 = .ok (.imul, 1) := by decide +kernel
theorem dX11_layRooms_43 : decode cX11_layRooms 43 = .ok (.iconst 0, 1) := by decide +kernel
theorem dX11_layRooms_44 : decode cX11_layRooms 44 = .ok (.iastore, 1) := by decide +kernel
theorem dX11_layRooms_45 : decode cX11_layRooms 45 = .ok (.aload_n 0, 1) := by decide +kernel
theorem dX11_layRooms_46 : decode cX11_layRooms 46 = .ok (.getfield 67, 3) := by decide +kernel
theorem dX11_layRooms_49 : decode cX11_layRooms 49 = .ok (.bipush 22, 2) := by decide +kernel
theorem dX11_layRooms_51 : decode cX11_layRooms 51 = .ok (.iload_n 2, 1) := by decide +kernel
theorem dX11_layRooms_52 : decode cX11_layRooms 52 = .ok (.imul, 1) := by decide +kernel
theorem dX11_layRooms_53 : decode cX11_layRooms 53 = .ok (.bipush 11, 2) := by decide +kernel
theorem dX11_layRooms_55 : decode cX11_layRooms 55 = .ok (.iadd, 1) := by decide +kernel
theorem dX11_layRooms_56 : decode cX11_layRooms 56 = .ok (.iconst 0, 1) := by decide +kernel
theorem dX11_layRooms_57 : decode cX11_layRooms 57 = .ok (.iastore, 1) := by decide +kernel
theorem dX11_layRooms_58 : decode cX11_layRooms 58 = .ok (.iconst 0, 1) := by decide +kernel
theorem dX11_layRooms_59 : decode cX11_layRooms 59 = .ok (.istore_n 3, 1) := by decide +kernel
theorem dX11_layRooms_60 : decode cX11_layRooms 60 = .ok (.iload_n 3, 1) := by decide +kernel
theorem dX11_layRooms_61 : decode cX11_layRooms 61 = .ok (.aload_n 0, 1) := by decide +kernel
theorem dX11_layRooms_62 : decode cX11_layRooms 62 = .ok (.getfield 134, 3) := by decide +kernel
theorem dX11_layRooms_65 : decode cX11_layRooms 65 = .ok (.if_icmp .ge 79, 3) := by decide +kernel
theorem dX11_layRooms_68 : decode cX11_layRooms 68 = .ok (.iload_n 1, 1) := by decide +kernel
theorem dX11_layRooms_69 : decode cX11_layRooms 69 = .ok (.aload_n 0, 1) := by decide +kernel
theorem dX11_layRooms_70 : decode cX11_layRooms 70 = .ok (.getfield 52, 3) := by decide +kernel
theorem dX11_layRooms_73 : decode cX11_layRooms 73 = .ok (.iload_n 3, 1) := by decide +kernel
theorem dX11_layRooms_74 : decode cX11_layRooms 74 = .ok (.iaload, 1) := by decide +kernel
theorem dX11_layRooms_75 : decode cX11_layRooms 75 = .ok (.ishr, 1) := by decide +kernel
theorem dX11_layRooms_76 : decode cX11_layRooms 76 = .ok (.iconst 1, 1) := by decide +kernel
theorem dX11_layRooms_77 : decode cX11_layRooms 77 = .ok (.iand, 1) := by decide +kernel
theorem dX11_layRooms_78 : decode cX11_layRooms 78 = .ok (.iload_n 2, 1) := by decide +kernel
theorem dX11_layRooms_79 : decode cX11_layRooms 79 = .ok (.if_icmp .ne 59, 3) := by decide +kernel
theorem dX11_layRooms_82 : decode cX11_layRooms 82 = .ok (.aload_n 0, 1) := by decide +kernel
theorem dX11_layRooms_83 : decode cX11_layRooms 83 = .ok (.getfield 70, 3) := by decide +kernel
theorem dX11_layRooms_86 : decode cX11_layRooms 86 = .ok (.iconst 2, 1) := by decide +kernel
theorem dX11_layRooms_87 : decode cX11_layRooms 87 = .ok (.iload_n 2, 1) := by decide +kernel
theorem dX11_layRooms_88 : decode cX11_layRooms 88 = .ok (.imul, 1) := by decide +kernel
theorem dX11_layRooms_89 : decode cX11_layRooms 89 = .ok (.dup2, 1) := by decide +kernel
theorem dX11_layRooms_90 : decode cX11_layRooms 90 = .ok (.iaload, 1) := by decide +kernel
theorem dX11_layRooms_91 : decode cX11_layRooms 91 = .ok (.iconst 1, 1) := by decide +kernel
theorem dX11_layRooms_92 : decode cX11_layRooms 92 = .ok (.iadd, 1) := by decide +kernel
theorem dX11_layRooms_93 : decode cX11_layRooms 93 = .ok (.iastore, 1) := by decide +kernel
theorem dX11_layRooms_94 : decode cX11_layRooms 94 = .ok (.aload_n 0, 1) := by decide +kernel
theorem dX11_layRooms_95 : decode cX11_layRooms 95 = .ok (.getfield 67, 3) := by decide +kernel
theorem dX11_layRooms_98 : decode cX11_layRooms 98 = .ok (.bipush 22, 2) := by decide +kernel
theorem dX11_layRooms_100 : decode cX11_layRooms 100 = .ok (.iload_n 2, 1) := by decide +kernel
theorem dX11_layRooms_101 : decode cX11_layRooms 101 = .ok (.imul, 1) := by decide +kernel
theorem dX11_layRooms_102 : decode cX11_layRooms 102 = .ok (.aload_n 0, 1) := by decide +kernel
theorem dX11_layRooms_103 : decode cX11_layRooms 103 = .ok (.getfield 70, 3) := by decide +kernel
theorem dX11_layRooms_106 : decode cX11_layRooms 106 = .ok (.iconst 2, 1) := by decide +kernel
theorem dX11_layRooms_107 : decode cX11_layRooms 107 = .ok (.iload_n 2, 1) := by decide +kernel
theorem dX11_layRooms_108 : decode cX11_layRooms 108 = .ok (.imul, 1) := by decide +kernel
theorem dX11_layRooms_109 : decode cX11_layRooms 109 = .ok (.iaload, 1) := by decide +kernel
theorem dX11_layRooms_110 : decode cX11_layRooms 110 = .ok (.iadd, 1) := by decide +kernel
theorem dX11_layRooms_111 : decode cX11_layRooms 111 = .ok (.aload_n 0, 1) := by decide +kernel
theorem dX11_layRooms_112 : decode cX11_layRooms 112 = .ok (.getfield 67, 3) := by decide +kernel
theorem dX11_layRooms_115 : decode cX11_layRooms 115 = .ok (.bipush 22, 2) := by decide +kernel
theorem dX11_layRooms_117 : decode cX11_layRooms 117 = .ok (.iload_n 2, 1) := by decide +kernel
theorem dX11_layRooms_118 : decode cX11_layRooms 118 = .ok (.imul, 1) := by decide +kernel
theorem dX11_layRooms_119 : decode cX11_layRooms 119 = .ok (.aload_n 0, 1) := by decide +kernel
theorem dX11_layRooms_120 : decode cX11_layRooms 120 = .ok (.getfield 70, 3) := by decide +kernel
theorem dX11_layRooms_123 : decode cX11_layRooms 123 = .ok (.iconst 2, 1) := by decide +kernel
theorem dX11_layRooms_124 : decode cX11_layRooms 124 = .ok (.iload_n 2, 1) := by decide +kernel
theorem dX11_layRooms_125 : decode cX11_layRooms 125 = .ok (.imul, 1) := by decide +kernel
theorem dX11_layRooms_126 : decode cX11_layRooms 126 = .ok (.iaload, 1) := by decide +kernel
theorem dX11_layRooms_127 : decode cX11_layRooms 127 = .ok (.iadd, 1) := by decide +kernel
theorem dX11_layRooms_128 : decode cX11_layRooms 128 = .ok (.iconst 1, 1) := by decide +kernel
theorem dX11_layRooms_129 : decode cX11_layRooms 129 = .ok (.isub, 1) := by decide +kernel
theorem dX11_layRooms_130 : decode cX11_layRooms 130 = .ok (.iaload, 1) := by decide +kernel
theorem dX11_layRooms_131 : decode cX11_layRooms 131 = .ok (.aload_n 0, 1) := by decide +kernel
theorem dX11_layRooms_132 : decode cX11_layRooms 132 = .ok (.iload_n 3, 1) := by decide +kernel
theorem dX11_layRooms_133 : decode cX11_layRooms 133 = .ok (.invokevirtual 140, 3) := by decide +kernel
theorem dX11_layRooms_136 : decode cX11_layRooms 136 = .ok (.iadd, 1) := by decide +kernel
theorem dX11_layRooms_137 : decode cX11_layRooms 137 = .ok (.iastore, 1) := by decide +kernel
theorem dX11_layRooms_138 : decode cX11_layRooms 138 = .ok (.iinc 3 1, 3) := by decide +kernel
theorem dX11_layRooms_141 : decode cX11_layRooms 141 = .ok (.goto (-81), 3) := by decide +kernel
theorem dX11_layRooms_144 : decode cX11_layRooms 144 = .ok (.iconst 0, 1) := by decide +kernel
theorem dX11_layRooms_145 : decode cX11_layRooms 145 = .ok (.istore_n 3, 1) := by decide +kernel
theorem dX11_layRooms_146 : decode cX11_layRooms 146 = .ok (.iload_n 3, 1) := by decide +kernel
theorem dX11_layRooms_147 : decode cX11_layRooms 147 = .ok (.aload_n 0, 1) := by decide +kernel
theorem dX11_layRooms_148 : decode cX11_layRooms 148 = .ok (.getfield 137, 3) := by decide +kernel
theorem dX11_layRooms_151 : decode cX11_layRooms 151 = .ok (.if_icmp .ge 89, 3) := by decide +kernel
theorem dX11_layRooms_154 : decode cX11_layRooms 154 = .ok (.iload_n 1, 1) := by decide +kernel
theorem dX11_layRooms_155 : decode cX11_layRooms 155 = .ok (.aload_n 0, 1) := by decide +kernel
theorem dX11_layRooms_156 : decode cX11_layRooms 156 = .ok (.getfield 55, 3) := by decide +kernel
theorem dX11_layRooms_159 : decode cX11_layRooms 159 = .ok (.iload_n 3, 1) := by decide +kernel
theorem dX11_layRooms_160 : decode cX11_layRooms 160 = .ok (.iaload, 1) := by decide +kernel
theorem dX11_layRooms_161 : decode cX11_layRooms 161 = .ok (.ishr, 1) := by decide +kernel
theorem dX11_layRooms_162 : decode cX11_layRooms 162 = .ok (.iconst 1, 1) := by decide +kernel
theorem dX11_layRooms_163 : decode cX11_layRooms 163 = .ok (.iand, 1) := by decide +kernel
theorem dX11_layRooms_164 : decode cX11_layRooms 164 = .ok (.iload_n 2, 1) := by decide +kernel
theorem dX11_layRooms_165 : decode cX11_layRooms 165 = .ok (.if_icmp .ne 69, 3) := by decide +kernel
theorem dX11_layRooms_168 : decode cX11_layRooms 168 = .ok (.aload_n 0, 1) := by decide +kernel
theorem dX11_layRooms_169 : decode cX11_layRooms 169 = .ok (.getfield 70, 3) := by decide +kernel
theorem dX11_layRooms_172 : decode cX11_layRooms 172 = .ok (.iconst 2, 1) := by decide +kernel
theorem dX11_layRooms_173 : decode cX11_layRooms 173 = .ok (.iload_n 2, 1) := by decide +kernel
theorem dX11_layRooms_174 : decode cX11_layRooms 174 = .ok (.imul, 1) := by decide +kernel
theorem dX11_layRooms_175 : decode cX11_layRooms 175 = .ok (.iconst 1, 1) := by decide +kernel
theorem dX11_layRooms_176 : decode cX11_layRooms 176 = .ok (.iadd, 1) := by decide +kernel
theorem dX11_layRooms_177 : decode cX11_layRooms 177 = .ok (.dup2, 1) := by decide +kernel
theorem dX11_layRooms_178 : decode cX11_layRooms 178 = .ok (.iaload, 1) := by decide +kernel
theorem dX11_layRooms_179 : decode cX11_layRooms 179 = .ok (.iconst 1, 1) := by decide +kernel
theorem dX11_layRooms_180 : decode cX11_layRooms 180 = .ok (.iadd, 1) := by decide +kernel
theorem dX11_layRooms_181 : decode cX11_layRooms 181 = .ok (.iastore, 1) := by decide +kernel
theorem dX11_layRooms_182 : decode cX11_layRooms 182 = .ok (.aload_n 0, 1) := by decide +kernel
theorem dX11_layRooms_183 : decode cX11_layRooms 183 = .ok (.getfield 67, 3) := by decide +kernel
theorem dX11_layRooms_186 : decode cX11_layRooms 186 = .ok (.bipush 22, 2) := by decide +kernel
theorem dX11_layRooms_188 : decode cX11_layRooms 188 = .ok (.iload_n 2, 1) := by decide +kernel
theorem dX11_layRooms_189 : decode cX11_layRooms 189 = .ok (.imul, 1) := by decide +kernel
theorem dX11_layRooms_190 : decode cX11_layRooms 190 = .ok (.bipush 11, 2) := by decide +kernel
theorem dX11_layRooms_192 : decode cX11_layRooms 192 = .ok (.iadd, 1) := by decide +kernel
theorem dX11_layRooms_193 : decode cX11_layRooms 193 = .ok (.aload_n 0, 1) := by decide +kernel
theorem dX11_layRooms_194 : decode cX11_layRooms 194 = .ok (.getfield 70, 3) := by decide +kernel
theorem dX11_layRooms_197 : decode cX11_layRooms 197 = .ok (.iconst 2, 1) := by decide +kernel
theorem dX11_layRooms_198 : decode cX11_layRooms 198 = .ok (.iload_n 2, 1) := by decide +kernel
theorem dX11_layRooms_199 : decode cX11_layRooms 199 = .ok (.imul, 1) := by decide +kernel
theorem dX11_layRooms_200 : decode cX11_layRooms 200 = .ok (.iconst 1, 1) := by decide +kernel
theorem dX11_layRooms_201 : decode cX11_layRooms 201 = .ok (.iadd, 1) := by decide +kernel
theorem dX11_layRooms_202 : decode cX11_layRooms 202 = .ok (.iaload, 1) := by decide +kernel
theorem dX11_layRooms_203 : decode cX11_layRooms 203 = .ok (.iadd, 1) := by decide +kernel
theorem dX11_layRooms_204 : decode cX11_layRooms 204 = .ok (.aload_n 0, 1) := by decide +kernel
theorem dX11_layRooms_205 : decode cX11_layRooms 205 = .ok (.getfield 67, 3) := by decide +kernel
theorem dX11_layRooms_208 : decode cX11_layRooms 208 = .ok (.bipush 22, 2) := by decide +kernel
theorem dX11_layRooms_210 : decode cX11_layRooms 210 = .ok (.iload_n 2, 1) := by decide +kernel
theorem dX11_layRooms_211 : decode cX11_layRooms 211 = .ok (.imul, 1) := by decide +kernel
theorem dX11_layRooms_212 : decode cX11_layRooms 212 = .ok (.bipush 10, 2) := by decide +kernel
theorem dX11_layRooms_214 : decode cX11_layRooms 214 = .ok (.iadd, 1) := by decide +kernel
theorem dX11_layRooms_215 : decode cX11_layRooms 215 = .ok (.aload_n 0, 1) := by decide +kernel
theorem dX11_layRooms_216 : decode cX11_layRooms 216 = .ok (.getfield 70, 3) := by decide +kernel
theorem dX11_layRooms_219 : decode cX11_layRooms 219 = .ok (.iconst 2, 1) := by decide +kernel
theorem dX11_layRooms_220 : decode cX11_layRooms 220 = .ok (.iload_n 2, 1) := by decide +kernel
theorem dX11_layRooms_221 : decode cX11_layRooms 221 = .ok (.imul, 1) := by decide +kernel
theorem dX11_layRooms_222 : decode cX11_layRooms 222 = .ok (.iconst 1, 1) := by decide +kernel
theorem dX11_layRooms_223 : decode cX11_layRooms 223 = .ok (.iadd, 1) := by decide +kernel
theorem dX11_layRooms_224 : decode cX11_layRooms 224 = .ok (.iaload, 1) := by decide +kernel
theorem dX11_layRooms_225 : decode cX11_layRooms 225 = .ok (.iadd, 1) := by decide +kernel
theorem dX11_layRooms_226 : decode cX11_layRooms 226 = .ok (.iaload, 1) := by decide +kernel
theorem dX11_layRooms_227 : decode cX11_layRooms 227 = .ok (.aload_n 0, 1) := by decide +kernel
theorem dX11_layRooms_228 : decode cX11_layRooms 228 = .ok (.iload_n 3, 1) := by decide +kernel
theorem dX11_layRooms_229 : decode cX11_layRooms 229 = .ok (.invokevirtual 143, 3) := by decide +kernel
theorem dX11_layRooms_232 : decode cX11_layRooms 232 = .ok (.iadd, 1) := by decide +kernel
theorem dX11_layRooms_233 : decode cX11_layRooms 233 = .ok (.iastore, 1) := by decide +kernel
theorem dX11_layRooms_234 : decode cX11_layRooms 234 = .ok (.iinc 3 1, 3) := by decide +kernel
theorem dX11_layRooms_237 : decode cX11_layRooms 237 = .ok (.goto (-91), 3) := by decide +kernel
theorem dX11_layRooms_240 : decode cX11_layRooms 240 = .ok (.iinc 2 1, 3) := by decide +kernel
theorem dX11_layRooms_243 : decode cX11_layRooms 243 = .ok (.goto (-233), 3) := by decide +kernel
theorem dX11_layRooms_246 : decode cX11_layRooms 246 = .ok (.return_, 1) := by decide +kernel
theorem dX11_carried_0 : decode cX11_carried 0 = .ok (.sipush (-10000), 3) := by decide +kernel
theorem dX11_carried_3 : decode cX11_carried 3 = .ok (.istore_n 3, 1) := by decide +kernel
theorem dX11_carried_4 : decode cX11_carried 4 = .ok (.iconst 0, 1) := by decide +kernel
theorem dX11_carried_5 : decode cX11_carried 5 = .ok (.istore 4, 2) := by decide +kernel
theorem dX11_carried_7 : decode cX11_carried 7 = .ok (.iload 4, 2) := by decide +kernel
theorem dX11_carried_9 : decode cX11_carried 9 = .ok (.aload_n 0, 1) := by decide +kernel
theorem dX11_carried_10 : decode cX11_carried 10 = .ok (.getfield 70, 3) := by decide +kernel
theorem dX11_carried_13 : decode cX11_carried 13 = .ok (.iconst 0, 1) := by decide +kernel
theorem dX11_carried_14 : decode cX11_carried 14 = .ok (.iaload, 1) := by decide +kernel
theorem dX11_carried_15 : decode cX11_carried 15 = .ok (.if_icmp .gt 143, 3) := by decide +kernel
theorem dX11_carried_18 : decode cX11_carried 18 = .ok (.iconst 0, 1) := by decide +kernel
theorem dX11_carried_19 : decode cX11_carried 19 = .ok (.istore 5, 2) := by decide +kernel
theorem dX11_carried_21 : decode cX11_carried 21 = .ok (.iload 5, 2) := by decide +kernel
theorem dX11_carried_23 : decode cX11_carried 23 = .ok (.aload_n 0, 1) := by decide +kernel
theorem dX11_carried_24 : decode cX11_carried 24 = .ok (.getfield 70, 3) := by decide +kernel
theorem dX11_carried_27 : decode cX11_carried 27 = .ok (.iconst 2, 1) := by decide +kernel
theorem dX11_carried_28 : decode cX11_carried 28 = .ok (.iaload, 1) := by decide +kernel
theorem dX11_carried_29 : decode cX11_carried 29 = .ok (.if_icmp .gt 123, 3) := by decide +kernel
theorem dX11_carried_32 : decode cX11_carried 32 = .ok (.iload 4, 2) := by decide +kernel
theorem dX11_carried_34 : decode cX11_carried 34 = .ok (.iload_n 1, 1) := by decide +kernel
theorem dX11_carried_35 : decode cX11_carried 35 = .ok (.iadd, 1) := by decide +kernel
theorem dX11_carried_36 : decode cX11_carried 36 = .ok (.istore 6, 2) := by decide +kernel
theorem dX11_carried_38 : decode cX11_carried 38 = .ok (.iload 5, 2) := by decide +kernel
theorem dX11_carried_40 : decode cX11_carried 40 = .ok (.iload_n 1, 1) := by decide +kernel
theorem dX11_carried_41 : decode cX11_carried 41 = .ok (.isub, 1) := by decide +kernel
theorem dX11_carried_42 : decode cX11_carried 42 = .ok (.istore 7, 2) := by decide +kernel
theorem dX11_carried_44 : decode cX11_carried 44 = .ok (.iload 6, 2) := by decide +kernel
theorem dX11_carried_46 : decode cX11_carried 46 = .ok (.i2l, 1) := by decide +kernel
theorem dX11_carried_47 : decode cX11_carried 47 = .ok (.lconst 0, 1) := by decide +kernel
theorem dX11_carried_48 : decode cX11_carried 48 = .ok (.aload_n 0, 1) := by decide +kernel
theorem dX11_carried_49 : decode cX11_carried 49 = .ok (.getfield 70, 3) := by decide +kernel
theorem dX11_carried_52 : decode cX11_carried 52 = .ok (.iconst 1, 1) := by decide +kernel
theorem dX11_carried_53 : decode cX11_carried 53 = .ok (.iaload, 1) := by decide +kernel
theorem dX11_carried_54 : decode cX11_carried 54 = .ok (.i2l, 1) := by decide +kernel
theorem dX11_carried_55 : decode cX11_carried 55 = .ok (.invokestatic 79, 3) := by decide +kernel
theorem dX11_carried_58 : decode cX11_carried 58 = .ok (.ifCond .eq 88, 3) := by decide +kernel
theorem dX11_carried_61 : decode cX11_carried 61 = .ok (.iload 7, 2) := by decide +kernel
theorem dX11_carried_63 : decode cX11_carried 63 = .ok (.i2l, 1) := by decide +kernel
theorem dX11_carried_64 : decode cX11_carried 64 = .ok (.lconst 0, 1) := by decide +kernel
theorem dX11_carried_65 : decode cX11_carried 65 = .ok (.aload_n 0, 1) := by decide +kernel
theorem dX11_carried_66 : decode cX11_carried 66 = .ok (.getfield 70, 3) := by decide +kernel
theorem dX11_carried_69 : decode cX11_carried 69 = .ok (.iconst 3, 1) := by decide +kernel
theorem dX11_carried_70 : decode cX11_carried 70 = .ok (.iaload, 1) := by decide +kernel
theorem dX11_carried_71 : decode cX11_carried 71 = .ok (.i2l, 1) := by decide +kernel
theorem dX11_carried_72 : decode cX11_carried 72 = .ok (.invokestatic 79, 3) := by decide +kernel
theorem dX11_carried_75 : decode cX11_carried 75 = .ok (.ifCond .eq 71, 3) := by decide +kernel
theorem dX11_carried_78 : decode cX11_carried 78 = .ok (.aload_n 0, 1) := by decide +kernel
theorem dX11_carried_79 : decode cX11_carried 79 = .ok (.getfield 67, 3) := by decide +kernel
theorem dX11_carried_82 : decode cX11_carried 82 = .ok (.iload 4, 2) := by decide +kernel
theorem dX11_carried_84 : decode cX11_carried 84 = .ok (.iaload, 1) := by decide +kernel
theorem dX11_carried_85 : decode cX11_carried 85 = .ok (.aload_n 0, 1) := by decide +kernel
theorem dX11_carried_86 : decode cX11_carried 86 = .ok (.getfield 67, 3) := by decide +kernel
theorem dX11_carried_89 : decode cX11_carried 89 = .ok (.bipush 11, 2) := by decide +kernel
theorem dX11_carried_91 : decode cX11_carried 91 = .ok (.iload 6, 2) := by decide +kernel
theorem dX11_carried_93 : decode cX11_carried 93 = .ok (.iadd, 1) := by decide +kernel
theorem dX11_carried_94 : decode cX11_carried 94 = .ok (.iaload, 1) := by decide +kernel
theorem dX11_carried_95 : decode cX11_carried 95 = .ok (.isub, 1) := by decide +kernel
theorem dX11_carried_96 : decode cX11_carried 96 = .ok (.aload_n 0, 1) := by decide +kernel
theorem dX11_carried_97 : decode cX11_carried 97 = .ok (.getfield 67, 3) := by decide +kernel
theorem dX11_carried_100 : decode cX11_carried 100 = .ok (.bipush 22, 2) := by decide +kernel
theorem dX11_carried_102 : decode cX11_carried 102 = .ok (.iload 5, 2) := by decide +kernel
theorem dX11_carried_104 : decode cX11_carried 104 = .ok (.iadd, 1) := by decide +kernel
theorem dX11_carried_105 : decode cX11_carried 105 = .ok (.iaload, 1) := by decide +kernel
theorem dX11_carried_106 : decode cX11_carried 106 = .ok (.iadd, 1) := by decide +kernel
theorem dX11_carried_107 : decode cX11_carried 107 = .ok (.aload_n 0, 1) := by decide +kernel
theorem dX11_carried_108 : decode cX11_carried 108 = .ok (.getfield 67, 3) := by decide +kernel
theorem dX11_carried_111 : decode cX11_carried 111 = .ok (.bipush 33, 2) := by decide +kernel
theorem dX11_carried_113 : decode cX11_carried 113 = .ok (.iload 7, 2) := by decide +kernel
theorem dX11_carried_115 : decode cX11_carried 115 = .ok (.iadd, 1) := by decide +kernel
theorem dX11_carried_116 : decode cX11_carried 116 = .ok (.iaload, 1) := by decide +kernel
theorem dX11_carried_117 : decode cX11_carried 117 = .ok (.isub, 1) := by decide +kernel
theorem dX11_carried_118 : decode cX11_carried 118 = .ok (.iload_n 2, 1) := by decide +kernel
theorem dX11_carried_119 : decode cX11_carried 119 = .ok (.iload_n 1, 1) := by decide +kernel
theorem dX11_carried_120 : decode cX11_carried 120 = .ok (.ifCond .ge 8, 3) := by decide +kernel
theorem dX11_carried_123 : decode cX11_carried 123 = .ok (.iload_n 1, 1) := by decide +kernel
theorem dX11_carried_124 : decode cX11_carried 124 = .ok (.ineg, 1) := by decide +kernel
theorem dX11_carried_125 : decode cX11_carried 125 = .ok (.goto 4, 3) := by decide +kernel
theorem dX11_carried_128 : decode cX11_carried 128 = .ok (.iload_n 1, 1) := by decide +kernel
theorem dX11_carried_129 : decode cX11_carried 129 = .ok (.imul, 1) := by decide +kernel
theorem dX11_carried_130 : decode cX11_carried 130 = .ok (.isub, 1) := by decide +kernel
theorem dX11_carried_131 : decode cX11_carried 131 = .ok (.istore 8, 2) := by decide +kernel
theorem dX11_carried_133 : decode cX11_carried 133 = .ok (.iload 8, 2) := by decide +kernel
theorem dX11_carried_135 : decode cX11_carried 135 = .ok (.iload_n 3, 1) := by decide +kernel
theorem dX11_carried_136 : decode cX11_carried 136 = .ok (.if_icmp .le 8, 3) := by decide +kernel
theorem dX11_carried_139 : decode cX11_carried 139 = .ok (.iload 8, 2) := by decide +kernel
theorem dX11_carried_141 : decode cX11_carried 141 = .ok (.goto 4, 3) := by decide +kernel
theorem dX11_carried_144 : decode cX11_carried 144 = .ok (.iload_n 3, 1) := by decide +kernel
theorem dX11_carried_145 : decode cX11_carried 145 = .ok (.istore_n 3, 1) := by decide +kernel
theorem dX11_carried_146 : decode cX11_carried 146 = .ok (.iinc 5 1, 3) := by decide +kernel
theorem dX11_carried_149 : decode cX11_carried 149 = .ok (.goto (-128), 3) := by decide +kernel
theorem dX11_carried_152 : decode cX11_carried 152 = .ok (.iinc 4 1, 3) := by decide +kernel
theorem dX11_carried_155 : decode cX11_carried 155 = .ok (.goto (-148), 3) := by decide +kernel
theorem dX11_carried_158 : decode cX11_carried 158 = .ok (.iload_n 3, 1) := by decide +kernel
theorem dX11_carried_159 : decode cX11_carried 159 = .ok (.ireturn, 1) := by decide +kernel
theorem dX11_two_0 : decode cX11_two 0 = .ok (.iload_n 1, 1) := by decide +kernel
theorem dX11_two_1 : decode cX11_two 1 = .ok (.i2l, 1) := by decide +kernel
theorem dX11_two_2 : decode cX11_two 2 = .ok (.lconst 0, 1) := by decide +kernel
theorem dX11_two_3 : decode cX11_two 3 = .ok (.iconst 1, 1) := by decide +kernel
theorem dX11_two_4 : decode cX11_two 4 = .ok (.aload_n 0, 1) := by decide +kernel
theorem dX11_two_5 : decode cX11_two 5 = .ok (.getfield 13, 3) := by decide +kernel
theorem dX11_two_8 : decode cX11_two 8 = .ok (.iconst 0, 1) := by decide +kernel
theorem dX11_two_9 : decode cX11_two 9 = .ok (.iaload, 1) := by decide +kernel
theorem dX11_two_10 : decode cX11_two 10 = .ok (.ishl, 1) := by decide +kernel
theorem dX11_two_11 : decode cX11_two 11 = .ok (.iconst 1, 1) := by decide +kernel
theorem dX11_two_12 : decode cX11_two 12 = .ok (.isub, 1) := by decide +kernel
theorem dX11_two_13 : decode cX11_two 13 = .ok (.i2l, 1) := by decide +kernel
theorem dX11_two_14 : decode cX11_two 14 = .ok (.invokestatic 79, 3) := by decide +kernel
theorem dX11_two_17 : decode cX11_two 17 = .ok (.ifCond .eq 25, 3) := by decide +kernel
theorem dX11_two_20 : decode cX11_two 20 = .ok (.iload_n 2, 1) := by decide +kernel
theorem dX11_two_21 : decode cX11_two 21 = .ok (.i2l, 1) := by decide +kernel
theorem dX11_two_22 : decode cX11_two 22 = .ok (.lconst 0, 1) := by decide +kernel
theorem dX11_two_23 : decode cX11_two 23 = .ok (.ldc2_w 180, 3) := by decide +kernel
theorem dX11_two_26 : decode cX11_two 26 = .ok (.invokestatic 79, 3) := by decide +kernel
theorem dX11_two_29 : decode cX11_two 29 = .ok (.ifCond .eq 13, 3) := by decide +kernel
theorem dX11_two_32 : decode cX11_two 32 = .ok (.iload_n 3, 1) := by decide +kernel
theorem dX11_two_33 : decode cX11_two 33 = .ok (.i2l, 1) := by decide +kernel
theorem dX11_two_34 : decode cX11_two 34 = .ok (.lconst 0, 1) := by decide +kernel
theorem dX11_two_35 : decode cX11_two 35 = .ok (.lconst 1, 1) := by decide +kernel
theorem dX11_two_36 : decode cX11_two 36 = .ok (.invokestatic 79, 3) := by decide +kernel
theorem dX11_two_39 : decode cX11_two 39 = .ok (.ifCond .ne 7, 3) := by decide +kernel
theorem dX11_two_42 : decode cX11_two 42 = .ok (.sipush (-10000), 3) := by decide +kernel
theorem dX11_two_45 : decode cX11_two 45 = .ok (.ireturn, 1) := by decide +kernel
theorem dX11_two_46 : decode cX11_two 46 = .ok (.aload_n 0, 1) := by decide +kernel
theorem dX11_two_47 : decode cX11_two 47 = .ok (.iload_n 1, 1) := by decide +kernel
theorem dX11_two_48 : decode cX11_two 48 = .ok (.invokevirtual 274, 3) := by decide +kernel
theorem dX11_two_51 : decode cX11_two 51 = .ok (.iconst 0, 1) := by decide +kernel
theorem dX11_two_52 : decode cX11_two 52 = .ok (.istore 4, 2) := by decide +kernel
theorem dX11_two_54 : decode cX11_two 54 = .ok (.iconst 1, 1) := by decide +kernel
theorem dX11_two_55 : decode cX11_two 55 = .ok (.istore 5, 2) := by decide +kernel
theorem dX11_two_57 : decode cX11_two 57 = .ok (.iload 5, 2) := by decide +kernel
theorem dX11_two_59 : decode cX11_two 59 = .ok (.bipush 10, 2) := by decide +kernel
theorem dX11_two_61 : decode cX11_two 61 = .ok (.if_icmp .gt 63, 3) := by decide +kernel
theorem dX11_two_64 : decode cX11_two 64 = .ok (.aload_n 0, 1) := by decide +kernel
theorem dX11_two_65 : decode cX11_two 65 = .ok (.iload 5, 2) := by decide +kernel
theorem dX11_two_67 : decode cX11_two 67 = .ok (.iload_n 2, 1) := by decide +kernel
theorem dX11_two_68 : decode cX11_two 68 = .ok (.invokevirtual 277, 3) := by decide +kernel
theorem dX11_two_71 : decode cX11_two 71 = .ok (.aload_n 0, 1) := by decide +kernel
theorem dX11_two_72 : decode cX11_two 72 = .ok (.iload 4, 2) := by decide +kernel
theorem dX11_two_74 : decode cX11_two 74 = .ok (.iload_n 2, 1) := by decide +kernel
theorem dX11_two_75 : decode cX11_two 75 = .ok (.invokevirtual 277, 3) := by decide +kernel
theorem dX11_two_78 : decode cX11_two 78 = .ok (.if_icmp .le 8, 3) := by decide +kernel
theorem dX11_two_81 : decode cX11_two 81 = .ok (.iload 5, 2) := by decide +kernel
theorem dX11_two_83 : decode cX11_two 83 = .ok (.goto 5, 3) := by decide +kernel
theorem dX11_two_86 : decode cX11_two 86 = .ok (.iload 4, 2) := by decide +kernel
theorem dX11_two_88 : decode cX11_two 88 = .ok (.istore 4, 2) := by decide +kernel
theorem dX11_two_90 : decode cX11_two 90 = .ok (.aload_n 0, 1) := by decide +kernel
theorem dX11_two_91 : decode cX11_two 91 = .ok (.iload 5, 2) := by decide +kernel
theorem dX11_two_93 : decode cX11_two 93 = .ok (.ineg, 1) := by decide +kernel
theorem dX11_two_94 : decode cX11_two 94 = .ok (.iload_n 2, 1) := by decide +kernel
theorem dX11_two_95 : decode cX11_two 95 = .ok (.invokevirtual 277, 3) := by decide +kernel
theorem dX11_two_98 : decode cX11_two 98 = .ok (.aload_n 0, 1) := by decide +kernel
theorem dX11_two_99 : decode cX11_two 99 = .ok (.iload 4, 2) := by decide +kernel
theorem dX11_two_101 : decode cX11_two 101 = .ok (.iload_n 2, 1) := by decide +kernel
theorem dX11_two_102 : decode cX11_two 102 = .ok (.invokevirtual 277, 3) := by decide +kernel
theorem dX11_two_105 : decode cX11_two 105 = .ok (.if_icmp .le 9, 3) := by decide +kernel
theorem dX11_two_108 : decode cX11_two 108 = .ok (.iload 5, 2) := by decide +kernel
theorem dX11_two_110 : decode cX11_two 110 = .ok (.ineg, 1) := by decide +kernel
theorem dX11_two_111 : decode cX11_two 111 = .ok (.goto 5, 3) := by decide +kernel
theorem dX11_two_114 : decode cX11_two 114 = .ok (.iload 4, 2) := by decide +kernel
theorem dX11_two_116 : decode cX11_two 116 = .ok (.istore 4, 2) := by decide +kernel
theorem dX11_two_118 : decode cX11_two 118 = .ok (.iinc 5 1, 3) := by decide +kernel
theorem dX11_two_121 : decode cX11_two 121 = .ok (.goto (-64), 3) := by decide +kernel
theorem dX11_two_124 : decode cX11_two 124 = .ok (.iload_n 3, 1) := by decide +kernel
theorem dX11_two_125 : decode cX11_two 125 = .ok (.ifCond .ne 13, 3) := by decide +kernel
theorem dX11_two_128 : decode cX11_two 128 = .ok (.aload_n 0, 1) := by decide +kernel
theorem dX11_two_129 : decode cX11_two 129 = .ok (.iload 4, 2) := by decide +kernel
theorem dX11_two_131 : decode cX11_two 131 = .ok (.iload_n 2, 1) := by decide +kernel
theorem dX11_two_132 : decode cX11_two 132 = .ok (.invokevirtual 277, 3) := by decide +kernel
theorem dX11_two_135 : decode cX11_two 135 = .ok (.goto 5, 3) := by decide +kernel
theorem dX11_two_138 : decode cX11_two 138 = .ok (.iload 4, 2) := by decide +kernel
theorem dX11_two_140 : decode cX11_two 140 = .ok (.ireturn, 1) := by decide +kernel
theorem dX11_copyLog_0 : decode cX11_copyLog 0 = .ok (.aload_n 0, 1) := by decide +kernel
theorem dX11_copyLog_1 : decode cX11_copyLog 1 = .ok (.getfield 28, 3) := by decide +kernel
theorem dX11_copyLog_4 : decode cX11_copyLog 4 = .ok (.iload_n 2, 1) := by decide +kernel
theorem dX11_copyLog_5 : decode cX11_copyLog 5 = .ok (.aload_n 0, 1) := by decide +kernel
theorem dX11_copyLog_6 : decode cX11_copyLog 6 = .ok (.getfield 28, 3) := by decide +kernel
theorem dX11_copyLog_9 : decode cX11_copyLog 9 = .ok (.iload_n 1, 1) := by decide +kernel
theorem dX11_copyLog_10 : decode cX11_copyLog 10 = .ok (.iaload, 1) := by decide +kernel
theorem dX11_copyLog_11 : decode cX11_copyLog 11 = .ok (.iastore, 1) := by decide +kernel
theorem dX11_copyLog_12 : decode cX11_copyLog 12 = .ok (.iconst 0, 1) := by decide +kernel
theorem dX11_copyLog_13 : decode cX11_copyLog 13 = .ok (.istore_n 3, 1) := by decide +kernel
theorem dX11_copyLog_14 : decode cX11_copyLog 14 = .ok (.iload_n 3, 1) := by decide +kernel
theorem dX11_copyLog_15 : decode cX11_copyLog 15 = .ok (.aload_n 0, 1) := by decide +kernel
theorem dX11_copyLog_16 : decode cX11_copyLog 16 = .ok (.getfield 28, 3) := by decide +kernel
theorem dX11_copyLog_19 : decode cX11_copyLog 19 = .ok (.iload_n 1, 1) := by decide +kernel
theorem dX11_copyLog_20 : decode cX11_copyLog 20 = .ok (.iaload, 1) := by decide +kernel
theorem dX11_copyLog_21 : decode cX11_copyLog 21 = .ok (.if_icmp .ge 105, 3) := by decide +kernel
theorem dX11_copyLog_24 : decode cX11_copyLog 24 = .ok (.aload_n 0, 1) := by decide +kernel
theorem dX11_copyLog_25 : decode cX11_copyLog 25 = .ok (.getfield 31, 3) := by decide +kernel
theorem dX11_copyLog_28 : decode cX11_copyLog 28 = .ok (.sipush 200, 3) := by decide +kernel
theorem dX11_copyLog_31 : decode cX11_copyLog 31 = .ok (.iload_n 2, 1) := by decide +kernel
theorem dX11_copyLog_32 : decode cX11_copyLog 32 = .ok (.imul, 1) := by decide +kernel
theorem dX11_copyLog_33 : decode cX11_copyLog 33 = .ok (.iload_n 3, 1) := by decide +kernel
theorem dX11_copyLog_34 : decode cX11_copyLog 34 = .ok (.iadd, 1) := by decide +kernel
theorem dX11_copyLog_35 : decode cX11_copyLog 35 = .ok (.aload_n 0, 1) := by decide +kernel
theorem dX11_copyLog_36 : decode cX11_copyLog 36 = .ok (.getfield 31, 3) := by decide +kernel
theorem dX11_copyLog_39 : decode cX11_copyLog 39 = .ok (.sipush 200, 3) := by decide +kernel
theorem dX11_copyLog_42 : decode cX11_copyLog 42 = .ok (.iload_n 1, 1) := by decide +kernel
theorem dX11_copyLog_43 : decode cX11_copyLog 43 = .ok (.imul, 1) := by decide +kernel
theorem dX11_copyLog_44 : decode cX11_copyLog 44 = .ok (.iload_n 3, 1) := by decide +kernel
theorem dX11_copyLog_45 : decode cX11_copyLog 45 = .ok (.iadd, 1) := by decide +kernel
theorem dX11_copyLog_46 : decode cX11_copyLog 46 = .ok (.iaload, 1) := by decide +kernel
theorem dX11_copyLog_47 : decode cX11_copyLog 47 = .ok (.iastore, 1) := by decide +kernel
theorem dX11_copyLog_48 : decode cX11_copyLog 48 = .ok (.aload_n 0, 1) := by decide +kernel
theorem dX11_copyLog_49 : decode cX11_copyLog 49 = .ok (.getfield 34, 3) := by decide +kernel
theorem dX11_copyLog_52 : decode cX11_copyLog 52 = .ok (.sipush 200, 3) := by decide +kernel
theorem dX11_copyLog_55 : decode cX11_copyLog 55 = .ok (.iload_n 2, 1) := by decide +kernel
theorem dX11_copyLog_56 : decode cX11_copyLog 56 = .ok (.imul, 1) := by decide +kernel
theorem dX11_copyLog_57 : decode cX11_copyLog 57 = .ok (.iload_n 3, 1) := by decide +kernel
theorem dX11_copyLog_58 : decode cX11_copyLog 58 = .ok (.iadd, 1) := by decide +kernel
theorem dX11_copyLog_59 : decode cX11_copyLog 59 = .ok (.aload_n 0, 1) := by decide +kernel
theorem dX11_copyLog_60 : decode cX11_copyLog 60 = .ok (.getfield 34, 3) := by decide +kernel
theorem dX11_copyLog_63 : decode cX11_copyLog 63 = .ok (.sipush 200, 3) := by decide +kernel
theorem dX11_copyLog_66 : decode cX11_copyLog 66 = .ok (.iload_n 1, 1) := by decide +kernel
theorem dX11_copyLog_67 : decode cX11_copyLog 67 = .ok (.imul, 1) := by decide +kernel
theorem dX11_copyLog_68 : decode cX11_copyLog 68 = .ok (.iload_n 3, 1) := by decide +kernel
theorem dX11_copyLog_69 : decode cX11_copyLog 69 = .ok (.iadd, 1) := by decide +kernel
theorem dX11_copyLog_70 : decode cX11_copyLog 70 = .ok (.iaload, 1) := by decide +kernel
theorem dX11_copyLog_71 : decode cX11_copyLog 71 = .ok (.iastore, 1) := by decide +kernel
theorem dX11_copyLog_72 : decode cX11_copyLog 72 = .ok (.aload_n 0, 1) := by decide +kernel
theorem dX11_copyLog_73 : decode cX11_copyLog 73 = .ok (.getfield 37, 3) := by decide +kernel
theorem dX11_copyLog_76 : decode cX11_copyLog 76 = .ok (.sipush 200, 3) := by decide +kernel
theorem dX11_copyLog_79 : decode cX11_copyLog 79 = .ok (.iload_n 2, 1) := by decide +kernel
theorem dX11_copyLog_80 : decode cX11_copyLog 80 = .ok (.imul, 1) := by decide +kernel
theorem dX11_copyLog_81 : decode cX11_copyLog 81 = .ok (.iload_n 3, 1) := by decide +kernel
theorem dX11_copyLog_82 : decode cX11_copyLog 82 = .ok (.iadd, 1) := by decide +kernel
theorem dX11_copyLog_83 : decode cX11_copyLog 83 = .ok (.aload_n 0, 1) := by decide +kernel
theorem dX11_copyLog_84 : decode cX11_copyLog 84 = .ok (.getfield 37, 3) := by decide +kernel
theorem dX11_copyLog_87 : decode cX11_copyLog 87 = .ok (.sipush 200, 3) := by decide +kernel
theorem dX11_copyLog_90 : decode cX11_copyLog 90 = .ok (.iload_n 1, 1) := by decide +kernel
theorem dX11_copyLog_91 : decode cX11_copyLog 91 = .ok (.imul, 1) := by decide +kernel
theorem dX11_copyLog_92 : decode cX11_copyLog 92 = .ok (.iload_n 3, 1) := by decide +kernel
theorem dX11_copyLog_93 : decode cX11_copyLog 93 = .ok (.iadd, 1) := by decide +kernel
theorem dX11_copyLog_94 : decode cX11_copyLog 94 = .ok (.iaload, 1) := by decide +kernel
theorem dX11_copyLog_95 : decode cX11_copyLog 95 = .ok (.iastore, 1) := by decide +kernel
theorem dX11_copyLog_96 : decode cX11_copyLog 96 = .ok (.aload_n 0, 1) := by decide +kernel
theorem dX11_copyLog_97 : decode cX11_copyLog 97 = .ok (.getfield 40, 3) := by decide +kernel
theorem dX11_copyLog_100 : decode cX11_copyLog 100 = .ok (.sipush 200, 3) := by decide +kernel
theorem dX11_copyLog_103 : decode cX11_copyLog 103 = .ok (.iload_n 2, 1) := by decide +kernel
theorem dX11_copyLog_104 : decode cX11_copyLog 104 = .ok (.imul, 1) := by decide +kernel
theorem dX11_copyLog_105 : decode cX11_copyLog 105 = .ok (.iload_n 3, 1) := by decide +kernel
theorem dX11_copyLog_106 : decode cX11_copyLog 106 = .ok (.iadd, 1) := by decide +kernel
theorem dX11_copyLog_107 : decode cX11_copyLog 107 = .ok (.aload_n 0, 1) := by decide +kernel
theorem dX11_copyLog_108 : decode cX11_copyLog 108 = .ok (.getfield 40, 3) := by decide +kernel
theorem dX11_copyLog_111 : decode cX11_copyLog 111 = .ok (.sipush 200, 3) := by decide +kernel
theorem dX11_copyLog_114 : decode cX11_copyLog 114 = .ok (.iload_n 1, 1) := by decide +kernel
theorem dX11_copyLog_115 : decode cX11_copyLog 115 = .ok (.imul, 1) := by decide +kernel
theorem dX11_copyLog_116 : decode cX11_copyLog 116 = .ok (.iload_n 3, 1) := by decide +kernel
theorem dX11_copyLog_117 : decode cX11_copyLog 117 = .ok (.iadd, 1) := by decide +kernel
theorem dX11_copyLog_118 : decode cX11_copyLog 118 = .ok (.iaload, 1) := by decide +kernel
theorem dX11_copyLog_119 : decode cX11_copyLog 119 = .ok (.iastore, 1) := by decide +kernel
theorem dX11_copyLog_120 : decode cX11_copyLog 120 = .ok (.iinc 3 1, 3) := by decide +kernel
theorem dX11_copyLog_123 : decode cX11_copyLog 123 = .ok (.goto (-109), 3) := by decide +kernel
theorem dX11_copyLog_126 : decode cX11_copyLog 126 = .ok (.return_, 1) := by decide +kernel
theorem dX11_keep_0 : decode cX11_keep 0 = .ok (.aload_n 0, 1) := by decide +kernel
theorem dX11_keep_1 : decode cX11_keep 1 = .ok (.getfield 124, 3) := by decide +kernel
theorem dX11_keep_4 : decode cX11_keep 4 = .ok (.iconst 2, 1) := by decide +kernel
theorem dX11_keep_5 : decode cX11_keep 5 = .ok (.if_icmp .ne 6, 3) := by decide +kernel
theorem dX11_keep_8 : decode cX11_keep 8 = .ok (.bipush (-3), 2) := by decide +kernel
theorem dX11_keep_10 : decode cX11_keep 10 = .ok (.ireturn, 1) := by decide +kernel
theorem dX11_keep_11 : decode cX11_keep 11 = .ok (.aload_n 0, 1) := by decide +kernel
theorem dX11_keep_12 : decode cX11_keep 12 = .ok (.dup, 1) := by decide +kernel
theorem dX11_keep_13 : decode cX11_keep 13 = .ok (.getfield 124, 3) := by decide +kernel
theorem dX11_keep_16 : decode cX11_keep 16 = .ok (.iconst 1, 1) := by decide +kernel
theorem dX11_keep_17 : decode cX11_keep 17 = .ok (.iadd, 1) := by decide +kernel
theorem dX11_keep_18 : decode cX11_keep 18 = .ok (.putfield 124, 3) := by decide +kernel
theorem dX11_keep_21 : decode cX11_keep 21 = .ok (.aload_n 0, 1) := by decide +kernel
theorem dX11_keep_22 : decode cX11_keep 22 = .ok (.iconst 0, 1) := by decide +kernel
theorem dX11_keep_23 : decode cX11_keep 23 = .ok (.aload_n 0, 1) := by decide +kernel
theorem dX11_keep_24 : decode cX11_keep 24 = .ok (.getfield 124, 3) := by decide +kernel
theorem dX11_keep_27 : decode cX11_keep 27 = .ok (.invokevirtual 280, 3) := by decide +kernel
theorem dX11_keep_30 : decode cX11_keep 30 = .ok (.iconst 0, 1) := by decide +kernel
theorem dX11_keep_31 : decode cX11_keep 31 = .ok (.istore_n 1, 1) := by decide +kernel
theorem dX11_keep_32 : decode cX11_keep 32 = .ok (.iload_n 1, 1) := by decide +kernel
theorem dX11_keep_33 : decode cX11_keep 33 = .ok (.bipush 20, 2) := by decide +kernel
theorem dX11_keep_35 : decode cX11_keep 35 = .ok (.if_icmp .ge 32, 3) := by decide +kernel
theorem dX11_keep_38 : decode cX11_keep 38 = .ok (.aload_n 0, 1) := by decide +kernel
theorem dX11_keep_39 : decode cX11_keep 39 = .ok (.getfield 43, 3) := by decide +kernel
theorem dX11_keep_42 : decode cX11_keep 42 = .ok (.bipush 20, 2) := by decide +kernel
theorem dX11_keep_44 : decode cX11_keep 44 = .ok (.aload_n 0, 1) := by decide +kernel
theorem dX11_keep_45 : decode cX11_keep 45 = .ok (.getfield 124, 3) := by decide +kernel
theorem dX11_keep_48 : decode cX11_keep 48 = .ok (.imul, 1) := by decide +kernel
theorem dX11_keep_49 : decode cX11_keep 49 = .ok (.bipush 20, 2) := by decide +kernel
theorem dX11_keep_51 : decode cX11_keep 51 = .ok (.isub, 1) := by decide +kernel
theorem dX11_keep_52 : decode cX11_keep 52 = .ok (.iload_n 1, 1) := by decide +kernel
theorem dX11_keep_53 : decode cX11_keep 53 = .ok (.iadd, 1) := by decide +kernel
theorem dX11_keep_54 : decode cX11_keep 54 = .ok (.aload_n 0, 1) := by decide +kernel
theorem dX11_keep_55 : decode cX11_keep 55 = .ok (.getfield 22, 3) := by decide +kernel
theorem dX11_keep_58 : decode cX11_keep 58 = .ok (.iload_n 1, 1) := by decide +kernel
theorem dX11_keep_59 : decode cX11_keep 59 = .ok (.iaload, 1) := by decide +kernel
theorem dX11_keep_60 : decode cX11_keep 60 = .ok (.iastore, 1) := by decide +kernel
theorem dX11_keep_61 : decode cX11_keep 61 = .ok (.iinc 1 1, 3) := by decide +kernel
theorem dX11_keep_64 : decode cX11_keep 64 = .ok (.goto (-32), 3) := by decide +kernel
theorem dX11_keep_67 : decode cX11_keep 67 = .ok (.aload_n 0, 1) := by decide +kernel
theorem dX11_keep_68 : decode cX11_keep 68 = .ok (.getfield 124, 3) := by decide +kernel
theorem dX11_keep_71 : decode cX11_keep 71 = .ok (.ireturn, 1) := by decide +kernel
theorem dX11_back_0 : decode cX11_back 0 = .ok (.aload_n 0, 1) := by decide +kernel
theorem dX11_back_1 : decode cX11_back 1 = .ok (.getfield 124, 3) := by decide +kernel
theorem dX11_back_4 : decode cX11_back 4 = .ok (.ifCond .ne 6, 3) := by decide +kernel
theorem dX11_back_7 : decode cX11_back 7 = .ok (.bipush (-2), 2) := by decide +kernel
theorem dX11_back_9 : decode cX11_back 9 = .ok (.ireturn, 1) := by decide +kernel
theorem dX11_back_10 : decode cX11_back 10 = .ok (.aload_n 0, 1) := by decide +kernel
theorem dX11_back_11 : decode cX11_back 11 = .ok (.aload_n 0, 1) := by decide +kernel
theorem dX11_back_12 : decode cX11_back 12 = .ok (.getfield 124, 3) := by decide +kernel
theorem dX11_back_15 : decode cX11_back 15 = .ok (.iconst 0, 1) := by decide +kernel
theorem dX11_back_16 : decode cX11_back 16 = .ok (.invokevirtual 280, 3) := by decide +kernel
theorem dX11_back_19 : decode cX11_back 19 = .ok (.iconst 0, 1) := by decide +kernel
theorem dX11_back_20 : decode cX11_back 20 = .ok (.istore_n 1, 1) := by decide +kernel
theorem dX11_back_21 : decode cX11_back 21 = .ok (.iload_n 1, 1) := by decide +kernel
theorem dX11_back_22 : decode cX11_back 22 = .ok (.bipush 20, 2) := by decide +kernel
theorem dX11_back_24 : decode cX11_back 24 = .ok (.if_icmp .ge 32, 3) := by decide +kernel
theorem dX11_back_27 : decode cX11_back 27 = .ok (.aload_n 0, 1) := by decide +kernel
theorem dX11_back_28 : decode cX11_back 28 = .ok (.getfield 22, 3) := by decide +kernel
theorem dX11_back_31 : decode cX11_back 31 = .ok (.iload_n 1, 1) := by decide +kernel
theorem dX11_back_32 : decode cX11_back 32 = .ok (.aload_n 0, 1) := by decide +kernel
theorem dX11_back_33 : decode cX11_back 33 = .ok (.getfield 43, 3) := by decide +kernel
theorem dX11_back_36 : decode cX11_back 36 = .ok (.bipush 20, 2) := by decide +kernel
theorem dX11_back_38 : decode cX11_back 38 = .ok (.aload_n 0, 1) := by decide +kernel
theorem dX11_back_39 : decode cX11_back 39 = .ok (.getfield 124, 3) := by decide +kernel
theorem dX11_back_42 : decode cX11_back 42 = .ok (.imul, 1) := by decide +kernel
theorem dX11_back_43 : decode cX11_back 43 = .ok (.bipush 20, 2) := by decide +kernel
theorem dX11_back_45 : decode cX11_back 45 = .ok (.isub, 1) := by decide +kernel
theorem dX11_back_46 : decode cX11_back 46 = .ok (.iload_n 1, 1) := by decide +kernel
theorem dX11_back_47 : decode cX11_back 47 = .ok (.iadd, 1) := by decide +kernel
theorem dX11_back_48 : decode cX11_back 48 = .ok (.iaload, 1) := by decide +kernel
theorem dX11_back_49 : decode cX11_back 49 = .ok (.iastore, 1) := by decide +kernel
theorem dX11_back_50 : decode cX11_back 50 = .ok (.iinc 1 1, 3) := by decide +kernel
theorem dX11_back_53 : decode cX11_back 53 = .ok (.goto (-32), 3) := by decide +kernel
theorem dX11_back_56 : decode cX11_back 56 = .ok (.aload_n 0, 1) := by decide +kernel
theorem dX11_back_57 : decode cX11_back 57 = .ok (.dup, 1) := by decide +kernel
theorem dX11_back_58 : decode cX11_back 58 = .ok (.getfield 124, 3) := by decide +kernel
theorem dX11_back_61 : decode cX11_back 61 = .ok (.iconst 1, 1) := by decide +kernel
theorem dX11_back_62 : decode cX11_back 62 = .ok (.isub, 1) := by decide +kernel
theorem dX11_back_63 : decode cX11_back 63 = .ok (.putfield 124, 3) := by decide +kernel
theorem dX11_back_66 : decode cX11_back 66 = .ok (.aload_n 0, 1) := by decide +kernel
theorem dX11_back_67 : decode cX11_back 67 = .ok (.getfield 124, 3) := by decide +kernel
theorem dX11_back_70 : decode cX11_back 70 = .ok (.ireturn, 1) := by decide +kernel
theorem dX11_count_0 : decode cX11_count 0 = .ok (.iload_n 1, 1) := by decide +kernel
theorem dX11_count_1 : decode cX11_count 1 = .ok (.tableswitch 86 0 6 #[43, 50, 56, 62, 67, 74, 79], 43) := by decide +kernel
theorem dX11_count_44 : decode cX11_count 44 = .ok (.aload_n 0, 1) := by decide +kernel
theorem dX11_count_45 : decode cX11_count 45 = .ok (.getfield 13, 3) := by decide +kernel
theorem dX11_count_48 : decode cX11_count 48 = .ok (.iconst 0, 1) := by decide +kernel
theorem dX11_count_49 : decode cX11_count 49 = .ok (.iaload, 1) := by decide +kernel
theorem dX11_count_50 : decode cX11_count 50 = .ok (.ireturn, 1) := by decide +kernel
theorem dX11_count_51 : decode cX11_count 51 = .ok (.aload_n 0, 1) := by decide +kernel
theorem dX11_count_52 : decode cX11_count 52 = .ok (.iconst 0, 1) := by decide +kernel
theorem dX11_count_53 : decode cX11_count 53 = .ok (.invokevirtual 169, 3) := by decide +kernel
theorem dX11_count_56 : decode cX11_count 56 = .ok (.ireturn, 1) := by decide +kernel
theorem dX11_count_57 : decode cX11_count 57 = .ok (.aload_n 0, 1) := by decide +kernel
theorem dX11_count_58 : decode cX11_count 58 = .ok (.iconst 1, 1) := by decide +kernel
theorem dX11_count_59 : decode cX11_count 59 = .ok (.invokevirtual 169, 3) := by decide +kernel
theorem dX11_count_62 : decode cX11_count 62 = .ok (.ireturn, 1) := by decide +kernel
theorem dX11_count_63 : decode cX11_count 63 = .ok (.aload_n 0, 1) := by decide +kernel
theorem dX11_count_64 : decode cX11_count 64 = .ok (.getfield 83, 3) := by decide +kernel
theorem dX11_count_67 : decode cX11_count 67 = .ok (.ireturn, 1) := by decide +kernel
theorem dX11_count_68 : decode cX11_count 68 = .ok (.aload_n 0, 1) := by decide +kernel
theorem dX11_count_69 : decode cX11_count 69 = .ok (.getfield 28, 3) := by decide +kernel
theorem dX11_count_72 : decode cX11_count 72 = .ok (.iconst 0, 1) := by decide +kernel
theorem dX11_count_73 : decode cX11_count 73 = .ok (.iaload, 1) := by decide +kernel
theorem dX11_count_74 : decode cX11_count 74 = .ok (.ireturn, 1) := by decide +kernel
theorem dX11_count_75 : decode cX11_count 75 = .ok (.aload_n 0, 1) := by decide +kernel
theorem dX11_count_76 : decode cX11_count 76 = .ok (.getfield 124, 3) := by decide +kernel
theorem dX11_count_79 : decode cX11_count 79 = .ok (.ireturn, 1) := by decide +kernel
theorem dX11_count_80 : decode cX11_count 80 = .ok (.aload_n 0, 1) := by decide +kernel
theorem dX11_count_81 : decode cX11_count 81 = .ok (.getfield 25, 3) := by decide +kernel
theorem dX11_count_84 : decode cX11_count 84 = .ok (.iconst 0, 1) := by decide +kernel
theorem dX11_count_85 : decode cX11_count 85 = .ok (.iaload, 1) := by decide +kernel
theorem dX11_count_86 : decode cX11_count 86 = .ok (.ireturn, 1) := by decide +kernel
theorem dX11_count_87 : decode cX11_count 87 = .ok (.iconst (-1), 1) := by decide +kernel
theorem dX11_count_88 : decode cX11_count 88 = .ok (.ireturn, 1) := by decide +kernel
end
section
theorem dL_law_0 : decode cL_law 0 = .ok (.new 7, 3) := by decide +kernel
theorem dL_law_3 : decode cL_law 3 = .ok (.dup, 1) := by decide +kernel
theorem dL_law_4 : decode cL_law 4 = .ok (.invokespecial 9, 3) := by decide +kernel
theorem dL_law_7 : decode cL_law 7 = .ok (.astore_n 1, 1) := by decide +kernel
theorem dL_law_8 : decode cL_law 8 = .ok (.new 10, 3) := by decide +kernel
theorem dL_law_11 : decode cL_law 11 = .ok (.dup, 1) := by decide +kernel
theorem dL_law_12 : decode cL_law 12 = .ok (.invokespecial 12, 3) := by decide +kernel
theorem dL_law_15 : decode cL_law 15 = .ok (.astore_n 2, 1) := by decide +kernel
theorem dL_law_16 : decode cL_law 16 = .ok (.iconst 0, 1) := by decide +kernel
theorem dL_law_17 : decode cL_law 17 = .ok (.istore_n 3, 1) := by decide +kernel
theorem dL_law_18 : decode cL_law 18 = .ok (.iload_n 3, 1) := by decide +kernel
theorem dL_law_19 : decode cL_law 19 = .ok (.aload_n 0, 1) := by decide +kernel
theorem dL_law_20 : decode cL_law 20 = .ok (.arraylength, 1) := by decide +kernel
theorem dL_law_21 : decode cL_law 21 = .ok (.iconst 4, 1) := by decide +kernel
theorem dL_law_22 : decode cL_law 22 = .ok (.isub, 1) := by decide +kernel
theorem dL_law_23 : decode cL_law 23 = .ok (.if_icmp .gt 783, 3) := by decide +kernel
theorem dL_law_26 : decode cL_law 26 = .ok (.aload_n 0, 1) := by decide +kernel
theorem dL_law_27 : decode cL_law 27 = .ok (.iload_n 3, 1) := by decide +kernel
theorem dL_law_28 : decode cL_law 28 = .ok (.iaload, 1) := by decide +kernel
theorem dL_law_29 : decode cL_law 29 = .ok (.bipush 31, 2) := by decide +kernel
theorem dL_law_31 : decode cL_law 31 = .ok (.iand, 1) := by decide +kernel
theorem dL_law_32 : decode cL_law 32 = .ok (.tableswitch 768 0 22 #[108, 171, 184, 197, 210, 243, 276, 299, 322, 346, 379, 412, 455, 498, 541, 574, 607, 630, 653, 676, 719, 732, 745], 108) := by decide +kernel
theorem dL_law_140 : decode cL_law 140 = .ok (.aload_n 1, 1) := by decide +kernel
theorem dL_law_141 : decode cL_law 141 = .ok (.aload_n 0, 1) := by decide +kernel
theorem dL_law_142 : decode cL_law 142 = .ok (.iload_n 3, 1) := by decide +kernel
theorem dL_law_143 : decode cL_law 143 = .ok (.iconst 1, 1) := by decide +kernel
theorem dL_law_144 : decode cL_law 144 = .ok (.iadd, 1) := by decide +kernel
theorem dL_law_145 : decode cL_law 145 = .ok (.iaload, 1) := by decide +kernel
theorem dL_law_146 : decode cL_law 146 = .ok (.aload_n 0, 1) := by decide +kernel
theorem dL_law_147 : decode cL_law 147 = .ok (.iload_n 3, 1) := by decide +kernel
theorem dL_law_148 : decode cL_law 148 = .ok (.iconst 2, 1) := by decide +kernel
theorem dL_law_149 : decode cL_law 149 = .ok (.iadd, 1) := by decide +kernel
theorem dL_law_150 : decode cL_law 150 = .ok (.iaload, 1) := by decide +kernel
theorem dL_law_151 : decode cL_law 151 = .ok (.i2l, 1) := by decide +kernel
theorem dL_law_152 : decode cL_law 152 = .ok (.bipush 32, 2) := by decide +kernel
theorem dL_law_154 : decode cL_law 154 = .ok (.lshl, 1) := by decide +kernel
theorem dL_law_155 : decode cL_law 155 = .ok (.aload_n 0, 1) := by decide +kernel
theorem dL_law_156 : decode cL_law 156 = .ok (.iload_n 3, 1) := by decide +kernel
theorem dL_law_157 : decode cL_law 157 = .ok (.iconst 3, 1) := by decide +kernel
theorem dL_law_158 : decode cL_law 158 = .ok (.iadd, 1) := by decide +kernel
theorem dL_law_159 : decode cL_law 159 = .ok (.iaload, 1) := by decide +kernel
theorem dL_law_160 : decode cL_law 160 = .ok (.i2l, 1) := by decide +kernel
theorem dL_law_161 : decode cL_law 161 = .ok (.ldc2_w 13, 3) := by decide +kernel
theorem dL_law_164 : decode cL_law 164 = .ok (.land, 1) := by decide +kernel
theorem dL_law_165 : decode cL_law 165 = .ok (.lor, 1) := by decide +kernel
theorem dL_law_166 : decode cL_law 166 = .ok (.invokevirtual 15, 3) := by decide +kernel
theorem dL_law_169 : decode cL_law 169 = .ok (.aload_n 2, 1) := by decide +kernel
theorem dL_law_170 : decode cL_law 170 = .ok (.aload_n 0, 1) := by decide +kernel
theorem dL_law_171 : decode cL_law 171 = .ok (.iload_n 3, 1) := by decide +kernel
theorem dL_law_172 : decode cL_law 172 = .ok (.iconst 1, 1) := by decide +kernel
theorem dL_law_173 : decode cL_law 173 = .ok (.iadd, 1) := by decide +kernel
theorem dL_law_174 : decode cL_law 174 = .ok (.iaload, 1) := by decide +kernel
theorem dL_law_175 : decode cL_law 175 = .ok (.aload_n 0, 1) := by decide +kernel
theorem dL_law_176 : decode cL_law 176 = .ok (.iload_n 3, 1) := by decide +kernel
theorem dL_law_177 : decode cL_law 177 = .ok (.iconst 2, 1) := by decide +kernel
theorem dL_law_178 : decode cL_law 178 = .ok (.iadd, 1) := by decide +kernel
theorem dL_law_179 : decode cL_law 179 = .ok (.iaload, 1) := by decide +kernel
theorem dL_law_180 : decode cL_law 180 = .ok (.i2l, 1) := by decide +kernel
theorem dL_law_181 : decode cL_law 181 = .ok (.bipush 32, 2) := by decide +kernel
theorem dL_law_183 : decode cL_law 183 = .ok (.lshl, 1) := by decide +kernel
theorem dL_law_184 : decode cL_law 184 = .ok (.aload_n 0, 1) := by decide +kernel
theorem dL_law_185 : decode cL_law 185 = .ok (.iload_n 3, 1) := by decide +kernel
theorem dL_law_186 : decode cL_law 186 = .ok (.iconst 3, 1) := by decide +kernel
theorem dL_law_187 : decode cL_law 187 = .ok (.iadd, 1) := by decide +kernel
theorem dL_law_188 : decode cL_law 188 = .ok (.iaload, 1) := by decide +kernel
theorem dL_law_189 : decode cL_law 189 = .ok (.i2l, 1) := by decide +kernel
theorem dL_law_190 : decode cL_law 190 = .ok (.ldc2_w 13, 3) := by decide +kernel
theorem dL_law_193 : decode cL_law 193 = .ok (.land, 1) := by decide +kernel
theorem dL_law_194 : decode cL_law 194 = .ok (.lor, 1) := by decide +kernel
theorem dL_law_195 : decode cL_law 195 = .ok (.invokevirtual 19, 3) := by decide +kernel
theorem dL_law_198 : decode cL_law 198 = .ok (.if_icmp .eq 602, 3) := by decide +kernel
theorem dL_law_201 : decode cL_law 201 = .ok (.iconst 0, 1) := by decide +kernel
theorem dL_law_202 : decode cL_law 202 = .ok (.ireturn, 1) := by decide +kernel
theorem dL_law_203 : decode cL_law 203 = .ok (.aload_n 1, 1) := by decide +kernel
theorem dL_law_204 : decode cL_law 204 = .ok (.invokevirtual 20, 3) := by decide +kernel
theorem dL_law_207 : decode cL_law 207 = .ok (.aload_n 2, 1) := by decide +kernel
theorem dL_law_208 : decode cL_law 208 = .ok (.invokevirtual 24, 3) := by decide +kernel
theorem dL_law_211 : decode cL_law 211 = .ok (.if_icmp .eq 589, 3) := by decide +kernel
theorem dL_law_214 : decode cL_law 214 = .ok (.iconst 0, 1) := by decide +kernel
theorem dL_law_215 : decode cL_law 215 = .ok (.ireturn, 1) := by decide +kernel
theorem dL_law_216 : decode cL_law 216 = .ok (.aload_n 1, 1) := by decide +kernel
theorem dL_law_217 : decode cL_law 217 = .ok (.invokevirtual 25, 3) := by decide +kernel
theorem dL_law_220 : decode cL_law 220 = .ok (.aload_n 2, 1) := by decide +kernel
theorem dL_law_221 : decode cL_law 221 = .ok (.invokevirtual 28, 3) := by decide +kernel
theorem dL_law_224 : decode cL_law 224 = .ok (.if_icmp .eq 576, 3) := by decide +kernel
theorem dL_law_227 : decode cL_law 227 = .ok (.iconst 0, 1) := by decide +kernel
theorem dL_law_228 : decode cL_law 228 = .ok (.ireturn, 1) := by decide +kernel
theorem dL_law_229 : decode cL_law 229 = .ok (.aload_n 1, 1) := by decide +kernel
theorem dL_law_230 : decode cL_law 230 = .ok (.invokevirtual 29, 3) := by decide +kernel
theorem dL_law_233 : decode cL_law 233 = .ok (.aload_n 2, 1) := by decide +kernel
theorem dL_law_234 : decode cL_law 234 = .ok (.invokevirtual 32, 3) := by decide +kernel
theorem dL_law_237 : decode cL_law 237 = .ok (.if_icmp .eq 563, 3) := by decide +kernel
theorem dL_law_240 : decode cL_law 240 = .ok (.iconst 0, 1) := by decide +kernel
theorem dL_law_241 : decode cL_law 241 = .ok (.ireturn, 1) := by decide +kernel
theorem dL_law_242 : decode cL_law 242 = .ok (.aload_n 1, 1) := by decide +kernel
theorem dL_law_243 : decode cL_law 243 = .ok (.aload_n 0, 1) := by decide +kernel
theorem dL_law_244 : decode cL_law 244 = .ok (.iload_n 3, 1) := by decide +kernel
theorem dL_law_245 : decode cL_law 245 = .ok (.iconst 1, 1) := by decide +kernel
theorem dL_law_246 : decode cL_law 246 = .ok (.iadd, 1) := by decide +kernel
theorem dL_law_247 : decode cL_law 247 = .ok (.iaload, 1) := by decide +kernel
theorem dL_law_248 : decode cL_law 248 = .ok (.aload_n 0, 1) := by decide +kernel
theorem dL_law_249 : decode cL_law 249 = .ok (.iload_n 3, 1) := by decide +kernel
theorem dL_law_250 : decode cL_law 250 = .ok (.iconst 2, 1) := by decide +kernel
theorem dL_law_251 : decode cL_law 251 = .ok (.iadd, 1) := by decide +kernel
theorem dL_law_252 : decode cL_law 252 = .ok (.iaload, 1) := by decide +kernel
theorem dL_law_253 : decode cL_law 253 = .ok (.invokevirtual 33, 3) := by decide +kernel
theorem dL_law_256 : decode cL_law 256 = .ok (.aload_n 2, 1) := by decide +kernel
theorem dL_law_257 : decode cL_law 257 = .ok (.aload_n 0, 1) := by decide +kernel
theorem dL_law_258 : decode cL_law 258 = .ok (.iload_n 3, 1) := by decide +kernel
theorem dL_law_259 : decode cL_law 259 = .ok (.iconst 1, 1) := by decide +kernel
theorem dL_law_260 : decode cL_law 260 = .ok (.iadd, 1) := by decide +kernel
theorem dL_law_261 : decode cL_law 261 = .ok (.iaload, 1) := by decide +kernel
theorem dL_law_262 : decode cL_law 262 = .ok (.aload_n 0, 1) := by decide +kernel
theorem dL_law_263 : decode cL_law 263 = .ok (.iload_n 3, 1) := by decide +kernel
theorem dL_law_264 : decode cL_law 264 = .ok (.iconst 2, 1) := by decide +kernel
theorem dL_law_265 : decode cL_law 265 = .ok (.iadd, 1) := by decide +kernel
theorem dL_law_266 : decode cL_law 266 = .ok (.iaload, 1) := by decide +kernel
theorem dL_law_267 : decode cL_law 267 = .ok (.invokevirtual 37, 3) := by decide +kernel
theorem dL_law_270 : decode cL_law 270 = .ok (.if_icmp .eq 530, 3) := by decide +kernel
theorem dL_law_273 : decode cL_law 273 = .ok (.iconst 0, 1) := by decide +kernel
theorem dL_law_274 : decode cL_law 274 = .ok (.ireturn, 1) := by decide +kernel
theorem dL_law_275 : decode cL_law 275 = .ok (.aload_n 1, 1) := by decide +kernel
theorem dL_law_276 : decode cL_law 276 = .ok (.aload_n 0, 1) := by decide +kernel
theorem dL_law_277 : decode cL_law 277 = .ok (.iload_n 3, 1) := by decide +kernel
theorem dL_law_278 : decode cL_law 278 = .ok (.iconst 1, 1) := by decide +kernel
theorem dL_law_279 : decode cL_law 279 = .ok (.iadd, 1) := by decide +kernel
theorem dL_law_280 : decode cL_law 280 = .ok (.iaload, 1) := by decide +kernel
theorem dL_law_281 : decode cL_law 281 = .ok (.aload_n 0, 1) := by decide +kernel
theorem dL_law_282 : decode cL_law 282 = .ok (.iload_n 3, 1) := by decide +kernel
theorem dL_law_283 : decode cL_law 283 = .ok (.iconst 2, 1) := by decide +kernel
theorem dL_law_284 : decode cL_law 284 = .ok (.iadd, 1) := by decide +kernel
theorem dL_law_285 : decode cL_law 285 = .ok (.iaload, 1) := by decide +kernel
theorem dL_law_286 : decode cL_law 286 = .ok (.invokevirtual 38, 3) := by decide +kernel
theorem dL_law_289 : decode cL_law 289 = .ok (.aload_n 2, 1) := by decide +kernel
theorem dL_law_290 : decode cL_law 290 = .ok (.aload_n 0, 1) := by decide +kernel
theorem dL_law_291 : decode cL_law 291 = .ok (.iload_n 3, 1) := by decide +kernel
theorem dL_law_292 : decode cL_law 292 = .ok (.iconst 1, 1) := by decide +kernel
theorem dL_law_293 : decode cL_law 293 = .ok (.iadd, 1) := by decide +kernel
theorem dL_law_294 : decode cL_law 294 = .ok (.iaload, 1) := by decide +kernel
theorem dL_law_295 : decode cL_law 295 = .ok (.aload_n 0, 1) := by decide +kernel
theorem dL_law_296 : decode cL_law 296 = .ok (.iload_n 3, 1) := by decide +kernel
theorem dL_law_297 : decode cL_law 297 = .ok (.iconst 2, 1) := by decide +kernel
theorem dL_law_298 : decode cL_law 298 = .ok (.iadd, 1) := by decide +kernel
theorem dL_law_299 : decode cL_law 299 = .ok (.iaload, 1) := by decide +kernel
theorem dL_law_300 : decode cL_law 300 = .ok (.invokevirtual 41, 3) := by decide +kernel
theorem dL_law_303 : decode cL_law 303 = .ok (.if_icmp .eq 497, 3) := by decide +kernel
theorem dL_law_306 : decode cL_law 306 = .ok (.iconst 0, 1) := by decide +kernel
theorem dL_law_307 : decode cL_law 307 = .ok (.ireturn, 1) := by decide +kernel
theorem dL_law_308 : decode cL_law 308 = .ok (.aload_n 1, 1) := by decide +kernel
theorem dL_law_309 : decode cL_law 309 = .ok (.aload_n 0, 1) := by decide +kernel
theorem dL_law_310 : decode cL_law 310 = .ok (.iload_n 3, 1) := by decide +kernel
theorem dL_law_311 : decode cL_law 311 = .ok (.iconst 1, 1) := by decide +kernel
theorem dL_law_312 : decode cL_law 312 = .ok (.iadd, 1) := by decide +kernel
theorem dL_law_313 : decode cL_law 313 = .ok (.iaload, 1) := by decide +kernel
theorem dL_law_314 : decode cL_law 314 = .ok (.invokevirtual 42, 3) := by decide +kernel
theorem dL_law_317 : decode cL_law 317 = .ok (.aload_n 2, 1) := by decide +kernel
theorem dL_law_318 : decode cL_law 318 = .ok (.aload_n 0, 1) := by decide +kernel
theorem dL_law_319 : decode cL_law 319 = .ok (.iload_n 3, 1) := by decide +kernel
theorem dL_law_320 : decode cL_law 320 = .ok (.iconst 1, 1) := by decide +kernel
theorem dL_law_321 : decode cL_law 321 = .ok (.iadd, 1) := by decide +kernel
theorem dL_law_322 : decode cL_law 322 = .ok (.iaload, 1) := by decide +kernel
theorem dL_law_323 : decode cL_law 323 = .ok (.invokevirtual 46, 3) := by decide +kernel
theorem dL_law_326 : decode cL_law 326 = .ok (.if_icmp .eq 474, 3) := by decide +kernel
theorem dL_law_329 : decode cL_law 329 = .ok (.iconst 0, 1) := by decide +kernel
theorem dL_law_330 : decode cL_law 330 = .ok (.ireturn, 1) := by decide +kernel
theorem dL_law_331 : decode cL_law 331 = .ok (.aload_n 1, 1) := by decide +kernel
theorem dL_law_332 : decode cL_law 332 = .ok (.aload_n 0, 1) := by decide +kernel
theorem dL_law_333 : decode cL_law 333 = .ok (.iload_n 3, 1) := by decide +kernel
theorem dL_law_334 : decode cL_law 334 = .ok (.iconst 1, 1) := by decide +kernel
theorem dL_law_335 : decode cL_law 335 = .ok (.iadd, 1) := by decide +kernel
theorem dL_law_336 : decode cL_law 336 = .ok (.iaload, 1) := by decide +kernel
theorem dL_law_337 : decode cL_law 337 = .ok (.invokevirtual 47, 3) := by decide +kernel
theorem dL_law_340 : decode cL_law 340 = .ok (.aload_n 2, 1) := by decide +kernel
theorem dL_law_341 : decode cL_law 341 = .ok (.aload_n 0, 1) := by decide +kernel
theorem dL_law_342 : decode cL_law 342 = .ok (.iload_n 3, 1) := by decide +kernel
theorem dL_law_343 : decode cL_law 343 = .ok (.iconst 1, 1) := by decide +kernel
theorem dL_law_344 : decode cL_law 344 = .ok (.iadd, 1) := by decide +kernel
theorem dL_law_345 : decode cL_law 345 = .ok (.iaload, 1) := by decide +kernel
theorem dL_law_346 : decode cL_law 346 = .ok (.invokevirtual 50, 3) := by decide +kernel
theorem dL_law_349 : decode cL_law 349 = .ok (.if_icmp .eq 451, 3) := by decide +kernel
theorem dL_law_352 : decode cL_law 352 = .ok (.iconst 0, 1) := by decide +kernel
theorem dL_law_353 : decode cL_law 353 = .ok (.ireturn, 1) := by decide +kernel
theorem dL_law_354 : decode cL_law 354 = .ok (.aload_n 1, 1) := by decide +kernel
theorem dL_law_355 : decode cL_law 355 = .ok (.aload_n 0, 1) := by decide +kernel
theorem dL_law_356 : decode cL_law 356 = .ok (.iload_n 3, 1) := by decide +kernel
theorem dL_law_357 : decode cL_law 357 = .ok (.iconst 1, 1) := by decide +kernel
theorem dL_law_358 : decode cL_law 358 = .ok (.iadd, 1) := by decide +kernel
theorem dL_law_359 : decode cL_law 359 = .ok (.iaload, 1) := by decide +kernel
theorem dL_law_360 : decode cL_law 360 = .ok (.invokevirtual 51, 3) := by decide +kernel
theorem dL_law_363 : decode cL_law 363 = .ok (.aload_n 2, 1) := by decide +kernel
theorem dL_law_364 : decode cL_law 364 = .ok (.aload_n 0, 1) := by decide +kernel
theorem dL_law_365 : decode cL_law 365 = .ok (.iload_n 3, 1) := by decide +kernel
theorem dL_law_366 : decode cL_law 366 = .ok (.iconst 1, 1) := by decide +kernel
theorem dL_law_367 : decode cL_law 367 = .ok (.iadd, 1) := by decide +kernel
theorem dL_law_368 : decode cL_law 368 = .ok (.iaload, 1) := by decide +kernel
theorem dL_law_369 : decode cL_law 369 = .ok (.invokevirtual 55, 3) := by decide +kernel
theorem dL_law_372 : decode cL_law 372 = .ok (.lcmp, 1) := by decide +kernel
theorem dL_law_373 : decode cL_law 373 = .ok (.ifCond .eq 427, 3) := by decide +kernel
theorem dL_law_376 : decode cL_law 376 = .ok (.iconst 0, 1) := by decide +kernel
theorem dL_law_377 : decode cL_law 377 = .ok (.ireturn, 1) := by decide +kernel
theorem dL_law_378 : decode cL_law 378 = .ok (.aload_n 1, 1) := by decide +kernel
theorem dL_law_379 : decode cL_law 379 = .ok (.aload_n 0, 1) := by decide +kernel
theorem dL_law_380 : decode cL_law 380 = .ok (.iload_n 3, 1) := by decide +kernel
theorem dL_law_381 : decode cL_law 381 = .ok (.iconst 1, 1) := by decide +kernel
theorem dL_law_382 : decode cL_law 382 = .ok (.iadd, 1) := by decide +kernel
theorem dL_law_383 : decode cL_law 383 = .ok (.iaload, 1) := by decide +kernel
theorem dL_law_384 : decode cL_law 384 = .ok (.aload_n 0, 1) := by decide +kernel
theorem dL_law_385 : decode cL_law 385 = .ok (.iload_n 3, 1) := by decide +kernel
theorem dL_law_386 : decode cL_law 386 = .ok (.iconst 2, 1) := by decide +kernel
theorem dL_law_387 : decode cL_law 387 = .ok (.iadd, 1) := by decide +kernel
theorem dL_law_388 : decode cL_law 388 = .ok (.iaload, 1) := by decide +kernel
theorem dL_law_389 : decode cL_law 389 = .ok (.invokevirtual 56, 3) := by decide +kernel
theorem dL_law_392 : decode cL_law 392 = .ok (.aload_n 2, 1) := by decide +kernel
theorem dL_law_393 : decode cL_law 393 = .ok (.aload_n 0, 1) := by decide +kernel
theorem dL_law_394 : decode cL_law 394 = .ok (.iload_n 3, 1) := by decide +kernel
theorem dL_law_395 : decode cL_law 395 = .ok (.iconst 1, 1) := by decide +kernel
theorem dL_law_396 : decode cL_law 396 = .ok (.iadd, 1) := by decide +kernel
theorem dL_law_397 : decode cL_law 397 = .ok (.iaload, 1) := by decide +kernel
theorem dL_law_398 : decode cL_law 398 = .ok (.aload_n 0, 1) := by decide +kernel
theorem dL_law_399 : decode cL_law 399 = .ok (.iload_n 3, 1) := by decide +kernel
theorem dL_law_400 : decode cL_law 400 = .ok (.iconst 2, 1) := by decide +kernel
theorem dL_law_401 : decode cL_law 401 = .ok (.iadd, 1) := by decide +kernel
theorem dL_law_402 : decode cL_law 402 = .ok (.iaload, 1) := by decide +kernel
theorem dL_law_403 : decode cL_law 403 = .ok (.invokevirtual 59, 3) := by decide +kernel
theorem dL_law_406 : decode cL_law 406 = .ok (.if_icmp .eq 394, 3) := by decide +kernel
theorem dL_law_409 : decode cL_law 409 = .ok (.iconst 0, 1) := by decide +kernel
theorem dL_law_410 : decode cL_law 410 = .ok (.ireturn, 1) := by decide +kernel
theorem dL_law_411 : decode cL_law 411 = .ok (.aload_n 1, 1) := by decide +kernel
theorem dL_law_412 : decode cL_law 412 = .ok (.aload_n 0, 1) := by decide +kernel
theorem dL_law_413 : decode cL_law 413 = .ok (.iload_n 3, 1) := by decide +kernel
theorem dL_law_414 : decode cL_law 414 = .ok (.iconst 1, 1) := by decide +kernel
theorem dL_law_415 : decode cL_law 415 = .ok (.iadd, 1) := by decide +kernel
theorem dL_law_416 : decode cL_law 416 = .ok (.iaload, 1) := by decide +kernel
theorem dL_law_417 : decode cL_law 417 = .ok (.aload_n 0, 1) := by decide +kernel
theorem dL_law_418 : decode cL_law 418 = .ok (.iload_n 3, 1) := by decide +kernel
theorem dL_law_419 : decode cL_law 419 = .ok (.iconst 2, 1) := by decide +kernel
theorem dL_law_420 : decode cL_law 420 = .ok (.iadd, 1) := by decide +kernel
theorem dL_law_421 : decode cL_law 421 = .ok (.iaload, 1) := by decide +kernel
theorem dL_law_422 : decode cL_law 422 = .ok (.invokevirtual 60, 3) := by decide +kernel
theorem dL_law_425 : decode cL_law 425 = .ok (.aload_n 2, 1) := by decide +kernel
theorem dL_law_426 : decode cL_law 426 = .ok (.aload_n 0, 1) := by decide +kernel
theorem dL_law_427 : decode cL_law 427 = .ok (.iload_n 3, 1) := by decide +kernel
theorem dL_law_428 : decode cL_law 428 = .ok (.iconst 1, 1) := by decide +kernel
theorem dL_law_429 : decode cL_law 429 = .ok (.iadd, 1) := by decide +kernel
theorem dL_law_430 : decode cL_law 430 = .ok (.iaload, 1) := by decide +kernel
theorem dL_law_431 : decode cL_law 431 = .ok (.aload_n 0, 1) := by decide +kernel
theorem dL_law_432 : decode cL_law 432 = .ok (.iload_n 3, 1) := by decide +kernel
theorem dL_law_433 : decode cL_law 433 = .ok (.iconst 2, 1) := by decide +kernel
theorem dL_law_434 : decode cL_law 434 = .ok (.iadd, 1) := by decide +kernel
theorem dL_law_435 : decode cL_law 435 = .ok (.iaload, 1) := by decide +kernel
theorem dL_law_436 : decode cL_law 436 = .ok (.invokevirtual 63, 3) := by decide +kernel
theorem dL_law_439 : decode cL_law 439 = .ok (.if_icmp .eq 361, 3) := by decide +kernel
theorem dL_law_442 : decode cL_law 442 = .ok (.iconst 0, 1) := by decide +kernel
theorem dL_law_443 : decode cL_law 443 = .ok (.ireturn, 1) := by decide +kernel
theorem dL_law_444 : decode cL_law 444 = .ok (.aload_n 1, 1) := by decide +kernel
theorem dL_law_445 : decode cL_law 445 = .ok (.aload_n 0, 1) := by decide +kernel
theorem dL_law_446 : decode cL_law 446 = .ok (.iload_n 3, 1) := by decide +kernel
theorem dL_law_447 : decode cL_law 447 = .ok (.iconst 1, 1) := by decide +kernel
theorem dL_law_448 : decode cL_law 448 = .ok (.iadd, 1) := by decide +kernel
theorem dL_law_449 : decode cL_law 449 = .ok (.iaload, 1) := by decide +kernel
theorem dL_law_450 : decode cL_law 450 = .ok (.aload_n 0, 1) := by decide +kernel
theorem dL_law_451 : decode cL_law 451 = .ok (.iload_n 3, 1) := by decide +kernel
theorem dL_law_452 : decode cL_law 452 = .ok (.iconst 2, 1) := by decide +kernel
theorem dL_law_453 : decode cL_law 453 = .ok (.iadd, 1) := by decide +kernel
theorem dL_law_454 : decode cL_law 454 = .ok (.iaload, 1) := by decide +kernel
theorem dL_law_455 : decode cL_law 455 = .ok (.aload_n 0, 1) := by decide +kernel
theorem dL_law_456 : decode cL_law 456 = .ok (.iload_n 3, 1) := by decide +kernel
theorem dL_law_457 : decode cL_law 457 = .ok (.iconst 3, 1) := by decide +kernel
theorem dL_law_458 : decode cL_law 458 = .ok (.iadd, 1) := by decide +kernel
theorem dL_law_459 : decode cL_law 459 = .ok (.iaload, 1) := by decide +kernel
theorem dL_law_460 : decode cL_law 460 = .ok (.invokevirtual 64, 3) := by decide +kernel
theorem dL_law_463 : decode cL_law 463 = .ok (.aload_n 2, 1) := by decide +kernel
theorem dL_law_464 : decode cL_law 464 = .ok (.aload_n 0, 1) := by decide +kernel
theorem dL_law_465 : decode cL_law 465 = .ok (.iload_n 3, 1) := by decide +kernel
theorem dL_law_466 : decode cL_law 466 = .ok (.iconst 1, 1) := by decide +kernel
theorem dL_law_467 : decode cL_law 467 = .ok (.iadd, 1) := by decide +kernel
theorem dL_law_468 : decode cL_law 468 = .ok (.iaload, 1) := by decide +kernel
theorem dL_law_469 : decode cL_law 469 = .ok (.aload_n 0, 1) := by decide +kernel
theorem dL_law_470 : decode cL_law 470 = .ok (.iload_n 3, 1) := by decide +kernel
theorem dL_law_471 : decode cL_law 471 = .ok (.iconst 2, 1) := by decide +kernel
theorem dL_law_472 : decode cL_law 472 = .ok (.iadd, 1) := by decide +kernel
theorem dL_law_473 : decode cL_law 473 = .ok (.iaload, 1) := by decide +kernel
theorem dL_law_474 : decode cL_law 474 = .ok (.aload_n 0, 1) := by decide +kernel
theorem dL_law_475 : decode cL_law 475 = .ok (.iload_n 3, 1) := by decide +kernel
theorem dL_law_476 : decode cL_law 476 = .ok (.iconst 3, 1) := by decide +kernel
theorem dL_law_477 : decode cL_law 477 = .ok (.iadd, 1) := by decide +kernel
theorem dL_law_478 : decode cL_law 478 = .ok (.iaload, 1) := by decide +kernel
theorem dL_law_479 : decode cL_law 479 = .ok (.invokevirtual 68, 3) := by decide +kernel
theorem dL_law_482 : decode cL_law 482 = .ok (.if_icmp .eq 318, 3) := by decide +kernel
theorem dL_law_485 : decode cL_law 485 = .ok (.iconst 0, 1) := by decide +kernel
theorem dL_law_486 : decode cL_law 486 = .ok (.ireturn, 1) := by decide +kernel
theorem dL_law_487 : decode cL_law 487 = .ok (.aload_n 1, 1) := by decide +kernel
theorem dL_law_488 : decode cL_law 488 = .ok (.aload_n 0, 1) := by decide +kernel
theorem dL_law_489 : decode cL_law 489 = .ok (.iload_n 3, 1) := by decide +kernel
theorem dL_law_490 : decode cL_law 490 = .ok (.iconst 1, 1) := by decide +kernel
theorem dL_law_491 : decode cL_law 491 = .ok (.iadd, 1) := by decide +kernel
theorem dL_law_492 : decode cL_law 492 = .ok (.iaload, 1) := by decide +kernel
theorem dL_law_493 : decode cL_law 493 = .ok (.aload_n 0, 1) := by decide +kernel
theorem dL_law_494 : decode cL_law 494 = .ok (.iload_n 3, 1) := by decide +kernel
theorem dL_law_495 : decode cL_law 495 = .ok (.iconst 2, 1) := by decide +kernel
theorem dL_law_496 : decode cL_law 496 = .ok (.iadd, 1) := by decide +kernel
theorem dL_law_497 : decode cL_law 497 = .ok (.iaload, 1) := by decide +kernel
theorem dL_law_498 : decode cL_law 498 = .ok (.aload_n 0, 1) := by decide +kernel
theorem dL_law_499 : decode cL_law 499 = .ok (.iload_n 3, 1) := by decide +kernel
theorem dL_law_500 : decode cL_law 500 = .ok (.iconst 3, 1) := by decide +kernel
theorem dL_law_501 : decode cL_law 501 = .ok (.iadd, 1) := by decide +kernel
theorem dL_law_502 : decode cL_law 502 = .ok (.iaload, 1) := by decide +kernel
theorem dL_law_503 : decode cL_law 503 = .ok (.invokevirtual 69, 3) := by decide +kernel
theorem dL_law_506 : decode cL_law 506 = .ok (.aload_n 2, 1) := by decide +kernel
theorem dL_law_507 : decode cL_law 507 = .ok (.aload_n 0, 1) := by decide +kernel
theorem dL_law_508 : decode cL_law 508 = .ok (.iload_n 3, 1) := by decide +kernel
theorem dL_law_509 : decode cL_law 509 = .ok (.iconst 1, 1) := by decide +kernel
theorem dL_law_510 : decode cL_law 510 = .ok (.iadd, 1) := by decide +kernel
theorem dL_law_511 : decode cL_law 511 = .ok (.iaload, 1) := by decide +kernel
theorem dL_law_512 : decode cL_law 512 = .ok (.aload_n 0, 1) := by decide +kernel
theorem dL_law_513 : decode cL_law 513 = .ok (.iload_n 3, 1) := by decide +kernel
theorem dL_law_514 : decode cL_law 514 = .ok (.iconst 2, 1) := by decide +kernel
theorem dL_law_515 : decode cL_law 515 = .ok (.iadd, 1) := by decide +kernel
theorem dL_law_516 : decode cL_law 516 = .ok (.iaload, 1) := by decide +kernel
theorem dL_law_517 : decode cL_law 517 = .ok (.aload_n 0, 1) := by decide +kernel
theorem dL_law_518 : decode cL_law 518 = .ok (.iload_n 3, 1) := by decide +kernel
theorem dL_law_519 : decode cL_law 519 = .ok (.iconst 3, 1) := by decide +kernel
theorem dL_law_520 : decode cL_law 520 = .ok (.iadd, 1) := by decide +kernel
theorem dL_law_521 : decode cL_law 521 = .ok (.iaload, 1) := by decide +kernel
theorem dL_law_522 : decode cL_law 522 = .ok (.invokevirtual 72, 3) := by decide +kernel
theorem dL_law_525 : decode cL_law 525 = .ok (.if_icmp .eq 275, 3) := by decide +kernel
theorem dL_law_528 : decode cL_law 528 = .ok (.iconst 0, 1) := by decide +kernel
theorem dL_law_529 : decode cL_law 529 = .ok (.ireturn, 1) := by decide +kernel
theorem dL_law_530 : decode cL_law 530 = .ok (.aload_n 1, 1) := by decide +kernel
theorem dL_law_531 : decode cL_law 531 = .ok (.aload_n 0, 1) := by decide +kernel
theorem dL_law_532 : decode cL_law 532 = .ok (.iload_n 3, 1) := by decide +kernel
theorem dL_law_533 : decode cL_law 533 = .ok (.iconst 1, 1) := by decide +kernel
theorem dL_law_534 : decode cL_law 534 = .ok (.iadd, 1) := by decide +kernel
theorem dL_law_535 : decode cL_law 535 = .ok (.iaload, 1) := by decide +kernel
theorem dL_law_536 : decode cL_law 536 = .ok (.aload_n 0, 1) := by decide +kernel
theorem dL_law_537 : decode cL_law 537 = .ok (.iload_n 3, 1) := by decide +kernel
theorem dL_law_538 : decode cL_law 538 = .ok (.iconst 2, 1) := by decide +kernel
theorem dL_law_539 : decode cL_law 539 = .ok (.iadd, 1) := by decide +kernel
theorem dL_law_540 : decode cL_law 540 = .ok (.iaload, 1) := by decide +kernel
theorem dL_law_541 : decode cL_law 541 = .ok (.aload_n 0, 1) := by decide +kernel
theorem dL_law_542 : decode cL_law 542 = .ok (.iload_n 3, 1) := by decide +kernel
theorem dL_law_543 : decode cL_law 543 = .ok (.iconst 3, 1) := by decide +kernel
theorem dL_law_544 : decode cL_law 544 = .ok (.iadd, 1) := by decide +kernel
theorem dL_law_545 : decode cL_law 545 = .ok (.iaload, 1) := by decide +kernel
theorem dL_law_546 : decode cL_law 546 = .ok (.invokevirtual 73, 3) := by decide +kernel
theorem dL_law_549 : decode cL_law 549 = .ok (.aload_n 2, 1) := by decide +kernel
theorem dL_law_550 : decode cL_law 550 = .ok (.aload_n 0, 1) := by decide +kernel
theorem dL_law_551 : decode cL_law 551 = .ok (.iload_n 3, 1) := by decide +kernel
theorem dL_law_552 : decode cL_law 552 = .ok (.iconst 1, 1) := by decide +kernel
theorem dL_law_553 : decode cL_law 553 = .ok (.iadd, 1) := by decide +kernel
theorem dL_law_554 : decode cL_law 554 = .ok (.iaload, 1) := by decide +kernel
theorem dL_law_555 : decode cL_law 555 = .ok (.aload_n 0, 1) := by decide +kernel
theorem dL_law_556 : decode cL_law 556 = .ok (.iload_n 3, 1) := by decide +kernel
theorem dL_law_557 : decode cL_law 557 = .ok (.iconst 2, 1) := by decide +kernel
theorem dL_law_558 : decode cL_law 558 = .ok (.iadd, 1) := by decide +kernel
theorem dL_law_559 : decode cL_law 559 = .ok (.iaload, 1) := by decide +kernel
theorem dL_law_560 : decode cL_law 560 = .ok (.aload_n 0, 1) := by decide +kernel
theorem dL_law_561 : decode cL_law 561 = .ok (.iload_n 3, 1) := by decide +kernel
theorem dL_law_562 : decode cL_law 562 = .ok (.iconst 3, 1) := by decide +kernel
theorem dL_law_563 : decode cL_law 563 = .ok (.iadd, 1) := by decide +kernel
theorem dL_law_564 : decode cL_law 564 = .ok (.iaload, 1) := by decide +kernel
theorem dL_law_565 : decode cL_law 565 = .ok (.invokevirtual 76, 3) := by decide +kernel
theorem dL_law_568 : decode cL_law 568 = .ok (.if_icmp .eq 232, 3) := by decide +kernel
theorem dL_law_571 : decode cL_law 571 = .ok (.iconst 0, 1) := by decide +kernel
theorem dL_law_572 : decode cL_law 572 = .ok (.ireturn, 1) := by decide +kernel
theorem dL_law_573 : decode cL_law 573 = .ok (.aload_n 1, 1) := by decide +kernel
theorem dL_law_574 : decode cL_law 574 = .ok (.aload_n 0, 1) := by decide +kernel
theorem dL_law_575 : decode cL_law 575 = .ok (.iload_n 3, 1) := by decide +kernel
theorem dL_law_576 : decode cL_law 576 = .ok (.iconst 1, 1) := by decide +kernel
theorem dL_law_577 : decode cL_law 577 = .ok (.iadd, 1) := by decide +kernel
theorem dL_law_578 : decode cL_law 578 = .ok (.iaload, 1) := by decide +kernel
theorem dL_law_579 : decode cL_law 579 = .ok (.aload_n 0, 1) := by decide +kernel
theorem dL_law_580 : decode cL_law 580 = .ok (.iload_n 3, 1) := by decide +kernel
theorem dL_law_581 : decode cL_law 581 = .ok (.iconst 2, 1) := by decide +kernel
theorem dL_law_582 : decode cL_law 582 = .ok (.iadd, 1) := by decide +kernel
theorem dL_law_583 : decode cL_law 583 = .ok (.iaload, 1) := by decide +kernel
theorem dL_law_584 : decode cL_law 584 = .ok (.invokevirtual 77, 3) := by decide +kernel
theorem dL_law_587 : decode cL_law 587 = .ok (.aload_n 2, 1) := by decide +kernel
theorem dL_law_588 : decode cL_law 588 = .ok (.aload_n 0, 1) := by decide +kernel
theorem dL_law_589 : decode cL_law 589 = .ok (.iload_n 3, 1) := by decide +kernel
theorem dL_law_590 : decode cL_law 590 = .ok (.iconst 1, 1) := by decide +kernel
theorem dL_law_591 : decode cL_law 591 = .ok (.iadd, 1) := by decide +kernel
theorem dL_law_592 : decode cL_law 592 = .ok (.iaload, 1) := by decide +kernel
theorem dL_law_593 : decode cL_law 593 = .ok (.aload_n 0, 1) := by decide +kernel
theorem dL_law_594 : decode cL_law 594 = .ok (.iload_n 3, 1) := by decide +kernel
theorem dL_law_595 : decode cL_law 595 = .ok (.iconst 2, 1) := by decide +kernel
theorem dL_law_596 : decode cL_law 596 = .ok (.iadd, 1) := by decide +kernel
theorem dL_law_597 : decode cL_law 597 = .ok (.iaload, 1) := by decide +kernel
theorem dL_law_598 : decode cL_law 598 = .ok (.invokevirtual 80, 3) := by decide +kernel
theorem dL_law_601 : decode cL_law 601 = .ok (.if_icmp .eq 199, 3) := by decide +kernel
theorem dL_law_604 : decode cL_law 604 = .ok (.iconst 0, 1) := by decide +kernel
theorem dL_law_605 : decode cL_law 605 = .ok (.ireturn, 1) := by decide +kernel
theorem dL_law_606 : decode cL_law 606 = .ok (.aload_n 1, 1) := by decide +kernel
theorem dL_law_607 : decode cL_law 607 = .ok (.aload_n 0, 1) := by decide +kernel
theorem dL_law_608 : decode cL_law 608 = .ok (.iload_n 3, 1) := by decide +kernel
theorem dL_law_609 : decode cL_law 609 = .ok (.iconst 1, 1) := by decide +kernel
theorem dL_law_610 : decode cL_law 610 = .ok (.iadd, 1) := by decide +kernel
theorem dL_law_611 : decode cL_law 611 = .ok (.iaload, 1) := by decide +kernel
theorem dL_law_612 : decode cL_law 612 = .ok (.aload_n 0, 1) := by decide +kernel
theorem dL_law_613 : decode cL_law 613 = .ok (.iload_n 3, 1) := by decide +kernel
theorem dL_law_614 : decode cL_law 614 = .ok (.iconst 2, 1) := by decide +kernel
theorem dL_law_615 : decode cL_law 615 = .ok (.iadd, 1) := by decide +kernel
theorem dL_law_616 : decode cL_law 616 = .ok (.iaload, 1) := by decide +kernel
theorem dL_law_617 : decode cL_law 617 = .ok (.invokevirtual 81, 3) := by decide +kernel
theorem dL_law_620 : decode cL_law 620 = .ok (.aload_n 2, 1) := by decide +kernel
theorem dL_law_621 : decode cL_law 621 = .ok (.aload_n 0, 1) := by decide +kernel
theorem dL_law_622 : decode cL_law 622 = .ok (.iload_n 3, 1) := by decide +kernel
theorem dL_law_623 : decode cL_law 623 = .ok (.iconst 1, 1) := by decide +kernel
theorem dL_law_624 : decode cL_law 624 = .ok (.iadd, 1) := by decide +kernel
theorem dL_law_625 : decode cL_law 625 = .ok (.iaload, 1) := by decide +kernel
theorem dL_law_626 : decode cL_law 626 = .ok (.aload_n 0, 1) := by decide +kernel
theorem dL_law_627 : decode cL_law 627 = .ok (.iload_n 3, 1) := by decide +kernel
theorem dL_law_628 : decode cL_law 628 = .ok (.iconst 2, 1) := by decide +kernel
theorem dL_law_629 : decode cL_law 629 = .ok (.iadd, 1) := by decide +kernel
theorem dL_law_630 : decode cL_law 630 = .ok (.iaload, 1) := by decide +kernel
theorem dL_law_631 : decode cL_law 631 = .ok (.invokevirtual 84, 3) := by decide +kernel
theorem dL_law_634 : decode cL_law 634 = .ok (.if_icmp .eq 166, 3) := by decide +kernel
theorem dL_law_637 : decode cL_law 637 = .ok (.iconst 0, 1) := by decide +kernel
theorem dL_law_638 : decode cL_law 638 = .ok (.ireturn, 1) := by decide +kernel
theorem dL_law_639 : decode cL_law 639 = .ok (.aload_n 1, 1) := by decide +kernel
theorem dL_law_640 : decode cL_law 640 = .ok (.aload_n 0, 1) := by decide +kernel
theorem dL_law_641 : decode cL_law 641 = .ok (.iload_n 3, 1) := by decide +kernel
theorem dL_law_642 : decode cL_law 642 = .ok (.iconst 1, 1) := by decide +kernel
theorem dL_law_643 : decode cL_law 643 = .ok (.iadd, 1) := by decide +kernel
theorem dL_law_644 : decode cL_law 644 = .ok (.iaload, 1) := by decide +kernel
theorem dL_law_645 : decode cL_law 645 = .ok (.invokevirtual 85, 3) := by decide +kernel
theorem dL_law_648 : decode cL_law 648 = .ok (.aload_n 2, 1) := by decide +kernel
theorem dL_law_649 : decode cL_law 649 = .ok (.aload_n 0, 1) := by decide +kernel
theorem dL_law_650 : decode cL_law 650 = .ok (.iload_n 3, 1) := by decide +kernel
theorem dL_law_651 : decode cL_law 651 = .ok (.iconst 1, 1) := by decide +kernel
theorem dL_law_652 : decode cL_law 652 = .ok (.iadd, 1) := by decide +kernel
theorem dL_law_653 : decode cL_law 653 = .ok (.iaload, 1) := by decide +kernel
theorem dL_law_654 : decode cL_law 654 = .ok (.invokevirtual 88, 3) := by decide +kernel
theorem dL_law_657 : decode cL_law 657 = .ok (.if_icmp .eq 143, 3) := by decide +kernel
theorem dL_law_660 : decode cL_law 660 = .ok (.iconst 0, 1) := by decide +kernel
theorem dL_law_661 : decode cL_law 661 = .ok (.ireturn, 1) := by decide +kernel
theorem dL_law_662 : decode cL_law 662 = .ok (.aload_n 1, 1) := by decide +kernel
theorem dL_law_663 : decode cL_law 663 = .ok (.aload_n 0, 1) := by decide +kernel
theorem dL_law_664 : decode cL_law 664 = .ok (.iload_n 3, 1) := by decide +kernel
theorem dL_law_665 : decode cL_law 665 = .ok (.iconst 1, 1) := by decide +kernel
theorem dL_law_666 : decode cL_law 666 = .ok (.iadd, 1) := by decide +kernel
theorem dL_law_667 : decode cL_law 667 = .ok (.iaload, 1) := by decide +kernel
theorem dL_law_668 : decode cL_law 668 = .ok (.invokevirtual 89, 3) := by decide +kernel
theorem dL_law_671 : decode cL_law 671 = .ok (.aload_n 2, 1) := by decide +kernel
theorem dL_law_672 : decode cL_law 672 = .ok (.aload_n 0, 1) := by decide +kernel
theorem dL_law_673 : decode cL_law 673 = .ok (.iload_n 3, 1) := by decide +kernel
theorem dL_law_674 : decode cL_law 674 = .ok (.iconst 1, 1) := by decide +kernel
theorem dL_law_675 : decode cL_law 675 = .ok (.iadd, 1) := by decide +kernel
theorem dL_law_676 : decode cL_law 676 = .ok (.iaload, 1) := by decide +kernel
theorem dL_law_677 : decode cL_law 677 = .ok (.invokevirtual 92, 3) := by decide +kernel
theorem dL_law_680 : decode cL_law 680 = .ok (.if_icmp .eq 120, 3) := by decide +kernel
theorem dL_law_683 : decode cL_law 683 = .ok (.iconst 0, 1) := by decide +kernel
theorem dL_law_684 : decode cL_law 684 = .ok (.ireturn, 1) := by decide +kernel
theorem dL_law_685 : decode cL_law 685 = .ok (.aload_n 1, 1) := by decide +kernel
theorem dL_law_686 : decode cL_law 686 = .ok (.aload_n 0, 1) := by decide +kernel
theorem dL_law_687 : decode cL_law 687 = .ok (.iload_n 3, 1) := by decide +kernel
theorem dL_law_688 : decode cL_law 688 = .ok (.iconst 1, 1) := by decide +kernel
theorem dL_law_689 : decode cL_law 689 = .ok (.iadd, 1) := by decide +kernel
theorem dL_law_690 : decode cL_law 690 = .ok (.iaload, 1) := by decide +kernel
theorem dL_law_691 : decode cL_law 691 = .ok (.invokevirtual 93, 3) := by decide +kernel
theorem dL_law_694 : decode cL_law 694 = .ok (.aload_n 2, 1) := by decide +kernel
theorem dL_law_695 : decode cL_law 695 = .ok (.aload_n 0, 1) := by decide +kernel
theorem dL_law_696 : decode cL_law 696 = .ok (.iload_n 3, 1) := by decide +kernel
theorem dL_law_697 : decode cL_law 697 = .ok (.iconst 1, 1) := by decide +kernel
theorem dL_law_698 : decode cL_law 698 = .ok (.iadd, 1) := by decide +kernel
theorem dL_law_699 : decode cL_law 699 = .ok (.iaload, 1) := by decide +kernel
theorem dL_law_700 : decode cL_law 700 = .ok (.invokevirtual 96, 3) := by decide +kernel
theorem dL_law_703 : decode cL_law 703 = .ok (.if_icmp .eq 97, 3) := by decide +kernel
theorem dL_law_706 : decode cL_law 706 = .ok (.iconst 0, 1) := by decide +kernel
theorem dL_law_707 : decode cL_law 707 = .ok (.ireturn, 1) := by decide +kernel
theorem dL_law_708 : decode cL_law 708 = .ok (.aload_n 1, 1) := by decide +kernel
theorem dL_law_709 : decode cL_law 709 = .ok (.aload_n 0, 1) := by decide +kernel
theorem dL_law_710 : decode cL_law 710 = .ok (.iload_n 3, 1) := by decide +kernel
theorem dL_law_711 : decode cL_law 711 = .ok (.iconst 1, 1) := by decide +kernel
theorem dL_law_712 : decode cL_law 712 = .ok (.iadd, 1) := by decide +kernel
theorem dL_law_713 : decode cL_law 713 = .ok (.iaload, 1) := by decide +kernel
theorem dL_law_714 : decode cL_law 714 = .ok (.aload_n 0, 1) := by decide +kernel
theorem dL_law_715 : decode cL_law 715 = .ok (.iload_n 3, 1) := by decide +kernel
theorem dL_law_716 : decode cL_law 716 = .ok (.iconst 2, 1) := by decide +kernel
theorem dL_law_717 : decode cL_law 717 = .ok (.iadd, 1) := by decide +kernel
theorem dL_law_718 : decode cL_law 718 = .ok (.iaload, 1) := by decide +kernel
theorem dL_law_719 : decode cL_law 719 = .ok (.aload_n 0, 1) := by decide +kernel
theorem dL_law_720 : decode cL_law 720 = .ok (.iload_n 3, 1) := by decide +kernel
theorem dL_law_721 : decode cL_law 721 = .ok (.iconst 3, 1) := by decide +kernel
theorem dL_law_722 : decode cL_law 722 = .ok (.iadd, 1) := by decide +kernel
theorem dL_law_723 : decode cL_law 723 = .ok (.iaload, 1) := by decide +kernel
theorem dL_law_724 : decode cL_law 724 = .ok (.invokevirtual 97, 3) := by decide +kernel
theorem dL_law_727 : decode cL_law 727 = .ok (.aload_n 2, 1) := by decide +kernel
theorem dL_law_728 : decode cL_law 728 = .ok (.aload_n 0, 1) := by decide +kernel
theorem dL_law_729 : decode cL_law 729 = .ok (.iload_n 3, 1) := by decide +kernel
theorem dL_law_730 : decode cL_law 730 = .ok (.iconst 1, 1) := by decide +kernel
theorem dL_law_731 : decode cL_law 731 = .ok (.iadd, 1) := by decide +kernel
theorem dL_law_732 : decode cL_law 732 = .ok (.iaload, 1) := by decide +kernel
theorem dL_law_733 : decode cL_law 733 = .ok (.aload_n 0, 1) := by decide +kernel
theorem dL_law_734 : decode cL_law 734 = .ok (.iload_n 3, 1) := by decide +kernel
theorem dL_law_735 : decode cL_law 735 = .ok (.iconst 2, 1) := by decide +kernel
theorem dL_law_736 : decode cL_law 736 = .ok (.iadd, 1) := by decide +kernel
theorem dL_law_737 : decode cL_law 737 = .ok (.iaload, 1) := by decide +kernel
theorem dL_law_738 : decode cL_law 738 = .ok (.aload_n 0, 1) := by decide +kernel
theorem dL_law_739 : decode cL_law 739 = .ok (.iload_n 3, 1) := by decide +kernel
theorem dL_law_740 : decode cL_law 740 = .ok (.iconst 3, 1) := by decide +kernel
theorem dL_law_741 : decode cL_law 741 = .ok (.iadd, 1) := by decide +kernel
theorem dL_law_742 : decode cL_law 742 = .ok (.iaload, 1) := by decide +kernel
theorem dL_law_743 : decode cL_law 743 = .ok (.invokevirtual 100, 3) := by decide +kernel
theorem dL_law_746 : decode cL_law 746 = .ok (.if_icmp .eq 54, 3) := by decide +kernel
theorem dL_law_749 : decode cL_law 749 = .ok (.iconst 0, 1) := by decide +kernel
theorem dL_law_750 : decode cL_law 750 = .ok (.ireturn, 1) := by decide +kernel
theorem dL_law_751 : decode cL_law 751 = .ok (.aload_n 1, 1) := by decide +kernel
theorem dL_law_752 : decode cL_law 752 = .ok (.invokevirtual 101, 3) := by decide +kernel
theorem dL_law_755 : decode cL_law 755 = .ok (.aload_n 2, 1) := by decide +kernel
theorem dL_law_756 : decode cL_law 756 = .ok (.invokevirtual 104, 3) := by decide +kernel
theorem dL_law_759 : decode cL_law 759 = .ok (.if_icmp .eq 41, 3) := by decide +kernel
theorem dL_law_762 : decode cL_law 762 = .ok (.iconst 0, 1) := by decide +kernel
theorem dL_law_763 : decode cL_law 763 = .ok (.ireturn, 1) := by decide +kernel
theorem dL_law_764 : decode cL_law 764 = .ok (.aload_n 1, 1) := by decide +kernel
theorem dL_law_765 : decode cL_law 765 = .ok (.invokevirtual 105, 3) := by decide +kernel
theorem dL_law_768 : decode cL_law 768 = .ok (.aload_n 2, 1) := by decide +kernel
theorem dL_law_769 : decode cL_law 769 = .ok (.invokevirtual 108, 3) := by decide +kernel
theorem dL_law_772 : decode cL_law 772 = .ok (.if_icmp .eq 28, 3) := by decide +kernel
theorem dL_law_775 : decode cL_law 775 = .ok (.iconst 0, 1) := by decide +kernel
theorem dL_law_776 : decode cL_law 776 = .ok (.ireturn, 1) := by decide +kernel
theorem dL_law_777 : decode cL_law 777 = .ok (.aload_n 1, 1) := by decide +kernel
theorem dL_law_778 : decode cL_law 778 = .ok (.aload_n 0, 1) := by decide +kernel
theorem dL_law_779 : decode cL_law 779 = .ok (.iload_n 3, 1) := by decide +kernel
theorem dL_law_780 : decode cL_law 780 = .ok (.iconst 1, 1) := by decide +kernel
theorem dL_law_781 : decode cL_law 781 = .ok (.iadd, 1) := by decide +kernel
theorem dL_law_782 : decode cL_law 782 = .ok (.iaload, 1) := by decide +kernel
theorem dL_law_783 : decode cL_law 783 = .ok (.invokevirtual 109, 3) := by decide +kernel
theorem dL_law_786 : decode cL_law 786 = .ok (.aload_n 2, 1) := by decide +kernel
theorem dL_law_787 : decode cL_law 787 = .ok (.aload_n 0, 1) := by decide +kernel
theorem dL_law_788 : decode cL_law 788 = .ok (.iload_n 3, 1) := by decide +kernel
theorem dL_law_789 : decode cL_law 789 = .ok (.iconst 1, 1) := by decide +kernel
theorem dL_law_790 : decode cL_law 790 = .ok (.iadd, 1) := by decide +kernel
theorem dL_law_791 : decode cL_law 791 = .ok (.iaload, 1) := by decide +kernel
theorem dL_law_792 : decode cL_law 792 = .ok (.invokevirtual 112, 3) := by decide +kernel
theorem dL_law_795 : decode cL_law 795 = .ok (.if_icmp .eq 5, 3) := by decide +kernel
theorem dL_law_798 : decode cL_law 798 = .ok (.iconst 0, 1) := by decide +kernel
theorem dL_law_799 : decode cL_law 799 = .ok (.ireturn, 1) := by decide +kernel
theorem dL_law_800 : decode cL_law 800 = .ok (.iinc 3 4, 3) := by decide +kernel
theorem dL_law_803 : decode cL_law 803 = .ok (.goto (-785), 3) := by decide +kernel
theorem dL_law_806 : decode cL_law 806 = .ok (.iconst 1, 1) := by decide +kernel
theorem dL_law_807 : decode cL_law 807 = .ok (.ireturn, 1) := by decide +kernel
end
section
/-! one rule an instruction, over the abstract words -/
theorem cl_ws0 : ∀ q ∈ vwCl, ∀ w ∈ u_ws q.1 q.2.1 q.2.2, w ∈ lw_tbl := by decide +kernel
theorem cl_ws1 : ∀ q ∈ vwCl, ∀ w ∈ u_ws q.1 q.2.1 q.2.2, goodWord w = true := by decide +kernel
theorem cl_ws {c : Nat} {C : String} {T : u_T} {n : Nat} (h : vwCl[c]? = some (C, T, n)) : ∀ w ∈ u_ws C T n, w ∈ TB := fun w hw => List.mem_filter.mpr ⟨cl_ws0 _ (List.mem_of_getElem? h) w hw, cl_ws1 _ (List.mem_of_getElem? h) w hw⟩
theorem cl_nm0 : ∀ q ∈ vwCl, ∀ a, a < q.2.2 → ∀ b, b < q.2.2 → a ≠ b → (q.2.1 a).2.1 ≠ (q.2.1 b).2.1 := by decide +kernel
theorem cl_nm {c : Nat} {C : String} {T : u_T} {n : Nat} (h : vwCl[c]? = some (C, T, n)) : ∀ a, a < n → ∀ b, b < n → a ≠ b → (T a).2.1 ≠ (T b).2.1 := cl_nm0 _ (List.mem_of_getElem? h)
theorem cl_ty0 : ∀ c, c < 11 → ∀ k, k < nfc c → (vwCl[c]?.bind (fun q => parseFieldDescriptor (q.2.1 k).2.2.1)) = some (fty c k) := by decide +kernel
theorem cl_ty {c : Nat} {C : String} {T : u_T} {n : Nat} (h : vwCl[c]? = some (C, T, n)) : ∀ k, k < n → parseFieldDescriptor (T k).2.2.1 = some (fty c k) := fun k hk => by
  have h1 := cl_ty0 c (vw_lt h) k (by rw [nfc_of h]; exact hk)
  rw [h] at h1
  exact h1
theorem cum_le {a b : Nat} (h : a ≤ b) : cum a ≤ cum b := by
  induction b with
  | zero => rw [show a = 0 by omega]; exact Nat.le_refl _
  | succ n ih =>
    by_cases e : a = n + 1
    · rw [e]; exact Nat.le_refl _
    · exact Nat.le_trans (ih (by omega)) (Nat.le_add_right _ _)
theorem bi_ok {n : Int} (h : -128 ≤ n ∧ n ≤ 127) : (Int8.ofInt n).toInt32 = i32 n := by
  apply Int32.toInt_inj.mp
  rw [Int8.toInt_toInt32, Int8.toInt_ofInt_of_le (by omega) (by omega), i32_toInt ⟨by omega, by omega⟩]
theorem si_ok {n : Int} (h : -32768 ≤ n ∧ n ≤ 32767) : (Int16.ofInt n).toInt32 = i32 n := by
  apply Int32.toInt_inj.mp
  rw [Int16.toInt_toInt32, Int16.toInt_ofInt_of_le (by omega) (by omega), i32_toInt ⟨by omega, by omega⟩]
section RULES
variable {K : KT} {mt : MI} {Q : QT} {pc pc' : Nat} {L L' S S' : List AV} {I : II} {R : RR} {N : Nat}
theorem wp_step (h : ∀ (p : Program) (l : Launch) (e : Env) (Rm : Room) (s : State) (m : MethodId) (args : Array Value) (below : List Frame) (meth : Method) (c : Code) (H : Heap) (locs : List Loc) (cells slots : Nat) (QQ : State → Prop) (ls : Array Slot) (ρ : Nat → Nat), p.tables.exec = Jvm.exec → c.code = mt.2.1 → LR ρ ls mt.2.2.1 L → s.vm.findClass mt.1.cls = some m.cls → (∀ w ∈ TB, w.before args s = true) → W p l e Rm s m args below meth c H locs cells slots QQ (F0 m pc' ls (S'.map (cv ρ))) → W p l e Rm s m args below meth c H locs cells slots QQ (F0 m pc ls (S.map (cv ρ))))
    (k : wp K mt Q pc' L S' I R N) : wp K mt Q pc L S I R N := by
  intro p l e Rm s m args below meth c A D ρ0 ca0 N0 QQ g H locs ls ρ ca hs
  exact h p l e Rm s m args below meth c H locs _ _ QQ ls ρ g.1 g.2.1 hs.2.2.2.1 g.2.2.2.1 g.2.2.2.2.1 (k p l e Rm s m args below meth c A D ρ0 ca0 N0 QQ g H locs ls ρ ca hs)
theorem wp_store (h : ∀ (p : Program) (l : Launch) (e : Env) (Rm : Room) (s : State) (m : MethodId) (args : Array Value) (below : List Frame) (meth : Method) (c : Code) (H : Heap) (locs : List Loc) (cells slots : Nat) (QQ : State → Prop) (ls : Array Slot) (ρ : Nat → Nat), p.tables.exec = Jvm.exec → c.code = mt.2.1 → LR ρ ls mt.2.2.1 L → (∀ ls' : Array Slot, LR ρ ls' mt.2.2.1 L' → W p l e Rm s m args below meth c H locs cells slots QQ (F0 m pc' ls' (S'.map (cv ρ)))) → W p l e Rm s m args below meth c H locs cells slots QQ (F0 m pc ls (S.map (cv ρ))))
    (k : wp K mt Q pc' L' S' I R N) : wp K mt Q pc L S I R N := by
  intro p l e Rm s m args below meth c A D ρ0 ca0 N0 QQ g H locs ls ρ ca ⟨h1, h2, h3, h4, h5⟩
  exact h p l e Rm s m args below meth c H locs _ _ QQ ls ρ g.1 g.2.1 h4 (fun ls' h4' => k p l e Rm s m args below meth c A D ρ0 ca0 N0 QQ g H locs ls' ρ ca ⟨h1, h2, h3, h4', h5⟩)
/-- fewer values are known -/
theorem wp_drop (hl : leL L' L = true) (k : wp K mt Q pc L' S I R N) : wp K mt Q pc L S I R N := by
  intro p l e Rm s m args below meth c A D ρ0 ca0 N0 QQ g H locs ls ρ ca ⟨h1, h2, h3, h4, h5⟩
  exact k p l e Rm s m args below meth c A D ρ0 ca0 N0 QQ g H locs ls ρ ca ⟨h1, h2, h3, h4.le hl, h5⟩

theorem wp_iconst {n : Int}  (hd : decode mt.2.1 pc = .ok (.iconst n, 1)) (hp : pc + 1 = pc') (kk : wp K mt Q pc' L (vI n :: S) I R N) : wp K mt Q pc L (S) I R N := by
  subst hp
  refine wp_step (fun p l e Rm s m args below meth c H locs cells slots QQ ls ρ hx hb hl hown hts k => ?_) kk
  exact lv_iconst hx hb hd rfl k

theorem wp_bipush {n : Int} (hn : -128 ≤ n ∧ n ≤ 127)  (hd : decode mt.2.1 pc = .ok (.bipush n, 2)) (hp : pc + 2 = pc') (kk : wp K mt Q pc' L (vI n :: S) I R N) : wp K mt Q pc L (S) I R N := by
  subst hp
  refine wp_step (fun p l e Rm s m args below meth c H locs cells slots QQ ls ρ hx hb hl hown hts k => ?_) kk
  exact lv_bipush hx hb hd (bi_ok hn) k

theorem wp_sipush {n : Int} (hn : -32768 ≤ n ∧ n ≤ 32767)  (hd : decode mt.2.1 pc = .ok (.sipush n, 3)) (hp : pc + 3 = pc') (kk : wp K mt Q pc' L (vI n :: S) I R N) : wp K mt Q pc L (S) I R N := by
  subst hp
  refine wp_step (fun p l e Rm s m args below meth c H locs cells slots QQ ls ρ hx hb hl hown hts k => ?_) kk
  exact lv_sipush hx hb hd (si_ok hn) k

theorem wp_lconst {n : Fin 2}  (hd : decode mt.2.1 pc = .ok (.lconst n, 1)) (hp : pc + 1 = pc') (kk : wp K mt Q pc' L (vL ((n : Nat) : Int) :: S) I R N) : wp K mt Q pc L (S) I R N := by
  subst hp
  refine wp_step (fun p l e Rm s m args below meth c H locs cells slots QQ ls ρ hx hb hl hown hts k => ?_) kk
  exact lv_lconst hx hb hd (Int64.ofInt_eq_ofNat (n := (n : Nat))).symm k

theorem wp_ldc2 {index : Nat} {v : Int64} {x : Int} (hc : Cond.constantLong mt.1.cls index v ∈ TB) (hv : v = i64 x)  (hd : decode mt.2.1 pc = .ok (.ldc2_w index, 3)) (hp : pc + 3 = pc') (kk : wp K mt Q pc' L (vL x :: S) I R N) : wp K mt Q pc L (S) I R N := by
  subst hp
  refine wp_step (fun p l e Rm s m args below meth c H locs cells slots QQ ls ρ hx hb hl hown hts k => ?_) kk
  subst hv; exact lv_ldc2 hx hb hown (hts _ hc) hd k

theorem wp_iload_n {q : Fin 4} {i : Nat} {x : Int} (hi : (q : Nat) = i) (hL : L[i]? = some (vI x))  (hd : decode mt.2.1 pc = .ok (.iload_n q, 1)) (hp : pc + 1 = pc') (kk : wp K mt Q pc' L (vI x :: S) I R N) : wp K mt Q pc L (S) I R N := by
  subst hp
  refine wp_step (fun p l e Rm s m args below meth c H locs cells slots QQ ls ρ hx hb hl hown hts k => ?_) kk
  exact lv_iload_n hx hb hd hi (hl.at hL) k

theorem wp_iload {i : Nat} {x : Int} (hL : L[i]? = some (vI x))  (hd : decode mt.2.1 pc = .ok (.iload i, 2)) (hp : pc + 2 = pc') (kk : wp K mt Q pc' L (vI x :: S) I R N) : wp K mt Q pc L (S) I R N := by
  subst hp
  refine wp_step (fun p l e Rm s m args below meth c H locs cells slots QQ ls ρ hx hb hl hown hts k => ?_) kk
  exact lv_iload hx hb hd (hl.at hL) k

theorem wp_lload_n {q : Fin 4} {i : Nat} {x : Int} (hi : (q : Nat) = i) (hL : L[i]? = some (vL x))  (hd : decode mt.2.1 pc = .ok (.lload_n q, 1)) (hp : pc + 1 = pc') (kk : wp K mt Q pc' L (vL x :: S) I R N) : wp K mt Q pc L (S) I R N := by
  subst hp
  refine wp_step (fun p l e Rm s m args below meth c H locs cells slots QQ ls ρ hx hb hl hown hts k => ?_) kk
  exact lv_lload_n hx hb hd hi (hl.at hL) k

theorem wp_lload {i : Nat} {x : Int} (hL : L[i]? = some (vL x))  (hd : decode mt.2.1 pc = .ok (.lload i, 2)) (hp : pc + 2 = pc') (kk : wp K mt Q pc' L (vL x :: S) I R N) : wp K mt Q pc L (S) I R N := by
  subst hp
  refine wp_step (fun p l e Rm s m args below meth c H locs cells slots QQ ls ρ hx hb hl hown hts k => ?_) kk
  exact lv_lload hx hb hd (hl.at hL) k

theorem wp_aload_n {q : Fin 4} {i x : Nat} (hi : (q : Nat) = i) (hL : L[i]? = some (vR x))  (hd : decode mt.2.1 pc = .ok (.aload_n q, 1)) (hp : pc + 1 = pc') (kk : wp K mt Q pc' L (vR x :: S) I R N) : wp K mt Q pc L (S) I R N := by
  subst hp
  refine wp_step (fun p l e Rm s m args below meth c H locs cells slots QQ ls ρ hx hb hl hown hts k => ?_) kk
  have hl2 := hl.at hL
  have k : W p l e Rm s m args below meth c H locs cells slots QQ (F0 m (pc + 1) ls (cv ρ (vR x) :: S.map (cv ρ))) := k
  by_cases h0 : x = 0
  · subst h0
    exact lv_aload_nN hx hb hd hi hl2 k
  · rw [cv_pos (by omega)] at k
    rw [show cv ρ (some (.inr (.inr x))) = .ref (ρ x) from cv_pos (by omega)] at hl2
    exact lv_aload_n hx hb hd hi hl2 k

theorem wp_aload {i x : Nat} (hL : L[i]? = some (vR x))  (hd : decode mt.2.1 pc = .ok (.aload i, 2)) (hp : pc + 2 = pc') (kk : wp K mt Q pc' L (vR x :: S) I R N) : wp K mt Q pc L (S) I R N := by
  subst hp
  refine wp_step (fun p l e Rm s m args below meth c H locs cells slots QQ ls ρ hx hb hl hown hts k => ?_) kk
  have hl2 := hl.at hL
  have k : W p l e Rm s m args below meth c H locs cells slots QQ (F0 m (pc + 2) ls (cv ρ (vR x) :: S.map (cv ρ))) := k
  by_cases h0 : x = 0
  · subst h0
    exact lv_aloadN hx hb hd hl2 k
  · rw [cv_pos (by omega)] at k
    rw [show cv ρ (some (.inr (.inr x))) = .ref (ρ x) from cv_pos (by omega)] at hl2
    exact lv_aload hx hb hd hl2 k

theorem wp_anull (hd : decode mt.2.1 pc = .ok (.aconst_null, 1)) (hp : pc + 1 = pc') (kk : wp K mt Q pc' L (vR 0 :: S) I R N) : wp K mt Q pc L (S) I R N := by
  subst hp
  refine wp_step (fun p l e Rm s m args below meth c H locs cells slots QQ ls ρ hx hb hl hown hts k => ?_) kk
  exact lv_null hx hb hd k

theorem wp_iadd {x y : Int}  (hd : decode mt.2.1 pc = .ok (.iadd, 1)) (hp : pc + 1 = pc') (kk : wp K mt Q pc' L (vI (x + y) :: S) I R N) : wp K mt Q pc L (vI y :: vI x :: S) I R N := by
  subst hp
  refine wp_step (fun p l e Rm s m args below meth c H locs cells slots QQ ls ρ hx hb hl hown hts k => ?_) kk
  refine lv_iadd hx hb hd ?_
  rw [i32_add]; exact k

theorem wp_isub {x y : Int}  (hd : decode mt.2.1 pc = .ok (.isub, 1)) (hp : pc + 1 = pc') (kk : wp K mt Q pc' L (vI (x - y) :: S) I R N) : wp K mt Q pc L (vI y :: vI x :: S) I R N := by
  subst hp
  refine wp_step (fun p l e Rm s m args below meth c H locs cells slots QQ ls ρ hx hb hl hown hts k => ?_) kk
  refine lv_isub hx hb hd ?_
  rw [i32_sub]; exact k

theorem wp_imul {x y : Int}  (hd : decode mt.2.1 pc = .ok (.imul, 1)) (hp : pc + 1 = pc') (kk : wp K mt Q pc' L (vI (x * y) :: S) I R N) : wp K mt Q pc L (vI y :: vI x :: S) I R N := by
  subst hp
  refine wp_step (fun p l e Rm s m args below meth c H locs cells slots QQ ls ρ hx hb hl hown hts k => ?_) kk
  refine lv_imul hx hb hd ?_
  rw [i32_mul]; exact k

theorem wp_ineg {x : Int}  (hd : decode mt.2.1 pc = .ok (.ineg, 1)) (hp : pc + 1 = pc') (kk : wp K mt Q pc' L (vI (-x) :: S) I R N) : wp K mt Q pc L (vI x :: S) I R N := by
  subst hp
  refine wp_step (fun p l e Rm s m args below meth c H locs cells slots QQ ls ρ hx hb hl hown hts k => ?_) kk
  refine lv_ineg hx hb hd ?_
  rw [i32_neg]; exact k

theorem wp_idiv {x y : Int} (h : 0 ≤ x ∧ x ≤ 2147483647 ∧ 0 < y ∧ y ≤ 2147483647)  (hd : decode mt.2.1 pc = .ok (.idiv, 1)) (hp : pc + 1 = pc') (kk : wp K mt Q pc' L (vI (x / y) :: S) I R N) : wp K mt Q pc L (vI y :: vI x :: S) I R N := by
  subst hp
  refine wp_step (fun p l e Rm s m args below meth c H locs cells slots QQ ls ρ hx hb hl hown hts k => ?_) kk
  refine lv_idiv hx hb hd (i32_ne0 h.2.2.1 h.2.2.2) ?_
  rw [i32_div h.1 h.2.1 h.2.2.1 h.2.2.2]; exact k

theorem wp_irem {x y : Int} (h : 0 ≤ x ∧ x ≤ 2147483647 ∧ 0 < y ∧ y ≤ 2147483647)  (hd : decode mt.2.1 pc = .ok (.irem, 1)) (hp : pc + 1 = pc') (kk : wp K mt Q pc' L (vI (x % y) :: S) I R N) : wp K mt Q pc L (vI y :: vI x :: S) I R N := by
  subst hp
  refine wp_step (fun p l e Rm s m args below meth c H locs cells slots QQ ls ρ hx hb hl hown hts k => ?_) kk
  refine lv_irem hx hb hd (i32_ne0 h.2.2.1 h.2.2.2) ?_
  rw [i32_rem h.1 h.2.1 h.2.2.1 h.2.2.2]; exact k

theorem wp_ldiv {x y : Int} (h : 0 ≤ x ∧ x ≤ 9223372036854775807 ∧ 0 < y ∧ y ≤ 9223372036854775807)  (hd : decode mt.2.1 pc = .ok (.ldiv, 1)) (hp : pc + 1 = pc') (kk : wp K mt Q pc' L (vL (x / y) :: S) I R N) : wp K mt Q pc L (vL y :: vL x :: S) I R N := by
  subst hp
  refine wp_step (fun p l e Rm s m args below meth c H locs cells slots QQ ls ρ hx hb hl hown hts k => ?_) kk
  refine lv_ldiv hx hb hd (i64_ne0 h.2.2.1 h.2.2.2) ?_
  rw [i64_div h.1 h.2.1 h.2.2.1 h.2.2.2]; exact k

theorem wp_lrem {x y : Int} (h : 0 ≤ x ∧ x ≤ 9223372036854775807 ∧ 0 < y ∧ y ≤ 9223372036854775807)  (hd : decode mt.2.1 pc = .ok (.lrem, 1)) (hp : pc + 1 = pc') (kk : wp K mt Q pc' L (vL (x % y) :: S) I R N) : wp K mt Q pc L (vL y :: vL x :: S) I R N := by
  subst hp
  refine wp_step (fun p l e Rm s m args below meth c H locs cells slots QQ ls ρ hx hb hl hown hts k => ?_) kk
  refine lv_lrem hx hb hd (i64_ne0 h.2.2.1 h.2.2.2) ?_
  rw [i64_rem h.1 h.2.1 h.2.2.1 h.2.2.2]; exact k

theorem wp_ladd {x y : Int}  (hd : decode mt.2.1 pc = .ok (.ladd, 1)) (hp : pc + 1 = pc') (kk : wp K mt Q pc' L (vL (x + y) :: S) I R N) : wp K mt Q pc L (vL y :: vL x :: S) I R N := by
  subst hp
  refine wp_step (fun p l e Rm s m args below meth c H locs cells slots QQ ls ρ hx hb hl hown hts k => ?_) kk
  refine lv_ladd hx hb hd ?_
  rw [i64_add]; exact k

theorem wp_lmul {x y : Int}  (hd : decode mt.2.1 pc = .ok (.lmul, 1)) (hp : pc + 1 = pc') (kk : wp K mt Q pc' L (vL (x * y) :: S) I R N) : wp K mt Q pc L (vL y :: vL x :: S) I R N := by
  subst hp
  refine wp_step (fun p l e Rm s m args below meth c H locs cells slots QQ ls ρ hx hb hl hown hts k => ?_) kk
  refine lv_lmul hx hb hd ?_
  rw [i64_mul]; exact k

theorem wp_iand {x y : Int}  (hd : decode mt.2.1 pc = .ok (.iand, 1)) (hp : pc + 1 = pc') (kk : wp K mt Q pc' L (vI (i32 x &&& i32 y).toInt :: S) I R N) : wp K mt Q pc L (vI y :: vI x :: S) I R N := by
  subst hp
  refine wp_step (fun p l e Rm s m args below meth c H locs cells slots QQ ls ρ hx hb hl hown hts k => ?_) kk
  refine lv_iand hx hb hd ?_
  have k : W p l e Rm s m args below meth c H locs cells slots QQ (F0 m (pc + 1) ls (.int (i32 (i32 x &&& i32 y).toInt) :: S.map (cv ρ))) := k
  rw [i32_of] at k; exact k

theorem wp_ior {x y : Int}  (hd : decode mt.2.1 pc = .ok (.ior, 1)) (hp : pc + 1 = pc') (kk : wp K mt Q pc' L (vI (i32 x ||| i32 y).toInt :: S) I R N) : wp K mt Q pc L (vI y :: vI x :: S) I R N := by
  subst hp
  refine wp_step (fun p l e Rm s m args below meth c H locs cells slots QQ ls ρ hx hb hl hown hts k => ?_) kk
  refine lv_ior hx hb hd ?_
  have k : W p l e Rm s m args below meth c H locs cells slots QQ (F0 m (pc + 1) ls (.int (i32 (i32 x ||| i32 y).toInt) :: S.map (cv ρ))) := k
  rw [i32_of] at k; exact k

theorem wp_land {x y : Int}  (hd : decode mt.2.1 pc = .ok (.land, 1)) (hp : pc + 1 = pc') (kk : wp K mt Q pc' L (vL (i64 x &&& i64 y).toInt :: S) I R N) : wp K mt Q pc L (vL y :: vL x :: S) I R N := by
  subst hp
  refine wp_step (fun p l e Rm s m args below meth c H locs cells slots QQ ls ρ hx hb hl hown hts k => ?_) kk
  refine lv_land hx hb hd ?_
  have k : W p l e Rm s m args below meth c H locs cells slots QQ (F0 m (pc + 1) ls (.long (i64 (i64 x &&& i64 y).toInt) :: S.map (cv ρ))) := k
  rw [i64_of] at k; exact k

theorem wp_lor {x y : Int}  (hd : decode mt.2.1 pc = .ok (.lor, 1)) (hp : pc + 1 = pc') (kk : wp K mt Q pc' L (vL (i64 x ||| i64 y).toInt :: S) I R N) : wp K mt Q pc L (vL y :: vL x :: S) I R N := by
  subst hp
  refine wp_step (fun p l e Rm s m args below meth c H locs cells slots QQ ls ρ hx hb hl hown hts k => ?_) kk
  refine lv_lor hx hb hd ?_
  have k : W p l e Rm s m args below meth c H locs cells slots QQ (F0 m (pc + 1) ls (.long (i64 (i64 x ||| i64 y).toInt) :: S.map (cv ρ))) := k
  rw [i64_of] at k; exact k

theorem wp_ishl {x y : Int}  (hd : decode mt.2.1 pc = .ok (.ishl, 1)) (hp : pc + 1 = pc') (kk : wp K mt Q pc' L (vI (i32 x <<< (i32 y &&& 31)).toInt :: S) I R N) : wp K mt Q pc L (vI y :: vI x :: S) I R N := by
  subst hp
  refine wp_step (fun p l e Rm s m args below meth c H locs cells slots QQ ls ρ hx hb hl hown hts k => ?_) kk
  refine lv_ishl hx hb hd ?_
  have k : W p l e Rm s m args below meth c H locs cells slots QQ (F0 m (pc + 1) ls (.int (i32 (i32 x <<< (i32 y &&& 31)).toInt) :: S.map (cv ρ))) := k
  rw [i32_of] at k; exact k

theorem wp_ishr {x y : Int}  (hd : decode mt.2.1 pc = .ok (.ishr, 1)) (hp : pc + 1 = pc') (kk : wp K mt Q pc' L (vI (i32 x >>> (i32 y &&& 31)).toInt :: S) I R N) : wp K mt Q pc L (vI y :: vI x :: S) I R N := by
  subst hp
  refine wp_step (fun p l e Rm s m args below meth c H locs cells slots QQ ls ρ hx hb hl hown hts k => ?_) kk
  refine lv_ishr hx hb hd ?_
  have k : W p l e Rm s m args below meth c H locs cells slots QQ (F0 m (pc + 1) ls (.int (i32 (i32 x >>> (i32 y &&& 31)).toInt) :: S.map (cv ρ))) := k
  rw [i32_of] at k; exact k

theorem wp_lshl {x y : Int}  (hd : decode mt.2.1 pc = .ok (.lshl, 1)) (hp : pc + 1 = pc') (kk : wp K mt Q pc' L (vL (i64 x <<< ((i32 y).toInt64 &&& 63)).toInt :: S) I R N) : wp K mt Q pc L (vI y :: vL x :: S) I R N := by
  subst hp
  refine wp_step (fun p l e Rm s m args below meth c H locs cells slots QQ ls ρ hx hb hl hown hts k => ?_) kk
  refine lv_lshl hx hb hd rfl ?_
  have k : W p l e Rm s m args below meth c H locs cells slots QQ (F0 m (pc + 1) ls (.long (i64 (i64 x <<< ((i32 y).toInt64 &&& 63)).toInt) :: S.map (cv ρ))) := k
  rw [i64_of] at k; exact k

theorem wp_lshr {x y : Int}  (hd : decode mt.2.1 pc = .ok (.lshr, 1)) (hp : pc + 1 = pc') (kk : wp K mt Q pc' L (vL (i64 x >>> ((i32 y).toInt64 &&& 63)).toInt :: S) I R N) : wp K mt Q pc L (vI y :: vL x :: S) I R N := by
  subst hp
  refine wp_step (fun p l e Rm s m args below meth c H locs cells slots QQ ls ρ hx hb hl hown hts k => ?_) kk
  refine lv_lshr hx hb hd rfl ?_
  have k : W p l e Rm s m args below meth c H locs cells slots QQ (F0 m (pc + 1) ls (.long (i64 (i64 x >>> ((i32 y).toInt64 &&& 63)).toInt) :: S.map (cv ρ))) := k
  rw [i64_of] at k; exact k

theorem wp_lushr {x y : Int}  (hd : decode mt.2.1 pc = .ok (.lushr, 1)) (hp : pc + 1 = pc') (kk : wp K mt Q pc' L (vL (((i64 x).toUInt64 >>> ((i32 y).toInt64.toUInt64 &&& Int64.toUInt64 63)).toInt64).toInt :: S) I R N) : wp K mt Q pc L (vI y :: vL x :: S) I R N := by
  subst hp
  refine wp_step (fun p l e Rm s m args below meth c H locs cells slots QQ ls ρ hx hb hl hown hts k => ?_) kk
  refine lv_lushr hx hb hd rfl ?_
  have k : W p l e Rm s m args below meth c H locs cells slots QQ (F0 m (pc + 1) ls (.long (i64 (((i64 x).toUInt64 >>> ((i32 y).toInt64.toUInt64 &&& Int64.toUInt64 63)).toInt64).toInt) :: S.map (cv ρ))) := k
  rw [i64_of] at k; exact k

theorem wp_i2l {x : Int} (h : InI x)  (hd : decode mt.2.1 pc = .ok (.i2l, 1)) (hp : pc + 1 = pc') (kk : wp K mt Q pc' L (vL x :: S) I R N) : wp K mt Q pc L (vI x :: S) I R N := by
  subst hp
  refine wp_step (fun p l e Rm s m args below meth c H locs cells slots QQ ls ρ hx hb hl hown hts k => ?_) kk
  exact lv_i2l hx hb hd (i32_i2l h) k

theorem wp_l2i {x : Int}  (hd : decode mt.2.1 pc = .ok (.l2i, 1)) (hp : pc + 1 = pc') (kk : wp K mt Q pc' L (vI x :: S) I R N) : wp K mt Q pc L (vL x :: S) I R N := by
  subst hp
  refine wp_step (fun p l e Rm s m args below meth c H locs cells slots QQ ls ρ hx hb hl hown hts k => ?_) kk
  exact lv_l2i hx hb hd (i64_l2i x) k

theorem wp_lcmp {x y : Int} (ha : InL x) (hb2 : InL y)  (hd : decode mt.2.1 pc = .ok (.lcmp, 1)) (hp : pc + 1 = pc') (kk : wp K mt Q pc' L (vI (if y < x then 1 else if x = y then 0 else -1) :: S) I R N) : wp K mt Q pc L (vL y :: vL x :: S) I R N := by
  subst hp
  refine wp_step (fun p l e Rm s m args below meth c H locs cells slots QQ ls ρ hx hb hl hown hts k => ?_) kk
  refine W.lcmp hx hb hd ?_
  rw [i64_cmp ha hb2]; exact k

theorem wp_dupI {x : Int}  (hd : decode mt.2.1 pc = .ok (.dup, 1)) (hp : pc + 1 = pc') (kk : wp K mt Q pc' L (vI x :: vI x :: S) I R N) : wp K mt Q pc L (vI x :: S) I R N := by
  subst hp
  refine wp_step (fun p l e Rm s m args below meth c H locs cells slots QQ ls ρ hx hb hl hown hts k => ?_) kk
  exact lv_dup hx hb hd rfl k

theorem wp_dupR {x : Nat}  (hd : decode mt.2.1 pc = .ok (.dup, 1)) (hp : pc + 1 = pc') (kk : wp K mt Q pc' L (vR x :: vR x :: S) I R N) : wp K mt Q pc L (vR x :: S) I R N := by
  subst hp
  refine wp_step (fun p l e Rm s m args below meth c H locs cells slots QQ ls ρ hx hb hl hown hts k => ?_) kk
  exact lv_dup hx hb hd cv_catR k

theorem wp_popI {x : Int}  (hd : decode mt.2.1 pc = .ok (.pop, 1)) (hp : pc + 1 = pc') (kk : wp K mt Q pc' L (S) I R N) : wp K mt Q pc L (vI x :: S) I R N := by
  subst hp
  refine wp_step (fun p l e Rm s m args below meth c H locs cells slots QQ ls ρ hx hb hl hown hts k => ?_) kk
  exact lv_pop hx hb hd rfl k

theorem wp_dup2 {x : Int} {r : Nat}  (hd : decode mt.2.1 pc = .ok (.dup2, 1)) (hp : pc + 1 = pc') (kk : wp K mt Q pc' L (vI x :: vR r :: vI x :: vR r :: S) I R N) : wp K mt Q pc L (vI x :: vR r :: S) I R N := by
  subst hp
  refine wp_step (fun p l e Rm s m args below meth c H locs cells slots QQ ls ρ hx hb hl hown hts k => ?_) kk
  exact lv_dup2_11 hx hb hd rfl cv_catR k

theorem wp_goto {off : Int} {tgt : Nat} (hd : decode mt.2.1 pc = .ok (.goto off, 3)) (ht : (pc : Int) + off = (tgt : Int)) (kk : wp K mt Q tgt L S I R N) : wp K mt Q pc L S I R N :=
  wp_step (fun p l e Rm s m args below meth c H locs cells slots QQ ls ρ hx hb hl hown hts k => lv_goto hx hb hd ht k) kk

theorem wp_ifnull0 {off : Int} {tgt : Nat} (hd : decode mt.2.1 pc = .ok (.ifnull off, 3)) (ht : (pc : Int) + off = (tgt : Int)) (kk : wp K mt Q tgt L S I R N) : wp K mt Q pc L (vR 0 :: S) I R N :=
  wp_step (fun p l e Rm s m args below meth c H locs cells slots QQ ls ρ hx hb hl hown hts k => lv_ifnullN hx hb hd ht k) kk

theorem wp_ifnull1 {off : Int} {x : Nat} (h0 : 0 < x) (hd : decode mt.2.1 pc = .ok (.ifnull off, 3)) (hp : pc + 3 = pc') (kk : wp K mt Q pc' L S I R N) : wp K mt Q pc L (vR x :: S) I R N := by
  subst hp
  refine wp_step (fun p l e Rm s m args below meth c H locs cells slots QQ ls ρ hx hb hl hown hts k => ?_) kk
  show W p l e Rm s m args below meth c H locs cells slots QQ (F0 m pc ls (cv ρ (vR x) :: S.map (cv ρ)))
  rw [cv_pos h0]
  exact lv_ifnull hx hb hd k

theorem wp_istore_n {q : Fin 4} {i : Nat} {x : Int} (hi : (q : Nat) = i) (hlt : i < mt.2.2.1) (ok : okst L i = true) (hd : decode mt.2.1 pc = .ok (.istore_n q, 1)) (hp : pc + 1 = pc') (hL : L.set i (vI x) = L') (kk : wp K mt Q pc' L' S I R N) : wp K mt Q pc L (vI x :: S) I R N := by
  subst hp hL
  refine wp_store (fun p l e Rm s m args below meth c H locs cells slots QQ ls ρ hx hb hl k => ?_) kk
  exact lv_istore_n hx hb hd hi hl.has hlt rfl (fun ls' h' => k ls' (hl.set1 ok h'))

theorem wp_istore {i : Nat} {x : Int} (hlt : i < mt.2.2.1) (ok : okst L i = true) (hd : decode mt.2.1 pc = .ok (.istore i, 2)) (hp : pc + 2 = pc') (hL : L.set i (vI x) = L') (kk : wp K mt Q pc' L' S I R N) : wp K mt Q pc L (vI x :: S) I R N := by
  subst hp hL
  refine wp_store (fun p l e Rm s m args below meth c H locs cells slots QQ ls ρ hx hb hl k => ?_) kk
  exact lv_istore hx hb hd hl.has hlt rfl (fun ls' h' => k ls' (hl.set1 ok h'))

theorem wp_lstore_n {q : Fin 4} {i : Nat} {x : Int} (hi : (q : Nat) = i) (hlt : i + 1 < mt.2.2.1) (ok : okst L i = true) (hd : decode mt.2.1 pc = .ok (.lstore_n q, 1)) (hp : pc + 1 = pc') (hL : (L.set i (vL x)).set (i + 1) none = L') (kk : wp K mt Q pc' L' S I R N) : wp K mt Q pc L (vL x :: S) I R N := by
  subst hp hL
  refine wp_store (fun p l e Rm s m args below meth c H locs cells slots QQ ls ρ hx hb hl k => ?_) kk
  exact lv_lstore_n hx hb hd hi hl.has hlt rfl (fun ls' h' => k ls' (hl.set2 ok h'))

theorem wp_lstore {i : Nat} {x : Int} (hlt : i + 1 < mt.2.2.1) (ok : okst L i = true) (hd : decode mt.2.1 pc = .ok (.lstore i, 2)) (hp : pc + 2 = pc') (hL : (L.set i (vL x)).set (i + 1) none = L') (kk : wp K mt Q pc' L' S I R N) : wp K mt Q pc L (vL x :: S) I R N := by
  subst hp hL
  refine wp_store (fun p l e Rm s m args below meth c H locs cells slots QQ ls ρ hx hb hl k => ?_) kk
  exact lv_lstore hx hb hd hl.has hlt rfl (fun ls' h' => k ls' (hl.set2 ok h'))

theorem wp_astore_n {q : Fin 4} {i x : Nat} (h0 : 0 < x) (hi : (q : Nat) = i) (hlt : i < mt.2.2.1) (ok : okst L i = true) (hd : decode mt.2.1 pc = .ok (.astore_n q, 1)) (hp : pc + 1 = pc') (hL : L.set i (vR x) = L') (kk : wp K mt Q pc' L' S I R N) : wp K mt Q pc L (vR x :: S) I R N := by
  subst hp hL
  refine wp_store (fun p l e Rm s m args below meth c H locs cells slots QQ ls ρ hx hb hl k => ?_) kk
  have hc : cv ρ (vR x) = .ref (ρ x) := cv_pos h0
  show W p l e Rm s m args below meth c H locs cells slots QQ (F0 m pc ls (cv ρ (vR x) :: S.map (cv ρ)))
  rw [hc]
  exact lv_astore_n hx hb hd hi hl.has hlt rfl (fun ls' h' => k ls' (hl.set1 ok (by rw [show cv ρ (some (.inr (.inr x))) = .ref (ρ x) from hc]; exact h')))

theorem wp_astore {i x : Nat} (h0 : 0 < x) (hlt : i < mt.2.2.1) (ok : okst L i = true) (hd : decode mt.2.1 pc = .ok (.astore i, 2)) (hp : pc + 2 = pc') (hL : L.set i (vR x) = L') (kk : wp K mt Q pc' L' S I R N) : wp K mt Q pc L (vR x :: S) I R N := by
  subst hp hL
  refine wp_store (fun p l e Rm s m args below meth c H locs cells slots QQ ls ρ hx hb hl k => ?_) kk
  have hc : cv ρ (vR x) = .ref (ρ x) := cv_pos h0
  show W p l e Rm s m args below meth c H locs cells slots QQ (F0 m pc ls (cv ρ (vR x) :: S.map (cv ρ)))
  rw [hc]
  exact lv_astore hx hb hd hl.has hlt rfl (fun ls' h' => k ls' (hl.set1 ok (by rw [show cv ρ (some (.inr (.inr x))) = .ref (ρ x) from hc]; exact h')))

theorem wp_iinc {i : Nat} {n x : Int} (hl0 : L[i]? = some (vI x)) (hlt : i < mt.2.2.1) (ok : okst L i = true) (hd : decode mt.2.1 pc = .ok (.iinc i n, 3)) (hp : pc + 3 = pc') (hL : L.set i (vI (x + n)) = L') (kk : wp K mt Q pc' L' S I R N) : wp K mt Q pc L S I R N := by
  subst hp hL
  refine wp_store (fun p l e Rm s m args below meth c H locs cells slots QQ ls ρ hx hb hl k => ?_) kk
  have h9 : lv_has ls mt.2.2.1 ((i, .int (i32 x)) :: asc ρ L) := ⟨hl.1, hl.2.1, fun q hq => by
    rcases List.mem_cons.mp hq with rfl | hq
    · exact hl.at hl0
    · exact hl.has.2.2 q hq⟩
  refine lv_iinc (k := 0) hx hb hd h9 rfl (i32_add x n) hlt rfl (fun ls' h' => k ls' (hl.set1 (v := .inl (x + n)) ok ⟨h'.1, h'.2.1, fun q hq => h'.2.2 q ?_⟩))
  rcases List.mem_cons.mp hq with rfl | hq
  · exact List.mem_cons_self
  · refine List.mem_cons_of_mem _ ?_
    rw [List.filter_cons]
    split
    · exact List.mem_cons_of_mem _ hq
    · exact hq

theorem wp_icmp_eq {x y : Int} {off : Int} {tgt : Nat} (ha : InI x) (hb2 : InI y) (hd : decode mt.2.1 pc = .ok (.if_icmp .eq off, 3)) (ht : (pc : Int) + off = (tgt : Int)) (hp : pc + 3 = pc') (kt : x = y → wp K mt Q tgt L S I R N) (kf : ¬ (x = y) → wp K mt Q pc' L S I R N) : wp K mt Q pc L (vI y :: vI x :: S) I R N := by
  subst hp
  intro p l e Rm s m args below meth c A D ρ0 ca0 N0 QQ g H locs ls ρ ca hs
  exact lv_icmp_eq g.1 g.2.1 hd ht (fun h => kt ((i32_eq ha hb2).mp h) p l e Rm s m args below meth c A D ρ0 ca0 N0 QQ g H locs ls ρ ca hs) (fun h => kf (fun h2 => h ((i32_eq ha hb2).mpr h2)) p l e Rm s m args below meth c A D ρ0 ca0 N0 QQ g H locs ls ρ ca hs)

theorem wp_icmp_ne {x y : Int} {off : Int} {tgt : Nat} (ha : InI x) (hb2 : InI y) (hd : decode mt.2.1 pc = .ok (.if_icmp .ne off, 3)) (ht : (pc : Int) + off = (tgt : Int)) (hp : pc + 3 = pc') (kt : ¬ x = y → wp K mt Q tgt L S I R N) (kf : x = y → wp K mt Q pc' L S I R N) : wp K mt Q pc L (vI y :: vI x :: S) I R N := by
  subst hp
  intro p l e Rm s m args below meth c A D ρ0 ca0 N0 QQ g H locs ls ρ ca hs
  exact lv_icmp_ne g.1 g.2.1 hd ht (fun h => kt ((not_congr (i32_eq ha hb2)).mp h) p l e Rm s m args below meth c A D ρ0 ca0 N0 QQ g H locs ls ρ ca hs) (fun h => kf ((i32_eq ha hb2).mp h) p l e Rm s m args below meth c A D ρ0 ca0 N0 QQ g H locs ls ρ ca hs)

theorem wp_icmp_lt {x y : Int} {off : Int} {tgt : Nat} (ha : InI x) (hb2 : InI y) (hd : decode mt.2.1 pc = .ok (.if_icmp .lt off, 3)) (ht : (pc : Int) + off = (tgt : Int)) (hp : pc + 3 = pc') (kt : x < y → wp K mt Q tgt L S I R N) (kf : ¬ (x < y) → wp K mt Q pc' L S I R N) : wp K mt Q pc L (vI y :: vI x :: S) I R N := by
  subst hp
  intro p l e Rm s m args below meth c A D ρ0 ca0 N0 QQ g H locs ls ρ ca hs
  exact lv_icmp_lt g.1 g.2.1 hd ht (fun h => kt ((i32_lt ha hb2).mp h) p l e Rm s m args below meth c A D ρ0 ca0 N0 QQ g H locs ls ρ ca hs) (fun h => kf (fun h2 => h ((i32_lt ha hb2).mpr h2)) p l e Rm s m args below meth c A D ρ0 ca0 N0 QQ g H locs ls ρ ca hs)

theorem wp_icmp_ge {x y : Int} {off : Int} {tgt : Nat} (ha : InI x) (hb2 : InI y) (hd : decode mt.2.1 pc = .ok (.if_icmp .ge off, 3)) (ht : (pc : Int) + off = (tgt : Int)) (hp : pc + 3 = pc') (kt : y ≤ x → wp K mt Q tgt L S I R N) (kf : ¬ (y ≤ x) → wp K mt Q pc' L S I R N) : wp K mt Q pc L (vI y :: vI x :: S) I R N := by
  subst hp
  intro p l e Rm s m args below meth c A D ρ0 ca0 N0 QQ g H locs ls ρ ca hs
  exact lv_icmp_ge g.1 g.2.1 hd ht (fun h => kt ((i32_le hb2 ha).mp h) p l e Rm s m args below meth c A D ρ0 ca0 N0 QQ g H locs ls ρ ca hs) (fun h => kf (fun h2 => h ((i32_le hb2 ha).mpr h2)) p l e Rm s m args below meth c A D ρ0 ca0 N0 QQ g H locs ls ρ ca hs)

theorem wp_icmp_gt {x y : Int} {off : Int} {tgt : Nat} (ha : InI x) (hb2 : InI y) (hd : decode mt.2.1 pc = .ok (.if_icmp .gt off, 3)) (ht : (pc : Int) + off = (tgt : Int)) (hp : pc + 3 = pc') (kt : y < x → wp K mt Q tgt L S I R N) (kf : ¬ (y < x) → wp K mt Q pc' L S I R N) : wp K mt Q pc L (vI y :: vI x :: S) I R N := by
  subst hp
  intro p l e Rm s m args below meth c A D ρ0 ca0 N0 QQ g H locs ls ρ ca hs
  exact lv_icmp_gt g.1 g.2.1 hd ht (fun h => kt ((i32_lt hb2 ha).mp h) p l e Rm s m args below meth c A D ρ0 ca0 N0 QQ g H locs ls ρ ca hs) (fun h => kf (fun h2 => h ((i32_lt hb2 ha).mpr h2)) p l e Rm s m args below meth c A D ρ0 ca0 N0 QQ g H locs ls ρ ca hs)

theorem wp_icmp_le {x y : Int} {off : Int} {tgt : Nat} (ha : InI x) (hb2 : InI y) (hd : decode mt.2.1 pc = .ok (.if_icmp .le off, 3)) (ht : (pc : Int) + off = (tgt : Int)) (hp : pc + 3 = pc') (kt : x ≤ y → wp K mt Q tgt L S I R N) (kf : ¬ (x ≤ y) → wp K mt Q pc' L S I R N) : wp K mt Q pc L (vI y :: vI x :: S) I R N := by
  subst hp
  intro p l e Rm s m args below meth c A D ρ0 ca0 N0 QQ g H locs ls ρ ca hs
  exact lv_icmp_le g.1 g.2.1 hd ht (fun h => kt ((i32_le ha hb2).mp h) p l e Rm s m args below meth c A D ρ0 ca0 N0 QQ g H locs ls ρ ca hs) (fun h => kf (fun h2 => h ((i32_le ha hb2).mpr h2)) p l e Rm s m args below meth c A D ρ0 ca0 N0 QQ g H locs ls ρ ca hs)

theorem wp_if_eq {x : Int} {off : Int} {tgt : Nat} (ha : InI x) (hd : decode mt.2.1 pc = .ok (.ifCond .eq off, 3)) (ht : (pc : Int) + off = (tgt : Int)) (hp : pc + 3 = pc') (kt : x = 0 → wp K mt Q tgt L S I R N) (kf : ¬ (x = 0) → wp K mt Q pc' L S I R N) : wp K mt Q pc L (vI x :: S) I R N := by
  subst hp
  intro p l e Rm s m args below meth c A D ρ0 ca0 N0 QQ g H locs ls ρ ca hs
  have hi : i32 x = 0 ↔ x = 0 := by
    rw [i32_0]; exact i32_eq ha InI_0
  exact lv_if_eq g.1 g.2.1 hd ht (fun h => kt (hi.mp h) p l e Rm s m args below meth c A D ρ0 ca0 N0 QQ g H locs ls ρ ca hs) (fun h => kf (fun h2 => h (hi.mpr h2)) p l e Rm s m args below meth c A D ρ0 ca0 N0 QQ g H locs ls ρ ca hs)

theorem wp_if_ne {x : Int} {off : Int} {tgt : Nat} (ha : InI x) (hd : decode mt.2.1 pc = .ok (.ifCond .ne off, 3)) (ht : (pc : Int) + off = (tgt : Int)) (hp : pc + 3 = pc') (kt : ¬ x = 0 → wp K mt Q tgt L S I R N) (kf : x = 0 → wp K mt Q pc' L S I R N) : wp K mt Q pc L (vI x :: S) I R N := by
  subst hp
  intro p l e Rm s m args below meth c A D ρ0 ca0 N0 QQ g H locs ls ρ ca hs
  have hi : (¬ i32 x = 0) ↔ ¬ x = 0 := by
    rw [i32_0]; exact not_congr (i32_eq ha InI_0)
  exact lv_if_ne g.1 g.2.1 hd ht (fun h => kt (hi.mp h) p l e Rm s m args below meth c A D ρ0 ca0 N0 QQ g H locs ls ρ ca hs) (fun h => kf (by rw [i32_0] at h; exact (i32_eq ha InI_0).mp h) p l e Rm s m args below meth c A D ρ0 ca0 N0 QQ g H locs ls ρ ca hs)

theorem wp_if_lt {x : Int} {off : Int} {tgt : Nat} (ha : InI x) (hd : decode mt.2.1 pc = .ok (.ifCond .lt off, 3)) (ht : (pc : Int) + off = (tgt : Int)) (hp : pc + 3 = pc') (kt : x < 0 → wp K mt Q tgt L S I R N) (kf : ¬ (x < 0) → wp K mt Q pc' L S I R N) : wp K mt Q pc L (vI x :: S) I R N := by
  subst hp
  intro p l e Rm s m args below meth c A D ρ0 ca0 N0 QQ g H locs ls ρ ca hs
  have hi : i32 x < 0 ↔ x < 0 := by
    rw [i32_0]; exact i32_lt ha InI_0
  exact lv_if_lt g.1 g.2.1 hd ht (fun h => kt (hi.mp h) p l e Rm s m args below meth c A D ρ0 ca0 N0 QQ g H locs ls ρ ca hs) (fun h => kf (fun h2 => h (hi.mpr h2)) p l e Rm s m args below meth c A D ρ0 ca0 N0 QQ g H locs ls ρ ca hs)

theorem wp_if_ge {x : Int} {off : Int} {tgt : Nat} (ha : InI x) (hd : decode mt.2.1 pc = .ok (.ifCond .ge off, 3)) (ht : (pc : Int) + off = (tgt : Int)) (hp : pc + 3 = pc') (kt : 0 ≤ x → wp K mt Q tgt L S I R N) (kf : ¬ (0 ≤ x) → wp K mt Q pc' L S I R N) : wp K mt Q pc L (vI x :: S) I R N := by
  subst hp
  intro p l e Rm s m args below meth c A D ρ0 ca0 N0 QQ g H locs ls ρ ca hs
  have hi : 0 ≤ i32 x ↔ 0 ≤ x := by
    rw [i32_0]; exact i32_le InI_0 ha
  exact lv_if_ge g.1 g.2.1 hd ht (fun h => kt (hi.mp h) p l e Rm s m args below meth c A D ρ0 ca0 N0 QQ g H locs ls ρ ca hs) (fun h => kf (fun h2 => h (hi.mpr h2)) p l e Rm s m args below meth c A D ρ0 ca0 N0 QQ g H locs ls ρ ca hs)

theorem wp_if_gt {x : Int} {off : Int} {tgt : Nat} (ha : InI x) (hd : decode mt.2.1 pc = .ok (.ifCond .gt off, 3)) (ht : (pc : Int) + off = (tgt : Int)) (hp : pc + 3 = pc') (kt : 0 < x → wp K mt Q tgt L S I R N) (kf : ¬ (0 < x) → wp K mt Q pc' L S I R N) : wp K mt Q pc L (vI x :: S) I R N := by
  subst hp
  intro p l e Rm s m args below meth c A D ρ0 ca0 N0 QQ g H locs ls ρ ca hs
  have hi : 0 < i32 x ↔ 0 < x := by
    rw [i32_0]; exact i32_lt InI_0 ha
  exact lv_if_gt g.1 g.2.1 hd ht (fun h => kt (hi.mp h) p l e Rm s m args below meth c A D ρ0 ca0 N0 QQ g H locs ls ρ ca hs) (fun h => kf (fun h2 => h (hi.mpr h2)) p l e Rm s m args below meth c A D ρ0 ca0 N0 QQ g H locs ls ρ ca hs)

theorem wp_if_le {x : Int} {off : Int} {tgt : Nat} (ha : InI x) (hd : decode mt.2.1 pc = .ok (.ifCond .le off, 3)) (ht : (pc : Int) + off = (tgt : Int)) (hp : pc + 3 = pc') (kt : x ≤ 0 → wp K mt Q tgt L S I R N) (kf : ¬ (x ≤ 0) → wp K mt Q pc' L S I R N) : wp K mt Q pc L (vI x :: S) I R N := by
  subst hp
  intro p l e Rm s m args below meth c A D ρ0 ca0 N0 QQ g H locs ls ρ ca hs
  have hi : i32 x ≤ 0 ↔ x ≤ 0 := by
    rw [i32_0]; exact i32_le ha InI_0
  exact lv_if_le g.1 g.2.1 hd ht (fun h => kt (hi.mp h) p l e Rm s m args below meth c A D ρ0 ca0 N0 QQ g H locs ls ρ ca hs) (fun h => kf (fun h2 => h (hi.mpr h2)) p l e Rm s m args below meth c A D ρ0 ca0 N0 QQ g H locs ls ρ ca hs)

theorem wp_table {x dflt lo hi : Int} {offs : Array Int} {len tgtD : Nat} (ha : InI x) (hd : decode mt.2.1 pc = .ok (.tableswitch dflt lo hi offs, len)) (ht : (pc : Int) + dflt = (tgtD : Int)) (kd : (x < lo ∨ hi < x) → wp K mt Q tgtD L S I R N)
    (ki : ∀ j : Nat, x = lo + j → lo + j ≤ hi → ∃ (off : Int) (tgt : Nat), offs[j]? = some off ∧ (pc : Int) + off = (tgt : Int) ∧ wp K mt Q tgt L S I R N) : wp K mt Q pc L (vI x :: S) I R N := by
  intro p l e Rm s m args below meth c A D ρ0 ca0 N0 QQ g H locs ls ρ ca hs
  by_cases h : x < lo ∨ hi < x
  · exact lv_tableOut g.1 g.2.1 hd (by rw [i32_toInt ha]; exact h) ht (kd h p l e Rm s m args below meth c A D ρ0 ca0 N0 QQ g H locs ls ρ ca hs)
  · obtain ⟨off, tgt, h1, h2, h3⟩ := ki (x - lo).toNat (by omega) (by omega)
    exact lv_tableIn g.1 g.2.1 hd (by rw [i32_toInt ha]; omega) (by rw [i32_toInt ha]; omega) (by rw [i32_toInt ha]; exact h1) h2 (h3 p l e Rm s m args below meth c A D ρ0 ca0 N0 QQ g H locs ls ρ ca hs)
theorem wp_lookup {x dflt off : Int} {ps : Array (Int × Int)} {len tgt : Nat} (ha : InI x) (hd : decode mt.2.1 pc = .ok (.lookupswitch dflt ps, len)) (hps : (ps.toList.zip (ps.toList.drop 1)).all (fun (a, next) => a.1 < next.1) = true) (ho : Op.lookupswitch.offset ps.toList dflt x = off) (ht : (pc : Int) + off = (tgt : Int)) (kk : wp K mt Q tgt L S I R N) : wp K mt Q pc L (vI x :: S) I R N := by
  intro p l e Rm s m args below meth c A D ρ0 ca0 N0 QQ g H locs ls ρ ca hs
  exact lv_lookup g.1 g.2.1 hd hps (by rw [i32_toInt ha]; exact ho) ht (kk p l e Rm s m args below meth c A D ρ0 ca0 N0 QQ g H locs ls ρ ca hs)

/-- fewer values -/
def leP : List AV → List AV → Prop
  | [], _ => True
  | none :: a, _ :: b => leP a b
  | some x :: a, some y :: b => x = y ∧ leP a b
  | none :: a, [] => leP a []
  | some _ :: _, _ => False
theorem leP_leL : ∀ {a b : List AV}, leP a b → leL a b = true
  | [], _, _ => rfl
  | none :: a, y :: b, h => leP_leL (a := a) (b := b) h
  | some x :: a, some y :: b, h => by
    obtain ⟨h1, h2⟩ := h
    simp [leL, h1, leP_leL h2]
  | none :: a, [], h => leP_leL (a := a) (b := []) h
  | some _ :: _, none :: _, h => h.elim
  | some _ :: _, [], h => h.elim
theorem wp_dropP (hl : leP L' L) (k : wp K mt Q pc L' S I R N) : wp K mt Q pc L S I R N := wp_drop (leP_leL hl) k

theorem wp_lif_eq {x y : Int} {off : Int} {tgt pc1 : Nat} (ha : InL x) (hb2 : InL y) (hd : decode mt.2.1 pc = .ok (.lcmp, 1)) (hp1 : pc + 1 = pc1) (hd2 : decode mt.2.1 pc1 = .ok (.ifCond .eq off, 3)) (ht : (pc1 : Int) + off = (tgt : Int)) (hp : pc1 + 3 = pc') (kt : x = y → wp K mt Q tgt L S I R N) (kf : ¬ (x = y) → wp K mt Q pc' L S I R N) : wp K mt Q pc L (vL y :: vL x :: S) I R N := by
  refine wp_lcmp ha hb2 hd hp1 (wp_if_eq (by unfold InI; split <;> (try split) <;> omega) hd2 ht hp (fun h => kt ?_) (fun h => kf ?_))
  · revert h; split <;> (try split) <;> omega
  · revert h; split <;> (try split) <;> omega

theorem wp_lif_ne {x y : Int} {off : Int} {tgt pc1 : Nat} (ha : InL x) (hb2 : InL y) (hd : decode mt.2.1 pc = .ok (.lcmp, 1)) (hp1 : pc + 1 = pc1) (hd2 : decode mt.2.1 pc1 = .ok (.ifCond .ne off, 3)) (ht : (pc1 : Int) + off = (tgt : Int)) (hp : pc1 + 3 = pc') (kt : ¬ x = y → wp K mt Q tgt L S I R N) (kf : x = y → wp K mt Q pc' L S I R N) : wp K mt Q pc L (vL y :: vL x :: S) I R N := by
  refine wp_lcmp ha hb2 hd hp1 (wp_if_ne (by unfold InI; split <;> (try split) <;> omega) hd2 ht hp (fun h => kt ?_) (fun h => kf ?_))
  · revert h; split <;> (try split) <;> omega
  · revert h; split <;> (try split) <;> omega

theorem wp_lif_lt {x y : Int} {off : Int} {tgt pc1 : Nat} (ha : InL x) (hb2 : InL y) (hd : decode mt.2.1 pc = .ok (.lcmp, 1)) (hp1 : pc + 1 = pc1) (hd2 : decode mt.2.1 pc1 = .ok (.ifCond .lt off, 3)) (ht : (pc1 : Int) + off = (tgt : Int)) (hp : pc1 + 3 = pc') (kt : x < y → wp K mt Q tgt L S I R N) (kf : ¬ (x < y) → wp K mt Q pc' L S I R N) : wp K mt Q pc L (vL y :: vL x :: S) I R N := by
  refine wp_lcmp ha hb2 hd hp1 (wp_if_lt (by unfold InI; split <;> (try split) <;> omega) hd2 ht hp (fun h => kt ?_) (fun h => kf ?_))
  · revert h; split <;> (try split) <;> omega
  · revert h; split <;> (try split) <;> omega

theorem wp_lif_ge {x y : Int} {off : Int} {tgt pc1 : Nat} (ha : InL x) (hb2 : InL y) (hd : decode mt.2.1 pc = .ok (.lcmp, 1)) (hp1 : pc + 1 = pc1) (hd2 : decode mt.2.1 pc1 = .ok (.ifCond .ge off, 3)) (ht : (pc1 : Int) + off = (tgt : Int)) (hp : pc1 + 3 = pc') (kt : y ≤ x → wp K mt Q tgt L S I R N) (kf : ¬ (y ≤ x) → wp K mt Q pc' L S I R N) : wp K mt Q pc L (vL y :: vL x :: S) I R N := by
  refine wp_lcmp ha hb2 hd hp1 (wp_if_ge (by unfold InI; split <;> (try split) <;> omega) hd2 ht hp (fun h => kt ?_) (fun h => kf ?_))
  · revert h; split <;> (try split) <;> omega
  · revert h; split <;> (try split) <;> omega

theorem wp_lif_gt {x y : Int} {off : Int} {tgt pc1 : Nat} (ha : InL x) (hb2 : InL y) (hd : decode mt.2.1 pc = .ok (.lcmp, 1)) (hp1 : pc + 1 = pc1) (hd2 : decode mt.2.1 pc1 = .ok (.ifCond .gt off, 3)) (ht : (pc1 : Int) + off = (tgt : Int)) (hp : pc1 + 3 = pc') (kt : y < x → wp K mt Q tgt L S I R N) (kf : ¬ (y < x) → wp K mt Q pc' L S I R N) : wp K mt Q pc L (vL y :: vL x :: S) I R N := by
  refine wp_lcmp ha hb2 hd hp1 (wp_if_gt (by unfold InI; split <;> (try split) <;> omega) hd2 ht hp (fun h => kt ?_) (fun h => kf ?_))
  · revert h; split <;> (try split) <;> omega
  · revert h; split <;> (try split) <;> omega

theorem wp_lif_le {x y : Int} {off : Int} {tgt pc1 : Nat} (ha : InL x) (hb2 : InL y) (hd : decode mt.2.1 pc = .ok (.lcmp, 1)) (hp1 : pc + 1 = pc1) (hd2 : decode mt.2.1 pc1 = .ok (.ifCond .le off, 3)) (ht : (pc1 : Int) + off = (tgt : Int)) (hp : pc1 + 3 = pc') (kt : x ≤ y → wp K mt Q tgt L S I R N) (kf : ¬ (x ≤ y) → wp K mt Q pc' L S I R N) : wp K mt Q pc L (vL y :: vL x :: S) I R N := by
  refine wp_lcmp ha hb2 hd hp1 (wp_if_le (by unfold InI; split <;> (try split) <;> omega) hd2 ht hp (fun h => kt ?_) (fun h => kf ?_))
  · revert h; split <;> (try split) <;> omega
  · revert h; split <;> (try split) <;> omega

theorem wp_ireturn {x : Int} (hd : decode mt.2.1 pc = .ok (.ireturn, 1)) (hr : mt.2.2.2.1 = some .int) (hN : N = K.1) (h : Q (vI x) I R) : wp K mt Q pc L [vI x] I R N := by
  subst hN
  intro p l e Rm s m args below meth c A D ρ0 ca0 N0 QQ g H locs ls ρ ca hs
  exact g.2.2.2.2.2.2.2.2.2.2.2 pc H locs ls ρ ca L (vI x) I R ⟨by rw [hr]; trivial, hd⟩ h hs

theorem wp_lreturn {x : Int} (hd : decode mt.2.1 pc = .ok (.lreturn, 1)) (hr : mt.2.2.2.1 = some .long) (hN : N = K.1) (h : Q (vL x) I R) : wp K mt Q pc L [vL x] I R N := by
  subst hN
  intro p l e Rm s m args below meth c A D ρ0 ca0 N0 QQ g H locs ls ρ ca hs
  exact g.2.2.2.2.2.2.2.2.2.2.2 pc H locs ls ρ ca L (vL x) I R ⟨by rw [hr]; trivial, hd⟩ h hs

theorem wp_zreturn {x : Int} (hd : decode mt.2.1 pc = .ok (.ireturn, 1)) (hr : mt.2.2.2.1 = some .boolean) (hN : N = K.1) (hx : x = 0 ∨ x = 1) (h : Q (vI x) I R) : wp K mt Q pc L [vI x] I R N := by
  subst hN
  intro p l e Rm s m args below meth c A D ρ0 ca0 N0 QQ g H locs ls ρ ca hs
  exact g.2.2.2.2.2.2.2.2.2.2.2 pc H locs ls ρ ca L (vI x) I R ⟨by rw [hr]; exact hx, hd⟩ h hs
theorem wp_vreturn (hd : decode mt.2.1 pc = .ok (.return_, 1)) (hr : mt.2.2.2.1 = none) (hN : N = K.1) (h : Q none I R) : wp K mt Q pc L [] I R N := by
  subst hN
  intro p l e Rm s m args below meth c A D ρ0 ca0 N0 QQ g H locs ls ρ ca hs
  exact g.2.2.2.2.2.2.2.2.2.2.2 pc H locs ls ρ ca L none I R ⟨by rw [hr]; trivial, hd⟩ h hs

theorem wp_getI {r c0 k n idx : Nat} {C : String} {T : u_T} (hd : decode mt.2.1 pc = .ok (.getfield idx, 3)) (hc : vwCl[c0]? = some (C, T, n)) (hk : k < n) (hr : fref c0 k = false) (lk : Cond.fieldLink mt.1.cls idx (T k).1 (T k).2.1 (T k).2.2.1 ∈ TB) (ho : isO N r c0) (hp : pc + 3 = pc') (kk : wp K mt Q pc' L (vI (I r k) :: S) I R N) : wp K mt Q pc L (vR r :: S) I R N := by
  subst hp
  intro p l e Rm s m args below meth c A D ρ0 ca0 N0 QQ g H locs ls ρ ca hs
  have k9 := kk p l e Rm s m args below meth c A D ρ0 ca0 N0 QQ g H locs ls ρ ca hs
  obtain ⟨h0, hN, hsh⟩ := ho
  show W p l e Rm s m args below meth c H locs _ _ QQ (F0 m pc ls (cv ρ (vR r) :: S.map (cv ρ)))
  rw [cv_pos h0]
  refine va_get (ci := c0) (D := D) (cl := vwCl) (tys := []) (C := C) (T := T) (N := n) (ref := (T k).1) (Ts := TB) g.1 g.2.1 g.2.2.2.2.1 (cl_ws hc) g.2.2.2.1 g.2.2.2.2.2.2.1 hs.1 (r - 1) ((ws_at h0 hN).trans (by rw [cell_obj hsh])) hc k hk (g.2.2.2.2.1 _ lk) (fun _ h9 => h9) (fval_at (by rw [nfc_of hc]; exact hk)) hd ?_
  rw [fval_I hr]
  exact k9

theorem wp_getR {r c0 k n idx : Nat} {C : String} {T : u_T} (hd : decode mt.2.1 pc = .ok (.getfield idx, 3)) (hc : vwCl[c0]? = some (C, T, n)) (hk : k < n) (hr : fref c0 k = true) (lk : Cond.fieldLink mt.1.cls idx (T k).1 (T k).2.1 (T k).2.2.1 ∈ TB) (ho : isO N r c0) (hp : pc + 3 = pc') (kk : wp K mt Q pc' L (vR (R r k) :: S) I R N) : wp K mt Q pc L (vR r :: S) I R N := by
  subst hp
  intro p l e Rm s m args below meth c A D ρ0 ca0 N0 QQ g H locs ls ρ ca hs
  have k9 := kk p l e Rm s m args below meth c A D ρ0 ca0 N0 QQ g H locs ls ρ ca hs
  obtain ⟨h0, hN, hsh⟩ := ho
  show W p l e Rm s m args below meth c H locs _ _ QQ (F0 m pc ls (cv ρ (vR r) :: S.map (cv ρ)))
  rw [cv_pos h0]
  refine va_get (ci := c0) (D := D) (cl := vwCl) (tys := []) (C := C) (T := T) (N := n) (ref := (T k).1) (Ts := TB) g.1 g.2.1 g.2.2.2.2.1 (cl_ws hc) g.2.2.2.1 g.2.2.2.2.2.2.1 hs.1 (r - 1) ((ws_at h0 hN).trans (by rw [cell_obj hsh])) hc k hk (g.2.2.2.2.1 _ lk) (fun _ h9 => h9) (fval_at (by rw [nfc_of hc]; exact hk)) hd ?_
  rw [fval_R hr]
  exact k9

theorem wp_putI {r c0 k n idx : Nat} {C : String} {T : u_T} {x : Int} (hd : decode mt.2.1 pc = .ok (.putfield idx, 3)) (hc : vwCl[c0]? = some (C, T, n)) (hk : k < n) (hr : fref c0 k = false) (hf : (T k).2.2.2 = false) (hty : parseFieldDescriptor (T k).2.2.1 = some .int) (lk : Cond.fieldLink mt.1.cls idx (T k).1 (T k).2.1 (T k).2.2.1 ∈ TB) (ho : isO N r c0) (hp : pc + 3 = pc') {I' : II} (hI : I' = up2 I r k x) (kk : wp K mt Q pc' L S I' R N) : wp K mt Q pc L (vI x :: vR r :: S) I R N := by
  subst hp hI
  intro p l e Rm s m args below meth c A D ρ0 ca0 N0 QQ g H locs ls ρ ca ⟨s1, s2, s3, s4⟩
  obtain ⟨h0, hN, hsh⟩ := ho
  show W p l e Rm s m args below meth c H locs _ _ QQ (F0 m pc ls (.int (i32 x) :: cv ρ (vR r) :: S.map (cv ρ)))
  rw [cv_pos h0]
  refine va_put (ci := c0) (D := D) (cl := vwCl) (tys := []) (C := C) (T := T) (N := n) (ref := (T k).1) (Ts := TB) g.1 g.2.1 g.2.2.2.2.1 (cl_ws hc) (fty c0) (cl_ty hc) (cl_nm hc) g.2.2.2.1 g.2.2.2.2.2.2.1 s1 s2 s3 (r - 1) ((ws_at h0 hN).trans (by rw [cell_obj hsh])) hc k hk (g.2.2.2.2.1 _ lk) (fun _ h9 => h9) hf  hty rfl rfl (by simp [nfc_of hc, hk]) hd (fun H1 locs1 a1 a2 a3 => ?_)
  rw [obj_set_I hr, ws_set (I' := up2 I r k x) (R' := R) h0 (cell_obj hsh) cell_up_I] at a1 a2
  exact kk p l e Rm s m args below meth c A D ρ0 ca0 N0 QQ g H1 locs1 ls ρ ca ⟨a1, a2, a3, s4⟩

theorem wp_putZ {r c0 k n idx : Nat} {C : String} {T : u_T} {x : Int} (hz : x = 0 ∨ x = 1) (hd : decode mt.2.1 pc = .ok (.putfield idx, 3)) (hc : vwCl[c0]? = some (C, T, n)) (hk : k < n) (hr : fref c0 k = false) (hf : (T k).2.2.2 = false) (hty : parseFieldDescriptor (T k).2.2.1 = some .boolean) (lk : Cond.fieldLink mt.1.cls idx (T k).1 (T k).2.1 (T k).2.2.1 ∈ TB) (ho : isO N r c0) (hp : pc + 3 = pc') {I' : II} (hI : I' = up2 I r k x) (kk : wp K mt Q pc' L S I' R N) : wp K mt Q pc L (vI x :: vR r :: S) I R N := by
  subst hp hI
  intro p l e Rm s m args below meth c A D ρ0 ca0 N0 QQ g H locs ls ρ ca ⟨s1, s2, s3, s4⟩
  obtain ⟨h0, hN, hsh⟩ := ho
  show W p l e Rm s m args below meth c H locs _ _ QQ (F0 m pc ls (.int (i32 x) :: cv ρ (vR r) :: S.map (cv ρ)))
  rw [cv_pos h0]
  refine va_put (ci := c0) (D := D) (cl := vwCl) (tys := []) (C := C) (T := T) (N := n) (ref := (T k).1) (Ts := TB) g.1 g.2.1 g.2.2.2.2.1 (cl_ws hc) (fty c0) (cl_ty hc) (cl_nm hc) g.2.2.2.1 g.2.2.2.2.2.2.1 s1 s2 s3 (r - 1) ((ws_at h0 hN).trans (by rw [cell_obj hsh])) hc k hk (g.2.2.2.2.1 _ lk) (fun _ h9 => h9) hf  hty (by rcases hz with rfl | rfl <;> rfl) (by rcases hz with rfl | rfl <;> rfl) (by simp [nfc_of hc, hk]) hd (fun H1 locs1 a1 a2 a3 => ?_)
  rw [obj_set_I hr, ws_set (I' := up2 I r k x) (R' := R) h0 (cell_obj hsh) cell_up_I] at a1 a2
  exact kk p l e Rm s m args below meth c A D ρ0 ca0 N0 QQ g H1 locs1 ls ρ ca ⟨a1, a2, a3, s4⟩

theorem wp_putR {r c0 k n idx : Nat} {C : String} {T : u_T} {x : Nat} {ty : FieldType} (ht : (∃ o, ty = .object o) ∨ ∃ o, ty = .array o) (hd : decode mt.2.1 pc = .ok (.putfield idx, 3)) (hc : vwCl[c0]? = some (C, T, n)) (hk : k < n) (hr : fref c0 k = true) (hf : (T k).2.2.2 = false) (hty : parseFieldDescriptor (T k).2.2.1 = some ty) (lk : Cond.fieldLink mt.1.cls idx (T k).1 (T k).2.1 (T k).2.2.1 ∈ TB) (ho : isO N r c0) (hp : pc + 3 = pc') {R' : RR} (hI : R' = up2 R r k x) (kk : wp K mt Q pc' L S I R' N) : wp K mt Q pc L (vR x :: vR r :: S) I R N := by
  subst hp hI
  intro p l e Rm s m args below meth c A D ρ0 ca0 N0 QQ g H locs ls ρ ca ⟨s1, s2, s3, s4⟩
  obtain ⟨h0, hN, hsh⟩ := ho
  show W p l e Rm s m args below meth c H locs _ _ QQ (F0 m pc ls (va_rf (rfv ρ x) :: cv ρ (vR r) :: S.map (cv ρ)))
  rw [cv_pos h0]
  refine va_put (ci := c0) (D := D) (cl := vwCl) (tys := []) (C := C) (T := T) (N := n) (ref := (T k).1) (Ts := TB) g.1 g.2.1 g.2.2.2.2.1 (cl_ws hc) (fty c0) (cl_ty hc) (cl_nm hc) g.2.2.2.1 g.2.2.2.2.2.2.1 s1 s2 s3 (r - 1) ((ws_at h0 hN).trans (by rw [cell_obj hsh])) hc k hk (g.2.2.2.2.1 _ lk) (fun _ h9 => h9) hf  hty (by rcases ht with ⟨o, rfl⟩ | ⟨o, rfl⟩ <;> (unfold rfv; split <;> rfl)) (by rcases ht with ⟨o, rfl⟩ | ⟨o, rfl⟩ <;> (unfold rfv; split <;> rfl)) (by simp [nfc_of hc, hk]) hd (fun H1 locs1 a1 a2 a3 => ?_)
  rw [obj_set_R hr, ws_set (I' := I) (R' := up2 R r k x) h0 (cell_obj hsh) cell_up_R] at a1 a2
  exact kk p l e Rm s m args below meth c A D ρ0 ca0 N0 QQ g H1 locs1 ls ρ ca ⟨a1, a2, a3, s4⟩

theorem wp_putFI {r c0 k n idx : Nat} {C : String} {T : u_T} {x : Int} (hd : decode mt.2.1 pc = .ok (.putfield idx, 3)) (hc : vwCl[c0]? = some (C, T, n)) (hk : k < n) (hr : fref c0 k = false) (hf : (T k).2.2.2 = true) (hin : mt.1.name = "<init>") (hdc : (T k).1 = mt.1.cls) (hty : parseFieldDescriptor (T k).2.2.1 = some .int) (lk : Cond.fieldLink mt.1.cls idx (T k).1 (T k).2.1 (T k).2.2.1 ∈ TB) (ho : isO N r c0) (hp : pc + 3 = pc') {I' : II} (hI : I' = up2 I r k x) (kk : wp K mt Q pc' L S I' R N) : wp K mt Q pc L (vI x :: vR r :: S) I R N := by
  subst hp hI
  intro p l e Rm s m args below meth c A D ρ0 ca0 N0 QQ g H locs ls ρ ca ⟨s1, s2, s3, s4⟩
  obtain ⟨h0, hN, hsh⟩ := ho
  show W p l e Rm s m args below meth c H locs _ _ QQ (F0 m pc ls (.int (i32 x) :: cv ρ (vR r) :: S.map (cv ρ)))
  rw [cv_pos h0]
  refine va_putF (ci := c0) (D := D) (cl := vwCl) (tys := []) (C := C) (T := T) (N := n) (ref := (T k).1) (Ts := TB) g.1 g.2.1 g.2.2.2.2.1 (cl_ws hc) (fty c0) (cl_ty hc) (cl_nm hc) g.2.2.2.1 g.2.2.2.2.2.2.1 s1 s2 s3 (r - 1) ((ws_at h0 hN).trans (by rw [cell_obj hsh])) hc k hk (g.2.2.2.2.1 _ lk) (fun _ h9 => h9) hf (g.2.2.2.2.2.2.2.2.1.1.trans hin) hdc hty rfl rfl (by simp [nfc_of hc, hk]) hd (fun H1 locs1 a1 a2 a3 => ?_)
  rw [obj_set_I hr, ws_set (I' := up2 I r k x) (R' := R) h0 (cell_obj hsh) cell_up_I] at a1 a2
  exact kk p l e Rm s m args below meth c A D ρ0 ca0 N0 QQ g H1 locs1 ls ρ ca ⟨a1, a2, a3, s4⟩

theorem wp_putFZ {r c0 k n idx : Nat} {C : String} {T : u_T} {x : Int} (hz : x = 0 ∨ x = 1) (hd : decode mt.2.1 pc = .ok (.putfield idx, 3)) (hc : vwCl[c0]? = some (C, T, n)) (hk : k < n) (hr : fref c0 k = false) (hf : (T k).2.2.2 = true) (hin : mt.1.name = "<init>") (hdc : (T k).1 = mt.1.cls) (hty : parseFieldDescriptor (T k).2.2.1 = some .boolean) (lk : Cond.fieldLink mt.1.cls idx (T k).1 (T k).2.1 (T k).2.2.1 ∈ TB) (ho : isO N r c0) (hp : pc + 3 = pc') {I' : II} (hI : I' = up2 I r k x) (kk : wp K mt Q pc' L S I' R N) : wp K mt Q pc L (vI x :: vR r :: S) I R N := by
  subst hp hI
  intro p l e Rm s m args below meth c A D ρ0 ca0 N0 QQ g H locs ls ρ ca ⟨s1, s2, s3, s4⟩
  obtain ⟨h0, hN, hsh⟩ := ho
  show W p l e Rm s m args below meth c H locs _ _ QQ (F0 m pc ls (.int (i32 x) :: cv ρ (vR r) :: S.map (cv ρ)))
  rw [cv_pos h0]
  refine va_putF (ci := c0) (D := D) (cl := vwCl) (tys := []) (C := C) (T := T) (N := n) (ref := (T k).1) (Ts := TB) g.1 g.2.1 g.2.2.2.2.1 (cl_ws hc) (fty c0) (cl_ty hc) (cl_nm hc) g.2.2.2.1 g.2.2.2.2.2.2.1 s1 s2 s3 (r - 1) ((ws_at h0 hN).trans (by rw [cell_obj hsh])) hc k hk (g.2.2.2.2.1 _ lk) (fun _ h9 => h9) hf (g.2.2.2.2.2.2.2.2.1.1.trans hin) hdc hty (by rcases hz with rfl | rfl <;> rfl) (by rcases hz with rfl | rfl <;> rfl) (by simp [nfc_of hc, hk]) hd (fun H1 locs1 a1 a2 a3 => ?_)
  rw [obj_set_I hr, ws_set (I' := up2 I r k x) (R' := R) h0 (cell_obj hsh) cell_up_I] at a1 a2
  exact kk p l e Rm s m args below meth c A D ρ0 ca0 N0 QQ g H1 locs1 ls ρ ca ⟨a1, a2, a3, s4⟩

theorem wp_putFR {r c0 k n idx : Nat} {C : String} {T : u_T} {x : Nat} {ty : FieldType} (ht : (∃ o, ty = .object o) ∨ ∃ o, ty = .array o) (hd : decode mt.2.1 pc = .ok (.putfield idx, 3)) (hc : vwCl[c0]? = some (C, T, n)) (hk : k < n) (hr : fref c0 k = true) (hf : (T k).2.2.2 = true) (hin : mt.1.name = "<init>") (hdc : (T k).1 = mt.1.cls) (hty : parseFieldDescriptor (T k).2.2.1 = some ty) (lk : Cond.fieldLink mt.1.cls idx (T k).1 (T k).2.1 (T k).2.2.1 ∈ TB) (ho : isO N r c0) (hp : pc + 3 = pc') {R' : RR} (hI : R' = up2 R r k x) (kk : wp K mt Q pc' L S I R' N) : wp K mt Q pc L (vR x :: vR r :: S) I R N := by
  subst hp hI
  intro p l e Rm s m args below meth c A D ρ0 ca0 N0 QQ g H locs ls ρ ca ⟨s1, s2, s3, s4⟩
  obtain ⟨h0, hN, hsh⟩ := ho
  show W p l e Rm s m args below meth c H locs _ _ QQ (F0 m pc ls (va_rf (rfv ρ x) :: cv ρ (vR r) :: S.map (cv ρ)))
  rw [cv_pos h0]
  refine va_putF (ci := c0) (D := D) (cl := vwCl) (tys := []) (C := C) (T := T) (N := n) (ref := (T k).1) (Ts := TB) g.1 g.2.1 g.2.2.2.2.1 (cl_ws hc) (fty c0) (cl_ty hc) (cl_nm hc) g.2.2.2.1 g.2.2.2.2.2.2.1 s1 s2 s3 (r - 1) ((ws_at h0 hN).trans (by rw [cell_obj hsh])) hc k hk (g.2.2.2.2.1 _ lk) (fun _ h9 => h9) hf (g.2.2.2.2.2.2.2.2.1.1.trans hin) hdc hty (by rcases ht with ⟨o, rfl⟩ | ⟨o, rfl⟩ <;> (unfold rfv; split <;> rfl)) (by rcases ht with ⟨o, rfl⟩ | ⟨o, rfl⟩ <;> (unfold rfv; split <;> rfl)) (by simp [nfc_of hc, hk]) hd (fun H1 locs1 a1 a2 a3 => ?_)
  rw [obj_set_R hr, ws_set (I' := I) (R' := up2 R r k x) h0 (cell_obj hsh) cell_up_R] at a1 a2
  exact kk p l e Rm s m args below meth c A D ρ0 ca0 N0 QQ g H1 locs1 ls ρ ca ⟨a1, a2, a3, s4⟩

theorem wp_iald {r n : Nat} {i : Int} (hd : decode mt.2.1 pc = .ok (.iaload, 1)) (ho : isA N r 1 n) (hi : 0 ≤ i ∧ i < (n : Int)) {j : Nat} (hj : i.toNat = j) (hp : pc + 1 = pc') (kk : wp K mt Q pc' L (vI (I r j) :: S) I R N) : wp K mt Q pc L (vI i :: vR r :: S) I R N := by
  subst hp hj
  intro p l e Rm s m args below meth c A D ρ0 ca0 N0 QQ g H locs ls ρ ca hs
  have k9 := kk p l e Rm s m args below meth c A D ρ0 ca0 N0 QQ g H locs ls ρ ca hs
  obtain ⟨h0, hN, hsh⟩ := ho
  have hn : n ≤ 1000 := by have := sh_ok r; rw [hsh] at this; exact this
  have hka := hs.2.2.2.2.1 r h0 hN (by rw [hsh]; show ¬ 1 = 0; decide)
  rw [hsh] at hka
  show W p l e Rm s m args below meth c H locs _ _ QQ (F0 m pc ls (.int (i32 i) :: cv ρ (vR r) :: S.map (cv ρ)))
  rw [cv_pos h0]
  refine va_iald (D := D) (cl := vwCl) (tys := [(ca r, aty 1)]) (n := n) (f := fun j => i32 (I r j)) g.1 g.2.1 hka hs.1 (r - 1) 0 ((ws_at h0 hN).trans (by rw [cell_int hsh (by decide) (by decide)])) rfl (i32_in hi.1 hi.2 hn) hd ?_
  rw [i32_cl hi.1 (by omega)]
  exact k9

theorem wp_zald {r n : Nat} {i : Int} (hd : decode mt.2.1 pc = .ok (.baload, 1)) (ho : isA N r 2 n) (hi : 0 ≤ i ∧ i < (n : Int)) {j : Nat} (hj : i.toNat = j) (hp : pc + 1 = pc') (kk : wp K mt Q pc' L (vI (I r j) :: S) I R N) : wp K mt Q pc L (vI i :: vR r :: S) I R N := by
  subst hp hj
  intro p l e Rm s m args below meth c A D ρ0 ca0 N0 QQ g H locs ls ρ ca hs
  have k9 := kk p l e Rm s m args below meth c A D ρ0 ca0 N0 QQ g H locs ls ρ ca hs
  obtain ⟨h0, hN, hsh⟩ := ho
  have hn : n ≤ 1000 := by have := sh_ok r; rw [hsh] at this; exact this
  have hka := hs.2.2.2.2.1 r h0 hN (by rw [hsh]; show ¬ 2 = 0; decide)
  rw [hsh] at hka
  show W p l e Rm s m args below meth c H locs _ _ QQ (F0 m pc ls (.int (i32 i) :: cv ρ (vR r) :: S.map (cv ρ)))
  rw [cv_pos h0]
  refine va_zald (D := D) (cl := vwCl) (tys := [(ca r, aty 2)]) (n := n) (f := fun j => i32 (I r j)) g.1 g.2.1 hka hs.1 (r - 1) 0 ((ws_at h0 hN).trans (by rw [cell_int hsh (by decide) (by decide)])) rfl (i32_in hi.1 hi.2 hn) hd ?_
  rw [i32_cl hi.1 (by omega)]
  exact k9

theorem i32_upd {I : II} {r : Nat} {i : Nat} {x : Int} : upd (fun j => i32 (I r j)) i (i32 x) = fun j => i32 (up2 I r i x r j) := by
  funext j
  unfold upd up2
  by_cases h : j = i
  · rw [if_pos h, if_pos ⟨rfl, h⟩]
  · rw [if_neg h, if_neg (fun q => h q.2)]
theorem nar_z {x : Int} (h : x = 0 ∨ x = 1) : vp_nar .boolean (i32 x) = i32 x := by rcases h with rfl | rfl <;> rfl

theorem wp_iast {r n : Nat} {i x : Int} (hd : decode mt.2.1 pc = .ok (.iastore, 1)) (ho : isA N r 1 n) (hi : 0 ≤ i ∧ i < (n : Int)) {j : Nat} (hj : i.toNat = j) (hp : pc + 1 = pc') {I' : II} (hI : I' = up2 I r j x) (kk : wp K mt Q pc' L S I' R N) : wp K mt Q pc L (vI x :: vI i :: vR r :: S) I R N := by
  subst hj
  subst hp hI
  intro p l e Rm s m args below meth c A D ρ0 ca0 N0 QQ g H locs ls ρ ca ⟨s1, s2, s3, s4, s5, s6⟩
  obtain ⟨h0, hN, hsh⟩ := ho
  have hn : n ≤ 1000 := by have := sh_ok r; rw [hsh] at this; exact this
  have hka := s5 r h0 hN (by rw [hsh]; show ¬ 1 = 0; decide)
  rw [hsh] at hka
  show W p l e Rm s m args below meth c H locs _ _ QQ (F0 m pc ls (.int (i32 x) :: .int (i32 i) :: cv ρ (vR r) :: S.map (cv ρ)))
  rw [cv_pos h0]
  refine va_iast (D := D) (cl := vwCl) (tys := [(ca r, aty 1)]) (n := n) (f := fun j => i32 (I r j)) g.1 g.2.1 hka s1 s2 s3 (r - 1) 0 ((ws_at h0 hN).trans (by rw [cell_int hsh (by decide) (by decide)])) rfl (i32_in hi.1 hi.2 hn) hd (fun H1 locs1 a1 a2 a3 => ?_)
  rw [i32_cl hi.1 (by omega), i32_upd, ws_set (I' := up2 I r i.toNat x) (R' := R) h0 (cell_int hsh (by decide) (by decide)) cell_up_I] at a1 a2
  exact kk p l e Rm s m args below meth c A D ρ0 ca0 N0 QQ g H1 locs1 ls ρ ca ⟨a1, a2, a3, s4, s5, s6⟩

theorem wp_zast {r n : Nat} {i x : Int} (hd : decode mt.2.1 pc = .ok (.bastore, 1)) (ho : isA N r 2 n) (hi : 0 ≤ i ∧ i < (n : Int)) (hz : x = 0 ∨ x = 1) {j : Nat} (hj : i.toNat = j) (hp : pc + 1 = pc') {I' : II} (hI : I' = up2 I r j x) (kk : wp K mt Q pc' L S I' R N) : wp K mt Q pc L (vI x :: vI i :: vR r :: S) I R N := by
  subst hj
  subst hp hI
  intro p l e Rm s m args below meth c A D ρ0 ca0 N0 QQ g H locs ls ρ ca ⟨s1, s2, s3, s4, s5, s6⟩
  obtain ⟨h0, hN, hsh⟩ := ho
  have hn : n ≤ 1000 := by have := sh_ok r; rw [hsh] at this; exact this
  have hka := s5 r h0 hN (by rw [hsh]; show ¬ 2 = 0; decide)
  rw [hsh] at hka
  show W p l e Rm s m args below meth c H locs _ _ QQ (F0 m pc ls (.int (i32 x) :: .int (i32 i) :: cv ρ (vR r) :: S.map (cv ρ)))
  rw [cv_pos h0]
  refine va_zast (D := D) (cl := vwCl) (tys := [(ca r, aty 2)]) (n := n) (f := fun j => i32 (I r j)) g.1 g.2.1 hka s1 s2 s3 (r - 1) 0 ((ws_at h0 hN).trans (by rw [cell_int hsh (by decide) (by decide)])) rfl (i32_in hi.1 hi.2 hn) hd (fun H1 locs1 a1 a2 a3 => ?_)
  rw [i32_cl hi.1 (by omega), nar_z hz, i32_upd, ws_set (I' := up2 I r i.toNat x) (R' := R) h0 (cell_int hsh (by decide) (by decide)) cell_up_I] at a1 a2
  exact kk p l e Rm s m args below meth c A D ρ0 ca0 N0 QQ g H1 locs1 ls ρ ca ⟨a1, a2, a3, s4, s5, s6⟩

end RULES
end
section
/-! contracts in the abstract words, and calls -/
abbrev ST : Type := II × RR × (Nat → Nat) × (Nat → ClassId)
def wldU (D : va_G) (ρ : Nat → Nat) (ca : Nat → ClassId) (I : II) (R : RR) (N : Nat) (U : State) : Prop := va_P D vwCl (wsW ρ ca I R N) U.heap ∧ va_K D vwCl [] U ∧ arK D ca N U ∧ va_D (fun _ => True) (wsW ρ ca I R N) ∧ nbw U
def bwl (D : va_G) (ρ : Nat → Nat) (ca : Nat → ClassId) (N M : Nat) (A : Nat → Prop) (u : ST) (t : State) : Prop := va_P D vwCl (wsW u.2.2.1 u.2.2.2 u.1 u.2.1 M) t.heap ∧ va_K D vwCl [] t ∧ arK D u.2.2.2 M t ∧ va_D A (wsW u.2.2.1 u.2.2.2 u.1 u.2.1 M) ∧ agr u.2.2.1 ρ N M ∧ agr u.2.2.2 ca N M
def QC (ret : Option FieldType) (Q : QT) (D : va_G) (ρ : Nat → Nat) (ca : Nat → ClassId) (N M : Nat) (A : Nat → Prop) : Array Value → State → Outcome → State → Prop :=
  if ret = none then va_Qv (fun u : ST => Q none u.1 u.2.1) (bwl D ρ ca N M A) A
  else if ret = some .long then va_Ql (fun (r : Int64) (u : ST) => ∃ x, r = i64 x ∧ Q (vL x) u.1 u.2.1) (bwl D ρ ca N M A) A
  else va_Qi (fun (r : Int32) (u : ST) => ∃ x, r = i32 x ∧ okret ret (vI x) ∧ Q (vI x) u.1 u.2.1) (bwl D ρ ca N M A) A
def rmO (mt : MI) (N M : Nat) : Room := { frames := mt.2.2.2.2.1, cells := M - N, slots := cum M - cum N, locals := mt.2.2.2.2.2 }
/-- called with these values over this heap (N cells), the method returns with Q, and M cells are there -/
def Spec (mt : MI) (as : List AV) (I : II) (R : RR) (N M : Nat) (Q : QT) : Prop :=
  ∀ (l : Launch) (D : va_G) (ρ : Nat → Nat) (ca : Nat → ClassId) (sz : Nat), Met l mt.1 (wds mt) (rmO mt N M) (va_Pc (as.map (cv ρ)) (fun U => U.heap.size = sz ∧ wldU D ρ ca I R N U)) (QC mt.2.2.2.1 Q D ρ ca N M (va_A (wsW ρ ca I R N) sz)) (M - N) (cum M - cum N) (va_A (wsW ρ ca I R N) sz)
def layL : List AV → List AV
  | [] => []
  | some (.inr (.inl x)) :: vs => some (.inr (.inl x)) :: none :: layL vs
  | v :: vs => v :: layL vs
def entL (n : Nat) (as : List AV) : List AV := layL as ++ List.replicate (n - (layL as).length) none
theorem lay_mem {ρ : Nat → Nat} : ∀ (as : List AV) (i k : Nat) (v : Int ⊕ (Int ⊕ Nat)), (layL as)[k]? = some (some v) → (i + k, cv ρ (some v)) ∈ lv_args i (as.map (cv ρ))
  | [], i, k, v, h => by simp [layL] at h
  | some (.inr (.inl x)) :: vs, i, 0, v, h => by
    simp [layL] at h
    subst h
    exact List.mem_cons_self
  | some (.inr (.inl x)) :: vs, i, 1, v, h => by simp [layL] at h
  | some (.inr (.inl x)) :: vs, i, k + 2, v, h => by
    have h1 : (layL vs)[k]? = some (some v) := by simpa [layL] using h
    refine List.mem_cons_of_mem _ ?_
    have := lay_mem (ρ := ρ) vs (i + 2) k v h1
    rw [show i + (k + 2) = i + 2 + k by omega]
    exact this
  | some (.inl x) :: vs, i, 0, v, h => by
    simp [layL] at h
    subst h
    exact List.mem_cons_self
  | some (.inl x) :: vs, i, k + 1, v, h => by
    have h1 : (layL vs)[k]? = some (some v) := by simpa [layL] using h
    refine List.mem_cons_of_mem _ ?_
    have := lay_mem (ρ := ρ) vs (i + 1) k v h1
    rw [show i + (k + 1) = i + 1 + k by omega]
    exact this
  | some (.inr (.inr r)) :: vs, i, 0, v, h => by
    simp [layL] at h
    subst h
    exact List.mem_cons_self
  | some (.inr (.inr r)) :: vs, i, k + 1, v, h => by
    have h1 : (layL vs)[k]? = some (some v) := by simpa [layL] using h
    refine List.mem_cons_of_mem _ ?_
    have := lay_mem (ρ := ρ) vs (i + 1) k v h1
    rw [show i + (k + 1) = i + 1 + k by omega]
    have hc : ¬ (cv ρ (some (.inr (.inr r)))).category = 2 := by
      have := cv_catR (ρ := ρ) (r := r)
      rw [show cv ρ (some (.inr (.inr r))) = cv ρ (vR r) from rfl]
      omega
    rw [if_neg hc]
    exact this
  | none :: vs, i, 0, v, h => by simp [layL] at h
  | none :: vs, i, k + 1, v, h => by
    have h1 : (layL vs)[k]? = some (some v) := by simpa [layL] using h
    refine List.mem_cons_of_mem _ ?_
    have := lay_mem (ρ := ρ) vs (i + 1) k v h1
    rw [show i + (k + 1) = i + 1 + k by omega]
    exact this
theorem lay_len {ρ : Nat → Nat} : ∀ as : List AV, (lg_sl (as.map (cv ρ))).length = (layL as).length
  | [] => rfl
  | some (.inr (.inl x)) :: vs => by
    have := lay_len (ρ := ρ) vs
    show ([Slot.val (cv ρ (some (.inr (.inl x)))), Slot.second] ++ lg_sl (vs.map (cv ρ))).length = _
    rw [List.length_append, this]
    show 2 + _ = (layL vs).length + 1 + 1
    omega
  | some (.inl x) :: vs => by
    have := lay_len (ρ := ρ) vs
    show ([Slot.val (cv ρ (some (.inl x)))] ++ lg_sl (vs.map (cv ρ))).length = _
    rw [List.length_append, this]
    show 1 + _ = (layL vs).length + 1
    omega
  | some (.inr (.inr r)) :: vs => by
    have := lay_len (ρ := ρ) vs
    have hc : ¬ (cv ρ (some (.inr (.inr r)))).category = 2 := by
      have := cv_catR (ρ := ρ) (r := r)
      rw [show cv ρ (some (.inr (.inr r))) = cv ρ (vR r) from rfl]
      omega
    show ((if (cv ρ (some (.inr (.inr r)))).category = 2 then [Slot.val (cv ρ (some (.inr (.inr r)))), .second] else [.val (cv ρ (some (.inr (.inr r))))]) ++ lg_sl (vs.map (cv ρ))).length = _
    rw [if_neg hc, List.length_append, this]
    show 1 + _ = (layL vs).length + 1
    omega
  | none :: vs => by
    have := lay_len (ρ := ρ) vs
    show ([Slot.val (cv ρ none)] ++ lg_sl (vs.map (cv ρ))).length = _
    rw [List.length_append, this]
    show 1 + _ = (layL vs).length + 1
    omega
theorem ent_LR {ρ : Nat → Nat} {ls : Array Slot} {n : Nat} {as : List AV} (h : lv_has ls n (lv_args 0 (as.map (cv ρ)))) : LR ρ ls n (entL n as) := by
  refine ⟨h.1, h.2.1, fun k v hk => ?_⟩
  unfold entL at hk
  by_cases hl : k < (layL as).length
  · rw [List.getElem?_append_left hl] at hk
    have := h.2.2 _ (lay_mem (ρ := ρ) as 0 k v hk)
    rw [show (0 + k, cv ρ (some v)).1 = k from Nat.zero_add k] at this
    exact this
  · rw [List.getElem?_append_right (by omega), List.getElem?_replicate] at hk
    split at hk
    · cases hk
    · cases hk
theorem okret_n {ret : Option FieldType} (h : okret ret none) : ret = none := by
  cases ret with
  | none => rfl
  | some ty => cases ty <;> simp [okret] at h
theorem okret_i {ret : Option FieldType} {x : Int} (h : okret ret (vI x)) : ret = some .int ∨ (ret = some .boolean ∧ (x = 0 ∨ x = 1)) := by
  cases ret with
  | none => simp [okret, vI] at h
  | some ty => cases ty <;> first | exact Or.inl rfl | exact Or.inr ⟨rfl, h⟩ | (simp [okret, vI] at h)
theorem okret_l {ret : Option FieldType} {x : Int} (h : okret ret (vL x)) : ret = some .long := by
  cases ret with
  | none => simp [okret, vL] at h
  | some ty => cases ty <;> first | rfl | (simp [okret, vL] at h)
theorem okret_r {ret : Option FieldType} {x : Nat} (h : okret ret (vR x)) : False := by
  cases ret with
  | none => simp [okret, vR] at h
  | some ty => cases ty <;> simp [okret, vR] at h
theorem arK.moved {D : va_G} {ca : Nat → ClassId} {N : Nat} {u U : State} (hvm : u.vm.Alike U.vm) (h : arK D ca N u) : arK D ca N U := fun i h0 h1 h2 => va_K.moved hvm (h i h0 h1 h2)
set_option maxHeartbeats 4000000 in
theorem Spec_of_wp {mt : MI} {as L : List AV} {I : II} {R : RR} {N M : Nat} {Q : QT} (hy : plainName mt.1.cls = true) (hL : entL mt.2.2.1 as = L) (hlen : (layL as).length ≤ mt.2.2.1) (hNM : N ≤ M) (hM : M < 1000) (h : wp (M, 0, fun _ => 0) mt Q 0 L [] I R N) : Spec mt as I R N M Q := by
  intro l D ρ ca sz
  refine Met.ofW (cc := mt.2.1) (maxL := mt.2.2.1) (ret := mt.2.2.2.1) hy rfl ?_
  intro p e s m args below meth c s₁ B hml hv
  obtain ⟨rfl, hsz, hP, hK, hAr, hD0, hNb⟩ := hv
  have hts := atoms_spec (ws := wds mt) B.pre
  have hown : s.vm.findClass mt.1.cls = some m.cls := findClass_of_methodNamed B.named
  have hnm : meth.name = mt.1.name := (name_of_methodNamed B.named B.method).1
  have hlocks : meth.locks = false := B.notSynchronized
  have hr := B.returns
  have hx := B.exec
  have hb := B.bytes
  subst hsz
  have hD := hD0.self (sz := s.heap.size)
  have hl := lv_entry (as.map (cv ρ)) (n := mt.2.2.1) (by rw [lay_len]; exact hlen)
  rw [lg_entry_eq]
  generalize (lg_sl (as.map (cv ρ)) ++ List.replicate (mt.2.2.1 - (lg_sl (as.map (cv ρ))).length) Slot.unset).toArray = ls at hl ⊢
  have hLR : LR ρ ls mt.2.2.1 L := by rw [← hL]; exact ent_LR hl
  have h1 := h p l e (rmO mt N M) s m (as.map (cv ρ)).toArray below meth c (va_A (wsW ρ ca I R N) s.heap.size) D ρ ca N (MQ below (QC mt.2.2.2.1 Q D ρ ca N M (va_A (wsW ρ ca I R N) s.heap.size)) (as.map (cv ρ)).toArray s (M - N) (cum M - cum N) (va_A (wsW ρ ca I R N) s.heap.size))
    ⟨hx, hb, hml, hown, fun w hw => hts w (List.mem_cons_of_mem _ hw), fun q h => Or.inr h, hK, ⟨Nat.le_refl _, Nat.le_refl _, Nat.le_refl _, Nat.le_refl _⟩, ⟨hnm, hNb⟩, Or.inl rfl, hM, ?_⟩ s.heap [] ls ρ ca ⟨hP, hD, va_S.rf, hLR, hAr, fun _ _ => rfl, fun _ _ => rfl, Nat.le_refl _⟩
  · rw [Nat.sub_self, Nat.sub_self] at h1
    exact h1
  · intro pc H locs ls' ρ' ca' L' rv I' R' hra hq hs
    obtain ⟨hok, hdec⟩ := hra
    obtain ⟨a1, a2, a3, -, a5, a6, a7, -⟩ := hs
    have fin : ∀ t : State, t.heap = H → s.WarmedH t.vm → bwl D ρ ca N M (va_A (wsW ρ ca I R N) s.heap.size) (I', R', ρ', ca') t := fun t ht hW => ⟨by rw [ht]; exact a1, va_K.moved hW.alike hK, arK.moved hW.alike a5, a2, a6, a7⟩
    rcases rv with _ | x | x | x
    · have hr0 := okret_n hok
      refine W.vret hx hb (hr.trans hr0) (fun t ht hW => ?_) a3.2.2 hdec hlocks
      unfold QC
      rw [if_pos hr0]
      exact ⟨⟨(I', R', ρ', ca'), rfl, hq, fin t ht hW⟩, a3.F ht⟩
    · rcases okret_i hok with hr0 | ⟨hr0, hx01⟩
      · refine W.iret (v := i32 x) hx hb (hr.trans hr0) (fun t ht hW => ?_) a3.2.2 hdec hlocks
        unfold QC
        rw [if_neg (by rw [hr0]; decide), if_neg (by rw [hr0]; decide)]
        exact ⟨⟨i32 x, (I', R', ρ', ca'), rfl, ⟨x, rfl, hok, hq⟩, fin t ht hW⟩, a3.F ht⟩
      · refine W.zret (v := i32 x) (ty := .boolean) hx hb (hr.trans hr0) (by rcases hx01 with rfl | rfl <;> rfl) (fun t ht hW => ?_) a3.2.2 hdec hlocks
        unfold QC
        rw [if_neg (by rw [hr0]; decide), if_neg (by rw [hr0]; decide)]
        exact ⟨⟨i32 x, (I', R', ρ', ca'), rfl, ⟨x, rfl, hok, hq⟩, fin t ht hW⟩, a3.F ht⟩
    · have hr0 := okret_l hok
      refine W.lret (v := i64 x) hx hb (hr.trans hr0) (fun t ht hW => ?_) a3.2.2 hdec hlocks
      unfold QC
      rw [if_neg (by rw [hr0]; decide), if_pos hr0]
      exact ⟨⟨i64 x, (I', R', ρ', ca'), rfl, ⟨x, rfl, hq⟩, fin t ht hW⟩, a3.F ht⟩
    · exact (okret_r hok).elim
/-! calls -/
def okv (N M : Nat) (v : AV) : Prop := match v with
  | some (.inr (.inr r)) => r ≤ N ∨ M < r
  | _ => True
def okP (N M : Nat) (L : List AV) : Prop := ∀ v ∈ L, okv N M v
theorem okP_nil {N M : Nat} : okP N M [] := fun _ h => by cases h
theorem okP_cons {N M : Nat} {v : AV} {L : List AV} (h : okv N M v) (h2 : okP N M L) : okP N M (v :: L) := fun w hw => (List.mem_cons.mp hw).elim (fun e => e ▸ h) (h2 w)
theorem okP_eq {N : Nat} {L : List AV} : okP N N L := fun v _ => by
  rcases v with _ | x | x | r
  · trivial
  · trivial
  · trivial
  · show r ≤ N ∨ N < r
    omega
theorem cv_agr {ρ ρ' : Nat → Nat} {N M : Nat} {v : AV} (h : agr ρ' ρ N M) (hv : okv N M v) : cv ρ' v = cv ρ v := by
  rcases v with _ | x | x | r
  · rfl
  · rfl
  · rfl
  · show va_rf (rfv ρ' r) = va_rf (rfv ρ r)
    unfold rfv
    rw [h r hv]
theorem map_agr {ρ ρ' : Nat → Nat} {N M : Nat} {L : List AV} (h : agr ρ' ρ N M) (hv : okP N M L) : L.map (cv ρ') = L.map (cv ρ) := List.map_congr_left (fun v hv' => cv_agr h (hv v hv'))
theorem LR.agr {ρ ρ' : Nat → Nat} {N M : Nat} {ls : Array Slot} {nL : Nat} {L : List AV} (hl : LR ρ ls nL L) (h : agr ρ' ρ N M) (hv : okP N M L) : LR ρ' ls nL L := ⟨hl.1, hl.2.1, fun k v hk => by
  rw [cv_agr h (hv _ (List.mem_of_getElem? hk))]
  exact hl.2.2 k v hk⟩
theorem agr.trans {α : Type} {f g k : Nat → α} {N0 N M : Nat} (h0 : N0 ≤ N) (h1 : N ≤ M) (a : agr f g N M) (b : agr g k N0 N) : agr f k N0 M := fun r hr => by
  rcases hr with hr | hr
  · rw [a r (Or.inl (by omega)), b r (Or.inl hr)]
  · rw [a r (Or.inr hr), b r (Or.inr (by omega))]
def psh (rv : AV) (rest : List AV) : List AV := match rv with
  | none => rest
  | some v => some v :: rest
def catA (v : AV) : Nat := match v with
  | some (.inr (.inl _)) => 2
  | _ => 1
def catS (L : List AV) : Nat := (L.map catA).sum
theorem catS_eq {ρ : Nat → Nat} : ∀ L : List AV, ((L.map (cv ρ)).map fun v => v.category).sum = catS L
  | [] => rfl
  | v :: L => by
    have ih := catS_eq (ρ := ρ) L
    have h1 : (cv ρ v).category = catA v := by
      rcases v with _ | x | x | r
      · rfl
      · rfl
      · rfl
      · exact cv_catR
    rw [List.map_cons, List.map_cons, List.sum_cons, h1, ih]
    unfold catS
    rw [List.map_cons, List.sum_cons]
section CALL
variable {K : KT} {mt : MI} {Q : QT} {pc pc' : Nat} {L S : List AV} {I : II} {R : RR} {N : Nat}
set_option maxHeartbeats 4000000 in
theorem call_fin {ret : Option FieldType} {Q' : QT} {M' : Nat} {rest : List AV} {p : Program} {l : Launch} {e : Env} {Rm : Room} {s : State} {m : MethodId} {args : Array Value} {below : List Frame} {meth : Method} {c : Code} {A : Nat → Prop} {D : va_G} {ρ0 : Nat → Nat} {ca0 : Nat → ClassId} {N0 : Nat} {QQ : State → Prop} {H : Heap} {locs : List Loc} {ls : Array Slot} {ρ : Nat → Nat} {ca : Nat → ClassId} {st0 : List Value} {a : Array Value}
    (g : good K mt Q p l e Rm s m args below meth c A D ρ0 ca0 N0 QQ) (hs : SM mt s A D ρ0 ca0 N0 H locs ls ρ ca L I R N) (hNM : N ≤ M') (okL : okP N M' L) (okr : okP N M' rest)
    (hrun : va_Run p l e Rm s m args below meth c H locs (N - N0) (cum N - cum N0) (M' - N) (cum M' - cum N) (F0 m pc ls st0) (rest.map (cv ρ)) (QC ret Q' D ρ ca N M' (va_A (wsW ρ ca I R N) H.size) a) (va_A (wsW ρ ca I R N) H.size))
    (kk : ∀ rv I' R', okret ret rv → Q' rv I' R' → wp K mt Q (pc + 3) L (psh rv rest) I' R' M') : W p l e Rm s m args below meth c H locs (N - N0) (cum N - cum N0) QQ (F0 m pc ls st0) := by
  obtain ⟨s1, s2, s3, s4, s5, s6, s7, s8⟩ := hs
  have hF : ∀ q, va_A (wsW ρ ca I R N) H.size q → A q := by
    intro q h
    rcases h with ⟨k, e, h⟩ | h
    · exact s2.2 k (q, e) h
    · exact g.2.2.2.2.2.1 q (Nat.le_trans s3.1 h)
  have hc1 : N - N0 + (M' - N) = M' - N0 := by omega
  have hc2 : cum N - cum N0 + (cum M' - cum N) = cum M' - cum N0 := by
    have h1 := cum_le s8
    have h2 := cum_le hNM
    omega
  have next : ∀ (rv : AV) (u : ST) (t : State) (H1 : Heap) (locs1 : List Loc), okret ret rv → Q' rv u.1 u.2.1 → t.heap = H1 → s.vm.Alike t.vm → bwl D ρ ca N M' (va_A (wsW ρ ca I R N) H.size) u t → va_S A s.heap H1 locs1 →
      W p l e Rm s m args below meth c H1 locs1 (N - N0 + (M' - N)) (cum N - cum N0 + (cum M' - cum N)) QQ (F0 m (pc + 3) ls ((psh rv rest).map (cv u.2.2.1))) := by
    intro rv u t H1 locs1 ho hq ht hvm hB hS
    obtain ⟨b1, b2, b3, b4, b5, b6⟩ := hB
    rw [ht] at b1
    rw [hc1, hc2]
    exact kk rv u.1 u.2.1 ho hq p l e Rm s m args below meth c A D ρ0 ca0 N0 QQ g H1 locs1 ls u.2.2.1 u.2.2.2 ⟨b1, b4.weaken (fun _ _ _ h => hF _ h), hS, s4.agr b5 okL, arK.moved hvm.symm b3, agr.trans s8 hNM b5 s6, agr.trans s8 hNM b6 s7, Nat.le_trans s8 hNM⟩
  unfold QC at hrun
  by_cases h0 : ret = none
  · rw [if_pos h0] at hrun
    refine va_callv hrun s3 (fun q _ h => hF q h) hF (fun u t H1 locs1 ht hvm hw hB hz hk hS => ?_)
    have := next none u t H1 locs1 (by rw [h0]; trivial) hw ht hvm hB hS
    rw [show (psh none rest).map (cv u.2.2.1) = rest.map (cv ρ) from map_agr hB.2.2.2.2.1 okr] at this
    exact this
  · rw [if_neg h0] at hrun
    by_cases h1 : ret = some .long
    · rw [if_pos h1] at hrun
      refine va_calll hrun s3 (fun q _ h => hF q h) hF (fun r u t H1 locs1 ht hvm hw hB hz hk hS => ?_)
      obtain ⟨x, rfl, hq⟩ := hw
      have := next (vL x) u t H1 locs1 (by rw [h1]; trivial) hq ht hvm hB hS
      rw [show (psh (vL x) rest).map (cv u.2.2.1) = .long (i64 x) :: rest.map (cv ρ) from congrArg (fun z => Value.long (i64 x) :: z) (map_agr hB.2.2.2.2.1 okr)] at this
      exact this
    · rw [if_neg h1] at hrun
      refine va_calli hrun s3 (fun q _ h => hF q h) hF (fun r u t H1 locs1 ht hvm hw hB hz hk hS => ?_)
      obtain ⟨x, rfl, hok, hq⟩ := hw
      have := next (vI x) u t H1 locs1 hok hq ht hvm hB hS
      rw [show (psh (vI x) rest).map (cv u.2.2.1) = .int (i32 x) :: rest.map (cv ρ) from congrArg (fun z => Value.int (i32 x) :: z) (map_agr hB.2.2.2.2.1 okr)] at this
      exact this
theorem gin {ws : List Cond} (h : ∀ w ∈ ws, w ∈ TB) : GoodIn TB ws := fun w hw => ⟨h w hw, tb_good (h w hw)⟩
theorem blind {D : va_G} {ρ : Nat → Nat} {ca : Nat → ClassId} {sz : Nat} {av : List Value} : FrameBlind (va_Pc av (fun U => U.heap.size = sz ∧ wldU D ρ ca I R N U)) := fun a U g mk q => by
  obtain ⟨q0, q1, qP, qK, qA, qD, qN⟩ := q
  exact ⟨q0, q1, qP, va_K.moved (u := U) (U := U.calling g mk a) (Vm.Alike.refl U.vm) qK, arK.moved (u := U) (U := U.calling g mk a) (Vm.Alike.refl U.vm) qA, qD, nbw.same (s := U) rfl qN⟩
theorem wds_in {mt' : MI} {n : Nat} (h : mOK mt' n) : ∀ w ∈ wds mt', w ∈ TB := fun w hw => (List.mem_cons.mp hw).elim (fun e => e ▸ h.1) id
theorem pcok {D : va_G} {ρ : Nat → Nat} {ca : Nat → ClassId} {A : Nat → Prop} {s : State} {H : Heap} {av : List Value} (s1 : va_P D vwCl (wsW ρ ca I R N) H) (s2 : va_D A (wsW ρ ca I R N)) (s5 : arK D ca N s) (gK : va_K D vwCl [] s) (gN : nbw s) : ∀ U : State, U.heap = H → s.WarmedH U.vm → va_Pc av (fun U => U.heap.size = H.size ∧ wldU D ρ ca I R N U) av.toArray U :=
  fun U hU hW => ⟨rfl, by rw [hU], by rw [hU]; exact s1, va_K.moved hW.alike gK, arK.moved hW.alike s5, s2.weaken (fun _ _ _ _ => trivial), nbw.warm hW gN⟩
set_option maxHeartbeats 4000000 in
theorem wp_callV {mt' : MI} {as rest : List AV} {r c0 idx M' n : Nat} {T : u_T} {Q' : QT} (hsp : Spec mt' (vR r :: as) I R N M' Q') (hd : decode mt.2.1 pc = .ok (.invokevirtual idx, 3)) (hS : as.reverse ++ vR r :: rest = S)
    (lk : Cond.methodLink mt.1.cls idx mt'.1 ∈ TB) (hm : mOK mt' as.length) (hin : Cond.instanceMethod mt'.1 ∈ TB) (hse : Cond.selects mt'.1.cls mt'.1 mt'.1 ∈ TB) (ho : isO N r c0) (hc : vwCl[c0]? = some (mt'.1.cls, T, n)) (hf : fits2 mt mt') (hw : catS rest ≤ 8) (hNM : N ≤ M') (hM : M' ≤ K.1) (okL : okP N M' L) (okr : okP N M' rest) (hp : pc + 3 = pc')
    (kk : ∀ rv I' R', okret mt'.2.2.2.1 rv → Q' rv I' R' → wp K mt Q pc' L (psh rv rest) I' R' M') : wp K mt Q pc L S I R N := by
  subst hS hp
  intro p l e Rm s m args below meth c A D ρ0 ca0 N0 QQ g H locs ls ρ ca hs
  have ⟨s1, s2, s3, s4, s5, s6, s7, s8⟩ := hs
  obtain ⟨h0, hN, hsh⟩ := ho
  have hrm := g.2.2.2.2.2.2.2.1
  have c1 := cum_le s8
  have c2 := cum_le hNM
  have c3 := cum_le hM
  have hG : GoodIn TB (wsV mt.1.cls idx mt'.1.cls mt'.1 (wds mt')) := gin (fun w hw => by
    rcases List.mem_append.mp hw with h | h
    · simp only [List.mem_cons, List.not_mem_nil, or_false] at h
      rcases h with rfl | rfl | rfl | rfl
      · exact lk
      · exact hin
      · exact hse
      · exact hm.2.1
    · exact wds_in hm w h)
  refine call_fin g hs hNM okL okr (va_runV (C := mt'.1.cls) (As := as.map (cv ρ)) (b := ρ r) (rest := rest.map (cv ρ)) (Ts := TB) ⟨g.1, g.2.1, g.2.2.1, g.2.2.2.1, g.2.2.2.2.1⟩ (hsp l D ρ ca H.size) (cwV as.length g.2.2.2.2.1 hG rfl rfl rfl ⟨rfl, hm.2.2.1, hm.2.2.2.1, hm.2.2.2.2⟩ ⟨Nat.le_trans hf.1 hrm.1, Nat.le_trans hf.2 hrm.2.1⟩) ⟨blind, va_recv g.2.2.2.2.2.2.1 s1 hc ((ws_at h0 hN).trans (by rw [cell_obj hsh])), ?_⟩ rfl (List.length_map _) s4.1 ?_ (lv_room (by rw [catS_eq]; exact hw)) hd ⟨by omega, by omega⟩) kk
  · have := pcok (av := (vR r :: as).map (cv ρ)) s1 s2 s5 g.2.2.2.2.2.2.1 g.2.2.2.2.2.2.2.2.1.2
    intro U hU hW
    have := this U hU hW
    rw [show (vR r :: as).map (cv ρ) = Value.ref (ρ r) :: as.map (cv ρ) by rw [List.map_cons, cv_pos h0]] at this ⊢
    exact this
  · show (as.reverse ++ vR r :: rest).map (cv ρ) = _
    rw [List.map_append, List.map_cons, cv_pos h0, List.map_reverse]
set_option maxHeartbeats 4000000 in
theorem wp_callS {mt' : MI} {as rest : List AV} {idx M' : Nat} {Q' : QT} (hsp : Spec mt' as I R N M' Q') (hd : decode mt.2.1 pc = .ok (.invokestatic idx, 3)) (hS : as.reverse ++ rest = S)
    (lk : Cond.methodLink mt.1.cls idx mt'.1 ∈ TB) (hm : mOK mt' as.length) (hst : Cond.static mt'.1 ∈ TB) (hf : fits2 mt mt') (hw : catS rest ≤ 8) (hNM : N ≤ M') (hM : M' ≤ K.1) (okL : okP N M' L) (okr : okP N M' rest) (hp : pc + 3 = pc')
    (kk : ∀ rv I' R', okret mt'.2.2.2.1 rv → Q' rv I' R' → wp K mt Q pc' L (psh rv rest) I' R' M') : wp K mt Q pc L S I R N := by
  subst hS hp
  intro p l e Rm s m args below meth c A D ρ0 ca0 N0 QQ g H locs ls ρ ca hs
  have ⟨s1, s2, s3, s4, s5, s6, s7, s8⟩ := hs
  have hrm := g.2.2.2.2.2.2.2.1
  have c1 := cum_le s8
  have c2 := cum_le hNM
  have c3 := cum_le hM
  have hG : GoodIn TB (va_wsS mt.1.cls idx mt'.1 (wds mt')) := gin (fun w hw => by
    rcases List.mem_append.mp hw with h | h
    · simp only [List.mem_cons, List.not_mem_nil, or_false] at h
      rcases h with rfl | rfl | rfl
      · exact lk
      · exact hst
      · exact hm.2.1
    · exact wds_in hm w h)
  refine call_fin g hs hNM okL okr (va_runS (As := as.map (cv ρ)) (rest := rest.map (cv ρ)) (Ts := TB) ⟨g.1, g.2.1, g.2.2.1, g.2.2.2.1, g.2.2.2.2.1⟩ (hsp l D ρ ca H.size) (va_cwS as.length g.2.2.2.2.1 hG rfl rfl rfl ⟨hm.2.2.1, hm.2.2.2.1, hm.2.2.2.2⟩ ⟨Nat.le_trans hf.1 hrm.1, Nat.le_trans hf.2 hrm.2.1⟩) ⟨blind, pcok s1 s2 s5 g.2.2.2.2.2.2.1 g.2.2.2.2.2.2.2.2.1.2⟩ rfl (List.length_map _) s4.1 ?_ (lv_room (by rw [catS_eq]; exact hw)) hd ⟨by omega, by omega⟩) kk
  show (as.reverse ++ rest).map (cv ρ) = _
  rw [List.map_append, List.map_reverse]
set_option maxHeartbeats 4000000 in
theorem wp_callSN {mt' : MI} {as rest : List AV} {idx M' : Nat} {host : String} {Q' : QT} (hsp : Spec mt' as I R N M' Q') (hd : decode mt.2.1 pc = .ok (.invokestatic idx, 3)) (hS : as.reverse ++ rest = S)
    (lk : Cond.methodLinkNest mt.1.cls idx mt'.1 host ∈ NB) (hm : mOK mt' as.length) (hst : Cond.static mt'.1 ∈ TB) (hf : fits2 mt mt') (hw : catS rest ≤ 8) (hNM : N ≤ M') (hM : M' ≤ K.1) (okL : okP N M' L) (okr : okP N M' rest) (hp : pc + 3 = pc')
    (kk : ∀ rv I' R', okret mt'.2.2.2.1 rv → Q' rv I' R' → wp K mt Q pc' L (psh rv rest) I' R' M') : wp K mt Q pc L S I R N := by
  subst hS hp
  intro p l e Rm s m args below meth c A D ρ0 ca0 N0 QQ g H locs ls ρ ca hs
  have ⟨s1, s2, s3, s4, s5, s6, s7, s8⟩ := hs
  have hrm := g.2.2.2.2.2.2.2.1
  have c1 := cum_le s8
  have c2 := cum_le hNM
  have c3 := cum_le hM
  refine call_fin g hs hNM okL okr (va_runSN (As := as.map (cv ρ)) (rest := rest.map (cv ρ)) (Ts := TB) ⟨g.1, g.2.1, g.2.2.1, g.2.2.2.1, g.2.2.2.2.1⟩ (hsp l D ρ ca H.size) ⟨va_cnB as.length g.2.2.2.2.1 (gin (wds_in hm)) rfl rfl rfl (g.2.2.2.2.2.2.2.2.1.2.1 _ lk) (g.2.2.2.2.1 _ hm.2.1) ⟨hm.2.2.1, hm.2.2.2.1, hm.2.2.2.2⟩ ⟨Nat.le_trans hf.1 hrm.1, Nat.le_trans hf.2 hrm.2.1⟩, g.2.2.2.2.1 _ hst, trivial⟩ ⟨blind, pcok s1 s2 s5 g.2.2.2.2.2.2.1 g.2.2.2.2.2.2.2.2.1.2⟩ rfl (List.length_map _) s4.1 ?_ (lv_room (by rw [catS_eq]; exact hw)) hd ⟨by omega, by omega⟩) kk
  show (as.reverse ++ rest).map (cv ρ) = _
  rw [List.map_append, List.map_reverse]
set_option maxHeartbeats 4000000 in
theorem wp_callI {mt' : MI} {as rest : List AV} {r idx M' : Nat} {Q' : QT} (hsp : Spec mt' (vR r :: as) I R N M' Q') (hd : decode mt.2.1 pc = .ok (.invokespecial idx, 3)) (hS : as.reverse ++ vR r :: rest = S) (h0 : 0 < r)
    (lk : Cond.methodLink mt.1.cls idx mt'.1 ∈ TB) (hm : mOK mt' as.length) (hin : Cond.instanceMethod mt'.1 ∈ TB) (hnm : mt'.1.name = "<init>") (hret : mt'.2.2.2.1 = none) (hf : fits2 mt mt') (hw : catS rest ≤ 8) (hNM : N ≤ M') (hM : M' ≤ K.1) (okL : okP N M' L) (okr : okP N M' rest) (hp : pc + 3 = pc')
    (kk : ∀ I' R', Q' none I' R' → wp K mt Q pc' L rest I' R' M') : wp K mt Q pc L S I R N := by
  subst hS hp
  intro p l e Rm s m args below meth c A D ρ0 ca0 N0 QQ g H locs ls ρ ca hs
  have ⟨s1, s2, s3, s4, s5, s6, s7, s8⟩ := hs
  have hrm := g.2.2.2.2.2.2.2.1
  have c1 := cum_le s8
  have c2 := cum_le hNM
  have c3 := cum_le hM
  have hme : wds mt' = Cond.code mt'.1 mt'.2.1 mt'.2.2.1 none :: TB := by unfold wds; rw [hret]
  have hp := pcok (av := (vR r :: as).map (cv ρ)) s1 s2 s5 g.2.2.2.2.2.2.1 g.2.2.2.2.2.2.2.2.1.2
  have hsp' := hsp l D ρ ca H.size
  have hav : (vR r :: as).map (cv ρ) = Value.ref (ρ r) :: as.map (cv ρ) := by rw [List.map_cons, cv_pos h0]
  rw [hav] at hp hsp'
  refine call_fin g hs hNM okL okr (va_runI (As := as.map (cv ρ)) (b := ρ r) (rest := rest.map (cv ρ)) (Ts := TB) ⟨g.1, g.2.1, g.2.2.1, g.2.2.2.1, g.2.2.2.2.1⟩ hsp' (cwI as.length g.2.2.2.2.1 (gin (wds_in hm)) hme rfl rfl (g.2.2.2.2.1 _ hm.2.1) (g.2.2.2.2.1 _ lk) (g.2.2.2.2.1 _ hin) hnm ⟨hm.2.2.1, hm.2.2.2.1, hm.2.2.2.2⟩ ⟨Nat.le_trans hf.1 hrm.1, Nat.le_trans hf.2 hrm.2.1⟩) ⟨blind, hp⟩ rfl (List.length_map _) s4.1 ?_ (lv_room (by rw [catS_eq]; exact hw)) hd ⟨by omega, by omega⟩) (fun rv I' R' ho hq => ?_)
  · show (as.reverse ++ vR r :: rest).map (cv ρ) = _
    rw [List.map_append, List.map_cons, cv_pos h0, List.map_reverse]
  · rw [hret] at ho
    rcases rv with _ | x | x | x
    · exact kk I' R' hq
    · rcases okret_i ho with h | ⟨h, -⟩ <;> cases h
    · have := okret_l ho; cases this
    · exact (okret_r ho).elim
set_option maxHeartbeats 4000000 in
theorem wp_callIN {mt' : MI} {as rest : List AV} {r idx M' : Nat} {host : String} {Q' : QT} (hsp : Spec mt' (vR r :: as) I R N M' Q') (hd : decode mt.2.1 pc = .ok (.invokespecial idx, 3)) (hS : as.reverse ++ vR r :: rest = S) (h0 : 0 < r)
    (lk : Cond.methodLinkNest mt.1.cls idx mt'.1 host ∈ NB) (hm : mOK mt' as.length) (hin : Cond.instanceMethod mt'.1 ∈ TB) (hnm : mt'.1.name = "<init>") (hret : mt'.2.2.2.1 = none) (hf : fits2 mt mt') (hw : catS rest ≤ 8) (hNM : N ≤ M') (hM : M' ≤ K.1) (okL : okP N M' L) (okr : okP N M' rest) (hp : pc + 3 = pc')
    (kk : ∀ I' R', Q' none I' R' → wp K mt Q pc' L rest I' R' M') : wp K mt Q pc L S I R N := by
  subst hS hp
  intro p l e Rm s m args below meth c A D ρ0 ca0 N0 QQ g H locs ls ρ ca hs
  have ⟨s1, s2, s3, s4, s5, s6, s7, s8⟩ := hs
  have hrm := g.2.2.2.2.2.2.2.1
  have c1 := cum_le s8
  have c2 := cum_le hNM
  have c3 := cum_le hM
  have hme : wds mt' = Cond.code mt'.1 mt'.2.1 mt'.2.2.1 none :: TB := by unfold wds; rw [hret]
  have hp := pcok (av := (vR r :: as).map (cv ρ)) s1 s2 s5 g.2.2.2.2.2.2.1 g.2.2.2.2.2.2.2.2.1.2
  have hsp' := hsp l D ρ ca H.size
  have hav : (vR r :: as).map (cv ρ) = Value.ref (ρ r) :: as.map (cv ρ) := by rw [List.map_cons, cv_pos h0]
  rw [hav] at hp hsp'
  refine call_fin g hs hNM okL okr (va_runIN (As := as.map (cv ρ)) (b := ρ r) (rest := rest.map (cv ρ)) (Ts := TB) ⟨g.1, g.2.1, g.2.2.1, g.2.2.2.1, g.2.2.2.2.1⟩ hsp' ⟨va_cnB as.length g.2.2.2.2.1 (gin (wds_in hm)) hme rfl rfl (g.2.2.2.2.2.2.2.2.1.2.1 _ lk) (g.2.2.2.2.1 _ hm.2.1) ⟨hm.2.2.1, hm.2.2.2.1, hm.2.2.2.2⟩ ⟨Nat.le_trans hf.1 hrm.1, Nat.le_trans hf.2 hrm.2.1⟩, hnm, g.2.2.2.2.1 _ hin⟩ ⟨blind, hp⟩ rfl (List.length_map _) s4.1 ?_ (lv_room (by rw [catS_eq]; exact hw)) hd ⟨by omega, by omega⟩) (fun rv I' R' ho hq => ?_)
  · show (as.reverse ++ vR r :: rest).map (cv ρ) = _
    rw [List.map_append, List.map_cons, cv_pos h0, List.map_reverse]
  · rw [hret] at ho
    rcases rv with _ | x | x | x
    · exact kk I' R' hq
    · rcases okret_i ho with h | ⟨h, -⟩ <;> cases h
    · have := okret_l ho; cases this
    · exact (okret_r ho).elim
end CALL
end
section
/-! making of cells, the JDK's own functions, references in arrays, the script -/
theorem cl_df0 : ∀ c, c < 11 → ∀ k, k < nfc c → defaultValue (fty c k) = if fref c k = true then .null else .int 0 := by decide +kernel
theorem range_map_succ {α : Type} (f : Nat → α) (N : Nat) : (List.range (N + 1)).map f = (List.range N).map f ++ [f N] := by
  rw [List.range_succ, List.map_append]; rfl
theorem cell_agr {ρ ρ' : Nat → Nat} {ca ca' : Nat → ClassId} {I : II} {R : RR} {i : Nat} (h1 : ca' i = ca i) (h2 : ∀ j, rfv ρ' (R i j) = rfv ρ (R i j)) : cellE ρ' ca' I R i = cellE ρ ca I R i := by
  unfold cellE
  have h3 : fval ρ' I R (sh i).2 i = fval ρ I R (sh i).2 i := by
    funext k
    unfold fval
    rw [h2]
  have h4 : (fun j => rfv ρ' (R i j)) = fun j => rfv ρ (R i j) := funext h2
  rw [h1, h3, h4]
theorem rfv_up {ρ : Nat → Nat} {N r q : Nat} (h : r ≤ N) : rfv (up1 ρ (N + 1) q) r = rfv ρ r := by
  unfold rfv up1
  rw [if_neg (show ¬ r = N + 1 by omega)]
theorem ws_push {ρ : Nat → Nat} {ca : Nat → ClassId} {I : II} {R : RR} {N q : Nat} {cA : ClassId} {e : va_E} (hR : ∀ i j, R i j ≤ N) (he : cellE (up1 ρ (N + 1) q) (up1 ca (N + 1) cA) I R (N + 1) = e) : wsW ρ ca I R N ++ [(q, e)] = wsW (up1 ρ (N + 1) q) (up1 ca (N + 1) cA) I R (N + 1) := by
  unfold wsW
  rw [range_map_succ]
  congr 1
  · apply List.map_congr_left
    intro j hj
    have hj := List.mem_range.mp hj
    have e1 : up1 ρ (N + 1) q (j + 1) = ρ (j + 1) := by unfold up1; rw [if_neg (by omega)]
    have e2 : up1 ca (N + 1) cA (j + 1) = ca (j + 1) := by unfold up1; rw [if_neg (by omega)]
    rw [e1, cell_agr e2 (fun k => rfv_up (hR _ _))]
  · rw [he]
    have e1 : up1 ρ (N + 1) q (N + 1) = q := by unfold up1; rw [if_pos rfl]
    rw [e1]
theorem agr_up {α : Type} {f f0 : Nat → α} {N0 N : Nat} {v : α} (h8 : N0 ≤ N) (h : agr f f0 N0 N) : agr (up1 f (N + 1) v) f0 N0 (N + 1) := fun r hr => by
  unfold up1
  rw [if_neg (by omega)]
  exact h r (by omega)
theorem agr_self {α : Type} {f : Nat → α} {N : Nat} {v : α} : agr (up1 f (N + 1) v) f N (N + 1) := fun r hr => by
  unfold up1
  rw [if_neg (by omega)]
theorem arK_up {D : va_G} {ca : Nat → ClassId} {N : Nat} {s : State} {cA : ClassId} (h : arK D ca N s) (h2 : ¬ (sh (N + 1)).1 = 0 → va_K D vwCl [(cA, aty (sh (N + 1)).1)] s) : arK D (up1 ca (N + 1) cA) (N + 1) s := fun i h0 h1 hk => by
  by_cases e : i = N + 1
  · subst e
    have e2 : up1 ca (N + 1) cA (N + 1) = cA := by unfold up1; rw [if_pos rfl]
    rw [e2]
    exact h2 hk
  · have e2 : up1 ca (N + 1) cA i = ca i := by unfold up1; rw [if_neg e]
    rw [e2]
    exact h i h0 (by omega) hk
section MORE
variable {K : KT} {mt : MI} {Q : QT} {pc pc' : Nat} {L S : List AV} {I : II} {R : RR} {N : Nat}
set_option maxHeartbeats 4000000 in
theorem wp_new {c0 n idx : Nat} {C : String} {T : u_T} (hd : decode mt.2.1 pc = .ok (.new idx, 3)) (hc : vwCl[c0]? = some (C, T, n)) (hsh : sh (N + 1) = (0, c0)) (w1 : Cond.classLink mt.1.cls idx C ∈ TB) (w2 : Cond.instantiable C n ∈ TB) (w3 : Cond.initialized C ∈ TB) (hM : N + 1 ≤ K.1) (okL : okP N (N + 1) L) (okS : okP N (N + 1) S) (hR : ∀ i j, R i j ≤ N) (hI0 : ∀ j, I (N + 1) j = 0) (hR0 : ∀ j, R (N + 1) j = 0) (hp : pc + 3 = pc')
    (kk : wp K mt Q pc' L (vR (N + 1) :: S) I R (N + 1)) : wp K mt Q pc L S I R N := by
  subst hp
  intro p l e Rm s m args below meth c A D ρ0 ca0 N0 QQ g H locs ls ρ ca ⟨s1, s2, s3, s4, s5, s6, s7, s8⟩
  have hrm := g.2.2.2.2.2.2.2.1
  have c1 := cum_le s8
  have c2 := cum_le hM
  have hcs : cum (N + 1) = cum N + n := by
    show cum N + szS (sh (N + 1)) = _
    rw [hsh]
    show cum N + nfc c0 = _
    rw [nfc_of hc]
  refine va_new (ci := c0) (D := D) (cl := vwCl) (tys := []) (C := C) (T := T) (N := n) (Ts := TB) (fs := (List.range n).map (fval ρ I R c0 (N + 1))) g.1 g.2.1 g.2.2.2.2.1 (cl_ws hc) (fty c0) (cl_ty hc) g.2.2.2.1 (g.2.2.2.2.1 _ w1) (g.2.2.2.2.1 _ w2) (g.2.2.2.2.1 _ w3) g.2.2.2.2.2.2.1 s1 s2 s3 g.2.2.2.2.2.1 hc (fun j hj => ?_) (by omega) (by omega) hd (fun q H1 a1 a2 a3 => ?_)
  · have h1 := cl_df0 c0 (vw_lt hc) j (by rw [nfc_of hc]; exact hj)
    rw [h1]
    unfold vp_V
    rw [List.getD_eq_getElem?_getD, fval_at hj]
    show _ = fval ρ I R c0 (N + 1) j
    unfold fval
    rw [hI0, hR0]
    rfl
  · have he : cellE (up1 ρ (N + 1) q) (up1 ca (N + 1) 0) I R (N + 1) = .inr (c0, (List.range n).map (fval ρ I R c0 (N + 1))) := by
      rw [cell_obj hsh, nfc_of hc]
      congr 2
      apply List.map_congr_left
      intro k _
      unfold fval
      rw [rfv_up (hR _ _)]
    rw [ws_push hR he] at a1 a2
    have e1 : N - N0 + 1 = N + 1 - N0 := by omega
    have e2 : cum N - cum N0 + n = cum (N + 1) - cum N0 := by omega
    have e3 : (vR (N + 1) :: S).map (cv (up1 ρ (N + 1) q)) = .ref q :: S.map (cv ρ) := by
      rw [List.map_cons, cv_pos (by omega), map_agr agr_self okS]
      unfold up1
      rw [if_pos rfl]
    have k9 := kk p l e Rm s m args below meth c A D ρ0 ca0 N0 QQ g H1 locs ls (up1 ρ (N + 1) q) (up1 ca (N + 1) 0) ⟨a1, a2, a3, s4.agr agr_self okL, arK_up s5 (fun h => absurd (by rw [hsh]) h), agr_up s8 s6, agr_up s8 s7, by omega⟩
    rw [e1, e2]
    rw [e3] at k9
    exact k9
set_option maxHeartbeats 4000000 in
theorem wp_newa {atype : ArrayType} {k n : Nat} {i : Int} (hd : decode mt.2.1 pc = .ok (.newarray atype, 2)) (hsh : sh (N + 1) = (k, n)) (hk : (k = 1 ∧ atype = .int) ∨ (k = 2 ∧ atype = .boolean)) (hi : i = (n : Int)) (w1 : Cond.arrayClass (newarray.typeOf atype) ∈ TB) (hM : N + 1 ≤ K.1) (okL : okP N (N + 1) L) (okS : okP N (N + 1) S) (hR : ∀ i j, R i j ≤ N) (hI0 : ∀ j, I (N + 1) j = 0) (hp : pc + 2 = pc')
    (kk : wp K mt Q pc' L (vR (N + 1) :: S) I R (N + 1)) : wp K mt Q pc L (vI i :: S) I R N := by
  subst hp hi
  intro p l e Rm s m args below meth c A D ρ0 ca0 N0 QQ g H locs ls ρ ca ⟨s1, s2, s3, s4, s5, s6, s7, s8⟩
  have hrm := g.2.2.2.2.2.2.2.1
  have c1 := cum_le s8
  have c2 := cum_le hM
  have hn : n ≤ 1000 := by have := sh_ok (N + 1); rw [hsh] at this; exact this
  have hk0 : ¬ k = 0 := by omega
  have hcs : cum (N + 1) = cum N + n := by
    show cum N + szS (sh (N + 1)) = _
    rw [hsh]
    unfold szS
    rw [if_neg hk0]
  have hty : newarray.typeOf atype = aty k := by rcases hk with ⟨rfl, rfl⟩ | ⟨rfl, rfl⟩ <;> rfl
  have hn0 : ¬ i32 (n : Int) < 0 := by rw [i32_0, i32_lt ⟨by omega, by omega⟩ InI_0]; omega
  refine va_newa (D := D) (cl := vwCl) (tys := []) (a0 := (n, .inl (fun j => i32 (I (N + 1) j)))) (N' := n) g.1 g.2.1 (g.2.2.2.2.1 _ w1) hty g.2.2.2.2.2.2.1 s1 s2 s3 g.2.2.2.2.2.1 (fun cA => ?_) hn0 (by rw [i32_cl (by omega) (by omega)]; omega) ?_ (by omega) (by omega) hd (fun q cA H1 a0 a1 a2 a3 => ?_)
  · rw [vp_cell_i]
    congr 1
    funext j
    rw [hI0]
    rcases hk with ⟨rfl, rfl⟩ | ⟨rfl, rfl⟩ <;> rfl
  · rcases hk with ⟨rfl, rfl⟩ | ⟨rfl, rfl⟩
    · show n * 4 ≤ _
      omega
    · show n * 1 ≤ _
      omega
  · have he : cellE (up1 ρ (N + 1) q) (up1 ca (N + 1) cA) I R (N + 1) = .inl (cA, n, .inl (fun j => i32 (I (N + 1) j))) := by
      rw [cell_int hsh (by omega) (by omega)]
      unfold up1
      rw [if_pos rfl]
    rw [ws_push hR he] at a1 a2
    have e1 : N - N0 + 1 = N + 1 - N0 := by omega
    have e2 : cum N - cum N0 + n = cum (N + 1) - cum N0 := by omega
    have e3 : (vR (N + 1) :: S).map (cv (up1 ρ (N + 1) q)) = .ref q :: S.map (cv ρ) := by
      rw [List.map_cons, cv_pos (by omega), map_agr agr_self okS]
      unfold up1
      rw [if_pos rfl]
    have k9 := kk p l e Rm s m args below meth c A D ρ0 ca0 N0 QQ g H1 locs ls (up1 ρ (N + 1) q) (up1 ca (N + 1) cA) ⟨a1, a2, a3, s4.agr agr_self okL, arK_up s5 (fun _ => by rw [hsh]; exact a0), agr_up s8 s6, agr_up s8 s7, by omega⟩
    rw [e1, e2]
    rw [e3] at k9
    exact k9
set_option maxHeartbeats 4000000 in
theorem wp_newq {n idx : Nat} {i : Int} (hd : decode mt.2.1 pc = .ok (.anewarray idx, 3)) (hsh : sh (N + 1) = (3, n)) (hi : i = (n : Int)) (w1 : Cond.classLink mt.1.cls idx RX1 ∈ TB) (hM : N + 1 ≤ K.1) (okL : okP N (N + 1) L) (okS : okP N (N + 1) S) (hR : ∀ i j, R i j ≤ N) (hR0 : ∀ j, R (N + 1) j = 0) (hp : pc + 3 = pc')
    (kk : wp K mt Q pc' L (vR (N + 1) :: S) I R (N + 1)) : wp K mt Q pc L (vI i :: S) I R N := by
  subst hp hi
  intro p l e Rm s m args below meth c A D ρ0 ca0 N0 QQ g H locs ls ρ ca ⟨s1, s2, s3, s4, s5, s6, s7, s8⟩
  have hrm := g.2.2.2.2.2.2.2.1
  have c1 := cum_le s8
  have c2 := cum_le hM
  have hn : n ≤ 1000 := by have := sh_ok (N + 1); rw [hsh] at this; exact this
  have hcs : cum (N + 1) = cum N + n := by
    show cum N + szS (sh (N + 1)) = _
    rw [hsh]
    rfl
  have hn0 : ¬ i32 (n : Int) < 0 := by rw [i32_0, i32_lt ⟨by omega, by omega⟩ InI_0]; omega
  refine va_newq (D := D) (cl := vwCl) (tys := []) (C := RX1) (N' := n) g.1 g.2.1 g.2.2.2.1 (g.2.2.2.2.1 _ w1) g.2.2.2.2.2.2.2.2.1.2.2.1 g.2.2.2.2.2.2.1 s1 s2 s3 g.2.2.2.2.2.1 hn0 (by rw [i32_cl (by omega) (by omega)]; omega) (by omega) (by omega) (by omega) hd (fun q cA H1 a0 a1 a2 a3 => ?_)
  have he : cellE (up1 ρ (N + 1) q) (up1 ca (N + 1) cA) I R (N + 1) = .inl (cA, n, .inr (.inr (.inr (.inr (fun _ => none))))) := by
    rw [cell_ref hsh (by omega)]
    have : (fun j => rfv (up1 ρ (N + 1) q) (R (N + 1) j)) = fun _ => none := funext fun j => by rw [hR0]; rfl
    rw [this]
    unfold up1
    rw [if_pos rfl]
  rw [ws_push hR he] at a1 a2
  have e1 : N - N0 + 1 = N + 1 - N0 := by omega
  have e2 : cum N - cum N0 + n = cum (N + 1) - cum N0 := by omega
  have e3 : (vR (N + 1) :: S).map (cv (up1 ρ (N + 1) q)) = .ref q :: S.map (cv ρ) := by
    rw [List.map_cons, cv_pos (by omega), map_agr agr_self okS]
    unfold up1
    rw [if_pos rfl]
  have k9 := kk p l e Rm s m args below meth c A D ρ0 ca0 N0 QQ g H1 locs ls (up1 ρ (N + 1) q) (up1 ca (N + 1) cA) ⟨a1, a2, a3, s4.agr agr_self okL, arK_up s5 (fun _ => by rw [hsh]; exact a0), agr_up s8 s6, agr_up s8 s7, by omega⟩
  rw [e1, e2]
  rw [e3] at k9
  exact k9
theorem wp_objInit {idx r : Nat} (hd : decode mt.2.1 pc = .ok (.invokespecial idx, 3)) (h0 : 0 < r) (w1 : Cond.methodLink mt.1.cls idx objectInit ∈ TB) (w2 : Cond.instanceMethod objectInit ∈ TB) (w3 : Cond.code objectInit ⟨#[0xb1]⟩ 1 none ∈ TB) (hf : 1 ≤ mt.2.2.2.2.1 ∧ catS S + 12 ≤ mt.2.2.2.2.2) (hp : pc + 3 = pc')
    (kk : wp K mt Q pc' L S I R N) : wp K mt Q pc L (vR r :: S) I R N := by
  subst hp
  intro p l e Rm s m args below meth c A D ρ0 ca0 N0 QQ g H locs ls ρ ca hs
  have hrm := g.2.2.2.2.2.2.2.1
  refine W.objInit (a := ρ r) (rest := S.map (cv ρ)) g.1 g.2.1 g.2.2.2.1 (g.2.2.2.2.1 _ w1) (g.2.2.2.2.1 _ w2) (g.2.2.2.2.1 _ w3) rfl (by rw [g.2.2.1]; exact hs.2.2.2.1.1) (by show (cv ρ (vR r) :: S.map (cv ρ)) = _; rw [cv_pos h0]) hd (by omega) ?_ (kk p l e Rm s m args below meth c A D ρ0 ca0 N0 QQ g H locs ls ρ ca hs)
  rw [catS_eq]
  show 2 * 0 + _ + 12 ≤ _
  omega
theorem wp_mmax {idx : Nat} {x y : Int} (ha : InI x) (hb2 : InI y) (hd : decode mt.2.1 pc = .ok (.invokestatic idx, 3)) (w1 : Cond.methodLink mt.1.cls idx Lib.Math.max.name ∈ TB) (w2 : Cond.static Lib.Math.max.name ∈ TB) (w3 : Cond.initialized "java/lang/Math" ∈ TB) (w4 : Cond.code Lib.Math.max.name Lib.Math.max.code 2 (some .int) ∈ TB) (hf : 1 ≤ mt.2.2.2.2.1 ∧ catS S + 13 ≤ mt.2.2.2.2.2) (hNK : N ≤ K.1) (hp : pc + 3 = pc')
    (kk : wp K mt Q pc' L (vI (max x y) :: S) I R N) : wp K mt Q pc L (vI y :: vI x :: S) I R N := by
  subst hp
  intro p l e Rm s m args below meth c A D ρ0 ca0 N0 QQ g H locs ls ρ ca hs
  have hrm := g.2.2.2.2.2.2.2.1
  have h8 : N0 ≤ N := hs.2.2.2.2.2.2.2
  have c1 := cum_le h8
  have c2 := cum_le hNK
  have k9 := kk p l e Rm s m args below meth c A D ρ0 ca0 N0 QQ g H locs ls ρ ca hs
  have e9 : (if i32 x < i32 y then i32 y else i32 x) = i32 (max x y) := by
    by_cases h : x < y
    · rw [if_pos ((i32_lt ha hb2).mpr h), Int.max_eq_right (by omega)]
    · rw [if_neg (fun q => h ((i32_lt ha hb2).mp q)), Int.max_eq_left (by omega)]
  refine va_mmax g.1 g.2.1 (by rw [g.2.2.1]; exact hs.2.2.2.1.1.symm) g.2.2.2.1 (g.2.2.2.2.1 _ w1) (g.2.2.2.2.1 _ w2) (g.2.2.2.2.1 _ w3) (g.2.2.2.2.1 _ w4) (by omega) (by rw [catS_eq]; omega) (by omega) (by omega) hd ?_
  rw [e9]
  exact k9

theorem wp_mmin {idx : Nat} {x y : Int} (ha : InI x) (hb2 : InI y) (hd : decode mt.2.1 pc = .ok (.invokestatic idx, 3)) (w1 : Cond.methodLink mt.1.cls idx Lib.Math.min.name ∈ TB) (w2 : Cond.static Lib.Math.min.name ∈ TB) (w3 : Cond.initialized "java/lang/Math" ∈ TB) (w4 : Cond.code Lib.Math.min.name Lib.Math.min.code 2 (some .int) ∈ TB) (hf : 1 ≤ mt.2.2.2.2.1 ∧ catS S + 13 ≤ mt.2.2.2.2.2) (hNK : N ≤ K.1) (hp : pc + 3 = pc')
    (kk : wp K mt Q pc' L (vI (min x y) :: S) I R N) : wp K mt Q pc L (vI y :: vI x :: S) I R N := by
  subst hp
  intro p l e Rm s m args below meth c A D ρ0 ca0 N0 QQ g H locs ls ρ ca hs
  have hrm := g.2.2.2.2.2.2.2.1
  have h8 : N0 ≤ N := hs.2.2.2.2.2.2.2
  have c1 := cum_le h8
  have c2 := cum_le hNK
  have k9 := kk p l e Rm s m args below meth c A D ρ0 ca0 N0 QQ g H locs ls ρ ca hs
  have e9 : (if i32 y < i32 x then i32 y else i32 x) = i32 (min x y) := by
    by_cases h : y < x
    · rw [if_pos ((i32_lt hb2 ha).mpr h), Int.min_eq_right (by omega)]
    · rw [if_neg (fun q => h ((i32_lt hb2 ha).mp q)), Int.min_eq_left (by omega)]
  refine va_mmin g.1 g.2.1 (by rw [g.2.2.1]; exact hs.2.2.2.1.1.symm) g.2.2.2.1 (g.2.2.2.2.1 _ w1) (g.2.2.2.2.1 _ w2) (g.2.2.2.2.1 _ w3) (g.2.2.2.2.1 _ w4) (by omega) (by rw [catS_eq]; omega) (by omega) (by omega) hd ?_
  rw [e9]
  exact k9

theorem wp_mabs {idx : Nat} {x : Int} (ha : InI x) (hd : decode mt.2.1 pc = .ok (.invokestatic idx, 3)) (w1 : Cond.methodLink mt.1.cls idx Lib.Math.abs.name ∈ TB) (w2 : Cond.static Lib.Math.abs.name ∈ TB) (w3 : Cond.initialized "java/lang/Math" ∈ TB) (w4 : Cond.code Lib.Math.abs.name Lib.Math.abs.code 1 (some .int) ∈ TB) (hf : 1 ≤ mt.2.2.2.2.1 ∧ catS S + 13 ≤ mt.2.2.2.2.2) (hNK : N ≤ K.1) (hp : pc + 3 = pc')
    (kk : wp K mt Q pc' L (vI (((x.natAbs : Nat) : Int)) :: S) I R N) : wp K mt Q pc L (vI x :: S) I R N := by
  subst hp
  intro p l e Rm s m args below meth c A D ρ0 ca0 N0 QQ g H locs ls ρ ca hs
  have hrm := g.2.2.2.2.2.2.2.1
  have h8 : N0 ≤ N := hs.2.2.2.2.2.2.2
  have c1 := cum_le h8
  have c2 := cum_le hNK
  have k9 := kk p l e Rm s m args below meth c A D ρ0 ca0 N0 QQ g H locs ls ρ ca hs
  have e9 : (if 0 ≤ i32 x then i32 x else 0 - i32 x) = i32 (((x.natAbs : Nat) : Int)) := by
    by_cases h : 0 ≤ x
    · rw [if_pos (by rw [i32_0]; exact (i32_le InI_0 ha).mpr h), show ((x.natAbs : Nat) : Int) = x by omega]
    · rw [if_neg (fun q => h ((i32_le InI_0 ha).mp (by rw [← i32_0]; exact q))), show ((x.natAbs : Nat) : Int) = 0 - x by omega, ← i32_sub, i32_0]
  refine va_mabs g.1 g.2.1 (by rw [g.2.2.1]; exact hs.2.2.2.1.1.symm) g.2.2.2.1 (g.2.2.2.2.1 _ w1) (g.2.2.2.2.1 _ w2) (g.2.2.2.2.1 _ w3) (g.2.2.2.2.1 _ w4) (by omega) (by rw [catS_eq]; omega) (by omega) (by omega) hd ?_
  rw [e9]
  exact k9

/-- n places of src from sp on, written into dst from dp on -/
def cpy2 (I : II) (src dst sp dp n : Nat) : II := fun a b => if a = dst ∧ dp ≤ b ∧ b < dp + n then I src (sp + (b - dp)) else I a b
theorem i32_cpy {I : II} {src dst sp dp n : Nat} : va_cpy (fun j => i32 (I src j)) (fun j => i32 (I dst j)) sp dp n = fun j => i32 (cpy2 I src dst sp dp n dst j) := by
  funext j
  unfold va_cpy cpy2
  by_cases h : dp ≤ j ∧ j < dp + n
  · rw [if_pos h, if_pos ⟨rfl, h⟩]
  · rw [if_neg h, if_neg (fun q => h q.2)]
set_option maxHeartbeats 4000000 in
theorem wp_copy {idx src dst n0 n1 : Nat} {sp dp n : Int} (hd : decode mt.2.1 pc = .ok (.invokestatic idx, 3)) (w1 : Cond.methodLink mt.1.cls idx arraycopyName ∈ TB) (w2 : Cond.native arraycopyName ∈ TB) (w3 : Cond.static arraycopyName ∈ TB) (w4 : Cond.initialized "java/lang/System" ∈ TB) (h0 : isA N src 1 n0) (h1 : isA N dst 1 n1) (hs0 : 0 ≤ sp ∧ 0 ≤ dp ∧ 0 ≤ n ∧ sp + n ≤ (n0 : Int) ∧ dp + n ≤ (n1 : Int)) (hf : 1 ≤ mt.2.2.2.2.1 ∧ catS S + (nativeFrameWords "java/lang/System" "arraycopy" 5 + 11) ≤ mt.2.2.2.2.2) (hp : pc + 3 = pc') {I' : II} (hI : I' = cpy2 I src dst sp.toNat dp.toNat n.toNat)
    (kk : wp K mt Q pc' L S I' R N) : wp K mt Q pc L (vI n :: vI dp :: vR dst :: vI sp :: vR src :: S) I R N := by
  subst hp hI
  intro p l e Rm s m args below meth c A D ρ0 ca0 N0 QQ g H locs ls ρ ca ⟨s1, s2, s3, s4, s5, s6⟩
  have hrm := g.2.2.2.2.2.2.2.1
  obtain ⟨p0, q0, r0⟩ := h0
  obtain ⟨p1, q1, r1⟩ := h1
  have hn0 : n0 ≤ 1000 := by have := sh_ok src; rw [r0] at this; exact this
  have hn1 : n1 ≤ 1000 := by have := sh_ok dst; rw [r1] at this; exact this
  have hka0 := s5 src p0 q0 (by rw [r0]; show ¬ 1 = 0; decide)
  have hka1 := s5 dst p1 q1 (by rw [r1]; show ¬ 1 = 0; decide)
  rw [r0] at hka0
  rw [r1] at hka1
  have hK2 : va_K D vwCl ([(ca src, aty 1)] ++ [(ca dst, aty 1)]) s := hka0.app hka1
  have e1 := i32_cl (x := sp) hs0.1 (by omega)
  have e2 := i32_cl (x := dp) hs0.2.1 (by omega)
  have e3 := i32_cl (x := n) hs0.2.2.1 (by omega)
  show W p l e Rm s m args below meth c H locs _ _ QQ (F0 m pc ls (.int (i32 n) :: .int (i32 dp) :: cv ρ (vR dst) :: .int (i32 sp) :: cv ρ (vR src) :: S.map (cv ρ)))
  rw [cv_pos p0, cv_pos p1]
  refine va_copyi (D := D) (cl := vwCl) (tys := [(ca src, aty 1)] ++ [(ca dst, aty 1)]) (n0 := n0) (n1 := n1) (f := fun j => i32 (I src j)) (g := fun j => i32 (I dst j)) (ty := .int) g.1 g.2.1 (by rw [g.2.2.1]; exact s4.1.symm) g.2.2.2.1 (g.2.2.2.2.1 _ w1) (g.2.2.2.2.1 _ w2) (g.2.2.2.2.1 _ w3) (g.2.2.2.2.1 _ w4) hK2 s1 s2 s3 (src - 1) (dst - 1) 0 1 ((ws_at p0 q0).trans (by rw [cell_int r0 (by decide) (by decide)])) ((ws_at p1 q1).trans (by rw [cell_int r1 (by decide) (by decide)])) rfl rfl rfl
    (by rw [i32_0, i32_lt ⟨by omega, by omega⟩ InI_0]; omega) (by rw [i32_0, i32_lt ⟨by omega, by omega⟩ InI_0]; omega) (by rw [i32_0, i32_lt ⟨by omega, by omega⟩ InI_0]; omega) (by rw [e1, e3]; omega) (by rw [e2, e3]; omega) (fun _ _ => rfl) (by omega) (by rw [catS_eq]; omega) hd (fun H1 locs1 a1 a2 a3 => ?_)
  rw [e1, e2, e3, i32_cpy, ws_set (I' := cpy2 I src dst sp.toNat dp.toNat n.toNat) (R' := R) p1 (cell_int r1 (by decide) (by decide)) (fun i h => cell_congr (fun j => by unfold cpy2; rw [if_neg (fun q => h q.1)]) (fun _ => rfl))] at a1 a2
  exact kk p l e Rm s m args below meth c A D ρ0 ca0 N0 QQ g H1 locs1 ls ρ ca ⟨a1, a2, a3, s4, s5, s6⟩
theorem wp_aald {r k n : Nat} {i : Int} (hd : decode mt.2.1 pc = .ok (.aaload, 1)) (ho : isA N r k n) (hk : k = 3 ∨ k = 4) (hi : 0 ≤ i ∧ i < (n : Int)) {j : Nat} (hj : i.toNat = j) (hp : pc + 1 = pc') (kk : wp K mt Q pc' L (vR (R r j) :: S) I R N) : wp K mt Q pc L (vI i :: vR r :: S) I R N := by
  subst hp hj
  intro p l e Rm s m args below meth c A D ρ0 ca0 N0 QQ g H locs ls ρ ca hs
  have k9 := kk p l e Rm s m args below meth c A D ρ0 ca0 N0 QQ g H locs ls ρ ca hs
  obtain ⟨h0, hN, hsh⟩ := ho
  have hn : n ≤ 1000 := by have := sh_ok r; rw [hsh] at this; exact this
  have hka := hs.2.2.2.2.1 r h0 hN (by rw [hsh]; show ¬ k = 0; omega)
  rw [hsh] at hka
  have hin := i32_in hi.1 hi.2 hn
  have hlt : (i32 i).toNatClampNeg < n := Nat.not_le.mp fun q => hin (Or.inr q)
  show W p l e Rm s m args below meth c H locs _ _ QQ (F0 m pc ls (.int (i32 i) :: cv ρ (vR r) :: S.map (cv ρ)))
  rw [cv_pos h0]
  have hcell := hs.1 (r - 1) _ ((ws_at h0 hN).trans (by rw [cell_ref hsh (by omega)]))
  refine W.aald (v := va_rf (rfv ρ (R r (i32 i).toNatClampNeg))) (ty := aty k) g.1 g.2.1 hcell ((hka.2 0 _ rfl).1 n (fun j => va_rf (rfv ρ (R r j)))) (by rcases hk with rfl | rfl <;> rfl) (fun q => by cases q) (by show ¬ (i32 i < 0 ∨ (arrV _ _ _).slots.size ≤ _); rw [arrV_size]; exact hin) (by show (arrV _ _ _).slots[_]? = _; rw [arrV_read _ _ hlt]) rfl rfl hd ?_
  rw [i32_cl hi.1 (by omega)]
  exact k9
set_option maxHeartbeats 4000000 in
theorem wp_aast {r n v : Nat} {i : Int} (hd : decode mt.2.1 pc = .ok (.aastore, 1)) (ho : isA N r 3 n) (hv : isO N v 1) (hi : 0 ≤ i ∧ i < (n : Int)) {j : Nat} (hj : i.toNat = j) (hp : pc + 1 = pc') {R' : RR} (hI : R' = up2 R r j v) (kk : wp K mt Q pc' L S I R' N) : wp K mt Q pc L (vR v :: vI i :: vR r :: S) I R N := by
  subst hj
  subst hp hI
  intro p l e Rm s m args below meth c A D ρ0 ca0 N0 QQ g H locs ls ρ ca ⟨s1, s2, s3, s4, s5, s6⟩
  obtain ⟨h0, hN, hsh⟩ := ho
  obtain ⟨v0, vN, vsh⟩ := hv
  have hn : n ≤ 1000 := by have := sh_ok r; rw [hsh] at this; exact this
  have hka := s5 r h0 hN (by rw [hsh]; show ¬ 3 = 0; decide)
  rw [hsh] at hka
  show W p l e Rm s m args below meth c H locs _ _ QQ (F0 m pc ls (cv ρ (vR v) :: .int (i32 i) :: cv ρ (vR r) :: S.map (cv ρ)))
  rw [cv_pos h0, cv_pos v0]
  refine va_astq (D := D) (cl := vwCl) (tys := [(ca r, aty 3)]) (n := n) (f := fun j => rfv ρ (R r j)) (r := (RX1, TX1, 2)) (ci := 1) g.1 g.2.1 hka s1 s2 s3 (r - 1) 0 (v - 1) ((ws_at h0 hN).trans (by rw [cell_ref hsh (by decide)])) rfl ((ws_at v0 vN).trans (by rw [cell_obj vsh])) rfl (i32_in hi.1 hi.2 hn) hd (fun H1 locs1 a1 a2 a3 => ?_)
  have e9 : va_up (fun j => rfv ρ (R r j)) i.toNat (some (ρ v)) = fun j => rfv ρ (up2 R r i.toNat v r j) := by
    funext j
    unfold va_up up2
    by_cases h : j = i.toNat
    · rw [if_pos h, if_pos ⟨rfl, h⟩, rfv_pos v0]
    · rw [if_neg h, if_neg (fun q => h q.2)]
  rw [i32_cl hi.1 (by omega), e9, ws_set (I' := I) (R' := up2 R r i.toNat v) h0 (cell_ref hsh (by decide)) cell_up_R] at a1 a2
  exact kk p l e Rm s m args below meth c A D ρ0 ca0 N0 QQ g H1 locs1 ls ρ ca ⟨a1, a2, a3, s4, s5, s6⟩
theorem wp_sld {i : Int} (hN : N < 1000) (hd : decode mt.2.1 pc = .ok (.iaload, 1)) (hi : 0 ≤ i ∧ i < (K.2.1 : Int)) (hp : pc + 1 = pc') (kk : wp K mt Q pc' L (vI (K.2.2 i.toNat).toInt :: S) I R N) : wp K mt Q pc L (vI i :: vR 1000 :: S) I R N := by
  subst hp
  intro p l e Rm s m args below meth c A D ρ0 ca0 N0 QQ g H locs ls ρ ca hs
  have k9 := kk p l e Rm s m args below meth c A D ρ0 ca0 N0 QQ g H locs ls ρ ca hs
  have k9 : W p l e Rm s m args below meth c H locs (N - N0) (cum N - cum N0) QQ (F0 m (pc + 1) ls (.int (i32 (K.2.2 i.toNat).toInt) :: S.map (cv ρ))) := k9
  rw [i32_of] at k9
  rcases g.2.2.2.2.2.2.2.2.2.1 with h | ⟨hX, hb, hA, hl⟩
  · omega
  · have hρ : ρ 1000 = ρ0 1000 := hs.2.2.2.2.2.1 1000 (Or.inr hN)
    show W p l e Rm s m args below meth c H locs _ _ QQ (F0 m pc ls (.int (i32 i) :: cv ρ (vR 1000) :: S.map (cv ρ)))
    rw [cv_pos (by decide), hρ]
    refine va_sld g.1 g.2.1 hX hb hA hs.2.2.1 (by rw [vp_in_iff, i32_toInt ⟨by omega, by omega⟩]; exact hi) hd ?_
    rw [i32_cl hi.1 (by omega)]
    exact k9
theorem wp_slen (hN : N < 1000) (h0 : 0 < K.2.1 → K.2.1 < 2 ^ 31) (hs0 : 0 < K.2.1) (hd : decode mt.2.1 pc = .ok (.arraylength, 1)) (hp : pc + 1 = pc') (kk : wp K mt Q pc' L (vI (K.2.1 : Int) :: S) I R N) : wp K mt Q pc L (vR 1000 :: S) I R N := by
  subst hp
  intro p l e Rm s m args below meth c A D ρ0 ca0 N0 QQ g H locs ls ρ ca hs
  have k9 := kk p l e Rm s m args below meth c A D ρ0 ca0 N0 QQ g H locs ls ρ ca hs
  rcases g.2.2.2.2.2.2.2.2.2.1 with h | ⟨hX, hb, hA, hl⟩
  · omega
  · have hρ : ρ 1000 = ρ0 1000 := hs.2.2.2.2.2.1 1000 (Or.inr hN)
    show W p l e Rm s m args below meth c H locs _ _ QQ (F0 m pc ls (cv ρ (vR 1000) :: S.map (cv ρ)))
    rw [cv_pos (by decide), hρ]
    refine va_slen g.1 g.2.1 hX hb hA hs.2.2.1 hd ?_
    rw [← Int32.ofInt_eq_ofNat]
    exact k9
theorem rvI {mt' : MI} {Q' : QT} {rest : List AV} {M' : Nat} (hr : mt'.2.2.2.1 = some .int) (k : ∀ x I' R', Q' (vI x) I' R' → wp K mt Q pc L (vI x :: rest) I' R' M') : ∀ rv I' R', okret mt'.2.2.2.1 rv → Q' rv I' R' → wp K mt Q pc L (psh rv rest) I' R' M' := fun rv I' R' ho hq => by
  rw [hr] at ho
  rcases rv with _ | x | x | x
  · exact ho.elim
  · exact k x I' R' hq
  · exact ho.elim
  · exact ho.elim
theorem rvZ {mt' : MI} {Q' : QT} {rest : List AV} {M' : Nat} (hr : mt'.2.2.2.1 = some .boolean) (k : ∀ x I' R', (x = 0 ∨ x = 1) → Q' (vI x) I' R' → wp K mt Q pc L (vI x :: rest) I' R' M') : ∀ rv I' R', okret mt'.2.2.2.1 rv → Q' rv I' R' → wp K mt Q pc L (psh rv rest) I' R' M' := fun rv I' R' ho hq => by
  rw [hr] at ho
  rcases rv with _ | x | x | x
  · exact ho.elim
  · exact k x I' R' ho hq
  · exact ho.elim
  · exact ho.elim
theorem rvL {mt' : MI} {Q' : QT} {rest : List AV} {M' : Nat} (hr : mt'.2.2.2.1 = some .long) (k : ∀ x I' R', Q' (vL x) I' R' → wp K mt Q pc L (vL x :: rest) I' R' M') : ∀ rv I' R', okret mt'.2.2.2.1 rv → Q' rv I' R' → wp K mt Q pc L (psh rv rest) I' R' M' := fun rv I' R' ho hq => by
  rw [hr] at ho
  rcases rv with _ | x | x | x
  · exact ho.elim
  · exact ho.elim
  · exact k x I' R' hq
  · exact ho.elim
theorem rvV {mt' : MI} {Q' : QT} {rest : List AV} {M' : Nat} (hr : mt'.2.2.2.1 = none) (k : ∀ I' R', Q' none I' R' → wp K mt Q pc L rest I' R' M') : ∀ rv I' R', okret mt'.2.2.2.1 rv → Q' rv I' R' → wp K mt Q pc L (psh rv rest) I' R' M' := fun rv I' R' ho hq => by
  rw [hr] at ho
  rcases rv with _ | x | x | x
  · exact k I' R' hq
  · exact ho.elim
  · exact ho.elim
  · exact ho.elim
end MORE
theorem leP_n {L : List AV} : leP [] L := trivial
theorem leP_s {a b : List AV} {x : AV} (h : leP a b) : leP (x :: a) (x :: b) := by
  cases x with
  | none => exact h
  | some v => exact ⟨rfl, h⟩
theorem leP_d {a b : List AV} {y : AV} (h : leP a b) : leP (none :: a) (y :: b) := h
/-- the room of a method that makes no cells -/
abbrev kN (N : Nat) : KT := (N, 0, fun _ => 0)
end
