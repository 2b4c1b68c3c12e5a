-- ===== PART A: goes FIRST, ahead of the names: the tables' words, and 'selects' of the private methods out of them =====
/-- a private method of a class that the tables say can be made, by its rows of tables_1 -/
def lw_okq (q : MethodName × Nat) : Prop := (q.1.cls ≠ "java/lang/invoke/MethodHandle" ∧ q.1.cls ≠ "java/lang/invoke/VarHandle") ∧ Cond.instantiable q.1.cls q.2 ∈ tables_1 ∧ Cond.privateMethod q.1 ∈ tables_1 ∧ Cond.instanceMethod q.1 ∈ tables_1
theorem lw_p0 : lw_okq (⟨"ShoutedPrices$Lines", "price", "(I)V"⟩, 6) := ⟨⟨by decide +kernel, by decide +kernel⟩, List.mem_of_getElem? (i := 171) (by decide +kernel), List.mem_of_getElem? (i := 446) (by decide +kernel), List.mem_of_getElem? (i := 447) (by decide +kernel)⟩
theorem lw_p1 : lw_okq (⟨"ShoutedPrices", "gainOfAllMeetings", "()I"⟩, 12) := ⟨⟨by decide +kernel, by decide +kernel⟩, List.mem_of_getElem? (i := 16) (by decide +kernel), List.mem_of_getElem? (i := 466) (by decide +kernel), List.mem_of_getElem? (i := 467) (by decide +kernel)⟩
theorem lw_p2 : lw_okq (⟨"ShoutedPrices", "gainOfTelling", "(II)I"⟩, 12) := ⟨⟨by decide +kernel, by decide +kernel⟩, List.mem_of_getElem? (i := 16) (by decide +kernel), List.mem_of_getElem? (i := 475) (by decide +kernel), List.mem_of_getElem? (i := 476) (by decide +kernel)⟩
theorem lw_p3 : lw_okq (⟨"ShoutedPrices$Round", "playShouts", "(LShoutedPrices$Room;LShoutedPrices$Log;)V"⟩, 14) := ⟨⟨by decide +kernel, by decide +kernel⟩, List.mem_of_getElem? (i := 231) (by decide +kernel), List.mem_of_getElem? (i := 505) (by decide +kernel), List.mem_of_getElem? (i := 506) (by decide +kernel)⟩
theorem lw_p4 : lw_okq (⟨"ShoutedPrices$Round", "draw", "(II)I"⟩, 14) := ⟨⟨by decide +kernel, by decide +kernel⟩, List.mem_of_getElem? (i := 231) (by decide +kernel), List.mem_of_getElem? (i := 509) (by decide +kernel), List.mem_of_getElem? (i := 510) (by decide +kernel)⟩
theorem lw_p5 : lw_okq (⟨"ShoutedPrices$Round", "tells", "(LShoutedPrices$Room;III)I"⟩, 14) := ⟨⟨by decide +kernel, by decide +kernel⟩, List.mem_of_getElem? (i := 231) (by decide +kernel), List.mem_of_getElem? (i := 520) (by decide +kernel), List.mem_of_getElem? (i := 521) (by decide +kernel)⟩
theorem lw_p6 : lw_okq (⟨"ShoutedPrices$Round", "hearOffer", "(LShoutedPrices$Room;III)V"⟩, 14) := ⟨⟨by decide +kernel, by decide +kernel⟩, List.mem_of_getElem? (i := 231) (by decide +kernel), List.mem_of_getElem? (i := 548) (by decide +kernel), List.mem_of_getElem? (i := 549) (by decide +kernel)⟩
theorem lw_p7 : lw_okq (⟨"ShoutedPrices$Round", "trade", "(LShoutedPrices$Room;IIII)V"⟩, 14) := ⟨⟨by decide +kernel, by decide +kernel⟩, List.mem_of_getElem? (i := 231) (by decide +kernel), List.mem_of_getElem? (i := 552) (by decide +kernel), List.mem_of_getElem? (i := 553) (by decide +kernel)⟩
theorem lw_p8 : lw_okq (⟨"ShoutedPrices$Round", "hearBid", "(LShoutedPrices$Room;III)V"⟩, 14) := ⟨⟨by decide +kernel, by decide +kernel⟩, List.mem_of_getElem? (i := 231) (by decide +kernel), List.mem_of_getElem? (i := 558) (by decide +kernel), List.mem_of_getElem? (i := 559) (by decide +kernel)⟩
theorem lw_p9 : lw_okq (⟨"ShoutedPrices$Round", "playPairs", "(LShoutedPrices$Room;)V"⟩, 14) := ⟨⟨by decide +kernel, by decide +kernel⟩, List.mem_of_getElem? (i := 231) (by decide +kernel), List.mem_of_getElem? (i := 562) (by decide +kernel), List.mem_of_getElem? (i := 563) (by decide +kernel)⟩
theorem lw_p10 : lw_okq (⟨"ShoutedPrices$Round", "playPosted", "(LShoutedPrices$Room;)V"⟩, 14) := ⟨⟨by decide +kernel, by decide +kernel⟩, List.mem_of_getElem? (i := 231) (by decide +kernel), List.mem_of_getElem? (i := 566) (by decide +kernel), List.mem_of_getElem? (i := 567) (by decide +kernel)⟩
theorem lw_p11 : lw_okq (⟨"ShoutedPrices$Round", "cheapestLeft", "(LShoutedPrices$Room;)I"⟩, 14) := ⟨⟨by decide +kernel, by decide +kernel⟩, List.mem_of_getElem? (i := 231) (by decide +kernel), List.mem_of_getElem? (i := 570) (by decide +kernel), List.mem_of_getElem? (i := 571) (by decide +kernel)⟩
theorem lw_p12 : lw_okq (⟨"ShoutedPrices$Round", "playBell", "(LShoutedPrices$Room;)V"⟩, 14) := ⟨⟨by decide +kernel, by decide +kernel⟩, List.mem_of_getElem? (i := 231) (by decide +kernel), List.mem_of_getElem? (i := 574) (by decide +kernel), List.mem_of_getElem? (i := 575) (by decide +kernel)⟩
theorem lw_p13 : lw_okq (⟨"ShoutedPrices", "sumUp", "(II)V"⟩, 12) := ⟨⟨by decide +kernel, by decide +kernel⟩, List.mem_of_getElem? (i := 16) (by decide +kernel), List.mem_of_getElem? (i := 593) (by decide +kernel), List.mem_of_getElem? (i := 594) (by decide +kernel)⟩
theorem lw_p14 : lw_okq (⟨"ShoutedPrices", "bestBy", "(I)I"⟩, 12) := ⟨⟨by decide +kernel, by decide +kernel⟩, List.mem_of_getElem? (i := 16) (by decide +kernel), List.mem_of_getElem? (i := 601) (by decide +kernel), List.mem_of_getElem? (i := 602) (by decide +kernel)⟩
theorem lw_p15 : lw_okq (⟨"ShoutedPrices$Carriers", "offer", "(II)V"⟩, 2) := ⟨⟨by decide +kernel, by decide +kernel⟩, List.mem_of_getElem? (i := 286) (by decide +kernel), List.mem_of_getElem? (i := 646) (by decide +kernel), List.mem_of_getElem? (i := 647) (by decide +kernel)⟩
def lw_privs_1 : List (MethodName × Nat) := [(⟨"ShoutedPrices$Lines", "price", "(I)V"⟩, 6), (⟨"ShoutedPrices", "gainOfAllMeetings", "()I"⟩, 12), (⟨"ShoutedPrices", "gainOfTelling", "(II)I"⟩, 12), (⟨"ShoutedPrices$Round", "playShouts", "(LShoutedPrices$Room;LShoutedPrices$Log;)V"⟩, 14), (⟨"ShoutedPrices$Round", "draw", "(II)I"⟩, 14), (⟨"ShoutedPrices$Round", "tells", "(LShoutedPrices$Room;III)I"⟩, 14), (⟨"ShoutedPrices$Round", "hearOffer", "(LShoutedPrices$Room;III)V"⟩, 14), (⟨"ShoutedPrices$Round", "trade", "(LShoutedPrices$Room;IIII)V"⟩, 14), (⟨"ShoutedPrices$Round", "hearBid", "(LShoutedPrices$Room;III)V"⟩, 14), (⟨"ShoutedPrices$Round", "playPairs", "(LShoutedPrices$Room;)V"⟩, 14), (⟨"ShoutedPrices$Round", "playPosted", "(LShoutedPrices$Room;)V"⟩, 14), (⟨"ShoutedPrices$Round", "cheapestLeft", "(LShoutedPrices$Room;)I"⟩, 14), (⟨"ShoutedPrices$Round", "playBell", "(LShoutedPrices$Room;)V"⟩, 14), (⟨"ShoutedPrices", "sumUp", "(II)V"⟩, 12), (⟨"ShoutedPrices", "bestBy", "(I)I"⟩, 12), (⟨"ShoutedPrices$Carriers", "offer", "(II)V"⟩, 2)]
theorem lw_r1 : ∀ q ∈ lw_privs_1, lw_okq q := List.forall_mem_cons.mpr ⟨lw_p0, List.forall_mem_cons.mpr ⟨lw_p1, List.forall_mem_cons.mpr ⟨lw_p2, List.forall_mem_cons.mpr ⟨lw_p3, List.forall_mem_cons.mpr ⟨lw_p4, List.forall_mem_cons.mpr ⟨lw_p5, List.forall_mem_cons.mpr ⟨lw_p6, List.forall_mem_cons.mpr ⟨lw_p7, List.forall_mem_cons.mpr ⟨lw_p8, List.forall_mem_cons.mpr ⟨lw_p9, List.forall_mem_cons.mpr ⟨lw_p10, List.forall_mem_cons.mpr ⟨lw_p11, List.forall_mem_cons.mpr ⟨lw_p12, List.forall_mem_cons.mpr ⟨lw_p13, List.forall_mem_cons.mpr ⟨lw_p14, List.forall_mem_cons.mpr ⟨lw_p15, fun _ h => absurd h List.not_mem_nil⟩⟩⟩⟩⟩⟩⟩⟩⟩⟩⟩⟩⟩⟩⟩⟩
theorem lw_p16 : lw_okq (⟨"ShoutedPricesModel", "noRoom", "(I)V"⟩, 34) := ⟨⟨by decide +kernel, by decide +kernel⟩, List.mem_of_getElem? (i := 678) (by decide +kernel), List.mem_of_getElem? (i := 684) (by decide +kernel), List.mem_of_getElem? (i := 685) (by decide +kernel)⟩
theorem lw_p17 : lw_okq (⟨"ShoutedPricesModel", "readAll", "()I"⟩, 34) := ⟨⟨by decide +kernel, by decide +kernel⟩, List.mem_of_getElem? (i := 678) (by decide +kernel), List.mem_of_getElem? (i := 808) (by decide +kernel), List.mem_of_getElem? (i := 809) (by decide +kernel)⟩
theorem lw_p18 : lw_okq (⟨"ShoutedPricesModel", "item", "()Z"⟩, 34) := ⟨⟨by decide +kernel, by decide +kernel⟩, List.mem_of_getElem? (i := 678) (by decide +kernel), List.mem_of_getElem? (i := 812) (by decide +kernel), List.mem_of_getElem? (i := 813) (by decide +kernel)⟩
theorem lw_p19 : lw_okq (⟨"ShoutedPricesModel", "byteAt", "(I)I"⟩, 34) := ⟨⟨by decide +kernel, by decide +kernel⟩, List.mem_of_getElem? (i := 678) (by decide +kernel), List.mem_of_getElem? (i := 816) (by decide +kernel), List.mem_of_getElem? (i := 817) (by decide +kernel)⟩
theorem lw_p20 : lw_okq (⟨"ShoutedPricesModel", "personItem", "(I)Z"⟩, 34) := ⟨⟨by decide +kernel, by decide +kernel⟩, List.mem_of_getElem? (i := 678) (by decide +kernel), List.mem_of_getElem? (i := 820) (by decide +kernel), List.mem_of_getElem? (i := 821) (by decide +kernel)⟩
theorem lw_p21 : lw_okq (⟨"ShoutedPricesModel", "figures", "(I)Z"⟩, 34) := ⟨⟨by decide +kernel, by decide +kernel⟩, List.mem_of_getElem? (i := 678) (by decide +kernel), List.mem_of_getElem? (i := 824) (by decide +kernel), List.mem_of_getElem? (i := 825) (by decide +kernel)⟩
theorem lw_p22 : lw_okq (⟨"ShoutedPricesModel", "readMany", "(I)I"⟩, 34) := ⟨⟨by decide +kernel, by decide +kernel⟩, List.mem_of_getElem? (i := 678) (by decide +kernel), List.mem_of_getElem? (i := 831) (by decide +kernel), List.mem_of_getElem? (i := 832) (by decide +kernel)⟩
theorem lw_p23 : lw_okq (⟨"ShoutedPricesModel", "numberItem", "(III)Z"⟩, 34) := ⟨⟨by decide +kernel, by decide +kernel⟩, List.mem_of_getElem? (i := 678) (by decide +kernel), List.mem_of_getElem? (i := 835) (by decide +kernel), List.mem_of_getElem? (i := 836) (by decide +kernel)⟩
theorem lw_p24 : lw_okq (⟨"ShoutedPricesModel", "isPerson", "(I)Z"⟩, 34) := ⟨⟨by decide +kernel, by decide +kernel⟩, List.mem_of_getElem? (i := 678) (by decide +kernel), List.mem_of_getElem? (i := 847) (by decide +kernel), List.mem_of_getElem? (i := 848) (by decide +kernel)⟩
theorem lw_p25 : lw_okq (⟨"ShoutedPricesModel", "showTrue", "()V"⟩, 34) := ⟨⟨by decide +kernel, by decide +kernel⟩, List.mem_of_getElem? (i := 678) (by decide +kernel), List.mem_of_getElem? (i := 862) (by decide +kernel), List.mem_of_getElem? (i := 863) (by decide +kernel)⟩
theorem lw_p26 : lw_okq (⟨"ShoutedPricesModel", "layLines", "()V"⟩, 34) := ⟨⟨by decide +kernel, by decide +kernel⟩, List.mem_of_getElem? (i := 678) (by decide +kernel), List.mem_of_getElem? (i := 866) (by decide +kernel), List.mem_of_getElem? (i := 867) (by decide +kernel)⟩
theorem lw_p27 : lw_okq (⟨"ShoutedPricesModel", "quantity", "(I)I"⟩, 34) := ⟨⟨by decide +kernel, by decide +kernel⟩, List.mem_of_getElem? (i := 678) (by decide +kernel), List.mem_of_getElem? (i := 870) (by decide +kernel), List.mem_of_getElem? (i := 871) (by decide +kernel)⟩
theorem lw_p28 : lw_okq (⟨"ShoutedPricesModel", "worth", "(I)I"⟩, 34) := ⟨⟨by decide +kernel, by decide +kernel⟩, List.mem_of_getElem? (i := 678) (by decide +kernel), List.mem_of_getElem? (i := 874) (by decide +kernel), List.mem_of_getElem? (i := 875) (by decide +kernel)⟩
theorem lw_p29 : lw_okq (⟨"ShoutedPricesModel", "costs", "(I)I"⟩, 34) := ⟨⟨by decide +kernel, by decide +kernel⟩, List.mem_of_getElem? (i := 678) (by decide +kernel), List.mem_of_getElem? (i := 878) (by decide +kernel), List.mem_of_getElem? (i := 879) (by decide +kernel)⟩
theorem lw_p30 : lw_okq (⟨"ShoutedPricesModel", "gainOf", "(I)I"⟩, 34) := ⟨⟨by decide +kernel, by decide +kernel⟩, List.mem_of_getElem? (i := 678) (by decide +kernel), List.mem_of_getElem? (i := 882) (by decide +kernel), List.mem_of_getElem? (i := 883) (by decide +kernel)⟩
theorem lw_p31 : lw_okq (⟨"ShoutedPricesModel", "lowest", "(II)I"⟩, 34) := ⟨⟨by decide +kernel, by decide +kernel⟩, List.mem_of_getElem? (i := 678) (by decide +kernel), List.mem_of_getElem? (i := 886) (by decide +kernel), List.mem_of_getElem? (i := 887) (by decide +kernel)⟩
def lw_privs_2 : List (MethodName × Nat) := [(⟨"ShoutedPricesModel", "noRoom", "(I)V"⟩, 34), (⟨"ShoutedPricesModel", "readAll", "()I"⟩, 34), (⟨"ShoutedPricesModel", "item", "()Z"⟩, 34), (⟨"ShoutedPricesModel", "byteAt", "(I)I"⟩, 34), (⟨"ShoutedPricesModel", "personItem", "(I)Z"⟩, 34), (⟨"ShoutedPricesModel", "figures", "(I)Z"⟩, 34), (⟨"ShoutedPricesModel", "readMany", "(I)I"⟩, 34), (⟨"ShoutedPricesModel", "numberItem", "(III)Z"⟩, 34), (⟨"ShoutedPricesModel", "isPerson", "(I)Z"⟩, 34), (⟨"ShoutedPricesModel", "showTrue", "()V"⟩, 34), (⟨"ShoutedPricesModel", "layLines", "()V"⟩, 34), (⟨"ShoutedPricesModel", "quantity", "(I)I"⟩, 34), (⟨"ShoutedPricesModel", "worth", "(I)I"⟩, 34), (⟨"ShoutedPricesModel", "costs", "(I)I"⟩, 34), (⟨"ShoutedPricesModel", "gainOf", "(I)I"⟩, 34), (⟨"ShoutedPricesModel", "lowest", "(II)I"⟩, 34)]
theorem lw_r2 : ∀ q ∈ lw_privs_2, lw_okq q := List.forall_mem_cons.mpr ⟨lw_p16, List.forall_mem_cons.mpr ⟨lw_p17, List.forall_mem_cons.mpr ⟨lw_p18, List.forall_mem_cons.mpr ⟨lw_p19, List.forall_mem_cons.mpr ⟨lw_p20, List.forall_mem_cons.mpr ⟨lw_p21, List.forall_mem_cons.mpr ⟨lw_p22, List.forall_mem_cons.mpr ⟨lw_p23, List.forall_mem_cons.mpr ⟨lw_p24, List.forall_mem_cons.mpr ⟨lw_p25, List.forall_mem_cons.mpr ⟨lw_p26, List.forall_mem_cons.mpr ⟨lw_p27, List.forall_mem_cons.mpr ⟨lw_p28, List.forall_mem_cons.mpr ⟨lw_p29, List.forall_mem_cons.mpr ⟨lw_p30, List.forall_mem_cons.mpr ⟨lw_p31, fun _ h => absurd h List.not_mem_nil⟩⟩⟩⟩⟩⟩⟩⟩⟩⟩⟩⟩⟩⟩⟩⟩
theorem lw_p32 : lw_okq (⟨"ShoutedPricesModel", "highest", "(II)I"⟩, 34) := ⟨⟨by decide +kernel, by decide +kernel⟩, List.mem_of_getElem? (i := 678) (by decide +kernel), List.mem_of_getElem? (i := 890) (by decide +kernel), List.mem_of_getElem? (i := 891) (by decide +kernel)⟩
theorem lw_p33 : lw_okq (⟨"ShoutedPricesModel", "manyOf", "(I)I"⟩, 34) := ⟨⟨by decide +kernel, by decide +kernel⟩, List.mem_of_getElem? (i := 678) (by decide +kernel), List.mem_of_getElem? (i := 903) (by decide +kernel), List.mem_of_getElem? (i := 904) (by decide +kernel)⟩
theorem lw_p34 : lw_okq (⟨"ShoutedPricesModel", "bellOf", "(II)I"⟩, 34) := ⟨⟨by decide +kernel, by decide +kernel⟩, List.mem_of_getElem? (i := 678) (by decide +kernel), List.mem_of_getElem? (i := 915) (by decide +kernel), List.mem_of_getElem? (i := 916) (by decide +kernel)⟩
theorem lw_p35 : lw_okq (⟨"ShoutedPricesModel", "isFirst", "(II)Z"⟩, 34) := ⟨⟨by decide +kernel, by decide +kernel⟩, List.mem_of_getElem? (i := 678) (by decide +kernel), List.mem_of_getElem? (i := 919) (by decide +kernel), List.mem_of_getElem? (i := 920) (by decide +kernel)⟩
theorem lw_p36 : lw_okq (⟨"ShoutedPricesModel", "goRound", "(IIZ)V"⟩, 34) := ⟨⟨by decide +kernel, by decide +kernel⟩, List.mem_of_getElem? (i := 678) (by decide +kernel), List.mem_of_getElem? (i := 935) (by decide +kernel), List.mem_of_getElem? (i := 936) (by decide +kernel)⟩
theorem lw_p37 : lw_okq (⟨"ShoutedPricesModel", "goShouts", "()V"⟩, 34) := ⟨⟨by decide +kernel, by decide +kernel⟩, List.mem_of_getElem? (i := 678) (by decide +kernel), List.mem_of_getElem? (i := 939) (by decide +kernel), List.mem_of_getElem? (i := 940) (by decide +kernel)⟩
theorem lw_p38 : lw_okq (⟨"ShoutedPricesModel", "draw", "(II)I"⟩, 34) := ⟨⟨by decide +kernel, by decide +kernel⟩, List.mem_of_getElem? (i := 678) (by decide +kernel), List.mem_of_getElem? (i := 943) (by decide +kernel), List.mem_of_getElem? (i := 944) (by decide +kernel)⟩
theorem lw_p39 : lw_okq (⟨"ShoutedPricesModel", "shoutOf", "(IIII)I"⟩, 34) := ⟨⟨by decide +kernel, by decide +kernel⟩, List.mem_of_getElem? (i := 678) (by decide +kernel), List.mem_of_getElem? (i := 951) (by decide +kernel), List.mem_of_getElem? (i := 952) (by decide +kernel)⟩
theorem lw_p40 : lw_okq (⟨"ShoutedPricesModel", "shoutBy", "(IIIIII)I"⟩, 34) := ⟨⟨by decide +kernel, by decide +kernel⟩, List.mem_of_getElem? (i := 678) (by decide +kernel), List.mem_of_getElem? (i := 955) (by decide +kernel), List.mem_of_getElem? (i := 956) (by decide +kernel)⟩
theorem lw_p41 : lw_okq (⟨"ShoutedPricesModel", "note", "(III)V"⟩, 34) := ⟨⟨by decide +kernel, by decide +kernel⟩, List.mem_of_getElem? (i := 678) (by decide +kernel), List.mem_of_getElem? (i := 959) (by decide +kernel), List.mem_of_getElem? (i := 960) (by decide +kernel)⟩
theorem lw_p42 : lw_okq (⟨"ShoutedPricesModel", "trade", "(IIII)V"⟩, 34) := ⟨⟨by decide +kernel, by decide +kernel⟩, List.mem_of_getElem? (i := 678) (by decide +kernel), List.mem_of_getElem? (i := 963) (by decide +kernel), List.mem_of_getElem? (i := 964) (by decide +kernel)⟩
theorem lw_p43 : lw_okq (⟨"ShoutedPricesModel", "goPairs", "()V"⟩, 34) := ⟨⟨by decide +kernel, by decide +kernel⟩, List.mem_of_getElem? (i := 678) (by decide +kernel), List.mem_of_getElem? (i := 967) (by decide +kernel), List.mem_of_getElem? (i := 968) (by decide +kernel)⟩
theorem lw_p44 : lw_okq (⟨"ShoutedPricesModel", "personOf", "(II)I"⟩, 34) := ⟨⟨by decide +kernel, by decide +kernel⟩, List.mem_of_getElem? (i := 678) (by decide +kernel), List.mem_of_getElem? (i := 971) (by decide +kernel), List.mem_of_getElem? (i := 972) (by decide +kernel)⟩
theorem lw_p45 : lw_okq (⟨"ShoutedPricesModel", "goPosted", "()V"⟩, 34) := ⟨⟨by decide +kernel, by decide +kernel⟩, List.mem_of_getElem? (i := 678) (by decide +kernel), List.mem_of_getElem? (i := 975) (by decide +kernel), List.mem_of_getElem? (i := 976) (by decide +kernel)⟩
theorem lw_p46 : lw_okq (⟨"ShoutedPricesModel", "goBell", "()V"⟩, 34) := ⟨⟨by decide +kernel, by decide +kernel⟩, List.mem_of_getElem? (i := 678) (by decide +kernel), List.mem_of_getElem? (i := 979) (by decide +kernel), List.mem_of_getElem? (i := 980) (by decide +kernel)⟩
theorem lw_p47 : lw_okq (⟨"ShoutedPricesModel", "layMeans", "(II)V"⟩, 34) := ⟨⟨by decide +kernel, by decide +kernel⟩, List.mem_of_getElem? (i := 678) (by decide +kernel), List.mem_of_getElem? (i := 991) (by decide +kernel), List.mem_of_getElem? (i := 992) (by decide +kernel)⟩
def lw_privs_3 : List (MethodName × Nat) := [(⟨"ShoutedPricesModel", "highest", "(II)I"⟩, 34), (⟨"ShoutedPricesModel", "manyOf", "(I)I"⟩, 34), (⟨"ShoutedPricesModel", "bellOf", "(II)I"⟩, 34), (⟨"ShoutedPricesModel", "isFirst", "(II)Z"⟩, 34), (⟨"ShoutedPricesModel", "goRound", "(IIZ)V"⟩, 34), (⟨"ShoutedPricesModel", "goShouts", "()V"⟩, 34), (⟨"ShoutedPricesModel", "draw", "(II)I"⟩, 34), (⟨"ShoutedPricesModel", "shoutOf", "(IIII)I"⟩, 34), (⟨"ShoutedPricesModel", "shoutBy", "(IIIIII)I"⟩, 34), (⟨"ShoutedPricesModel", "note", "(III)V"⟩, 34), (⟨"ShoutedPricesModel", "trade", "(IIII)V"⟩, 34), (⟨"ShoutedPricesModel", "goPairs", "()V"⟩, 34), (⟨"ShoutedPricesModel", "personOf", "(II)I"⟩, 34), (⟨"ShoutedPricesModel", "goPosted", "()V"⟩, 34), (⟨"ShoutedPricesModel", "goBell", "()V"⟩, 34), (⟨"ShoutedPricesModel", "layMeans", "(II)V"⟩, 34)]
theorem lw_r3 : ∀ q ∈ lw_privs_3, lw_okq q := List.forall_mem_cons.mpr ⟨lw_p32, List.forall_mem_cons.mpr ⟨lw_p33, List.forall_mem_cons.mpr ⟨lw_p34, List.forall_mem_cons.mpr ⟨lw_p35, List.forall_mem_cons.mpr ⟨lw_p36, List.forall_mem_cons.mpr ⟨lw_p37, List.forall_mem_cons.mpr ⟨lw_p38, List.forall_mem_cons.mpr ⟨lw_p39, List.forall_mem_cons.mpr ⟨lw_p40, List.forall_mem_cons.mpr ⟨lw_p41, List.forall_mem_cons.mpr ⟨lw_p42, List.forall_mem_cons.mpr ⟨lw_p43, List.forall_mem_cons.mpr ⟨lw_p44, List.forall_mem_cons.mpr ⟨lw_p45, List.forall_mem_cons.mpr ⟨lw_p46, List.forall_mem_cons.mpr ⟨lw_p47, fun _ h => absurd h List.not_mem_nil⟩⟩⟩⟩⟩⟩⟩⟩⟩⟩⟩⟩⟩⟩⟩⟩
theorem lw_p48 : lw_okq (⟨"ShoutedPricesModel", "bestBy", "(I)I"⟩, 34) := ⟨⟨by decide +kernel, by decide +kernel⟩, List.mem_of_getElem? (i := 678) (by decide +kernel), List.mem_of_getElem? (i := 999) (by decide +kernel), List.mem_of_getElem? (i := 1000) (by decide +kernel)⟩
theorem lw_p49 : lw_okq (⟨"ShoutedPricesModel", "knownOf", "(I)I"⟩, 34) := ⟨⟨by decide +kernel, by decide +kernel⟩, List.mem_of_getElem? (i := 678) (by decide +kernel), List.mem_of_getElem? (i := 1011) (by decide +kernel), List.mem_of_getElem? (i := 1012) (by decide +kernel)⟩
theorem lw_p50 : lw_okq (⟨"ShoutedPricesModel", "mayBe", "(II)Z"⟩, 34) := ⟨⟨by decide +kernel, by decide +kernel⟩, List.mem_of_getElem? (i := 678) (by decide +kernel), List.mem_of_getElem? (i := 1023) (by decide +kernel), List.mem_of_getElem? (i := 1024) (by decide +kernel)⟩
theorem lw_p51 : lw_okq (⟨"ShoutedPricesModel", "layRooms", "(I)V"⟩, 34) := ⟨⟨by decide +kernel, by decide +kernel⟩, List.mem_of_getElem? (i := 678) (by decide +kernel), List.mem_of_getElem? (i := 1031) (by decide +kernel), List.mem_of_getElem? (i := 1032) (by decide +kernel)⟩
theorem lw_p52 : lw_okq (⟨"ShoutedPricesModel", "carried", "(II)I"⟩, 34) := ⟨⟨by decide +kernel, by decide +kernel⟩, List.mem_of_getElem? (i := 678) (by decide +kernel), List.mem_of_getElem? (i := 1035) (by decide +kernel), List.mem_of_getElem? (i := 1036) (by decide +kernel)⟩
theorem lw_p53 : lw_okq (⟨"ShoutedPricesModel", "copyLog", "(II)V"⟩, 34) := ⟨⟨by decide +kernel, by decide +kernel⟩, List.mem_of_getElem? (i := 678) (by decide +kernel), List.mem_of_getElem? (i := 1043) (by decide +kernel), List.mem_of_getElem? (i := 1044) (by decide +kernel)⟩
def lw_privs_4 : List (MethodName × Nat) := [(⟨"ShoutedPricesModel", "bestBy", "(I)I"⟩, 34), (⟨"ShoutedPricesModel", "knownOf", "(I)I"⟩, 34), (⟨"ShoutedPricesModel", "mayBe", "(II)Z"⟩, 34), (⟨"ShoutedPricesModel", "layRooms", "(I)V"⟩, 34), (⟨"ShoutedPricesModel", "carried", "(II)I"⟩, 34), (⟨"ShoutedPricesModel", "copyLog", "(II)V"⟩, 34)]
theorem lw_r4 : ∀ q ∈ lw_privs_4, lw_okq q := List.forall_mem_cons.mpr ⟨lw_p48, List.forall_mem_cons.mpr ⟨lw_p49, List.forall_mem_cons.mpr ⟨lw_p50, List.forall_mem_cons.mpr ⟨lw_p51, List.forall_mem_cons.mpr ⟨lw_p52, List.forall_mem_cons.mpr ⟨lw_p53, fun _ h => absurd h List.not_mem_nil⟩⟩⟩⟩⟩⟩
def lw_privs : List (MethodName × Nat) := lw_privs_1 ++ (lw_privs_2 ++ (lw_privs_3 ++ (lw_privs_4)))
def lw_tbl : List Cond := k2_sels lw_privs ++ tables_1
theorem lw_privs_ok : ∀ q ∈ lw_privs, lw_okq q := by
  show ∀ q ∈ lw_privs_1 ++ (lw_privs_2 ++ (lw_privs_3 ++ (lw_privs_4))), lw_okq q
  exact List.forall_mem_append.mpr ⟨lw_r1, List.forall_mem_append.mpr ⟨lw_r2, List.forall_mem_append.mpr ⟨lw_r3, lw_r4⟩⟩⟩
def va_AOA (ty : FieldType) (U : State) : Prop := (Cond.arrayOver (.array ty)).before #[] U = true
theorem va_AOA.of {ty : FieldType} {A : Array Value} {U : State} (h : (Cond.arrayOver (.array ty)).before A U = true) : va_AOA ty U := h
theorem va_AOA.use {ty : FieldType} {A : Array Value} {U : State} (h : va_AOA ty U) : (Cond.arrayOver (.array ty)).before A U = true := h
/-! ===== BEGIN words of one list among another's, by their places ===== -/
theorem goodIn_r {big : List Cond} (ws : List Cond) (ps : List Nat) (hp : ws = ps.filterMap (fun i => big[i]?)) (h : ws.all goodWord = true) : GoodIn big ws := by
  intro w hw
  have h1 := List.all_eq_true.mp h w hw
  rw [hp] at hw
  obtain ⟨i, -, hi⟩ := List.mem_filterMap.mp hw
  have hm : w ∈ big := by first | exact List.mem_of_getElem? hi | exact List.getElem?_mem hi
  exact ⟨hm, good_of_word h1⟩
theorem goodIn_app {big a b : List Cond} (ha : GoodIn big a) (hb : GoodIn big b) : GoodIn big (a ++ b) := fun w h => (List.mem_append.mp h).elim (ha w) (hb w)
theorem goodIn_ca {big a b : List Cond} {c : Cond} (ha : GoodIn big (c :: a)) (hb : GoodIn big b) : GoodIn big (c :: (a ++ b)) := fun w h => (List.mem_cons.mp h).elim (fun e => ha w (List.mem_cons.mpr (Or.inl e))) (fun h => (List.mem_append.mp h).elim (fun h => ha w (List.mem_cons.mpr (Or.inr h))) (hb w))
theorem goodIn_sub {big ws : List Cond} (hm : ∀ w ∈ ws, w ∈ big) (h : ws.all goodWord = true) : GoodIn big ws := fun w hw => ⟨hm w hw, good_of_word (List.all_eq_true.mp h w hw)⟩
/-! ===== END ===== -/

/-! ===== BEGIN new T[n][m]: the outer array a place, the inner ones among the pooled ===== -/
/-- f, but v at every address of l -/
def vr_up {α : Type} (f : Nat → α) (l : List Nat) (v : α) : Nat → α := fun a => if a ∈ l then v else f a
theorem vr_up_in {α : Type} {f : Nat → α} {l : List Nat} {v : α} {a : Nat} (h : a ∈ l) : vr_up f l v a = v := if_pos h
theorem vr_up_ne {α : Type} {f : Nat → α} {l : List Nat} {v : α} {a : Nat} (h : a ∉ l) : vr_up f l v a = f a := if_neg h
theorem vr_rows {L l : List Nat} {f : Nat → va_E} {e : va_E} (h : ∀ a, a ∈ l → a ∉ L) : va_pl L f ++ l.map (fun a => (a, e)) = va_pl (L ++ l) (vr_up f l e) := by
  unfold va_pl
  rw [List.map_append]
  congr 1
  · apply List.map_congr_left
    intro a ha
    rw [vr_up_ne (fun q => h a q ha)]
  · apply List.map_congr_left
    intro a ha
    rw [vr_up_in ha]
theorem vr_lay {X rows : va_W} {x : Nat × va_E} {pl : va_W} {D : va_G} {cl : List vw_C} {H : Heap} (hP : va_P D cl (((X ++ pl) ++ [x]) ++ rows) H) : va_P D cl ((X ++ [x]) ++ (pl ++ rows)) H := by
  rw [List.append_assoc (X ++ pl)] at hP
  have h := va_P.swap hP
  rw [← List.append_assoc X] at h
  have h2 := va_P.swap h
  rw [List.append_assoc (X ++ [x])] at h2
  exact h2
theorem vr_layD {X rows : va_W} {x : Nat × va_E} {pl : va_W} {A : Nat → Prop} (hD : va_D A (((X ++ pl) ++ [x]) ++ rows)) : va_D A ((X ++ [x]) ++ (pl ++ rows)) := by
  rw [List.append_assoc (X ++ pl)] at hD
  have h := va_D.swap hD
  rw [← List.append_assoc X] at h
  have h2 := va_D.swap h
  rw [List.append_assoc (X ++ [x])] at h2
  exact h2
theorem vr_outer (c : ClassId) (N h0 : Nat) : ∀ i : Nat, Jvm.Free.Multi.outerC c N h0 i = arrV c N (fun j => va_rf (if j < i then some (h0 + 1 + j) else none))
  | 0 => by
    show ({ cls := c, slots := Array.replicate N .null, vm := .none } : Cell) = _
    rw [arrV_new]
    refine congrArg (arrV c N) (funext fun j => ?_)
    simp [va_rf]
  | i + 1 => by
    show (Jvm.Free.Multi.outerC c N h0 i).setSlot i (.ref (h0 + 1 + i)) = _
    rw [vr_outer c N h0 i, arrV_store]
    refine congrArg (arrV c N) (funext fun j => ?_)
    by_cases e : j = i
    · subst e
      simp [updV, va_rf]
    · by_cases h : j < i
      · simp [updV, e, h, Nat.lt_succ_of_lt h]
      · simp [updV, e, h, show ¬ j < i + 1 by omega]
section VGM
variable {p : Program} {l : Launch} {e : Env} {R : Room} {s : State} {m : MethodId} {args : Array Value} {below : List Frame} {meth : Method} {c : Code} {H : Heap} {locs : List Loc} {cells slots : Nat} {Q : State → Prop}
variable {cc : ByteArray} {pc : Nat} {ls : Array Slot} {rest : List Value} {D : va_G} {cl : List vw_C} {A : Nat → Prop} {a : Nat} {tys : List (ClassId × FieldType)} {ws : va_W} {H0 : Heap}
theorem va_mna {X : va_W} {L : List Nat} {f : Nat → va_E} {cc : ByteArray} (hexec : p.tables.exec = Jvm.exec) (hb : c.code = cc) {own : String} {index : Nat} {ty : FieldType} {cy : ClassId} (hown : s.vm.findClass own = some m.cls) (hclink : (Cond.classLink own index ("[" ++ (FieldType.array ty).toString)).before args s = true) (hover : va_AOA ty s) (harr : (Cond.arrayClass ty).before args s = true) (hcy : s.vm.findClass (FieldType.array ty).toString = some cy)
    (hK : va_K D cl tys s) (hP : va_P D cl (X ++ va_pl L f) H) (hD : va_D A (X ++ va_pl L f)) (hS : va_S A H0 H locs) (hA : ∀ q, H0.size ≤ q → A q) {n k : Int32} {N' K' : Nat} {z : vp_A} (hn : ¬ n < 0) (hk : ¬ k < 0) (hN : n.toNatClampNeg = N') (hM : k.toNatClampNeg = K')
    (hb1 : N' * 4 ≤ 536870912) (hb2 : K' * componentBytes ty ≤ 536870912) (hb3 : K' ≤ 536870912) (hdf : fits ty (defaultValue ty) = true) (hdd : (defaultValue ty).isDefault = true) (hcells : cells + (1 + N') ≤ R.cells) (hslots : slots + (N' + N' * K') ≤ R.slots) (hz : ∀ c : ClassId, Jvm.Free.Multi.innerC c K' (defaultValue ty) = vp_cell c z) (hdg : decode cc pc = .ok (.multianewarray index 2, 4))
    (kk : ∀ (q : Nat) (r : Nat → Nat) (cA : ClassId) (H1 : Heap), (∀ i j : Nat, i < N' → j < N' → r i = r j → i = j) → (∀ i : Nat, i < N' → r i ∉ L) → va_K D cl (tys ++ [(cA, .array ty)]) s →
      va_P D cl ((X ++ [(q, .inl (cA, N', .inr (.inr (.inr (.inr (fun i => if i < N' then some (r i) else none))))))]) ++ va_pl (L ++ (List.range N').map r) (vr_up f ((List.range N').map r) (.inl (cy, z)))) H1 → va_D A ((X ++ [(q, .inl (cA, N', .inr (.inr (.inr (.inr (fun i => if i < N' then some (r i) else none))))))]) ++ va_pl (L ++ (List.range N').map r) (vr_up f ((List.range N').map r) (.inl (cy, z)))) → va_S A H0 H1 locs →
      W p l e R s m args below meth c H1 locs (cells + 1 + N') (slots + N' + N' * K') Q (F0 m (pc + 4) ls (.ref q :: rest))) : W p l e R s m args below meth c H locs cells slots Q (F0 m pc ls (.int k :: .int n :: rest)) := by
  subst hN
  subst hM
  intro T hT Xs
  obtain ⟨vm₁, cA, comp, -, fA, fC, hO, -, X', step⟩ := Xs.multianewarray2F hexec hown hclink (va_AOA.use hover) harr (g := F0 m pc ls (.int k :: .int n :: rest)) rfl (by rw [hb]; exact hdg) rfl hn hk hb1 hb2 hb3 hdf hdd hcells hslots
  have ec : some cy = some comp := hcy.symm.trans fC
  cases ec
  generalize hF : Jvm.Free.Multi.fill (T.setVm vm₁) cA cy n.toNatClampNeg k.toNatClampNeg (defaultValue ty) n.toNatClampNeg = F at X' step
  have hTh : (T.setVm vm₁).heap = H := hT
  obtain ⟨f1, f2, -, -⟩ := Jvm.Free.Multi.fill_facts (T.setVm vm₁) cA cy n.toNatClampNeg k.toNatClampNeg (defaultValue ty) n.toNatClampNeg
  rw [hF, hTh] at f1 f2
  have hold : ∀ x : Nat, x < H.size → F.heap[x]? = H[x]? := fun x hx => by
    have := Jvm.Free.Multi.fill_old (T.setVm vm₁) cA cy n.toNatClampNeg k.toNatClampNeg (defaultValue ty) (a := x) (by rw [hTh]; exact hx) n.toNatClampNeg
    rw [hF, hTh] at this
    exact this
  have hrow : ∀ j : Nat, j < n.toNatClampNeg → F.heap[H.size + 1 + j]? = some (vp_cell cy z) := fun j hj => by
    have := Jvm.Free.Multi.fill_inner (T.setVm vm₁) cA cy n.toNatClampNeg k.toNatClampNeg (defaultValue ty) n.toNatClampNeg j hj
    rw [hF, hTh, hz] at this
    exact this
  have hout : Jvm.Free.Multi.outerC cA n.toNatClampNeg H.size n.toNatClampNeg = vp_cell cA (n.toNatClampNeg, .inr (.inr (.inr (.inr (fun i => if i < n.toNatClampNeg then some (H.size + 1 + i) else none))))) := by
    rw [vp_cell_q]
    exact vr_outer cA n.toNatClampNeg H.size n.toNatClampNeg
  rw [hout] at f2
  have hlt : ∀ a, a ∈ L → a < H.size := fun a ha => by
    obtain ⟨k9, hk9⟩ := va_pl_get (X := X) (f := f) ha
    exact (hP k9 _ hk9).lt
  have hnl : ∀ i : Nat, i < n.toNatClampNeg → H.size + 1 + i ∉ L := fun i _ h => by
    have := hlt _ h
    omega
  have hnm : ∀ a, a ∈ (List.range n.toNatClampNeg).map (fun i => H.size + 1 + i) → a ∉ L := fun a ha h => by
    obtain ⟨i, -, rfl⟩ := List.mem_map.mp ha
    have := hlt _ h
    omega
  have hP0 : va_P D cl (X ++ va_pl L f) F.heap := hP.kept (fun k9 x hx => hold x.1 ((hP k9 x hx).lt))
  have hP1 : va_P D cl ((X ++ va_pl L f) ++ [(H.size, .inl (cA, n.toNatClampNeg, .inr (.inr (.inr (.inr (fun i => if i < n.toNatClampNeg then some (H.size + 1 + i) else none))))))]) F.heap := hP0.app (fun k9 x hx => by
    have h0 : k9 < 1 := (List.getElem?_eq_some_iff.mp hx).1
    rw [show k9 = 0 by omega] at hx
    cases hx
    exact f2)
  have hP2 : va_P D cl (((X ++ va_pl L f) ++ [(H.size, .inl (cA, n.toNatClampNeg, .inr (.inr (.inr (.inr (fun i => if i < n.toNatClampNeg then some (H.size + 1 + i) else none))))))]) ++ ((List.range n.toNatClampNeg).map (fun i => H.size + 1 + i)).map (fun a => (a, .inl (cy, z)))) F.heap := hP1.app (fun k9 x hx => by
    obtain ⟨a, ha, rfl⟩ := List.mem_map.mp (List.mem_of_getElem? hx)
    obtain ⟨i, hi, rfl⟩ := List.mem_map.mp ha
    exact hrow i (List.mem_range.mp hi))
  have hD2 : va_D A (((X ++ va_pl L f) ++ [(H.size, .inl (cA, n.toNatClampNeg, .inr (.inr (.inr (.inr (fun i => if i < n.toNatClampNeg then some (H.size + 1 + i) else none))))))]) ++ ((List.range n.toNatClampNeg).map (fun i => H.size + 1 + i)).map (fun a => (a, .inl (cy, z)))) := by
    have hD1 := hD.push (e := .inl (cA, n.toNatClampNeg, .inr (.inr (.inr (.inr (fun i => if i < n.toNatClampNeg then some (H.size + 1 + i) else none)))))) hP rfl (hA _ hS.1)
    generalize hW1 : (X ++ va_pl L f) ++ [(H.size, .inl (cA, n.toNatClampNeg, .inr (.inr (.inr (.inr (fun i => if i < n.toNatClampNeg then some (H.size + 1 + i) else none))))))] = W1 at hD1 hP1 ⊢
    have hle : ∀ (k9 : Nat) (x : Nat × va_E), W1[k9]? = some x → x.1 ≤ H.size := fun k9 x hx => by
      rw [← hW1] at hx
      by_cases hl : k9 < (X ++ va_pl L f).length
      · rw [List.getElem?_append_left hl] at hx
        exact Nat.le_of_lt ((hP k9 x hx).lt)
      · rw [List.getElem?_append_right (by omega)] at hx
        have h0 : k9 - (X ++ va_pl L f).length < 1 := (List.getElem?_eq_some_iff.mp hx).1
        rw [show k9 - (X ++ va_pl L f).length = 0 by omega] at hx
        cases hx
        exact Nat.le_refl _
    have hr : ∀ (k9 : Nat) (x : Nat × va_E), (((List.range n.toNatClampNeg).map (fun i => H.size + 1 + i)).map (fun a => ((a, .inl (cy, z)) : Nat × va_E)))[k9]? = some x → x.1 = H.size + 1 + k9 := fun k9 x hx => by
      rw [List.getElem?_map, List.getElem?_map] at hx
      by_cases h9 : k9 < n.toNatClampNeg
      · rw [List.getElem?_range h9] at hx
        cases hx
        rfl
      · have hn0 : (List.range n.toNatClampNeg)[k9]? = none := List.getElem?_eq_none (by rw [List.length_range]; omega)
        rw [hn0] at hx
        cases hx
    refine ⟨fun i j x y hi hj hxy => ?_, fun k9 x hx => ?_⟩
    · by_cases h1 : i < W1.length <;> by_cases h2 : j < W1.length
      · rw [List.getElem?_append_left h1] at hi
        rw [List.getElem?_append_left h2] at hj
        exact hD1.1 i j x y hi hj hxy
      · rw [List.getElem?_append_left h1] at hi
        rw [List.getElem?_append_right (by omega)] at hj
        have := hle _ _ hi
        have := hr _ _ hj
        omega
      · rw [List.getElem?_append_right (by omega)] at hi
        rw [List.getElem?_append_left h2] at hj
        have := hle _ _ hj
        have := hr _ _ hi
        omega
      · rw [List.getElem?_append_right (by omega)] at hi hj
        have := hr _ _ hi
        have := hr _ _ hj
        omega
    · by_cases h1 : k9 < W1.length
      · rw [List.getElem?_append_left h1] at hx
        exact hD1.2 k9 x hx
      · rw [List.getElem?_append_right (by omega)] at hx
        have := hr _ _ hx
        exact hA _ (by have := hS.1; omega)
  have hAr : ArrOfT s cA (.array ty) := fun N9 z9 => by
    obtain ⟨-, k9, hk9, cm9, hkk9⟩ := (hO 0 0 0).1
    exact ⟨(fun q hq => by cases hq), k9, hk9, cm9, hkk9⟩
  have hK2 : va_K D cl (tys ++ [(cA, .array ty)]) s := ⟨hK.1, fun k9 x hx => by
    by_cases hl : k9 < tys.length
    · rw [List.getElem?_append_left hl] at hx
      exact hK.2 k9 x hx
    · rw [List.getElem?_append_right (by omega)] at hx
      have h0 : k9 - tys.length < 1 := (List.getElem?_eq_some_iff.mp hx).1
      rw [show k9 - tys.length = 0 by omega] at hx
      cases hx
      exact ⟨hAr, fA⟩⟩
  obtain ⟨t, a1, b1⟩ := kk H.size (fun i => H.size + 1 + i) cA F.heap (fun i j _ _ h => by have h9 : H.size + 1 + i = H.size + 1 + j := h; omega) hnl hK2 (by rw [← vr_rows hnm]; exact vr_lay hP2) (by rw [← vr_rows hnm]; exact vr_layD hD2) ⟨by rw [f1]; have := hS.1; omega, fun x h1 h2 => (hold x (Nat.lt_of_lt_of_le h1 hS.1)).trans (hS.2.1 x h1 h2), hS.2.2⟩ F rfl X'
  refine ⟨t, step t ?_, b1⟩
  have e : T.heap.size = H.size := by rw [hT]
  rw [e]
  exact a1
end VGM
/-! ===== END ===== -/

/-! ===== BEGIN printed: names, fields, word lists, decode rows ===== -/
def RX0 : String := "ShoutedPrices$Carriers"
def TX0 : u_T := fun k => match k with
  | 0 => ("ShoutedPrices$Carriers", "gain", "I", false)
  | _ => ("ShoutedPrices$Carriers", "carried", "I", false)
def tyX0 : Nat → FieldType := fun k => match k with
  | 0 => .int
  | _ => .int
abbrev wsX00 : List Cond := u_ws RX0 TX0 2
theorem nmX0 : ∀ a, a < 2 → ∀ b, b < 2 → a ≠ b → (TX0 a).2.1 ≠ (TX0 b).2.1 := by decide +kernel
theorem tyX0_ok : ∀ k, k < 2 → parseFieldDescriptor (TX0 k).2.2.1 = some (tyX0 k) := by decide +kernel
abbrev cX0_init : ByteArray := prog_2_method_1_code
def yX0_init : MethodName := ⟨RX0, "<init>", "()V"⟩
abbrev cX0_choose : ByteArray := prog_2_method_2_code
def yX0_choose : MethodName := ⟨RX0, "choose", "(LShoutedPrices$Lines;LShoutedPrices$Lines;I)V"⟩
abbrev cX0_offer : ByteArray := prog_2_method_3_code
def yX0_offer : MethodName := ⟨RX0, "offer", "(II)V"⟩
def RX1 : String := "ShoutedPrices$Kept"
def TX1 : u_T := fun k => match k with
  | 0 => ("ShoutedPrices$Kept", "law", "[I", true)
  | _ => ("ShoutedPrices$Kept", "log", "LShoutedPrices$Log;", true)
def tyX1 : Nat → FieldType := fun k => match k with
  | 0 => .array .int
  | _ => .object "ShoutedPrices$Log"
abbrev wsX10 : List Cond := u_ws RX1 TX1 2
theorem nmX1 : ∀ a, a < 2 → ∀ b, b < 2 → a ≠ b → (TX1 a).2.1 ≠ (TX1 b).2.1 := by decide +kernel
theorem tyX1_ok : ∀ k, k < 2 → parseFieldDescriptor (TX1 k).2.2.1 = some (tyX1 k) := by decide +kernel
abbrev cX1_init : ByteArray := prog_3_method_1_code
def yX1_init : MethodName := ⟨RX1, "<init>", "()V"⟩
abbrev cX1_hold : ByteArray := prog_3_method_2_code
def yX1_hold : MethodName := ⟨RX1, "hold", "(LShoutedPrices$Room;LShoutedPrices$Log;)V"⟩
abbrev cX1_giveBack : ByteArray := prog_3_method_3_code
def yX1_giveBack : MethodName := ⟨RX1, "giveBack", "(LShoutedPrices$Room;LShoutedPrices$Log;)V"⟩
def RX2 : String := "ShoutedPrices$Line"
def TX2 : u_T := fun k => match k with
  | 0 => ("ShoutedPrices$Line", "rising", "Z", true)
  | 1 => ("ShoutedPrices$Line", "whose", "[I", true)
  | 2 => ("ShoutedPrices$Line", "card", "[I", true)
  | _ => ("ShoutedPrices$Line", "size", "I", false)
def tyX2 : Nat → FieldType := fun k => match k with
  | 0 => .boolean
  | 1 => .array .int
  | 2 => .array .int
  | _ => .int
abbrev wsX20 : List Cond := u_ws RX2 TX2 4
theorem nmX2 : ∀ a, a < 4 → ∀ b, b < 4 → a ≠ b → (TX2 a).2.1 ≠ (TX2 b).2.1 := by decide +kernel
theorem tyX2_ok : ∀ k, k < 4 → parseFieldDescriptor (TX2 k).2.2.1 = some (tyX2 k) := by decide +kernel
abbrev cX2_init : ByteArray := prog_4_method_1_code
def yX2_init : MethodName := ⟨RX2, "<init>", "(Z)V"⟩
abbrev cX2_add : ByteArray := prog_4_method_2_code
def yX2_add : MethodName := ⟨RX2, "add", "(II)V"⟩
abbrev cX2_ahead : ByteArray := prog_4_method_3_code
def yX2_ahead : MethodName := ⟨RX2, "ahead", "(I)I"⟩
abbrev cX2_sum : ByteArray := prog_4_method_4_code
def yX2_sum : MethodName := ⟨RX2, "sum", "(II)I"⟩
abbrev cX2_holds : ByteArray := prog_4_method_5_code
def yX2_holds : MethodName := ⟨RX2, "holds", "(II)Z"⟩
def RX3 : String := "ShoutedPrices$Lines"
def TX3 : u_T := fun k => match k with
  | 0 => ("ShoutedPrices$Lines", "buyers", "LShoutedPrices$Line;", true)
  | 1 => ("ShoutedPrices$Lines", "sellers", "LShoutedPrices$Line;", true)
  | 2 => ("ShoutedPrices$Lines", "quantity", "I", false)
  | 3 => ("ShoutedPrices$Lines", "most", "I", false)
  | 4 => ("ShoutedPrices$Lines", "lowest", "I", false)
  | _ => ("ShoutedPrices$Lines", "highest", "I", false)
def tyX3 : Nat → FieldType := fun k => match k with
  | 0 => .object "ShoutedPrices$Line"
  | 1 => .object "ShoutedPrices$Line"
  | 2 => .int
  | 3 => .int
  | 4 => .int
  | _ => .int
abbrev wsX30 : List Cond := u_ws RX3 TX3 6
theorem nmX3 : ∀ a, a < 6 → ∀ b, b < 6 → a ≠ b → (TX3 a).2.1 ≠ (TX3 b).2.1 := by decide +kernel
theorem tyX3_ok : ∀ k, k < 6 → parseFieldDescriptor (TX3 k).2.2.1 = some (tyX3 k) := by decide +kernel
abbrev cX3_init : ByteArray := prog_5_method_1_code
def yX3_init : MethodName := ⟨RX3, "<init>", "()V"⟩
abbrev cX3_empty : ByteArray := prog_5_method_2_code
def yX3_empty : MethodName := ⟨RX3, "empty", "()V"⟩
abbrev cX3_put : ByteArray := prog_5_method_3_code
def yX3_put : MethodName := ⟨RX3, "put", "(LShoutedPrices$Room;II)V"⟩
abbrev cX3_meet : ByteArray := prog_5_method_4_code
def yX3_meet : MethodName := ⟨RX3, "meet", "(LShoutedPrices$Room;I)V"⟩
abbrev cX3_cross : ByteArray := prog_5_method_5_code
def yX3_cross : MethodName := ⟨RX3, "cross", "(I)V"⟩
abbrev cX3_price : ByteArray := prog_5_method_6_code
def yX3_price : MethodName := ⟨RX3, "price", "(I)V"⟩
abbrev cX3_trades : ByteArray := prog_5_method_7_code
def yX3_trades : MethodName := ⟨RX3, "trades", "(ZI)Z"⟩
def RX4 : String := "ShoutedPrices$Log"
def TX4 : u_T := fun k => match k with
  | 0 => ("ShoutedPrices$Log", "person", "[I", true)
  | 1 => ("ShoutedPrices$Log", "price", "[I", true)
  | 2 => ("ShoutedPrices$Log", "step", "[I", true)
  | 3 => ("ShoutedPrices$Log", "last", "[I", true)
  | _ => ("ShoutedPrices$Log", "size", "I", false)
def tyX4 : Nat → FieldType := fun k => match k with
  | 0 => .array .int
  | 1 => .array .int
  | 2 => .array .int
  | 3 => .array .int
  | _ => .int
abbrev wsX40 : List Cond := u_ws RX4 TX4 5
theorem nmX4 : ∀ a, a < 5 → ∀ b, b < 5 → a ≠ b → (TX4 a).2.1 ≠ (TX4 b).2.1 := by decide +kernel
theorem tyX4_ok : ∀ k, k < 5 → parseFieldDescriptor (TX4 k).2.2.1 = some (tyX4 k) := by decide +kernel
abbrev cX4_init : ByteArray := prog_6_method_1_code
def yX4_init : MethodName := ⟨RX4, "<init>", "()V"⟩
abbrev cX4_add : ByteArray := prog_6_method_2_code
def yX4_add : MethodName := ⟨RX4, "add", "(IIII)V"⟩
abbrev cX4_copy : ByteArray := prog_6_method_3_code
def yX4_copy : MethodName := ⟨RX4, "copy", "(LShoutedPrices$Log;)V"⟩
abbrev cX4_seenOf : ByteArray := prog_6_method_4_code
def yX4_seenOf : MethodName := ⟨RX4, "seenOf", "(LShoutedPrices$Room;I)I"⟩
abbrev cX4_mayBeBy : ByteArray := prog_6_method_5_code
def yX4_mayBeBy : MethodName := ⟨RX4, "mayBeBy", "(LShoutedPrices$Room;II)Z"⟩
def RX5 : String := "ShoutedPrices$Reader"
def TX5 : u_T := fun k => match k with
  | 0 => ("ShoutedPrices$Reader", "number", "[I", true)
  | 1 => ("ShoutedPrices$Reader", "numbers", "I", false)
  | _ => ("ShoutedPrices$Reader", "behind", "I", false)
def tyX5 : Nat → FieldType := fun k => match k with
  | 0 => .array .int
  | 1 => .int
  | _ => .int
abbrev wsX50 : List Cond := u_ws RX5 TX5 3
theorem nmX5 : ∀ a, a < 3 → ∀ b, b < 3 → a ≠ b → (TX5 a).2.1 ≠ (TX5 b).2.1 := by decide +kernel
theorem tyX5_ok : ∀ k, k < 3 → parseFieldDescriptor (TX5 k).2.2.1 = some (tyX5 k) := by decide +kernel
abbrev cX5_init : ByteArray := prog_7_method_1_code
def yX5_init : MethodName := ⟨RX5, "<init>", "()V"⟩
abbrev cX5_read : ByteArray := prog_7_method_2_code
def yX5_read : MethodName := ⟨RX5, "read", "(LShoutedPrices$Text;LShoutedPrices$Room;)I"⟩
abbrev cX5_split : ByteArray := prog_7_method_3_code
def yX5_split : MethodName := ⟨RX5, "split", "(LShoutedPrices$Text;I)Z"⟩
abbrev cX5_take : ByteArray := prog_7_method_4_code
def yX5_take : MethodName := ⟨RX5, "take", "(ILShoutedPrices$Room;)Z"⟩
def RX6 : String := "ShoutedPrices$Room"
def TX6 : u_T := fun k => match k with
  | 0 => ("ShoutedPrices$Room", "sells", "[Z", true)
  | 1 => ("ShoutedPrices$Room", "card", "[I", true)
  | 2 => ("ShoutedPrices$Room", "law", "[I", true)
  | 3 => ("ShoutedPrices$Room", "buyer", "[I", true)
  | 4 => ("ShoutedPrices$Room", "seller", "[I", true)
  | 5 => ("ShoutedPrices$Room", "people", "I", false)
  | 6 => ("ShoutedPrices$Room", "buyers", "I", false)
  | 7 => ("ShoutedPrices$Room", "sellers", "I", false)
  | 8 => ("ShoutedPrices$Room", "steps", "I", false)
  | 9 => ("ShoutedPrices$Room", "tax", "I", false)
  | 10 => ("ShoutedPrices$Room", "lid", "I", false)
  | 11 => ("ShoutedPrices$Room", "near", "I", false)
  | _ => ("ShoutedPrices$Room", "hold", "I", false)
def tyX6 : Nat → FieldType := fun k => match k with
  | 0 => .array .boolean
  | 1 => .array .int
  | 2 => .array .int
  | 3 => .array .int
  | 4 => .array .int
  | 5 => .int
  | 6 => .int
  | 7 => .int
  | 8 => .int
  | 9 => .int
  | 10 => .int
  | 11 => .int
  | _ => .int
abbrev wsX60 : List Cond := u_ws RX6 TX6 13
theorem nmX6 : ∀ a, a < 13 → ∀ b, b < 13 → a ≠ b → (TX6 a).2.1 ≠ (TX6 b).2.1 := by decide +kernel
theorem tyX6_ok : ∀ k, k < 13 → parseFieldDescriptor (TX6 k).2.2.1 = some (tyX6 k) := by decide +kernel
abbrev cX6_init : ByteArray := prog_8_method_1_code
def yX6_init : MethodName := ⟨RX6, "<init>", "()V"⟩
abbrev cX6_empty : ByteArray := prog_8_method_2_code
def yX6_empty : MethodName := ⟨RX6, "empty", "()V"⟩
abbrev cX6_has : ByteArray := prog_8_method_3_code
def yX6_has : MethodName := ⟨RX6, "has", "(I)Z"⟩
abbrev cX6_addPerson : ByteArray := prog_8_method_4_code
def yX6_addPerson : MethodName := ⟨RX6, "addPerson", "(ZII)Z"⟩
abbrev cX6_set : ByteArray := prog_8_method_5_code
def yX6_set : MethodName := ⟨RX6, "set", "(II)Z"⟩
def RX7 : String := "ShoutedPrices$Round"
def TX7 : u_T := fun k => match k with
  | 0 => ("ShoutedPrices$Round", "price", "[I", true)
  | 1 => ("ShoutedPrices$Round", "posted", "[I", true)
  | 2 => ("ShoutedPrices$Round", "told", "LShoutedPrices$Lines;", true)
  | 3 => ("ShoutedPrices$Round", "z", "I", false)
  | 4 => ("ShoutedPrices$Round", "last", "I", false)
  | 5 => ("ShoutedPrices$Round", "lowest", "I", false)
  | 6 => ("ShoutedPrices$Round", "highest", "I", false)
  | 7 => ("ShoutedPrices$Round", "traded", "I", false)
  | 8 => ("ShoutedPrices$Round", "gain", "I", false)
  | 9 => ("ShoutedPrices$Round", "soon", "I", false)
  | 10 => ("ShoutedPrices$Round", "bidder", "I", false)
  | 11 => ("ShoutedPrices$Round", "asker", "I", false)
  | 12 => ("ShoutedPrices$Round", "bid", "I", false)
  | _ => ("ShoutedPrices$Round", "offer", "I", false)
def tyX7 : Nat → FieldType := fun k => match k with
  | 0 => .array .int
  | 1 => .array .int
  | 2 => .object "ShoutedPrices$Lines"
  | 3 => .int
  | 4 => .int
  | 5 => .int
  | 6 => .int
  | 7 => .int
  | 8 => .int
  | 9 => .int
  | 10 => .int
  | 11 => .int
  | 12 => .int
  | _ => .int
abbrev wsX70 : List Cond := u_ws RX7 TX7 14
theorem nmX7 : ∀ a, a < 14 → ∀ b, b < 14 → a ≠ b → (TX7 a).2.1 ≠ (TX7 b).2.1 := by decide +kernel
theorem tyX7_ok : ∀ k, k < 14 → parseFieldDescriptor (TX7 k).2.2.1 = some (tyX7 k) := by decide +kernel
abbrev cX7_init : ByteArray := prog_9_method_1_code
def yX7_init : MethodName := ⟨RX7, "<init>", "()V"⟩
abbrev cX7_play : ByteArray := prog_9_method_2_code
def yX7_play : MethodName := ⟨RX7, "play", "(LShoutedPrices$Room;IILShoutedPrices$Log;)V"⟩
abbrev cX7_wanders : ByteArray := prog_9_method_3_code
def yX7_wanders : MethodName := ⟨RX7, "wanders", "()I"⟩
abbrev cX7_draw : ByteArray := prog_9_method_4_code
def yX7_draw : MethodName := ⟨RX7, "draw", "(II)I"⟩
abbrev cX7_rest : ByteArray := prog_9_method_5_code
def yX7_rest : MethodName := ⟨RX7, "rest", "(II)I"⟩
abbrev cX7_tells : ByteArray := prog_9_method_6_code
def yX7_tells : MethodName := ⟨RX7, "tells", "(LShoutedPrices$Room;III)I"⟩
abbrev cX7_trade : ByteArray := prog_9_method_7_code
def yX7_trade : MethodName := ⟨RX7, "trade", "(LShoutedPrices$Room;IIII)V"⟩
abbrev cX7_playShouts : ByteArray := prog_9_method_8_code
def yX7_playShouts : MethodName := ⟨RX7, "playShouts", "(LShoutedPrices$Room;LShoutedPrices$Log;)V"⟩
abbrev cX7_hearBid : ByteArray := prog_9_method_9_code
def yX7_hearBid : MethodName := ⟨RX7, "hearBid", "(LShoutedPrices$Room;III)V"⟩
abbrev cX7_hearOffer : ByteArray := prog_9_method_10_code
def yX7_hearOffer : MethodName := ⟨RX7, "hearOffer", "(LShoutedPrices$Room;III)V"⟩
abbrev cX7_playPairs : ByteArray := prog_9_method_11_code
def yX7_playPairs : MethodName := ⟨RX7, "playPairs", "(LShoutedPrices$Room;)V"⟩
abbrev cX7_playPosted : ByteArray := prog_9_method_12_code
def yX7_playPosted : MethodName := ⟨RX7, "playPosted", "(LShoutedPrices$Room;)V"⟩
abbrev cX7_cheapestLeft : ByteArray := prog_9_method_13_code
def yX7_cheapestLeft : MethodName := ⟨RX7, "cheapestLeft", "(LShoutedPrices$Room;)I"⟩
abbrev cX7_playBell : ByteArray := prog_9_method_14_code
def yX7_playBell : MethodName := ⟨RX7, "playBell", "(LShoutedPrices$Room;)V"⟩
def RX8 : String := "ShoutedPrices$Text"
def TX8 : u_T := fun k => match k with
  | 0 => ("ShoutedPrices$Text", "bytes", "[I", true)
  | _ => ("ShoutedPrices$Text", "size", "I", false)
def tyX8 : Nat → FieldType := fun k => match k with
  | 0 => .array .int
  | _ => .int
abbrev wsX80 : List Cond := u_ws RX8 TX8 2
theorem nmX8 : ∀ a, a < 2 → ∀ b, b < 2 → a ≠ b → (TX8 a).2.1 ≠ (TX8 b).2.1 := by decide +kernel
theorem tyX8_ok : ∀ k, k < 2 → parseFieldDescriptor (TX8 k).2.2.1 = some (tyX8 k) := by decide +kernel
abbrev cX8_init : ByteArray := prog_10_method_1_code
def yX8_init : MethodName := ⟨RX8, "<init>", "()V"⟩
abbrev cX8_add : ByteArray := prog_10_method_2_code
def yX8_add : MethodName := ⟨RX8, "add", "(I)V"⟩
def RX9 : String := "ShoutedPrices$Voice"
def TX9 : u_T := fun k => match k with
  | _ => ("", "", "", false)
def tyX9 : Nat → FieldType := fun k => match k with
  | _ => .int
abbrev wsX90 : List Cond := u_ws RX9 TX9 0
theorem nmX9 : ∀ a, a < 0 → ∀ b, b < 0 → a ≠ b → (TX9 a).2.1 ≠ (TX9 b).2.1 := by decide +kernel
theorem tyX9_ok : ∀ k, k < 0 → parseFieldDescriptor (TX9 k).2.2.1 = some (tyX9 k) := by decide +kernel
abbrev cX9_span : ByteArray := prog_11_method_2_code
def yX9_span : MethodName := ⟨RX9, "span", "(LShoutedPrices$Room;III)I"⟩
abbrev cX9_by : ByteArray := prog_11_method_3_code
def yX9_by : MethodName := ⟨RX9, "by", "(LShoutedPrices$Room;IIIII)I"⟩
abbrev cX9_near : ByteArray := prog_11_method_4_code
def yX9_near : MethodName := ⟨RX9, "near", "(LShoutedPrices$Room;III)I"⟩
abbrev cX9_share : ByteArray := prog_11_method_5_code
def yX9_share : MethodName := ⟨RX9, "share", "(LShoutedPrices$Room;II)I"⟩
abbrev cX9_underLid : ByteArray := prog_11_method_6_code
def yX9_underLid : MethodName := ⟨RX9, "underLid", "(LShoutedPrices$Room;II)I"⟩
abbrev cX9_isHeard : ByteArray := prog_11_method_7_code
def yX9_isHeard : MethodName := ⟨RX9, "isHeard", "(LShoutedPrices$Room;II)Z"⟩
def RX10 : String := "ShoutedPrices"
def TX10 : u_T := fun k => match k with
  | 0 => ("ShoutedPrices", "text", "LShoutedPrices$Text;", true)
  | 1 => ("ShoutedPrices", "reader", "LShoutedPrices$Reader;", true)
  | 2 => ("ShoutedPrices", "room", "LShoutedPrices$Room;", false)
  | 3 => ("ShoutedPrices", "spare", "LShoutedPrices$Room;", false)
  | 4 => ("ShoutedPrices", "log", "LShoutedPrices$Log;", true)
  | 5 => ("ShoutedPrices", "kept", "[LShoutedPrices$Kept;", true)
  | 6 => ("ShoutedPrices", "keptSize", "I", false)
  | 7 => ("ShoutedPrices", "lines", "LShoutedPrices$Lines;", true)
  | 8 => ("ShoutedPrices", "others", "LShoutedPrices$Lines;", true)
  | 9 => ("ShoutedPrices", "round", "LShoutedPrices$Round;", true)
  | 10 => ("ShoutedPrices", "carriers", "LShoutedPrices$Carriers;", true)
  | _ => ("ShoutedPrices", "sums", "[[I", true)
def tyX10 : Nat → FieldType := fun k => match k with
  | 0 => .object "ShoutedPrices$Text"
  | 1 => .object "ShoutedPrices$Reader"
  | 2 => .object "ShoutedPrices$Room"
  | 3 => .object "ShoutedPrices$Room"
  | 4 => .object "ShoutedPrices$Log"
  | 5 => .array (.object "ShoutedPrices$Kept")
  | 6 => .int
  | 7 => .object "ShoutedPrices$Lines"
  | 8 => .object "ShoutedPrices$Lines"
  | 9 => .object "ShoutedPrices$Round"
  | 10 => .object "ShoutedPrices$Carriers"
  | _ => .array (.array .int)
abbrev wsX100 : List Cond := u_ws RX10 TX10 12
theorem nmX10 : ∀ a, a < 12 → ∀ b, b < 12 → a ≠ b → (TX10 a).2.1 ≠ (TX10 b).2.1 := by decide +kernel
theorem tyX10_ok : ∀ k, k < 12 → parseFieldDescriptor (TX10 k).2.2.1 = some (tyX10 k) := by decide +kernel
abbrev cX10_init : ByteArray := prog_1_method_1_code
def yX10_init : MethodName := ⟨RX10, "<init>", "()V"⟩
abbrev cX10_write : ByteArray := prog_1_method_2_code
def yX10_write : MethodName := ⟨RX10, "write", "(IJ)I"⟩
abbrev cX10_wipe : ByteArray := prog_1_method_3_code
def yX10_wipe : MethodName := ⟨RX10, "wipe", "()I"⟩
abbrev cX10_fault : ByteArray := prog_1_method_4_code
def yX10_fault : MethodName := ⟨RX10, "fault", "()I"⟩
abbrev cX10_lay : ByteArray := prog_1_method_5_code
def yX10_lay : MethodName := ⟨RX10, "lay", "()I"⟩
abbrev cX10_person : ByteArray := prog_1_method_6_code
def yX10_person : MethodName := ⟨RX10, "person", "(II)I"⟩
abbrev cX10_law : ByteArray := prog_1_method_7_code
def yX10_law : MethodName := ⟨RX10, "law", "(II)I"⟩
abbrev cX10_lines : ByteArray := prog_1_method_8_code
def yX10_lines : MethodName := ⟨RX10, "lines", "(I)I"⟩
abbrev cX10_served : ByteArray := prog_1_method_9_code
def yX10_served : MethodName := ⟨RX10, "served", "(I)I"⟩
abbrev cX10_pairs : ByteArray := prog_1_method_10_code
def yX10_pairs : MethodName := ⟨RX10, "pairs", "(I)J"⟩
abbrev cX10_bell : ByteArray := prog_1_method_11_code
def yX10_bell : MethodName := ⟨RX10, "bell", "(II)I"⟩
abbrev cX10_best : ByteArray := prog_1_method_12_code
def yX10_best : MethodName := ⟨RX10, "best", "(II)I"⟩
abbrev cX10_round : ByteArray := prog_1_method_13_code
def yX10_round : MethodName := ⟨RX10, "round", "(III)I"⟩
abbrev cX10_of : ByteArray := prog_1_method_14_code
def yX10_of : MethodName := ⟨RX10, "of", "(III)I"⟩
abbrev cX10_means : ByteArray := prog_1_method_15_code
def yX10_means : MethodName := ⟨RX10, "means", "(III)I"⟩
abbrev cX10_rules : ByteArray := prog_1_method_16_code
def yX10_rules : MethodName := ⟨RX10, "rules", "(II)I"⟩
abbrev cX10_shout : ByteArray := prog_1_method_17_code
def yX10_shout : MethodName := ⟨RX10, "shout", "(II)I"⟩
abbrev cX10_known : ByteArray := prog_1_method_18_code
def yX10_known : MethodName := ⟨RX10, "known", "(I)I"⟩
abbrev cX10_least : ByteArray := prog_1_method_19_code
def yX10_least : MethodName := ⟨RX10, "least", "(I)I"⟩
abbrev cX10_laws : ByteArray := prog_1_method_20_code
def yX10_laws : MethodName := ⟨RX10, "laws", "(I)I"⟩
abbrev cX10_two : ByteArray := prog_1_method_21_code
def yX10_two : MethodName := ⟨RX10, "two", "(III)I"⟩
abbrev cX10_keep : ByteArray := prog_1_method_22_code
def yX10_keep : MethodName := ⟨RX10, "keep", "()I"⟩
abbrev cX10_back : ByteArray := prog_1_method_23_code
def yX10_back : MethodName := ⟨RX10, "back", "()I"⟩
abbrev cX10_count : ByteArray := prog_1_method_24_code
def yX10_count : MethodName := ⟨RX10, "count", "(I)I"⟩
abbrev cX10_within : ByteArray := prog_1_method_25_code
def yX10_within : MethodName := ⟨RX10, "within", "(III)Z"⟩
abbrev cX10_gainOfAllMeetings : ByteArray := prog_1_method_26_code
def yX10_gainOfAllMeetings : MethodName := ⟨RX10, "gainOfAllMeetings", "()I"⟩
abbrev cX10_gainOfTelling : ByteArray := prog_1_method_27_code
def yX10_gainOfTelling : MethodName := ⟨RX10, "gainOfTelling", "(II)I"⟩
abbrev cX10_sumUp : ByteArray := prog_1_method_28_code
def yX10_sumUp : MethodName := ⟨RX10, "sumUp", "(II)V"⟩
abbrev cX10_bestBy : ByteArray := prog_1_method_29_code
def yX10_bestBy : MethodName := ⟨RX10, "bestBy", "(I)I"⟩
def RX11 : String := "ShoutedPricesModel"
def TX11 : u_T := fun k => match k with
  | 0 => ("ShoutedPricesModel", "length", "I", false)
  | 1 => ("ShoutedPricesModel", "text", "[I", true)
  | 2 => ("ShoutedPricesModel", "many", "[I", true)
  | 3 => ("ShoutedPricesModel", "sides", "[I", true)
  | 4 => ("ShoutedPricesModel", "cards", "[I", true)
  | 5 => ("ShoutedPricesModel", "laws", "[I", true)
  | 6 => ("ShoutedPricesModel", "numbers", "[I", true)
  | 7 => ("ShoutedPricesModel", "logMany", "[I", true)
  | 8 => ("ShoutedPricesModel", "logPerson", "[I", true)
  | 9 => ("ShoutedPricesModel", "logPrice", "[I", true)
  | 10 => ("ShoutedPricesModel", "logStep", "[I", true)
  | 11 => ("ShoutedPricesModel", "logLast", "[I", true)
  | 12 => ("ShoutedPricesModel", "keptLaws", "[I", true)
  | 13 => ("ShoutedPricesModel", "keptMany", "I", false)
  | 14 => ("ShoutedPricesModel", "place", "I", false)
  | 15 => ("ShoutedPricesModel", "told", "[I", true)
  | 16 => ("ShoutedPricesModel", "shown", "[I", true)
  | 17 => ("ShoutedPricesModel", "buyers", "[I", true)
  | 18 => ("ShoutedPricesModel", "sellers", "[I", true)
  | 19 => ("ShoutedPricesModel", "buyerMany", "I", false)
  | 20 => ("ShoutedPricesModel", "sellerMany", "I", false)
  | 21 => ("ShoutedPricesModel", "seed", "I", false)
  | 22 => ("ShoutedPricesModel", "last", "I", false)
  | 23 => ("ShoutedPricesModel", "paid", "[I", true)
  | 24 => ("ShoutedPricesModel", "traded", "I", false)
  | 25 => ("ShoutedPricesModel", "gain", "I", false)
  | 26 => ("ShoutedPricesModel", "soon", "I", false)
  | 27 => ("ShoutedPricesModel", "low", "I", false)
  | 28 => ("ShoutedPricesModel", "high", "I", false)
  | 29 => ("ShoutedPricesModel", "logs", "Z", false)
  | 30 => ("ShoutedPricesModel", "posted", "[I", true)
  | 31 => ("ShoutedPricesModel", "sums", "[I", true)
  | 32 => ("ShoutedPricesModel", "room", "[I", true)
  | _ => ("ShoutedPricesModel", "roomMany", "[I", true)
def tyX11 : Nat → FieldType := fun k => match k with
  | 0 => .int
  | 1 => .array .int
  | 2 => .array .int
  | 3 => .array .int
  | 4 => .array .int
  | 5 => .array .int
  | 6 => .array .int
  | 7 => .array .int
  | 8 => .array .int
  | 9 => .array .int
  | 10 => .array .int
  | 11 => .array .int
  | 12 => .array .int
  | 13 => .int
  | 14 => .int
  | 15 => .array .int
  | 16 => .array .int
  | 17 => .array .int
  | 18 => .array .int
  | 19 => .int
  | 20 => .int
  | 21 => .int
  | 22 => .int
  | 23 => .array .int
  | 24 => .int
  | 25 => .int
  | 26 => .int
  | 27 => .int
  | 28 => .int
  | 29 => .boolean
  | 30 => .array .int
  | 31 => .array .int
  | 32 => .array .int
  | _ => .array .int
abbrev wsX110 : List Cond := u_ws RX11 TX11 34
theorem nmX11 : ∀ a, a < 34 → ∀ b, b < 34 → a ≠ b → (TX11 a).2.1 ≠ (TX11 b).2.1 := by decide +kernel
theorem tyX11_ok : ∀ k, k < 34 → parseFieldDescriptor (TX11 k).2.2.1 = some (tyX11 k) := by decide +kernel
abbrev cX11_init : ByteArray := prog_13_method_1_code
def yX11_init : MethodName := ⟨RX11, "<init>", "()V"⟩
abbrev cX11_in : ByteArray := prog_13_method_2_code
def yX11_in : MethodName := ⟨RX11, "in", "(JJJ)Z"⟩
abbrev cX11_noRoom : ByteArray := prog_13_method_3_code
def yX11_noRoom : MethodName := ⟨RX11, "noRoom", "(I)V"⟩
abbrev cX11_write : ByteArray := prog_13_method_4_code
def yX11_write : MethodName := ⟨RX11, "write", "(IJ)I"⟩
abbrev cX11_wipe : ByteArray := prog_13_method_5_code
def yX11_wipe : MethodName := ⟨RX11, "wipe", "()I"⟩
abbrev cX11_byteAt : ByteArray := prog_13_method_6_code
def yX11_byteAt : MethodName := ⟨RX11, "byteAt", "(I)I"⟩
abbrev cX11_figures : ByteArray := prog_13_method_7_code
def yX11_figures : MethodName := ⟨RX11, "figures", "(I)Z"⟩
abbrev cX11_readMany : ByteArray := prog_13_method_8_code
def yX11_readMany : MethodName := ⟨RX11, "readMany", "(I)I"⟩
abbrev cX11_personItem : ByteArray := prog_13_method_9_code
def yX11_personItem : MethodName := ⟨RX11, "personItem", "(I)Z"⟩
abbrev cX11_numberItem : ByteArray := prog_13_method_10_code
def yX11_numberItem : MethodName := ⟨RX11, "numberItem", "(III)Z"⟩
abbrev cX11_item : ByteArray := prog_13_method_11_code
def yX11_item : MethodName := ⟨RX11, "item", "()Z"⟩
abbrev cX11_readAll : ByteArray := prog_13_method_12_code
def yX11_readAll : MethodName := ⟨RX11, "readAll", "()I"⟩
abbrev cX11_fault : ByteArray := prog_13_method_13_code
def yX11_fault : MethodName := ⟨RX11, "fault", "()I"⟩
abbrev cX11_lay : ByteArray := prog_13_method_14_code
def yX11_lay : MethodName := ⟨RX11, "lay", "()I"⟩
abbrev cX11_isPerson : ByteArray := prog_13_method_15_code
def yX11_isPerson : MethodName := ⟨RX11, "isPerson", "(I)Z"⟩
abbrev cX11_manyOf : ByteArray := prog_13_method_16_code
def yX11_manyOf : MethodName := ⟨RX11, "manyOf", "(I)I"⟩
abbrev cX11_person : ByteArray := prog_13_method_17_code
def yX11_person : MethodName := ⟨RX11, "person", "(II)I"⟩
abbrev cX11_law : ByteArray := prog_13_method_18_code
def yX11_law : MethodName := ⟨RX11, "law", "(II)I"⟩
abbrev cX11_showTrue : ByteArray := prog_13_method_19_code
def yX11_showTrue : MethodName := ⟨RX11, "showTrue", "()V"⟩
abbrev cX11_layLines : ByteArray := prog_13_method_20_code
def yX11_layLines : MethodName := ⟨RX11, "layLines", "()V"⟩
abbrev cX11_worth : ByteArray := prog_13_method_21_code
def yX11_worth : MethodName := ⟨RX11, "worth", "(I)I"⟩
abbrev cX11_costs : ByteArray := prog_13_method_22_code
def yX11_costs : MethodName := ⟨RX11, "costs", "(I)I"⟩
abbrev cX11_quantity : ByteArray := prog_13_method_23_code
def yX11_quantity : MethodName := ⟨RX11, "quantity", "(I)I"⟩
abbrev cX11_gainOf : ByteArray := prog_13_method_24_code
def yX11_gainOf : MethodName := ⟨RX11, "gainOf", "(I)I"⟩
abbrev cX11_lowest : ByteArray := prog_13_method_25_code
def yX11_lowest : MethodName := ⟨RX11, "lowest", "(II)I"⟩
abbrev cX11_highest : ByteArray := prog_13_method_26_code
def yX11_highest : MethodName := ⟨RX11, "highest", "(II)I"⟩
abbrev cX11_lines : ByteArray := prog_13_method_27_code
def yX11_lines : MethodName := ⟨RX11, "lines", "(I)I"⟩
abbrev cX11_served : ByteArray := prog_13_method_28_code
def yX11_served : MethodName := ⟨RX11, "served", "(I)I"⟩
abbrev cX11_common : ByteArray := prog_13_method_29_code
def yX11_common : MethodName := ⟨RX11, "common", "(JJ)J"⟩
abbrev cX11_pairs : ByteArray := prog_13_method_30_code
def yX11_pairs : MethodName := ⟨RX11, "pairs", "(I)J"⟩
abbrev cX11_isFirst : ByteArray := prog_13_method_31_code
def yX11_isFirst : MethodName := ⟨RX11, "isFirst", "(II)Z"⟩
abbrev cX11_bellOf : ByteArray := prog_13_method_32_code
def yX11_bellOf : MethodName := ⟨RX11, "bellOf", "(II)I"⟩
abbrev cX11_bell : ByteArray := prog_13_method_33_code
def yX11_bell : MethodName := ⟨RX11, "bell", "(II)I"⟩
abbrev cX11_best : ByteArray := prog_13_method_34_code
def yX11_best : MethodName := ⟨RX11, "best", "(II)I"⟩
abbrev cX11_draw : ByteArray := prog_13_method_35_code
def yX11_draw : MethodName := ⟨RX11, "draw", "(II)I"⟩
abbrev cX11_shoutBy : ByteArray := prog_13_method_36_code
def yX11_shoutBy : MethodName := ⟨RX11, "shoutBy", "(IIIIII)I"⟩
abbrev cX11_shoutOf : ByteArray := prog_13_method_37_code
def yX11_shoutOf : MethodName := ⟨RX11, "shoutOf", "(IIII)I"⟩
abbrev cX11_trade : ByteArray := prog_13_method_38_code
def yX11_trade : MethodName := ⟨RX11, "trade", "(IIII)V"⟩
abbrev cX11_note : ByteArray := prog_13_method_39_code
def yX11_note : MethodName := ⟨RX11, "note", "(III)V"⟩
abbrev cX11_goShouts : ByteArray := prog_13_method_40_code
def yX11_goShouts : MethodName := ⟨RX11, "goShouts", "()V"⟩
abbrev cX11_personOf : ByteArray := prog_13_method_41_code
def yX11_personOf : MethodName := ⟨RX11, "personOf", "(II)I"⟩
abbrev cX11_goPairs : ByteArray := prog_13_method_42_code
def yX11_goPairs : MethodName := ⟨RX11, "goPairs", "()V"⟩
abbrev cX11_goPosted : ByteArray := prog_13_method_43_code
def yX11_goPosted : MethodName := ⟨RX11, "goPosted", "()V"⟩
abbrev cX11_goBell : ByteArray := prog_13_method_44_code
def yX11_goBell : MethodName := ⟨RX11, "goBell", "()V"⟩
abbrev cX11_goRound : ByteArray := prog_13_method_45_code
def yX11_goRound : MethodName := ⟨RX11, "goRound", "(IIZ)V"⟩
abbrev cX11_isRound : ByteArray := prog_13_method_46_code
def yX11_isRound : MethodName := ⟨RX11, "isRound", "(II)Z"⟩
abbrev cX11_round : ByteArray := prog_13_method_47_code
def yX11_round : MethodName := ⟨RX11, "round", "(III)I"⟩
abbrev cX11_of : ByteArray := prog_13_method_48_code
def yX11_of : MethodName := ⟨RX11, "of", "(III)I"⟩
abbrev cX11_layMeans : ByteArray := prog_13_method_49_code
def yX11_layMeans : MethodName := ⟨RX11, "layMeans", "(II)V"⟩
abbrev cX11_means : ByteArray := prog_13_method_50_code
def yX11_means : MethodName := ⟨RX11, "means", "(III)I"⟩
abbrev cX11_bestBy : ByteArray := prog_13_method_51_code
def yX11_bestBy : MethodName := ⟨RX11, "bestBy", "(I)I"⟩
abbrev cX11_rules : ByteArray := prog_13_method_52_code
def yX11_rules : MethodName := ⟨RX11, "rules", "(II)I"⟩
abbrev cX11_shout : ByteArray := prog_13_method_53_code
def yX11_shout : MethodName := ⟨RX11, "shout", "(II)I"⟩
abbrev cX11_knownOf : ByteArray := prog_13_method_54_code
def yX11_knownOf : MethodName := ⟨RX11, "knownOf", "(I)I"⟩
abbrev cX11_known : ByteArray := prog_13_method_55_code
def yX11_known : MethodName := ⟨RX11, "known", "(I)I"⟩
abbrev cX11_least : ByteArray := prog_13_method_56_code
def yX11_least : MethodName := ⟨RX11, "least", "(I)I"⟩
abbrev cX11_mayBe : ByteArray := prog_13_method_57_code
def yX11_mayBe : MethodName := ⟨RX11, "mayBe", "(II)Z"⟩
abbrev cX11_laws : ByteArray := prog_13_method_58_code
def yX11_laws : MethodName := ⟨RX11, "laws", "(I)I"⟩
abbrev cX11_layRooms : ByteArray := prog_13_method_59_code
def yX11_layRooms : MethodName := ⟨RX11, "layRooms", "(I)V"⟩
abbrev cX11_carried : ByteArray := prog_13_method_60_code
def yX11_carried : MethodName := ⟨RX11, "carried", "(II)I"⟩
abbrev cX11_two : ByteArray := prog_13_method_61_code
def yX11_two : MethodName := ⟨RX11, "two", "(III)I"⟩
abbrev cX11_copyLog : ByteArray := prog_13_method_62_code
def yX11_copyLog : MethodName := ⟨RX11, "copyLog", "(II)V"⟩
abbrev cX11_keep : ByteArray := prog_13_method_63_code
def yX11_keep : MethodName := ⟨RX11, "keep", "()I"⟩
abbrev cX11_back : ByteArray := prog_13_method_64_code
def yX11_back : MethodName := ⟨RX11, "back", "()I"⟩
abbrev cX11_count : ByteArray := prog_13_method_65_code
def yX11_count : MethodName := ⟨RX11, "count", "(I)I"⟩
def RL : String := "ShoutedPricesLaw"
abbrev cL_law : ByteArray := code
def yL_law : MethodName := ⟨RL, "law", "([I)Z"⟩
abbrev vwCl : List vw_C := [(RX0, TX0, 2), (RX1, TX1, 2), (RX2, TX2, 4), (RX3, TX3, 6), (RX4, TX4, 5), (RX5, TX5, 3), (RX6, TX6, 13), (RX7, TX7, 14), (RX8, TX8, 2), (RX10, TX10, 12), (RX11, TX11, 34)]
