section
-- ===== PART A: goes FIRST, ahead of the names: the tables' words, and 'selects' of the private methods out of them =====
/-- a private method of a class that the tables say can be made, by its rows of tables_1 -/
def lw_okq (q : MethodName × Nat) : Prop := (q.1.cls ≠ "java/lang/invoke/MethodHandle" ∧ q.1.cls ≠ "java/lang/invoke/VarHandle") ∧ Cond.instantiable q.1.cls q.2 ∈ tables_1 ∧ Cond.privateMethod q.1 ∈ tables_1 ∧ Cond.instanceMethod q.1 ∈ tables_1
theorem lw_p0 : lw_okq (⟨"ShoutedPrices$Lines", "price", "(I)V"⟩, 6) := ⟨⟨by decide +kernel, by decide +kernel⟩, List.mem_of_getElem? (i := 171) (by decide +kernel), List.mem_of_getElem? (i := 446) (by decide +kernel), List.mem_of_getElem? (i := 447) (by decide +kernel)⟩
theorem lw_p1 : lw_okq (⟨"ShoutedPrices", "gainOfAllMeetings", "()I"⟩, 12) := ⟨⟨by decide +kernel, by decide +kernel⟩, List.mem_of_getElem? (i := 16) (by decide +kernel), List.mem_of_getElem? (i := 466) (by decide +kernel), List.mem_of_getElem? (i := 467) (by decide +kernel)⟩
theorem lw_p2 : lw_okq (⟨"ShoutedPrices", "gainOfTelling", "(II)I"⟩, 12) := ⟨⟨by decide +kernel, by decide +kernel⟩, List.mem_of_getElem? (i := 16) (by decide +kernel), List.mem_of_getElem? (i := 475) (by decide +kernel), List.mem_of_getElem? (i := 476) (by decide +kernel)⟩
theorem lw_p3 : lw_okq (⟨"ShoutedPrices$Round", "playShouts", "(LShoutedPrices$Room;LShoutedPrices$Log;)V"⟩, 14) := ⟨⟨by decide +kernel, by decide +kernel⟩, List.mem_of_getElem? (i := 231) (by decide +kernel), List.mem_of_getElem? (i := 505) (by decide +kernel), List.mem_of_getElem? (i := 506) (by decide +kernel)⟩
theorem lw_p4 : lw_okq (⟨"ShoutedPrices$Round", "draw", "(II)I"⟩, 14) := ⟨⟨by decide +kernel, by decide +kernel⟩, List.mem_of_getElem? (i := 231) (by decide +kernel), List.mem_of_getElem? (i := 509) (by decide +kernel), List.mem_of_getElem? (i := 510) (by decide +kernel)⟩
theorem lw_p5 : lw_okq (⟨"ShoutedPrices$Round", "tells", "(LShoutedPrices$Room;III)I"⟩, 14) := ⟨⟨by decide +kernel, by decide +kernel⟩, List.mem_of_getElem? (i := 231) (by decide +kernel), List.mem_of_getElem? (i := 520) (by decide +kernel), List.mem_of_getElem? (i := 521) (by decide +kernel)⟩
theorem lw_p6 : lw_okq (⟨"ShoutedPrices$Round", "hearOffer", "(LShoutedPrices$Room;III)V"⟩, 14) := ⟨⟨by decide +kernel, by decide +kernel⟩, List.mem_of_getElem? (i := 231) (by decide +kernel), List.mem_of_getElem? (i := 548) (by decide +kernel), List.mem_of_getElem? (i := 549) (by decide +kernel)⟩
theorem lw_p7 : lw_okq (⟨"ShoutedPrices$Round", "trade", "(LShoutedPrices$Room;IIII)V"⟩, 14) := ⟨⟨by decide +kernel, by decide +kernel⟩, List.mem_of_getElem? (i := 231) (by decide +kernel), List.mem_of_getElem? (i := 552) (by decide +kernel), List.mem_of_getElem? (i := 553) (by decide +kernel)⟩
theorem lw_p8 : lw_okq (⟨"ShoutedPrices$Round", "hearBid", "(LShoutedPrices$Room;III)V"⟩, 14) := ⟨⟨by decide +kernel, by decide +kernel⟩, List.mem_of_getElem? (i := 231) (by decide +kernel), List.mem_of_getElem? (i := 558) (by decide +kernel), List.mem_of_getElem? (i := 559) (by decide +kernel)⟩
theorem lw_p9 : lw_okq (⟨"ShoutedPrices$Round", "playPairs", "(LShoutedPrices$Room;)V"⟩, 14) := ⟨⟨by decide +kernel, by decide +kernel⟩, List.mem_of_getElem? (i := 231) (by decide +kernel), List.mem_of_getElem? (i := 562) (by decide +kernel), List.mem_of_getElem? (i := 563) (by decide +kernel)⟩
theorem lw_p10 : lw_okq (⟨"ShoutedPrices$Round", "playPosted", "(LShoutedPrices$Room;)V"⟩, 14) := ⟨⟨by decide +kernel, by decide +kernel⟩, List.mem_of_getElem? (i := 231) (by decide +kernel), List.mem_of_getElem? (i := 566) (by decide +kernel), List.mem_of_getElem? (i := 567) (by decide +kernel)⟩
theorem lw_p11 : lw_okq (⟨"ShoutedPrices$Round", "cheapestLeft", "(LShoutedPrices$Room;)I"⟩, 14) := ⟨⟨by decide +kernel, by decide +kernel⟩, List.mem_of_getElem? (i := 231) (by decide +kernel), List.mem_of_getElem? (i := 570) (by decide +kernel), List.mem_of_getElem? (i := 571) (by decide +kernel)⟩
theorem lw_p12 : lw_okq (⟨"ShoutedPrices$Round", "playBell", "(LShoutedPrices$Room;)V"⟩, 14) := ⟨⟨by decide +kernel, by decide +kernel⟩, List.mem_of_getElem? (i := 231) (by decide +kernel), List.mem_of_getElem? (i := 574) (by decide +kernel), List.mem_of_getElem? (i := 575) (by decide +kernel)⟩
theorem lw_p13 : lw_okq (⟨"ShoutedPrices", "sumUp", "(II)V"⟩, 12) := ⟨⟨by decide +kernel, by decide +kernel⟩, List.mem_of_getElem? (i := 16) (by decide +kernel), List.mem_of_getElem? (i := 593) (by decide +kernel), List.mem_of_getElem? (i := 594) (by decide +kernel)⟩
theorem lw_p14 : lw_okq (⟨"ShoutedPrices", "bestBy", "(I)I"⟩, 12) := ⟨⟨by decide +kernel, by decide +kernel⟩, List.mem_of_getElem? (i := 16) (by decide +kernel), List.mem_of_getElem? (i := 601) (by decide +kernel), List.mem_of_getElem? (i := 602) (by decide +kernel)⟩
theorem lw_p15 : lw_okq (⟨"ShoutedPrices$Carriers", "offer", "(II)V"⟩, 2) := ⟨⟨by decide +kernel, by decide +kernel⟩, List.mem_of_getElem? (i := 286) (by decide +kernel), List.mem_of_getElem? (i := 646) (by decide +kernel), List.mem_of_getElem? (i := 647) (by decide +kernel)⟩
def lw_privs_1 : List (MethodName × Nat) := [(⟨"ShoutedPrices$Lines", "price", "(I)V"⟩, 6), (⟨"ShoutedPrices", "gainOfAllMeetings", "()I"⟩, 12), (⟨"ShoutedPrices", "gainOfTelling", "(II)I"⟩, 12), (⟨"ShoutedPrices$Round", "playShouts", "(LShoutedPrices$Room;LShoutedPrices$Log;)V"⟩, 14), (⟨"ShoutedPrices$Round", "draw", "(II)I"⟩, 14), (⟨"ShoutedPrices$Round", "tells", "(LShoutedPrices$Room;III)I"⟩, 14), (⟨"ShoutedPrices$Round", "hearOffer", "(LShoutedPrices$Room;III)V"⟩, 14), (⟨"ShoutedPrices$Round", "trade", "(LShoutedPrices$Room;IIII)V"⟩, 14), (⟨"ShoutedPrices$Round", "hearBid", "(LShoutedPrices$Room;III)V"⟩, 14), (⟨"ShoutedPrices$Round", "playPairs", "(LShoutedPrices$Room;)V"⟩, 14), (⟨"ShoutedPrices$Round", "playPosted", "(LShoutedPrices$Room;)V"⟩, 14), (⟨"ShoutedPrices$Round", "cheapestLeft", "(LShoutedPrices$Room;)I"⟩, 14), (⟨"ShoutedPrices$Round", "playBell", "(LShoutedPrices$Room;)V"⟩, 14), (⟨"ShoutedPrices", "sumUp", "(II)V"⟩, 12), (⟨"ShoutedPrices", "bestBy", "(I)I"⟩, 12), (⟨"ShoutedPrices$Carriers", "offer", "(II)V"⟩, 2)]
theorem lw_r1 : ∀ q ∈ lw_privs_1, lw_okq q := List.forall_mem_cons.mpr ⟨lw_p0, List.forall_mem_cons.mpr ⟨lw_p1, List.forall_mem_cons.mpr ⟨lw_p2, List.forall_mem_cons.mpr ⟨lw_p3, List.forall_mem_cons.mpr ⟨lw_p4, List.forall_mem_cons.mpr ⟨lw_p5, List.forall_mem_cons.mpr ⟨lw_p6, List.forall_mem_cons.mpr ⟨lw_p7, List.forall_mem_cons.mpr ⟨lw_p8, List.forall_mem_cons.mpr ⟨lw_p9, List.forall_mem_cons.mpr ⟨lw_p10, List.forall_mem_cons.mpr ⟨lw_p11, List.forall_mem_cons.mpr ⟨lw_p12, List.forall_mem_cons.mpr ⟨lw_p13, List.forall_mem_cons.mpr ⟨lw_p14, List.forall_mem_cons.mpr ⟨lw_p15, fun _ h => absurd h List.not_mem_nil⟩⟩⟩⟩⟩⟩⟩⟩⟩⟩⟩⟩⟩⟩⟩⟩
theorem lw_p16 : lw_okq (⟨"ShoutedPricesModel", "noRoom", "(I)V"⟩, 34) := ⟨⟨by decide +kernel, by decide +kernel⟩, List.mem_of_getElem? (i := 678) (by decide +kernel), List.mem_of_getElem? (i := 684) (by decide +kernel), List.mem_of_getElem? (i := 685) (by decide +kernel)⟩
theorem lw_p17 : lw_okq (⟨"ShoutedPricesModel", "readAll", "()I"⟩, 34) := ⟨⟨by decide +kernel, by decide +kernel⟩, List.mem_of_getElem? (i := 678) (by decide +kernel), List.mem_of_getElem? (i := 808) (by decide +kernel), List.mem_of_getElem? (i := 809) (by decide +kernel)⟩
theorem lw_p18 : lw_okq (⟨"ShoutedPricesModel", "item", "()Z"⟩, 34) := ⟨⟨by decide +kernel, by decide +kernel⟩, List.mem_of_getElem? (i := 678) (by decide +kernel), List.mem_of_getElem? (i := 812) (by decide +kernel), List.mem_of_getElem? (i := 813) (by decide +kernel)⟩
theorem lw_p19 : lw_okq (⟨"ShoutedPricesModel", "byteAt", "(I)I"⟩, 34) := ⟨⟨by decide +kernel, by decide +kernel⟩, List.mem_of_getElem? (i := 678) (by decide +kernel), List.mem_of_getElem? (i := 816) (by decide +kernel), List.mem_of_getElem? (i := 817) (by decide +kernel)⟩
theorem lw_p20 : lw_okq (⟨"ShoutedPricesModel", "personItem", "(I)Z"⟩, 34) := ⟨⟨by decide +kernel, by decide +kernel⟩, List.mem_of_getElem? (i := 678) (by decide +kernel), List.mem_of_getElem? (i := 820) (by decide +kernel), List.mem_of_getElem? (i := 821) (by decide +kernel)⟩
theorem lw_p21 : lw_okq (⟨"ShoutedPricesModel", "figures", "(I)Z"⟩, 34) := ⟨⟨by decide +kernel, by decide +kernel⟩, List.mem_of_getElem? (i := 678) (by decide +kernel), List.mem_of_getElem? (i := 824) (by decide +kernel), List.mem_of_getElem? (i := 825) (by decide +kernel)⟩
theorem lw_p22 : lw_okq (⟨"ShoutedPricesModel", "readMany", "(I)I"⟩, 34) := ⟨⟨by decide +kernel, by decide +kernel⟩, List.mem_of_getElem? (i := 678) (by decide +kernel), List.mem_of_getElem? (i := 831) (by decide +kernel), List.mem_of_getElem? (i := 832) (by decide +kernel)⟩
theorem lw_p23 : lw_okq (⟨"ShoutedPricesModel", "numberItem", "(III)Z"⟩, 34) := ⟨⟨by decide +kernel, by decide +kernel⟩, List.mem_of_getElem? (i := 678) (by decide +kernel), List.mem_of_getElem? (i := 835) (by decide +kernel), List.mem_of_getElem? (i := 836) (by decide +kernel)⟩
theorem lw_p24 : lw_okq (⟨"ShoutedPricesModel", "isPerson", "(I)Z"⟩, 34) := ⟨⟨by decide +kernel, by decide +kernel⟩, List.mem_of_getElem? (i := 678) (by decide +kernel), List.mem_of_getElem? (i := 847) (by decide +kernel), List.mem_of_getElem? (i := 848) (by decide +kernel)⟩
theorem lw_p25 : lw_okq (⟨"ShoutedPricesModel", "showTrue", "()V"⟩, 34) := ⟨⟨by decide +kernel, by decide +kernel⟩, List.mem_of_getElem? (i := 678) (by decide +kernel), List.mem_of_getElem? (i := 862) (by decide +kernel), List.mem_of_getElem? (i := 863) (by decide +kernel)⟩
theorem lw_p26 : lw_okq (⟨"ShoutedPricesModel", "layLines", "()V"⟩, 34) := ⟨⟨by decide +kernel, by decide +kernel⟩, List.mem_of_getElem? (i := 678) (by decide +kernel), List.mem_of_getElem? (i := 866) (by decide +kernel), List.mem_of_getElem? (i := 867) (by decide +kernel)⟩
theorem lw_p27 : lw_okq (⟨"ShoutedPricesModel", "quantity", "(I)I"⟩, 34) := ⟨⟨by decide +kernel, by decide +kernel⟩, List.mem_of_getElem? (i := 678) (by decide +kernel), List.mem_of_getElem? (i := 870) (by decide +kernel), List.mem_of_getElem? (i := 871) (by decide +kernel)⟩
theorem lw_p28 : lw_okq (⟨"ShoutedPricesModel", "worth", "(I)I"⟩, 34) := ⟨⟨by decide +kernel, by decide +kernel⟩, List.mem_of_getElem? (i := 678) (by decide +kernel), List.mem_of_getElem? (i := 874) (by decide +kernel), List.mem_of_getElem? (i := 875) (by decide +kernel)⟩
theorem lw_p29 : lw_okq (⟨"ShoutedPricesModel", "costs", "(I)I"⟩, 34) := ⟨⟨by decide +kernel, by decide +kernel⟩, List.mem_of_getElem? (i := 678) (by decide +kernel), List.mem_of_getElem? (i := 878) (by decide +kernel), List.mem_of_getElem? (i := 879) (by decide +kernel)⟩
theorem lw_p30 : lw_okq (⟨"ShoutedPricesModel", "gainOf", "(I)I"⟩, 34) := ⟨⟨by decide +kernel, by decide +kernel⟩, List.mem_of_getElem? (i := 678) (by decide +kernel), List.mem_of_getElem? (i := 882) (by decide +kernel), List.mem_of_getElem? (i := 883) (by decide +kernel)⟩
theorem lw_p31 : lw_okq (⟨"ShoutedPricesModel", "lowest", "(II)I"⟩, 34) := ⟨⟨by decide +kernel, by decide +kernel⟩, List.mem_of_getElem? (i := 678) (by decide +kernel), List.mem_of_getElem? (i := 886) (by decide +kernel), List.mem_of_getElem? (i := 887) (by decide +kernel)⟩
def lw_privs_2 : List (MethodName × Nat) := [(⟨"ShoutedPricesModel", "noRoom", "(I)V"⟩, 34), (⟨"ShoutedPricesModel", "readAll", "()I"⟩, 34), (⟨"ShoutedPricesModel", "item", "()Z"⟩, 34), (⟨"ShoutedPricesModel", "byteAt", "(I)I"⟩, 34), (⟨"ShoutedPricesModel", "personItem", "(I)Z"⟩, 34), (⟨"ShoutedPricesModel", "figures", "(I)Z"⟩, 34), (⟨"ShoutedPricesModel", "readMany", "(I)I"⟩, 34), (⟨"ShoutedPricesModel", "numberItem", "(III)Z"⟩, 34), (⟨"ShoutedPricesModel", "isPerson", "(I)Z"⟩, 34), (⟨"ShoutedPricesModel", "showTrue", "()V"⟩, 34), (⟨"ShoutedPricesModel", "layLines", "()V"⟩, 34), (⟨"ShoutedPricesModel", "quantity", "(I)I"⟩, 34), (⟨"ShoutedPricesModel", "worth", "(I)I"⟩, 34), (⟨"ShoutedPricesModel", "costs", "(I)I"⟩, 34), (⟨"ShoutedPricesModel", "gainOf", "(I)I"⟩, 34), (⟨"ShoutedPricesModel", "lowest", "(II)I"⟩, 34)]
theorem lw_r2 : ∀ q ∈ lw_privs_2, lw_okq q := List.forall_mem_cons.mpr ⟨lw_p16, List.forall_mem_cons.mpr ⟨lw_p17, List.forall_mem_cons.mpr ⟨lw_p18, List.forall_mem_cons.mpr ⟨lw_p19, List.forall_mem_cons.mpr ⟨lw_p20, List.forall_mem_cons.mpr ⟨lw_p21, List.forall_mem_cons.mpr ⟨lw_p22, List.forall_mem_cons.mpr ⟨lw_p23, List.forall_mem_cons.mpr ⟨lw_p24, List.forall_mem_cons.mpr ⟨lw_p25, List.forall_mem_cons.mpr ⟨lw_p26, List.forall_mem_cons.mpr ⟨lw_p27, List.forall_mem_cons.mpr ⟨lw_p28, List.forall_mem_cons.mpr ⟨lw_p29, List.forall_mem_cons.mpr ⟨lw_p30, List.forall_mem_cons.mpr ⟨lw_p31, fun _ h => absurd h List.not_mem_nil⟩⟩⟩⟩⟩⟩⟩⟩⟩⟩⟩⟩⟩⟩⟩⟩
theorem lw_p32 : lw_okq (⟨"ShoutedPricesModel", "highest", "(II)I"⟩, 34) := ⟨⟨by decide +kernel, by decide +kernel⟩, List.mem_of_getElem? (i := 678) (by decide +kernel), List.mem_of_getElem? (i := 890) (by decide +kernel), List.mem_of_getElem? (i := 891) (by decide +kernel)⟩
theorem lw_p33 : lw_okq (⟨"ShoutedPricesModel", "manyOf", "(I)I"⟩, 34) := ⟨⟨by decide +kernel, by decide +kernel⟩, List.mem_of_getElem? (i := 678) (by decide +kernel), List.mem_of_getElem? (i := 903) (by decide +kernel), List.mem_of_getElem? (i := 904) (by decide +kernel)⟩
theorem lw_p34 : lw_okq (⟨"ShoutedPricesModel", "bellOf", "(II)I"⟩, 34) := ⟨⟨by decide +kernel, by decide +kernel⟩, List.mem_of_getElem? (i := 678) (by decide +kernel), List.mem_of_getElem? (i := 915) (by decide +kernel), List.mem_of_getElem? (i := 916) (by decide +kernel)⟩
theorem lw_p35 : lw_okq (⟨"ShoutedPricesModel", "isFirst", "(II)Z"⟩, 34) := ⟨⟨by decide +kernel, by decide +kernel⟩, List.mem_of_getElem? (i := 678) (by decide +kernel), List.mem_of_getElem? (i := 919) (by decide +kernel), List.mem_of_getElem? (i := 920) (by decide +kernel)⟩
theorem lw_p36 : lw_okq (⟨"ShoutedPricesModel", "goRound", "(IIZ)V"⟩, 34) := ⟨⟨by decide +kernel, by decide +kernel⟩, List.mem_of_getElem? (i := 678) (by decide +kernel), List.mem_of_getElem? (i := 935) (by decide +kernel), List.mem_of_getElem? (i := 936) (by decide +kernel)⟩
theorem lw_p37 : lw_okq (⟨"ShoutedPricesModel", "goShouts", "()V"⟩, 34) := ⟨⟨by decide +kernel, by decide +kernel⟩, List.mem_of_getElem? (i := 678) (by decide +kernel), List.mem_of_getElem? (i := 939) (by decide +kernel), List.mem_of_getElem? (i := 940) (by decide +kernel)⟩
theorem lw_p38 : lw_okq (⟨"ShoutedPricesModel", "draw", "(II)I"⟩, 34) := ⟨⟨by decide +kernel, by decide +kernel⟩, List.mem_of_getElem? (i := 678) (by decide +kernel), List.mem_of_getElem? (i := 943) (by decide +kernel), List.mem_of_getElem? (i := 944) (by decide +kernel)⟩
theorem lw_p39 : lw_okq (⟨"ShoutedPricesModel", "shoutOf", "(IIII)I"⟩, 34) := ⟨⟨by decide +kernel, by decide +kernel⟩, List.mem_of_getElem? (i := 678) (by decide +kernel), List.mem_of_getElem? (i := 951) (by decide +kernel), List.mem_of_getElem? (i := 952) (by decide +kernel)⟩
theorem lw_p40 : lw_okq (⟨"ShoutedPricesModel", "shoutBy", "(IIIIII)I"⟩, 34) := ⟨⟨by decide +kernel, by decide +kernel⟩, List.mem_of_getElem? (i := 678) (by decide +kernel), List.mem_of_getElem? (i := 955) (by decide +kernel), List.mem_of_getElem? (i := 956) (by decide +kernel)⟩
theorem lw_p41 : lw_okq (⟨"ShoutedPricesModel", "note", "(III)V"⟩, 34) := ⟨⟨by decide +kernel, by decide +kernel⟩, List.mem_of_getElem? (i := 678) (by decide +kernel), List.mem_of_getElem? (i := 959) (by decide +kernel), List.mem_of_getElem? (i := 960) (by decide +kernel)⟩
theorem lw_p42 : lw_okq (⟨"ShoutedPricesModel", "trade", "(IIII)V"⟩, 34) := ⟨⟨by decide +kernel, by decide +kernel⟩, List.mem_of_getElem? (i := 678) (by decide +kernel), List.mem_of_getElem? (i := 963) (by decide +kernel), List.mem_of_getElem? (i := 964) (by decide +kernel)⟩
theorem lw_p43 : lw_okq (⟨"ShoutedPricesModel", "goPairs", "()V"⟩, 34) := ⟨⟨by decide +kernel, by decide +kernel⟩, List.mem_of_getElem? (i := 678) (by decide +kernel), List.mem_of_getElem? (i := 967) (by decide +kernel), List.mem_of_getElem? (i := 968) (by decide +kernel)⟩
theorem lw_p44 : lw_okq (⟨"ShoutedPricesModel", "personOf", "(II)I"⟩, 34) := ⟨⟨by decide +kernel, by decide +kernel⟩, List.mem_of_getElem? (i := 678) (by decide +kernel), List.mem_of_getElem? (i := 971) (by decide +kernel), List.mem_of_getElem? (i := 972) (by decide +kernel)⟩
theorem lw_p45 : lw_okq (⟨"ShoutedPricesModel", "goPosted", "()V"⟩, 34) := ⟨⟨by decide +kernel, by decide +kernel⟩, List.mem_of_getElem? (i := 678) (by decide +kernel), List.mem_of_getElem? (i := 975) (by decide +kernel), List.mem_of_getElem? (i := 976) (by decide +kernel)⟩
theorem lw_p46 : lw_okq (⟨"ShoutedPricesModel", "goBell", "()V"⟩, 34) := ⟨⟨by decide +kernel, by decide +kernel⟩, List.mem_of_getElem? (i := 678) (by decide +kernel), List.mem_of_getElem? (i := 979) (by decide +kernel), List.mem_of_getElem? (i := 980) (by decide +kernel)⟩
theorem lw_p47 : lw_okq (⟨"ShoutedPricesModel", "layMeans", "(II)V"⟩, 34) := ⟨⟨by decide +kernel, by decide +kernel⟩, List.mem_of_getElem? (i := 678) (by decide +kernel), List.mem_of_getElem? (i := 991) (by decide +kernel), List.mem_of_getElem? (i := 992) (by decide +kernel)⟩
def lw_privs_3 : List (MethodName × Nat) := [(⟨"ShoutedPricesModel", "highest", "(II)I"⟩, 34), (⟨"ShoutedPricesModel", "manyOf", "(I)I"⟩, 34), (⟨"ShoutedPricesModel", "bellOf", "(II)I"⟩, 34), (⟨"ShoutedPricesModel", "isFirst", "(II)Z"⟩, 34), (⟨"ShoutedPricesModel", "goRound", "(IIZ)V"⟩, 34), (⟨"ShoutedPricesModel", "goShouts", "()V"⟩, 34), (⟨"ShoutedPricesModel", "draw", "(II)I"⟩, 34), (⟨"ShoutedPricesModel", "shoutOf", "(IIII)I"⟩, 34), (⟨"ShoutedPricesModel", "shoutBy", "(IIIIII)I"⟩, 34), (⟨"ShoutedPricesModel", "note", "(III)V"⟩, 34), (⟨"ShoutedPricesModel", "trade", "(IIII)V"⟩, 34), (⟨"ShoutedPricesModel", "goPairs", "()V"⟩, 34), (⟨"ShoutedPricesModel", "personOf", "(II)I"⟩, 34), (⟨"ShoutedPricesModel", "goPosted", "()V"⟩, 34), (⟨"ShoutedPricesModel", "goBell", "()V"⟩, 34), (⟨"ShoutedPricesModel", "layMeans", "(II)V"⟩, 34)]
theorem lw_r3 : ∀ q ∈ lw_privs_3, lw_okq q := List.forall_mem_cons.mpr ⟨lw_p32, List.forall_mem_cons.mpr ⟨lw_p33, List.forall_mem_cons.mpr ⟨lw_p34, List.forall_mem_cons.mpr ⟨lw_p35, List.forall_mem_cons.mpr ⟨lw_p36, List.forall_mem_cons.mpr ⟨lw_p37, List.forall_mem_cons.mpr ⟨lw_p38, List.forall_mem_cons.mpr ⟨lw_p39, List.forall_mem_cons.mpr ⟨lw_p40, List.forall_mem_cons.mpr ⟨lw_p41, List.forall_mem_cons.mpr ⟨lw_p42, List.forall_mem_cons.mpr ⟨lw_p43, List.forall_mem_cons.mpr ⟨lw_p44, List.forall_mem_cons.mpr ⟨lw_p45, List.forall_mem_cons.mpr ⟨lw_p46, List.forall_mem_cons.mpr ⟨lw_p47, fun _ h => absurd h List.not_mem_nil⟩⟩⟩⟩⟩⟩⟩⟩⟩⟩⟩⟩⟩⟩⟩⟩
theorem lw_p48 : lw_okq (⟨"ShoutedPricesModel", "bestBy", "(I)I"⟩, 34) := ⟨⟨by decide +kernel, by decide +kernel⟩, List.mem_of_getElem? (i := 678) (by decide +kernel), List.mem_of_getElem? (i := 999) (by decide +kernel), List.mem_of_getElem? (i := 1000) (by decide +kernel)⟩
theorem lw_p49 : lw_okq (⟨"ShoutedPricesModel", "knownOf", "(I)I"⟩, 34) := ⟨⟨by decide +kernel, by decide +kernel⟩, List.mem_of_getElem? (i := 678) (by decide +kernel), List.mem_of_getElem? (i := 1011) (by decide +kernel), List.mem_of_getElem? (i := 1012) (by decide +kernel)⟩
theorem lw_p50 : lw_okq (⟨"ShoutedPricesModel", "mayBe", "(II)Z"⟩, 34) := ⟨⟨by decide +kernel, by decide +kernel⟩, List.mem_of_getElem? (i := 678) (by decide +kernel), List.mem_of_getElem? (i := 1023) (by decide +kernel), List.mem_of_getElem? (i := 1024) (by decide +kernel)⟩
theorem lw_p51 : lw_okq (⟨"ShoutedPricesModel", "layRooms", "(I)V"⟩, 34) := ⟨⟨by decide +kernel, by decide +kernel⟩, List.mem_of_getElem? (i := 678) (by decide +kernel), List.mem_of_getElem? (i := 1031) (by decide +kernel), List.mem_of_getElem? (i := 1032) (by decide +kernel)⟩
theorem lw_p52 : lw_okq (⟨"ShoutedPricesModel", "carried", "(II)I"⟩, 34) := ⟨⟨by decide +kernel, by decide +kernel⟩, List.mem_of_getElem? (i := 678) (by decide +kernel), List.mem_of_getElem? (i := 1035) (by decide +kernel), List.mem_of_getElem? (i := 1036) (by decide +kernel)⟩
theorem lw_p53 : lw_okq (⟨"ShoutedPricesModel", "copyLog", "(II)V"⟩, 34) := ⟨⟨by decide +kernel, by decide +kernel⟩, List.mem_of_getElem? (i := 678) (by decide +kernel), List.mem_of_getElem? (i := 1043) (by decide +kernel), List.mem_of_getElem? (i := 1044) (by decide +kernel)⟩
def lw_privs_4 : List (MethodName × Nat) := [(⟨"ShoutedPricesModel", "bestBy", "(I)I"⟩, 34), (⟨"ShoutedPricesModel", "knownOf", "(I)I"⟩, 34), (⟨"ShoutedPricesModel", "mayBe", "(II)Z"⟩, 34), (⟨"ShoutedPricesModel", "layRooms", "(I)V"⟩, 34), (⟨"ShoutedPricesModel", "carried", "(II)I"⟩, 34), (⟨"ShoutedPricesModel", "copyLog", "(II)V"⟩, 34)]
theorem lw_r4 : ∀ q ∈ lw_privs_4, lw_okq q := List.forall_mem_cons.mpr ⟨lw_p48, List.forall_mem_cons.mpr ⟨lw_p49, List.forall_mem_cons.mpr ⟨lw_p50, List.forall_mem_cons.mpr ⟨lw_p51, List.forall_mem_cons.mpr ⟨lw_p52, List.forall_mem_cons.mpr ⟨lw_p53, fun _ h => absurd h List.not_mem_nil⟩⟩⟩⟩⟩⟩
def lw_privs : List (MethodName × Nat) := lw_privs_1 ++ (lw_privs_2 ++ (lw_privs_3 ++ (lw_privs_4)))
def lw_tbl : List Cond := k2_sels lw_privs ++ tables_1
theorem lw_privs_ok : ∀ q ∈ lw_privs, lw_okq q := by
  show ∀ q ∈ lw_privs_1 ++ (lw_privs_2 ++ (lw_privs_3 ++ (lw_privs_4))), lw_okq q
  exact List.forall_mem_append.mpr ⟨lw_r1, List.forall_mem_append.mpr ⟨lw_r2, List.forall_mem_append.mpr ⟨lw_r3, lw_r4⟩⟩⟩
def va_AOA (ty : FieldType) (U : State) : Prop := (Cond.arrayOver (.array ty)).before #[] U = true
theorem va_AOA.of {ty : FieldType} {A : Array Value} {U : State} (h : (Cond.arrayOver (.array ty)).before A U = true) : va_AOA ty U := h
theorem va_AOA.use {ty : FieldType} {A : Array Value} {U : State} (h : va_AOA ty U) : (Cond.arrayOver (.array ty)).before A U = true := h
/-! ===== BEGIN words of one list among another's, by their places ===== -/
theorem goodIn_r {big : List Cond} (ws : List Cond) (ps : List Nat) (hp : ws = ps.filterMap (fun i => big[i]?)) (h : ws.all goodWord = true) : GoodIn big ws := by
  intro w hw
  have h1 := List.all_eq_true.mp h w hw
  rw [hp] at hw
  obtain ⟨i, -, hi⟩ := List.mem_filterMap.mp hw
  have hm : w ∈ big := by first | exact List.mem_of_getElem? hi | exact List.getElem?_mem hi
  exact ⟨hm, good_of_word h1⟩
theorem goodIn_app {big a b : List Cond} (ha : GoodIn big a) (hb : GoodIn big b) : GoodIn big (a ++ b) := fun w h => (List.mem_append.mp h).elim (ha w) (hb w)
theorem goodIn_ca {big a b : List Cond} {c : Cond} (ha : GoodIn big (c :: a)) (hb : GoodIn big b) : GoodIn big (c :: (a ++ b)) := fun w h => (List.mem_cons.mp h).elim (fun e => ha w (List.mem_cons.mpr (Or.inl e))) (fun h => (List.mem_append.mp h).elim (fun h => ha w (List.mem_cons.mpr (Or.inr h))) (hb w))
theorem goodIn_sub {big ws : List Cond} (hm : ∀ w ∈ ws, w ∈ big) (h : ws.all goodWord = true) : GoodIn big ws := fun w hw => ⟨hm w hw, good_of_word (List.all_eq_true.mp h w hw)⟩
/-! ===== END ===== -/

/-! ===== BEGIN new T[n][m]: the outer array a place, the inner ones among the pooled ===== -/
/-- f, but v at every address of l -/
def vr_up {α : Type} (f : Nat → α) (l : List Nat) (v : α) : Nat → α := fun a => if a ∈ l then v else f a
theorem vr_up_in {α : Type} {f : Nat → α} {l : List Nat} {v : α} {a : Nat} (h : a ∈ l) : vr_up f l v a = v := if_pos h
theorem vr_up_ne {α : Type} {f : Nat → α} {l : List Nat} {v : α} {a : Nat} (h : a ∉ l) : vr_up f l v a = f a := if_neg h
theorem vr_rows {L l : List Nat} {f : Nat → va_E} {e : va_E} (h : ∀ a, a ∈ l → a ∉ L) : va_pl L f ++ l.map (fun a => (a, e)) = va_pl (L ++ l) (vr_up f l e) := by
  unfold va_pl
  rw [List.map_append]
  congr 1
  · apply List.map_congr_left
    intro a ha
    rw [vr_up_ne (fun q => h a q ha)]
  · apply List.map_congr_left
    intro a ha
    rw [vr_up_in ha]
theorem vr_lay {X rows : va_W} {x : Nat × va_E} {pl : va_W} {D : va_G} {cl : List vw_C} {H : Heap} (hP : va_P D cl (((X ++ pl) ++ [x]) ++ rows) H) : va_P D cl ((X ++ [x]) ++ (pl ++ rows)) H := by
  rw [List.append_assoc (X ++ pl)] at hP
  have h := va_P.swap hP
  rw [← List.append_assoc X] at h
  have h2 := va_P.swap h
  rw [List.append_assoc (X ++ [x])] at h2
  exact h2
theorem vr_layD {X rows : va_W} {x : Nat × va_E} {pl : va_W} {A : Nat → Prop} (hD : va_D A (((X ++ pl) ++ [x]) ++ rows)) : va_D A ((X ++ [x]) ++ (pl ++ rows)) := by
  rw [List.append_assoc (X ++ pl)] at hD
  have h := va_D.swap hD
  rw [← List.append_assoc X] at h
  have h2 := va_D.swap h
  rw [List.append_assoc (X ++ [x])] at h2
  exact h2
theorem vr_outer (c : ClassId) (N h0 : Nat) : ∀ i : Nat, Jvm.Free.Multi.outerC c N h0 i = arrV c N (fun j => va_rf (if j < i then some (h0 + 1 + j) else none))
  | 0 => by
    show ({ cls := c, slots := Array.replicate N .null, vm := .none } : Cell) = _
    rw [arrV_new]
    refine congrArg (arrV c N) (funext fun j => ?_)
    simp [va_rf]
  | i + 1 => by
    show (Jvm.Free.Multi.outerC c N h0 i).setSlot i (.ref (h0 + 1 + i)) = _
    rw [vr_outer c N h0 i, arrV_store]
    refine congrArg (arrV c N) (funext fun j => ?_)
    by_cases e : j = i
    · subst e
      simp [updV, va_rf]
    · by_cases h : j < i
      · simp [updV, e, h, Nat.lt_succ_of_lt h]
      · simp [updV, e, h, show ¬ j < i + 1 by omega]
section VGM
variable {p : Program} {l : Launch} {e : Env} {R : Room} {s : State} {m : MethodId} {args : Array Value} {below : List Frame} {meth : Method} {c : Code} {H : Heap} {locs : List Loc} {cells slots : Nat} {Q : State → Prop}
variable {cc : ByteArray} {pc : Nat} {ls : Array Slot} {rest : List Value} {D : va_G} {cl : List vw_C} {A : Nat → Prop} {a : Nat} {tys : List (ClassId × FieldType)} {ws : va_W} {H0 : Heap}
theorem va_mna {X : va_W} {L : List Nat} {f : Nat → va_E} {cc : ByteArray} (hexec : p.tables.exec = Jvm.exec) (hb : c.code = cc) {own : String} {index : Nat} {ty : FieldType} {cy : ClassId} (hown : s.vm.findClass own = some m.cls) (hclink : (Cond.classLink own index ("[" ++ (FieldType.array ty).toString)).before args s = true) (hover : va_AOA ty s) (harr : (Cond.arrayClass ty).before args s = true) (hcy : s.vm.findClass (FieldType.array ty).toString = some cy)
    (hK : va_K D cl tys s) (hP : va_P D cl (X ++ va_pl L f) H) (hD : va_D A (X ++ va_pl L f)) (hS : va_S A H0 H locs) (hA : ∀ q, H0.size ≤ q → A q) {n k : Int32} {N' K' : Nat} {z : vp_A} (hn : ¬ n < 0) (hk : ¬ k < 0) (hN : n.toNatClampNeg = N') (hM : k.toNatClampNeg = K')
    (hb1 : N' * 4 ≤ 536870912) (hb2 : K' * componentBytes ty ≤ 536870912) (hb3 : K' ≤ 536870912) (hdf : fits ty (defaultValue ty) = true) (hdd : (defaultValue ty).isDefault = true) (hcells : cells + (1 + N') ≤ R.cells) (hslots : slots + (N' + N' * K') ≤ R.slots) (hz : ∀ c : ClassId, Jvm.Free.Multi.innerC c K' (defaultValue ty) = vp_cell c z) (hdg : decode cc pc = .ok (.multianewarray index 2, 4))
    (kk : ∀ (q : Nat) (r : Nat → Nat) (cA : ClassId) (H1 : Heap), (∀ i j : Nat, i < N' → j < N' → r i = r j → i = j) → (∀ i : Nat, i < N' → r i ∉ L) → va_K D cl (tys ++ [(cA, .array ty)]) s →
      va_P D cl ((X ++ [(q, .inl (cA, N', .inr (.inr (.inr (.inr (fun i => if i < N' then some (r i) else none))))))]) ++ va_pl (L ++ (List.range N').map r) (vr_up f ((List.range N').map r) (.inl (cy, z)))) H1 → va_D A ((X ++ [(q, .inl (cA, N', .inr (.inr (.inr (.inr (fun i => if i < N' then some (r i) else none))))))]) ++ va_pl (L ++ (List.range N').map r) (vr_up f ((List.range N').map r) (.inl (cy, z)))) → va_S A H0 H1 locs →
      W p l e R s m args below meth c H1 locs (cells + 1 + N') (slots + N' + N' * K') Q (F0 m (pc + 4) ls (.ref q :: rest))) : W p l e R s m args below meth c H locs cells slots Q (F0 m pc ls (.int k :: .int n :: rest)) := by
  subst hN
  subst hM
  intro T hT Xs
  obtain ⟨vm₁, cA, comp, -, fA, fC, hO, -, X', step⟩ := Xs.multianewarray2F hexec hown hclink (va_AOA.use hover) harr (g := F0 m pc ls (.int k :: .int n :: rest)) rfl (by rw [hb]; exact hdg) rfl hn hk hb1 hb2 hb3 hdf hdd hcells hslots
  have ec : some cy = some comp := hcy.symm.trans fC
  cases ec
  generalize hF : Jvm.Free.Multi.fill (T.setVm vm₁) cA cy n.toNatClampNeg k.toNatClampNeg (defaultValue ty) n.toNatClampNeg = F at X' step
  have hTh : (T.setVm vm₁).heap = H := hT
  obtain ⟨f1, f2, -, -⟩ := Jvm.Free.Multi.fill_facts (T.setVm vm₁) cA cy n.toNatClampNeg k.toNatClampNeg (defaultValue ty) n.toNatClampNeg
  rw [hF, hTh] at f1 f2
  have hold : ∀ x : Nat, x < H.size → F.heap[x]? = H[x]? := fun x hx => by
    have := Jvm.Free.Multi.fill_old (T.setVm vm₁) cA cy n.toNatClampNeg k.toNatClampNeg (defaultValue ty) (a := x) (by rw [hTh]; exact hx) n.toNatClampNeg
    rw [hF, hTh] at this
    exact this
  have hrow : ∀ j : Nat, j < n.toNatClampNeg → F.heap[H.size + 1 + j]? = some (vp_cell cy z) := fun j hj => by
    have := Jvm.Free.Multi.fill_inner (T.setVm vm₁) cA cy n.toNatClampNeg k.toNatClampNeg (defaultValue ty) n.toNatClampNeg j hj
    rw [hF, hTh, hz] at this
    exact this
  have hout : Jvm.Free.Multi.outerC cA n.toNatClampNeg H.size n.toNatClampNeg = vp_cell cA (n.toNatClampNeg, .inr (.inr (.inr (.inr (fun i => if i < n.toNatClampNeg then some (H.size + 1 + i) else none))))) := by
    rw [vp_cell_q]
    exact vr_outer cA n.toNatClampNeg H.size n.toNatClampNeg
  rw [hout] at f2
  have hlt : ∀ a, a ∈ L → a < H.size := fun a ha => by
    obtain ⟨k9, hk9⟩ := va_pl_get (X := X) (f := f) ha
    exact (hP k9 _ hk9).lt
  have hnl : ∀ i : Nat, i < n.toNatClampNeg → H.size + 1 + i ∉ L := fun i _ h => by
    have := hlt _ h
    omega
  have hnm : ∀ a, a ∈ (List.range n.toNatClampNeg).map (fun i => H.size + 1 + i) → a ∉ L := fun a ha h => by
    obtain ⟨i, -, rfl⟩ := List.mem_map.mp ha
    have := hlt _ h
    omega
  have hP0 : va_P D cl (X ++ va_pl L f) F.heap := hP.kept (fun k9 x hx => hold x.1 ((hP k9 x hx).lt))
  have hP1 : va_P D cl ((X ++ va_pl L f) ++ [(H.size, .inl (cA, n.toNatClampNeg, .inr (.inr (.inr (.inr (fun i => if i < n.toNatClampNeg then some (H.size + 1 + i) else none))))))]) F.heap := hP0.app (fun k9 x hx => by
    have h0 : k9 < 1 := (List.getElem?_eq_some_iff.mp hx).1
    rw [show k9 = 0 by omega] at hx
    cases hx
    exact f2)
  have hP2 : va_P D cl (((X ++ va_pl L f) ++ [(H.size, .inl (cA, n.toNatClampNeg, .inr (.inr (.inr (.inr (fun i => if i < n.toNatClampNeg then some (H.size + 1 + i) else none))))))]) ++ ((List.range n.toNatClampNeg).map (fun i => H.size + 1 + i)).map (fun a => (a, .inl (cy, z)))) F.heap := hP1.app (fun k9 x hx => by
    obtain ⟨a, ha, rfl⟩ := List.mem_map.mp (List.mem_of_getElem? hx)
    obtain ⟨i, hi, rfl⟩ := List.mem_map.mp ha
    exact hrow i (List.mem_range.mp hi))
  have hD2 : va_D A (((X ++ va_pl L f) ++ [(H.size, .inl (cA, n.toNatClampNeg, .inr (.inr (.inr (.inr (fun i => if i < n.toNatClampNeg then some (H.size + 1 + i) else none))))))]) ++ ((List.range n.toNatClampNeg).map (fun i => H.size + 1 + i)).map (fun a => (a, .inl (cy, z)))) := by
    have hD1 := hD.push (e := .inl (cA, n.toNatClampNeg, .inr (.inr (.inr (.inr (fun i => if i < n.toNatClampNeg then some (H.size + 1 + i) else none)))))) hP rfl (hA _ hS.1)
    generalize hW1 : (X ++ va_pl L f) ++ [(H.size, .inl (cA, n.toNatClampNeg, .inr (.inr (.inr (.inr (fun i => if i < n.toNatClampNeg then some (H.size + 1 + i) else none))))))] = W1 at hD1 hP1 ⊢
    have hle : ∀ (k9 : Nat) (x : Nat × va_E), W1[k9]? = some x → x.1 ≤ H.size := fun k9 x hx => by
      rw [← hW1] at hx
      by_cases hl : k9 < (X ++ va_pl L f).length
      · rw [List.getElem?_append_left hl] at hx
        exact Nat.le_of_lt ((hP k9 x hx).lt)
      · rw [List.getElem?_append_right (by omega)] at hx
        have h0 : k9 - (X ++ va_pl L f).length < 1 := (List.getElem?_eq_some_iff.mp hx).1
        rw [show k9 - (X ++ va_pl L f).length = 0 by omega] at hx
        cases hx
        exact Nat.le_refl _
    have hr : ∀ (k9 : Nat) (x : Nat × va_E), (((List.range n.toNatClampNeg).map (fun i => H.size + 1 + i)).map (fun a => ((a, .inl (cy, z)) : Nat × va_E)))[k9]? = some x → x.1 = H.size + 1 + k9 := fun k9 x hx => by
      rw [List.getElem?_map, List.getElem?_map] at hx
      by_cases h9 : k9 < n.toNatClampNeg
      · rw [List.getElem?_range h9] at hx
        cases hx
        rfl
      · have hn0 : (List.range n.toNatClampNeg)[k9]? = none := List.getElem?_eq_none (by rw [List.length_range]; omega)
        rw [hn0] at hx
        cases hx
    refine ⟨fun i j x y hi hj hxy => ?_, fun k9 x hx => ?_⟩
    · by_cases h1 : i < W1.length <;> by_cases h2 : j < W1.length
      · rw [List.getElem?_append_left h1] at hi
        rw [List.getElem?_append_left h2] at hj
        exact hD1.1 i j x y hi hj hxy
      · rw [List.getElem?_append_left h1] at hi
        rw [List.getElem?_append_right (by omega)] at hj
        have := hle _ _ hi
        have := hr _ _ hj
        omega
      · rw [List.getElem?_append_right (by omega)] at hi
        rw [List.getElem?_append_left h2] at hj
        have := hle _ _ hj
        have := hr _ _ hi
        omega
      · rw [List.getElem?_append_right (by omega)] at hi hj
        have := hr _ _ hi
        have := hr _ _ hj
        omega
    · by_cases h1 : k9 < W1.length
      · rw [List.getElem?_append_left h1] at hx
        exact hD1.2 k9 x hx
      · rw [List.getElem?_append_right (by omega)] at hx
        have := hr _ _ hx
        exact hA _ (by have := hS.1; omega)
  have hAr : ArrOfT s cA (.array ty) := fun N9 z9 => by
    obtain ⟨-, k9, hk9, cm9, hkk9⟩ := (hO 0 0 0).1
    exact ⟨(fun q hq => by cases hq), k9, hk9, cm9, hkk9⟩
  have hK2 : va_K D cl (tys ++ [(cA, .array ty)]) s := ⟨hK.1, fun k9 x hx => by
    by_cases hl : k9 < tys.length
    · rw [List.getElem?_append_left hl] at hx
      exact hK.2 k9 x hx
    · rw [List.getElem?_append_right (by omega)] at hx
      have h0 : k9 - tys.length < 1 := (List.getElem?_eq_some_iff.mp hx).1
      rw [show k9 - tys.length = 0 by omega] at hx
      cases hx
      exact ⟨hAr, fA⟩⟩
  obtain ⟨t, a1, b1⟩ := kk H.size (fun i => H.size + 1 + i) cA F.heap (fun i j _ _ h => by have h9 : H.size + 1 + i = H.size + 1 + j := h; omega) hnl hK2 (by rw [← vr_rows hnm]; exact vr_lay hP2) (by rw [← vr_rows hnm]; exact vr_layD hD2) ⟨by rw [f1]; have := hS.1; omega, fun x h1 h2 => (hold x (Nat.lt_of_lt_of_le h1 hS.1)).trans (hS.2.1 x h1 h2), hS.2.2⟩ F rfl X'
  refine ⟨t, step t ?_, b1⟩
  have e : T.heap.size = H.size := by rw [hT]
  rw [e]
  exact a1
end VGM
/-! ===== END ===== -/

/-! ===== BEGIN printed: names, fields, word lists, decode rows ===== -/
def RX0 : String := "ShoutedPrices$Carriers"
def TX0 : u_T := fun k => match k with
  | 0 => ("ShoutedPrices$Carriers", "gain", "I", false)
  | _ => ("ShoutedPrices$Carriers", "carried", "I", false)
def tyX0 : Nat → FieldType := fun k => match k with
  | 0 => .int
  | _ => .int
abbrev wsX00 : List Cond := u_ws RX0 TX0 2
theorem nmX0 : ∀ a, a < 2 → ∀ b, b < 2 → a ≠ b → (TX0 a).2.1 ≠ (TX0 b).2.1 := by decide +kernel
theorem tyX0_ok : ∀ k, k < 2 → parseFieldDescriptor (TX0 k).2.2.1 = some (tyX0 k) := by decide +kernel
abbrev cX0_init : ByteArray := prog_2_method_1_code
def yX0_init : MethodName := ⟨RX0, "<init>", "()V"⟩
abbrev cX0_choose : ByteArray := prog_2_method_2_code
def yX0_choose : MethodName := ⟨RX0, "choose", "(LShoutedPrices$Lines;LShoutedPrices$Lines;I)V"⟩
abbrev cX0_offer : ByteArray := prog_2_method_3_code
def yX0_offer : MethodName := ⟨RX0, "offer", "(II)V"⟩
def RX1 : String := "ShoutedPrices$Kept"
def TX1 : u_T := fun k => match k with
  | 0 => ("ShoutedPrices$Kept", "law", "[I", true)
  | _ => ("ShoutedPrices$Kept", "log", "LShoutedPrices$Log;", true)
def tyX1 : Nat → FieldType := fun k => match k with
  | 0 => .array .int
  | _ => .object "ShoutedPrices$Log"
abbrev wsX10 : List Cond := u_ws RX1 TX1 2
theorem nmX1 : ∀ a, a < 2 → ∀ b, b < 2 → a ≠ b → (TX1 a).2.1 ≠ (TX1 b).2.1 := by decide +kernel
theorem tyX1_ok : ∀ k, k < 2 → parseFieldDescriptor (TX1 k).2.2.1 = some (tyX1 k) := by decide +kernel
abbrev cX1_init : ByteArray := prog_3_method_1_code
def yX1_init : MethodName := ⟨RX1, "<init>", "()V"⟩
abbrev cX1_hold : ByteArray := prog_3_method_2_code
def yX1_hold : MethodName := ⟨RX1, "hold", "(LShoutedPrices$Room;LShoutedPrices$Log;)V"⟩
abbrev cX1_giveBack : ByteArray := prog_3_method_3_code
def yX1_giveBack : MethodName := ⟨RX1, "giveBack", "(LShoutedPrices$Room;LShoutedPrices$Log;)V"⟩
def RX2 : String := "ShoutedPrices$Line"
def TX2 : u_T := fun k => match k with
  | 0 => ("ShoutedPrices$Line", "rising", "Z", true)
  | 1 => ("ShoutedPrices$Line", "whose", "[I", true)
  | 2 => ("ShoutedPrices$Line", "card", "[I", true)
  | _ => ("ShoutedPrices$Line", "size", "I", false)
def tyX2 : Nat → FieldType := fun k => match k with
  | 0 => .boolean
  | 1 => .array .int
  | 2 => .array .int
  | _ => .int
abbrev wsX20 : List Cond := u_ws RX2 TX2 4
theorem nmX2 : ∀ a, a < 4 → ∀ b, b < 4 → a ≠ b → (TX2 a).2.1 ≠ (TX2 b).2.1 := by decide +kernel
theorem tyX2_ok : ∀ k, k < 4 → parseFieldDescriptor (TX2 k).2.2.1 = some (tyX2 k) := by decide +kernel
abbrev cX2_init : ByteArray := prog_4_method_1_code
def yX2_init : MethodName := ⟨RX2, "<init>", "(Z)V"⟩
abbrev cX2_add : ByteArray := prog_4_method_2_code
def yX2_add : MethodName := ⟨RX2, "add", "(II)V"⟩
abbrev cX2_ahead : ByteArray := prog_4_method_3_code
def yX2_ahead : MethodName := ⟨RX2, "ahead", "(I)I"⟩
abbrev cX2_sum : ByteArray := prog_4_method_4_code
def yX2_sum : MethodName := ⟨RX2, "sum", "(II)I"⟩
abbrev cX2_holds : ByteArray := prog_4_method_5_code
def yX2_holds : MethodName := ⟨RX2, "holds", "(II)Z"⟩
def RX3 : String := "ShoutedPrices$Lines"
def TX3 : u_T := fun k => match k with
  | 0 => ("ShoutedPrices$Lines", "buyers", "LShoutedPrices$Line;", true)
  | 1 => ("ShoutedPrices$Lines", "sellers", "LShoutedPrices$Line;", true)
  | 2 => ("ShoutedPrices$Lines", "quantity", "I", false)
  | 3 => ("ShoutedPrices$Lines", "most", "I", false)
  | 4 => ("ShoutedPrices$Lines", "lowest", "I", false)
  | _ => ("ShoutedPrices$Lines", "highest", "I", false)
def tyX3 : Nat → FieldType := fun k => match k with
  | 0 => .object "ShoutedPrices$Line"
  | 1 => .object "ShoutedPrices$Line"
  | 2 => .int
  | 3 => .int
  | 4 => .int
  | _ => .int
abbrev wsX30 : List Cond := u_ws RX3 TX3 6
theorem nmX3 : ∀ a, a < 6 → ∀ b, b < 6 → a ≠ b → (TX3 a).2.1 ≠ (TX3 b).2.1 := by decide +kernel
theorem tyX3_ok : ∀ k, k < 6 → parseFieldDescriptor (TX3 k).2.2.1 = some (tyX3 k) := by decide +kernel
abbrev cX3_init : ByteArray := prog_5_method_1_code
def yX3_init : MethodName := ⟨RX3, "<init>", "()V"⟩
abbrev cX3_empty : ByteArray := prog_5_method_2_code
def yX3_empty : MethodName := ⟨RX3, "empty", "()V"⟩
abbrev cX3_put : ByteArray := prog_5_method_3_code
def yX3_put : MethodName := ⟨RX3, "put", "(LShoutedPrices$Room;II)V"⟩
abbrev cX3_meet : ByteArray := prog_5_method_4_code
def yX3_meet : MethodName := ⟨RX3, "meet", "(LShoutedPrices$Room;I)V"⟩
abbrev cX3_cross : ByteArray := prog_5_method_5_code
def yX3_cross : MethodName := ⟨RX3, "cross", "(I)V"⟩
abbrev cX3_price : ByteArray := prog_5_method_6_code
def yX3_price : MethodName := ⟨RX3, "price", "(I)V"⟩
abbrev cX3_trades : ByteArray := prog_5_method_7_code
def yX3_trades : MethodName := ⟨RX3, "trades", "(ZI)Z"⟩
def RX4 : String := "ShoutedPrices$Log"
def TX4 : u_T := fun k => match k with
  | 0 => ("ShoutedPrices$Log", "person", "[I", true)
  | 1 => ("ShoutedPrices$Log", "price", "[I", true)
  | 2 => ("ShoutedPrices$Log", "step", "[I", true)
  | 3 => ("ShoutedPrices$Log", "last", "[I", true)
  | _ => ("ShoutedPrices$Log", "size", "I", false)
def tyX4 : Nat → FieldType := fun k => match k with
  | 0 => .array .int
  | 1 => .array .int
  | 2 => .array .int
  | 3 => .array .int
  | _ => .int
abbrev wsX40 : List Cond := u_ws RX4 TX4 5
theorem nmX4 : ∀ a, a < 5 → ∀ b, b < 5 → a ≠ b → (TX4 a).2.1 ≠ (TX4 b).2.1 := by decide +kernel
theorem tyX4_ok : ∀ k, k < 5 → parseFieldDescriptor (TX4 k).2.2.1 = some (tyX4 k) := by decide +kernel
abbrev cX4_init : ByteArray := prog_6_method_1_code
def yX4_init : MethodName := ⟨RX4, "<init>", "()V"⟩
abbrev cX4_add : ByteArray := prog_6_method_2_code
def yX4_add : MethodName := ⟨RX4, "add", "(IIII)V"⟩
abbrev cX4_copy : ByteArray := prog_6_method_3_code
def yX4_copy : MethodName := ⟨RX4, "copy", "(LShoutedPrices$Log;)V"⟩
abbrev cX4_seenOf : ByteArray := prog_6_method_4_code
def yX4_seenOf : MethodName := ⟨RX4, "seenOf", "(LShoutedPrices$Room;I)I"⟩
abbrev cX4_mayBeBy : ByteArray := prog_6_method_5_code
def yX4_mayBeBy : MethodName := ⟨RX4, "mayBeBy", "(LShoutedPrices$Room;II)Z"⟩
def RX5 : String := "ShoutedPrices$Reader"
def TX5 : u_T := fun k => match k with
  | 0 => ("ShoutedPrices$Reader", "number", "[I", true)
  | 1 => ("ShoutedPrices$Reader", "numbers", "I", false)
  | _ => ("ShoutedPrices$Reader", "behind", "I", false)
def tyX5 : Nat → FieldType := fun k => match k with
  | 0 => .array .int
  | 1 => .int
  | _ => .int
abbrev wsX50 : List Cond := u_ws RX5 TX5 3
theorem nmX5 : ∀ a, a < 3 → ∀ b, b < 3 → a ≠ b → (TX5 a).2.1 ≠ (TX5 b).2.1 := by decide +kernel
theorem tyX5_ok : ∀ k, k < 3 → parseFieldDescriptor (TX5 k).2.2.1 = some (tyX5 k) := by decide +kernel
abbrev cX5_init : ByteArray := prog_7_method_1_code
def yX5_init : MethodName := ⟨RX5, "<init>", "()V"⟩
abbrev cX5_read : ByteArray := prog_7_method_2_code
def yX5_read : MethodName := ⟨RX5, "read", "(LShoutedPrices$Text;LShoutedPrices$Room;)I"⟩
abbrev cX5_split : ByteArray := prog_7_method_3_code
def yX5_split : MethodName := ⟨RX5, "split", "(LShoutedPrices$Text;I)Z"⟩
abbrev cX5_take : ByteArray := prog_7_method_4_code
def yX5_take : MethodName := ⟨RX5, "take", "(ILShoutedPrices$Room;)Z"⟩
def RX6 : String := "ShoutedPrices$Room"
def TX6 : u_T := fun k => match k with
  | 0 => ("ShoutedPrices$Room", "sells", "[Z", true)
  | 1 => ("ShoutedPrices$Room", "card", "[I", true)
  | 2 => ("ShoutedPrices$Room", "law", "[I", true)
  | 3 => ("ShoutedPrices$Room", "buyer", "[I", true)
  | 4 => ("ShoutedPrices$Room", "seller", "[I", true)
  | 5 => ("ShoutedPrices$Room", "people", "I", false)
  | 6 => ("ShoutedPrices$Room", "buyers", "I", false)
  | 7 => ("ShoutedPrices$Room", "sellers", "I", false)
  | 8 => ("ShoutedPrices$Room", "steps", "I", false)
  | 9 => ("ShoutedPrices$Room", "tax", "I", false)
  | 10 => ("ShoutedPrices$Room", "lid", "I", false)
  | 11 => ("ShoutedPrices$Room", "near", "I", false)
  | _ => ("ShoutedPrices$Room", "hold", "I", false)
def tyX6 : Nat → FieldType := fun k => match k with
  | 0 => .array .boolean
  | 1 => .array .int
  | 2 => .array .int
  | 3 => .array .int
  | 4 => .array .int
  | 5 => .int
  | 6 => .int
  | 7 => .int
  | 8 => .int
  | 9 => .int
  | 10 => .int
  | 11 => .int
  | _ => .int
abbrev wsX60 : List Cond := u_ws RX6 TX6 13
theorem nmX6 : ∀ a, a < 13 → ∀ b, b < 13 → a ≠ b → (TX6 a).2.1 ≠ (TX6 b).2.1 := by decide +kernel
theorem tyX6_ok : ∀ k, k < 13 → parseFieldDescriptor (TX6 k).2.2.1 = some (tyX6 k) := by decide +kernel
abbrev cX6_init : ByteArray := prog_8_method_1_code
def yX6_init : MethodName := ⟨RX6, "<init>", "()V"⟩
abbrev cX6_empty : ByteArray := prog_8_method_2_code
def yX6_empty : MethodName := ⟨RX6, "empty", "()V"⟩
abbrev cX6_has : ByteArray := prog_8_method_3_code
def yX6_has : MethodName := ⟨RX6, "has", "(I)Z"⟩
abbrev cX6_addPerson : ByteArray := prog_8_method_4_code
def yX6_addPerson : MethodName := ⟨RX6, "addPerson", "(ZII)Z"⟩
abbrev cX6_set : ByteArray := prog_8_method_5_code
def yX6_set : MethodName := ⟨RX6, "set", "(II)Z"⟩
def RX7 : String := "ShoutedPrices$Round"
def TX7 : u_T := fun k => match k with
  | 0 => ("ShoutedPrices$Round", "price", "[I", true)
  | 1 => ("ShoutedPrices$Round", "posted", "[I", true)
  | 2 => ("ShoutedPrices$Round", "told", "LShoutedPrices$Lines;", true)
  | 3 => ("ShoutedPrices$Round", "z", "I", false)
  | 4 => ("ShoutedPrices$Round", "last", "I", false)
  | 5 => ("ShoutedPrices$Round", "lowest", "I", false)
  | 6 => ("ShoutedPrices$Round", "highest", "I", false)
  | 7 => ("ShoutedPrices$Round", "traded", "I", false)
  | 8 => ("ShoutedPrices$Round", "gain", "I", false)
  | 9 => ("ShoutedPrices$Round", "soon", "I", false)
  | 10 => ("ShoutedPrices$Round", "bidder", "I", false)
  | 11 => ("ShoutedPrices$Round", "asker", "I", false)
  | 12 => ("ShoutedPrices$Round", "bid", "I", false)
  | _ => ("ShoutedPrices$Round", "offer", "I", false)
def tyX7 : Nat → FieldType := fun k => match k with
  | 0 => .array .int
  | 1 => .array .int
  | 2 => .object "ShoutedPrices$Lines"
  | 3 => .int
  | 4 => .int
  | 5 => .int
  | 6 => .int
  | 7 => .int
  | 8 => .int
  | 9 => .int
  | 10 => .int
  | 11 => .int
  | 12 => .int
  | _ => .int
abbrev wsX70 : List Cond := u_ws RX7 TX7 14
theorem nmX7 : ∀ a, a < 14 → ∀ b, b < 14 → a ≠ b → (TX7 a).2.1 ≠ (TX7 b).2.1 := by decide +kernel
theorem tyX7_ok : ∀ k, k < 14 → parseFieldDescriptor (TX7 k).2.2.1 = some (tyX7 k) := by decide +kernel
abbrev cX7_init : ByteArray := prog_9_method_1_code
def yX7_init : MethodName := ⟨RX7, "<init>", "()V"⟩
abbrev cX7_play : ByteArray := prog_9_method_2_code
def yX7_play : MethodName := ⟨RX7, "play", "(LShoutedPrices$Room;IILShoutedPrices$Log;)V"⟩
abbrev cX7_wanders : ByteArray := prog_9_method_3_code
def yX7_wanders : MethodName := ⟨RX7, "wanders", "()I"⟩
abbrev cX7_draw : ByteArray := prog_9_method_4_code
def yX7_draw : MethodName := ⟨RX7, "draw", "(II)I"⟩
abbrev cX7_rest : ByteArray := prog_9_method_5_code
def yX7_rest : MethodName := ⟨RX7, "rest", "(II)I"⟩
abbrev cX7_tells : ByteArray := prog_9_method_6_code
def yX7_tells : MethodName := ⟨RX7, "tells", "(LShoutedPrices$Room;III)I"⟩
abbrev cX7_trade : ByteArray := prog_9_method_7_code
def yX7_trade : MethodName := ⟨RX7, "trade", "(LShoutedPrices$Room;IIII)V"⟩
abbrev cX7_playShouts : ByteArray := prog_9_method_8_code
def yX7_playShouts : MethodName := ⟨RX7, "playShouts", "(LShoutedPrices$Room;LShoutedPrices$Log;)V"⟩
abbrev cX7_hearBid : ByteArray := prog_9_method_9_code
def yX7_hearBid : MethodName := ⟨RX7, "hearBid", "(LShoutedPrices$Room;III)V"⟩
abbrev cX7_hearOffer : ByteArray := prog_9_method_10_code
def yX7_hearOffer : MethodName := ⟨RX7, "hearOffer", "(LShoutedPrices$Room;III)V"⟩
abbrev cX7_playPairs : ByteArray := prog_9_method_11_code
def yX7_playPairs : MethodName := ⟨RX7, "playPairs", "(LShoutedPrices$Room;)V"⟩
abbrev cX7_playPosted : ByteArray := prog_9_method_12_code
def yX7_playPosted : MethodName := ⟨RX7, "playPosted", "(LShoutedPrices$Room;)V"⟩
abbrev cX7_cheapestLeft : ByteArray := prog_9_method_13_code
def yX7_cheapestLeft : MethodName := ⟨RX7, "cheapestLeft", "(LShoutedPrices$Room;)I"⟩
abbrev cX7_playBell : ByteArray := prog_9_method_14_code
def yX7_playBell : MethodName := ⟨RX7, "playBell", "(LShoutedPrices$Room;)V"⟩
def RX8 : String := "ShoutedPrices$Text"
def TX8 : u_T := fun k => match k with
  | 0 => ("ShoutedPrices$Text", "bytes", "[I", true)
  | _ => ("ShoutedPrices$Text", "size", "I", false)
def tyX8 : Nat → FieldType := fun k => match k with
  | 0 => .array .int
  | _ => .int
abbrev wsX80 : List Cond := u_ws RX8 TX8 2
theorem nmX8 : ∀ a, a < 2 → ∀ b, b < 2 → a ≠ b → (TX8 a).2.1 ≠ (TX8 b).2.1 := by decide +kernel
theorem tyX8_ok : ∀ k, k < 2 → parseFieldDescriptor (TX8 k).2.2.1 = some (tyX8 k) := by decide +kernel
abbrev cX8_init : ByteArray := prog_10_method_1_code
def yX8_init : MethodName := ⟨RX8, "<init>", "()V"⟩
abbrev cX8_add : ByteArray := prog_10_method_2_code
def yX8_add : MethodName := ⟨RX8, "add", "(I)V"⟩
def RX9 : String := "ShoutedPrices$Voice"
def TX9 : u_T := fun k => match k with
  | _ => ("", "", "", false)
def tyX9 : Nat → FieldType := fun k => match k with
  | _ => .int
abbrev wsX90 : List Cond := u_ws RX9 TX9 0
theorem nmX9 : ∀ a, a < 0 → ∀ b, b < 0 → a ≠ b → (TX9 a).2.1 ≠ (TX9 b).2.1 := by decide +kernel
theorem tyX9_ok : ∀ k, k < 0 → parseFieldDescriptor (TX9 k).2.2.1 = some (tyX9 k) := by decide +kernel
abbrev cX9_span : ByteArray := prog_11_method_2_code
def yX9_span : MethodName := ⟨RX9, "span", "(LShoutedPrices$Room;III)I"⟩
abbrev cX9_by : ByteArray := prog_11_method_3_code
def yX9_by : MethodName := ⟨RX9, "by", "(LShoutedPrices$Room;IIIII)I"⟩
abbrev cX9_near : ByteArray := prog_11_method_4_code
def yX9_near : MethodName := ⟨RX9, "near", "(LShoutedPrices$Room;III)I"⟩
abbrev cX9_share : ByteArray := prog_11_method_5_code
def yX9_share : MethodName := ⟨RX9, "share", "(LShoutedPrices$Room;II)I"⟩
abbrev cX9_underLid : ByteArray := prog_11_method_6_code
def yX9_underLid : MethodName := ⟨RX9, "underLid", "(LShoutedPrices$Room;II)I"⟩
abbrev cX9_isHeard : ByteArray := prog_11_method_7_code
def yX9_isHeard : MethodName := ⟨RX9, "isHeard", "(LShoutedPrices$Room;II)Z"⟩
def RX10 : String := "ShoutedPrices"
def TX10 : u_T := fun k => match k with
  | 0 => ("ShoutedPrices", "text", "LShoutedPrices$Text;", true)
  | 1 => ("ShoutedPrices", "reader", "LShoutedPrices$Reader;", true)
  | 2 => ("ShoutedPrices", "room", "LShoutedPrices$Room;", false)
  | 3 => ("ShoutedPrices", "spare", "LShoutedPrices$Room;", false)
  | 4 => ("ShoutedPrices", "log", "LShoutedPrices$Log;", true)
  | 5 => ("ShoutedPrices", "kept", "[LShoutedPrices$Kept;", true)
  | 6 => ("ShoutedPrices", "keptSize", "I", false)
  | 7 => ("ShoutedPrices", "lines", "LShoutedPrices$Lines;", true)
  | 8 => ("ShoutedPrices", "others", "LShoutedPrices$Lines;", true)
  | 9 => ("ShoutedPrices", "round", "LShoutedPrices$Round;", true)
  | 10 => ("ShoutedPrices", "carriers", "LShoutedPrices$Carriers;", true)
  | _ => ("ShoutedPrices", "sums", "[[I", true)
def tyX10 : Nat → FieldType := fun k => match k with
  | 0 => .object "ShoutedPrices$Text"
  | 1 => .object "ShoutedPrices$Reader"
  | 2 => .object "ShoutedPrices$Room"
  | 3 => .object "ShoutedPrices$Room"
  | 4 => .object "ShoutedPrices$Log"
  | 5 => .array (.object "ShoutedPrices$Kept")
  | 6 => .int
  | 7 => .object "ShoutedPrices$Lines"
  | 8 => .object "ShoutedPrices$Lines"
  | 9 => .object "ShoutedPrices$Round"
  | 10 => .object "ShoutedPrices$Carriers"
  | _ => .array (.array .int)
abbrev wsX100 : List Cond := u_ws RX10 TX10 12
theorem nmX10 : ∀ a, a < 12 → ∀ b, b < 12 → a ≠ b → (TX10 a).2.1 ≠ (TX10 b).2.1 := by decide +kernel
theorem tyX10_ok : ∀ k, k < 12 → parseFieldDescriptor (TX10 k).2.2.1 = some (tyX10 k) := by decide +kernel
abbrev cX10_init : ByteArray := prog_1_method_1_code
def yX10_init : MethodName := ⟨RX10, "<init>", "()V"⟩
abbrev cX10_write : ByteArray := prog_1_method_2_code
def yX10_write : MethodName := ⟨RX10, "write", "(IJ)I"⟩
abbrev cX10_wipe : ByteArray := prog_1_method_3_code
def yX10_wipe : MethodName := ⟨RX10, "wipe", "()I"⟩
abbrev cX10_fault : ByteArray := prog_1_method_4_code
def yX10_fault : MethodName := ⟨RX10, "fault", "()I"⟩
abbrev cX10_lay : ByteArray := prog_1_method_5_code
def yX10_lay : MethodName := ⟨RX10, "lay", "()I"⟩
abbrev cX10_person : ByteArray := prog_1_method_6_code
def yX10_person : MethodName := ⟨RX10, "person", "(II)I"⟩
abbrev cX10_law : ByteArray := prog_1_method_7_code
def yX10_law : MethodName := ⟨RX10, "law", "(II)I"⟩
abbrev cX10_lines : ByteArray := prog_1_method_8_code
def yX10_lines : MethodName := ⟨RX10, "lines", "(I)I"⟩
abbrev cX10_served : ByteArray := prog_1_method_9_code
def yX10_served : MethodName := ⟨RX10, "served", "(I)I"⟩
abbrev cX10_pairs : ByteArray := prog_1_method_10_code
def yX10_pairs : MethodName := ⟨RX10, "pairs", "(I)J"⟩
abbrev cX10_bell : ByteArray := prog_1_method_11_code
def yX10_bell : MethodName := ⟨RX10, "bell", "(II)I"⟩
abbrev cX10_best : ByteArray := prog_1_method_12_code
def yX10_best : MethodName := ⟨RX10, "best", "(II)I"⟩
abbrev cX10_round : ByteArray := prog_1_method_13_code
def yX10_round : MethodName := ⟨RX10, "round", "(III)I"⟩
abbrev cX10_of : ByteArray := prog_1_method_14_code
def yX10_of : MethodName := ⟨RX10, "of", "(III)I"⟩
abbrev cX10_means : ByteArray := prog_1_method_15_code
def yX10_means : MethodName := ⟨RX10, "means", "(III)I"⟩
abbrev cX10_rules : ByteArray := prog_1_method_16_code
def yX10_rules : MethodName := ⟨RX10, "rules", "(II)I"⟩
abbrev cX10_shout : ByteArray := prog_1_method_17_code
def yX10_shout : MethodName := ⟨RX10, "shout", "(II)I"⟩
abbrev cX10_known : ByteArray := prog_1_method_18_code
def yX10_known : MethodName := ⟨RX10, "known", "(I)I"⟩
abbrev cX10_least : ByteArray := prog_1_method_19_code
def yX10_least : MethodName := ⟨RX10, "least", "(I)I"⟩
abbrev cX10_laws : ByteArray := prog_1_method_20_code
def yX10_laws : MethodName := ⟨RX10, "laws", "(I)I"⟩
abbrev cX10_two : ByteArray := prog_1_method_21_code
def yX10_two : MethodName := ⟨RX10, "two", "(III)I"⟩
abbrev cX10_keep : ByteArray := prog_1_method_22_code
def yX10_keep : MethodName := ⟨RX10, "keep", "()I"⟩
abbrev cX10_back : ByteArray := prog_1_method_23_code
def yX10_back : MethodName := ⟨RX10, "back", "()I"⟩
abbrev cX10_count : ByteArray := prog_1_method_24_code
def yX10_count : MethodName := ⟨RX10, "count", "(I)I"⟩
abbrev cX10_within : ByteArray := prog_1_method_25_code
def yX10_within : MethodName := ⟨RX10, "within", "(III)Z"⟩
abbrev cX10_gainOfAllMeetings : ByteArray := prog_1_method_26_code
def yX10_gainOfAllMeetings : MethodName := ⟨RX10, "gainOfAllMeetings", "()I"⟩
abbrev cX10_gainOfTelling : ByteArray := prog_1_method_27_code
def yX10_gainOfTelling : MethodName := ⟨RX10, "gainOfTelling", "(II)I"⟩
abbrev cX10_sumUp : ByteArray := prog_1_method_28_code
def yX10_sumUp : MethodName := ⟨RX10, "sumUp", "(II)V"⟩
abbrev cX10_bestBy : ByteArray := prog_1_method_29_code
def yX10_bestBy : MethodName := ⟨RX10, "bestBy", "(I)I"⟩
def RX11 : String := "ShoutedPricesModel"
def TX11 : u_T := fun k => match k with
  | 0 => ("ShoutedPricesModel", "length", "I", false)
  | 1 => ("ShoutedPricesModel", "text", "[I", true)
  | 2 => ("ShoutedPricesModel", "many", "[I", true)
  | 3 => ("ShoutedPricesModel", "sides", "[I", true)
  | 4 => ("ShoutedPricesModel", "cards", "[I", true)
  | 5 => ("ShoutedPricesModel", "laws", "[I", true)
  | 6 => ("ShoutedPricesModel", "numbers", "[I", true)
  | 7 => ("ShoutedPricesModel", "logMany", "[I", true)
  | 8 => ("ShoutedPricesModel", "logPerson", "[I", true)
  | 9 => ("ShoutedPricesModel", "logPrice", "[I", true)
  | 10 => ("ShoutedPricesModel", "logStep", "[I", true)
  | 11 => ("ShoutedPricesModel", "logLast", "[I", true)
  | 12 => ("ShoutedPricesModel", "keptLaws", "[I", true)
  | 13 => ("ShoutedPricesModel", "keptMany", "I", false)
  | 14 => ("ShoutedPricesModel", "place", "I", false)
  | 15 => ("ShoutedPricesModel", "told", "[I", true)
  | 16 => ("ShoutedPricesModel", "shown", "[I", true)
  | 17 => ("ShoutedPricesModel", "buyers", "[I", true)
  | 18 => ("ShoutedPricesModel", "sellers", "[I", true)
  | 19 => ("ShoutedPricesModel", "buyerMany", "I", false)
  | 20 => ("ShoutedPricesModel", "sellerMany", "I", false)
  | 21 => ("ShoutedPricesModel", "seed", "I", false)
  | 22 => ("ShoutedPricesModel", "last", "I", false)
  | 23 => ("ShoutedPricesModel", "paid", "[I", true)
  | 24 => ("ShoutedPricesModel", "traded", "I", false)
  | 25 => ("ShoutedPricesModel", "gain", "I", false)
  | 26 => ("ShoutedPricesModel", "soon", "I", false)
  | 27 => ("ShoutedPricesModel", "low", "I", false)
  | 28 => ("ShoutedPricesModel", "high", "I", false)
  | 29 => ("ShoutedPricesModel", "logs", "Z", false)
  | 30 => ("ShoutedPricesModel", "posted", "[I", true)
  | 31 => ("ShoutedPricesModel", "sums", "[I", true)
  | 32 => ("ShoutedPricesModel", "room", "[I", true)
  | _ => ("ShoutedPricesModel", "roomMany", "[I", true)
def tyX11 : Nat → FieldType := fun k => match k with
  | 0 => .int
  | 1 => .array .int
  | 2 => .array .int
  | 3 => .array .int
  | 4 => .array .int
  | 5 => .array .int
  | 6 => .array .int
  | 7 => .array .int
  | 8 => .array .int
  | 9 => .array .int
  | 10 => .array .int
  | 11 => .array .int
  | 12 => .array .int
  | 13 => .int
  | 14 => .int
  | 15 => .array .int
  | 16 => .array .int
  | 17 => .array .int
  | 18 => .array .int
  | 19 => .int
  | 20 => .int
  | 21 => .int
  | 22 => .int
  | 23 => .array .int
  | 24 => .int
  | 25 => .int
  | 26 => .int
  | 27 => .int
  | 28 => .int
  | 29 => .boolean
  | 30 => .array .int
  | 31 => .array .int
  | 32 => .array .int
  | _ => .array .int
abbrev wsX110 : List Cond := u_ws RX11 TX11 34
theorem nmX11 : ∀ a, a < 34 → ∀ b, b < 34 → a ≠ b → (TX11 a).2.1 ≠ (TX11 b).2.1 := by decide +kernel
theorem tyX11_ok : ∀ k, k < 34 → parseFieldDescriptor (TX11 k).2.2.1 = some (tyX11 k) := by decide +kernel
abbrev cX11_init : ByteArray := prog_13_method_1_code
def yX11_init : MethodName := ⟨RX11, "<init>", "()V"⟩
abbrev cX11_in : ByteArray := prog_13_method_2_code
def yX11_in : MethodName := ⟨RX11, "in", "(JJJ)Z"⟩
abbrev cX11_noRoom : ByteArray := prog_13_method_3_code
def yX11_noRoom : MethodName := ⟨RX11, "noRoom", "(I)V"⟩
abbrev cX11_write : ByteArray := prog_13_method_4_code
def yX11_write : MethodName := ⟨RX11, "write", "(IJ)I"⟩
abbrev cX11_wipe : ByteArray := prog_13_method_5_code
def yX11_wipe : MethodName := ⟨RX11, "wipe", "()I"⟩
abbrev cX11_byteAt : ByteArray := prog_13_method_6_code
def yX11_byteAt : MethodName := ⟨RX11, "byteAt", "(I)I"⟩
abbrev cX11_figures : ByteArray := prog_13_method_7_code
def yX11_figures : MethodName := ⟨RX11, "figures", "(I)Z"⟩
abbrev cX11_readMany : ByteArray := prog_13_method_8_code
def yX11_readMany : MethodName := ⟨RX11, "readMany", "(I)I"⟩
abbrev cX11_personItem : ByteArray := prog_13_method_9_code
def yX11_personItem : MethodName := ⟨RX11, "personItem", "(I)Z"⟩
abbrev cX11_numberItem : ByteArray := prog_13_method_10_code
def yX11_numberItem : MethodName := ⟨RX11, "numberItem", "(III)Z"⟩
abbrev cX11_item : ByteArray := prog_13_method_11_code
def yX11_item : MethodName := ⟨RX11, "item", "()Z"⟩
abbrev cX11_readAll : ByteArray := prog_13_method_12_code
def yX11_readAll : MethodName := ⟨RX11, "readAll", "()I"⟩
abbrev cX11_fault : ByteArray := prog_13_method_13_code
def yX11_fault : MethodName := ⟨RX11, "fault", "()I"⟩
abbrev cX11_lay : ByteArray := prog_13_method_14_code
def yX11_lay : MethodName := ⟨RX11, "lay", "()I"⟩
abbrev cX11_isPerson : ByteArray := prog_13_method_15_code
def yX11_isPerson : MethodName := ⟨RX11, "isPerson", "(I)Z"⟩
abbrev cX11_manyOf : ByteArray := prog_13_method_16_code
def yX11_manyOf : MethodName := ⟨RX11, "manyOf", "(I)I"⟩
abbrev cX11_person : ByteArray := prog_13_method_17_code
def yX11_person : MethodName := ⟨RX11, "person", "(II)I"⟩
abbrev cX11_law : ByteArray := prog_13_method_18_code
def yX11_law : MethodName := ⟨RX11, "law", "(II)I"⟩
abbrev cX11_showTrue : ByteArray := prog_13_method_19_code
def yX11_showTrue : MethodName := ⟨RX11, "showTrue", "()V"⟩
abbrev cX11_layLines : ByteArray := prog_13_method_20_code
def yX11_layLines : MethodName := ⟨RX11, "layLines", "()V"⟩
abbrev cX11_worth : ByteArray := prog_13_method_21_code
def yX11_worth : MethodName := ⟨RX11, "worth", "(I)I"⟩
abbrev cX11_costs : ByteArray := prog_13_method_22_code
def yX11_costs : MethodName := ⟨RX11, "costs", "(I)I"⟩
abbrev cX11_quantity : ByteArray := prog_13_method_23_code
def yX11_quantity : MethodName := ⟨RX11, "quantity", "(I)I"⟩
abbrev cX11_gainOf : ByteArray := prog_13_method_24_code
def yX11_gainOf : MethodName := ⟨RX11, "gainOf", "(I)I"⟩
abbrev cX11_lowest : ByteArray := prog_13_method_25_code
def yX11_lowest : MethodName := ⟨RX11, "lowest", "(II)I"⟩
abbrev cX11_highest : ByteArray := prog_13_method_26_code
def yX11_highest : MethodName := ⟨RX11, "highest", "(II)I"⟩
abbrev cX11_lines : ByteArray := prog_13_method_27_code
def yX11_lines : MethodName := ⟨RX11, "lines", "(I)I"⟩
abbrev cX11_served : ByteArray := prog_13_method_28_code
def yX11_served : MethodName := ⟨RX11, "served", "(I)I"⟩
abbrev cX11_common : ByteArray := prog_13_method_29_code
def yX11_common : MethodName := ⟨RX11, "common", "(JJ)J"⟩
abbrev cX11_pairs : ByteArray := prog_13_method_30_code
def yX11_pairs : MethodName := ⟨RX11, "pairs", "(I)J"⟩
abbrev cX11_isFirst : ByteArray := prog_13_method_31_code
def yX11_isFirst : MethodName := ⟨RX11, "isFirst", "(II)Z"⟩
abbrev cX11_bellOf : ByteArray := prog_13_method_32_code
def yX11_bellOf : MethodName := ⟨RX11, "bellOf", "(II)I"⟩
abbrev cX11_bell : ByteArray := prog_13_method_33_code
def yX11_bell : MethodName := ⟨RX11, "bell", "(II)I"⟩
abbrev cX11_best : ByteArray := prog_13_method_34_code
def yX11_best : MethodName := ⟨RX11, "best", "(II)I"⟩
abbrev cX11_draw : ByteArray := prog_13_method_35_code
def yX11_draw : MethodName := ⟨RX11, "draw", "(II)I"⟩
abbrev cX11_shoutBy : ByteArray := prog_13_method_36_code
def yX11_shoutBy : MethodName := ⟨RX11, "shoutBy", "(IIIIII)I"⟩
abbrev cX11_shoutOf : ByteArray := prog_13_method_37_code
def yX11_shoutOf : MethodName := ⟨RX11, "shoutOf", "(IIII)I"⟩
abbrev cX11_trade : ByteArray := prog_13_method_38_code
def yX11_trade : MethodName := ⟨RX11, "trade", "(IIII)V"⟩
abbrev cX11_note : ByteArray := prog_13_method_39_code
def yX11_note : MethodName := ⟨RX11, "note", "(III)V"⟩
abbrev cX11_goShouts : ByteArray := prog_13_method_40_code
def yX11_goShouts : MethodName := ⟨RX11, "goShouts", "()V"⟩
abbrev cX11_personOf : ByteArray := prog_13_method_41_code
def yX11_personOf : MethodName := ⟨RX11, "personOf", "(II)I"⟩
abbrev cX11_goPairs : ByteArray := prog_13_method_42_code
def yX11_goPairs : MethodName := ⟨RX11, "goPairs", "()V"⟩
abbrev cX11_goPosted : ByteArray := prog_13_method_43_code
def yX11_goPosted : MethodName := ⟨RX11, "goPosted", "()V"⟩
abbrev cX11_goBell : ByteArray := prog_13_method_44_code
def yX11_goBell : MethodName := ⟨RX11, "goBell", "()V"⟩
abbrev cX11_goRound : ByteArray := prog_13_method_45_code
def yX11_goRound : MethodName := ⟨RX11, "goRound", "(IIZ)V"⟩
abbrev cX11_isRound : ByteArray := prog_13_method_46_code
def yX11_isRound : MethodName := ⟨RX11, "isRound", "(II)Z"⟩
abbrev cX11_round : ByteArray := prog_13_method_47_code
def yX11_round : MethodName := ⟨RX11, "round", "(III)I"⟩
abbrev cX11_of : ByteArray := prog_13_method_48_code
def yX11_of : MethodName := ⟨RX11, "of", "(III)I"⟩
abbrev cX11_layMeans : ByteArray := prog_13_method_49_code
def yX11_layMeans : MethodName := ⟨RX11, "layMeans", "(II)V"⟩
abbrev cX11_means : ByteArray := prog_13_method_50_code
def yX11_means : MethodName := ⟨RX11, "means", "(III)I"⟩
abbrev cX11_bestBy : ByteArray := prog_13_method_51_code
def yX11_bestBy : MethodName := ⟨RX11, "bestBy", "(I)I"⟩
abbrev cX11_rules : ByteArray := prog_13_method_52_code
def yX11_rules : MethodName := ⟨RX11, "rules", "(II)I"⟩
abbrev cX11_shout : ByteArray := prog_13_method_53_code
def yX11_shout : MethodName := ⟨RX11, "shout", "(II)I"⟩
abbrev cX11_knownOf : ByteArray := prog_13_method_54_code
def yX11_knownOf : MethodName := ⟨RX11, "knownOf", "(I)I"⟩
abbrev cX11_known : ByteArray := prog_13_method_55_code
def yX11_known : MethodName := ⟨RX11, "known", "(I)I"⟩
abbrev cX11_least : ByteArray := prog_13_method_56_code
def yX11_least : MethodName := ⟨RX11, "least", "(I)I"⟩
abbrev cX11_mayBe : ByteArray := prog_13_method_57_code
def yX11_mayBe : MethodName := ⟨RX11, "mayBe", "(II)Z"⟩
abbrev cX11_laws : ByteArray := prog_13_method_58_code
def yX11_laws : MethodName := ⟨RX11, "laws", "(I)I"⟩
abbrev cX11_layRooms : ByteArray := prog_13_method_59_code
def yX11_layRooms : MethodName := ⟨RX11, "layRooms", "(I)V"⟩
abbrev cX11_carried : ByteArray := prog_13_method_60_code
def yX11_carried : MethodName := ⟨RX11, "carried", "(II)I"⟩
abbrev cX11_two : ByteArray := prog_13_method_61_code
def yX11_two : MethodName := ⟨RX11, "two", "(III)I"⟩
abbrev cX11_copyLog : ByteArray := prog_13_method_62_code
def yX11_copyLog : MethodName := ⟨RX11, "copyLog", "(II)V"⟩
abbrev cX11_keep : ByteArray := prog_13_method_63_code
def yX11_keep : MethodName := ⟨RX11, "keep", "()I"⟩
abbrev cX11_back : ByteArray := prog_13_method_64_code
def yX11_back : MethodName := ⟨RX11, "back", "()I"⟩
abbrev cX11_count : ByteArray := prog_13_method_65_code
def yX11_count : MethodName := ⟨RX11, "count", "(I)I"⟩
def RL : String := "ShoutedPricesLaw"
abbrev cL_law : ByteArray := code
def yL_law : MethodName := ⟨RL, "law", "([I)Z"⟩
abbrev vwCl : List vw_C := [(RX0, TX0, 2), (RX1, TX1, 2), (RX2, TX2, 4), (RX3, TX3, 6), (RX4, TX4, 5), (RX5, TX5, 3), (RX6, TX6, 13), (RX7, TX7, 14), (RX8, TX8, 2), (RX10, TX10, 12), (RX11, TX11, 34)]
end
section
/-- the shapes of the cells in the order of making, from place 1 on -/
def shL : List (Nat × Nat) := [(9, 0), (0, 9), (0, 8), (1, 300), (0, 5), (1, 2), (0, 6), (2, 20), (1, 20), (1, 20), (1, 10), (1, 10), (0, 6), (2, 20), (1, 20), (1, 20), (1, 10), (1, 10), (0, 4), (1, 200), (1, 200), (1, 200), (1, 200), (3, 2), (0, 3), (0, 2), (1, 10), (1, 10), (0, 2), (1, 10), (1, 10), (0, 3), (0, 2), (1, 10), (1, 10), (0, 2), (1, 10), (1, 10), (0, 7), (1, 20), (1, 20), (0, 3), (0, 2), (1, 10), (1, 10), (0, 2), (1, 10), (1, 10), (0, 0), (4, 4), (1, 3), (1, 3), (1, 3), (1, 3), (0, 1), (1, 20), (0, 4), (1, 200), (1, 200), (1, 200), (1, 200), (0, 1), (1, 20), (0, 4), (1, 200), (1, 200), (1, 200), (1, 200), (0, 10), (1, 300), (1, 2), (1, 40), (1, 40), (1, 40), (1, 10), (1, 3), (1, 600), (1, 600), (1, 600), (1, 600), (1, 40), (1, 2), (1, 20), (1, 10), (1, 10), (1, 20), (1, 20), (1, 12), (1, 44), (1, 4)]
/-- which fields are references -/
def frefL : List (List Bool) := [[false, false], [true, true], [false, true, true, false], [true, true, false, false, false, false], [true, true, true, true, false], [true, false, false], [true, true, true, true, true, false, false, false, false, false, false, false, false], [true, true, true, false, false, false, false, false, false, false, false, false, false, false], [true, false], [true, true, true, true, true, true, false, true, true, true, true, true], [false, true, true, true, true, true, true, true, true, true, true, true, true, false, false, true, true, true, true, false, false, false, false, true, false, false, false, false, false, false, true, true, true, true]]
/-! THE ABSTRACT WORDS: whole numbers, references as places (0: none), a heap as two functions (numbers, references) of place and slot; shapes are fixed by the order in which the law makes its cells -/
abbrev II : Type := Nat → Nat → Int
abbrev RR : Type := Nat → Nat → Nat
abbrev AV : Type := Option (Int ⊕ (Int ⊕ Nat))
abbrev QT : Type := AV → II → RR → Prop
abbrev MI : Type := MethodName × ByteArray × Nat × Option FieldType × Nat × Nat
abbrev KT : Type := Nat × Nat × (Nat → Int32)
def vI (x : Int) : AV := some (.inl x)
def vL (x : Int) : AV := some (.inr (.inl x))
def vR (r : Nat) : AV := some (.inr (.inr r))
def i32 (x : Int) : Int32 := Int32.ofInt x
def i64 (x : Int) : Int64 := Int64.ofInt x
def InI (x : Int) : Prop := -2147483648 ≤ x ∧ x ≤ 2147483647
def InL (x : Int) : Prop := -9223372036854775808 ≤ x ∧ x ≤ 9223372036854775807
def up1 {α : Type} (f : Nat → α) (r : Nat) (v : α) : Nat → α := fun a => if a = r then v else f a
def up2 {α : Type} (f : Nat → Nat → α) (r j : Nat) (v : α) : Nat → Nat → α := fun a b => if a = r ∧ b = j then v else f a b
def clr {α : Type} (f : Nat → Nat → α) (r : Nat) (v : α) : Nat → Nat → α := fun a b => if a = r then v else f a b
def rfv (ρ : Nat → Nat) (r : Nat) : Option Nat := if r = 0 then none else some (ρ r)
def cv (ρ : Nat → Nat) : AV → Value
  | some (.inl x) => .int (i32 x)
  | some (.inr (.inl x)) => .long (i64 x)
  | some (.inr (.inr r)) => va_rf (rfv ρ r)
  | none => .null
def TB : List Cond := lw_tbl.filter goodWord
theorem tb_in {w : Cond} (i : Nat) (h : lw_tbl[i]? = some w) (hg : goodWord w = true) : w ∈ TB := List.mem_filter.mpr ⟨List.mem_of_getElem? h, hg⟩
theorem tb_good {w : Cond} (h : w ∈ TB) : (w.onTables && w.keeps) = true ∨ ∃ ty, w = .arrayClass ty := good_of_word (List.mem_filter.mp h).2
def wds (mt : MI) : List Cond := .code mt.1 mt.2.1 mt.2.2.1 mt.2.2.2.1 :: TB
/-- kinds: 0 an object of the kind n of vwCl; 1 int[n]; 2 boolean[n]; 3 Kept[n]; 4 int[][n] -/
def sh (i : Nat) : Nat × Nat := shL.getD i (9, 0)
def nfc (c : Nat) : Nat := (vwCl[c]?.map (fun q => q.2.2)).getD 0
def fty (c k : Nat) : FieldType := ((vwCl[c]?.bind (fun q => parseFieldDescriptor (q.2.1 k).2.2.1))).getD .int
def fref (c k : Nat) : Bool := (frefL.getD c []).getD k false
def aty (k : Nat) : FieldType := match k with
  | 1 => .int
  | 2 => .boolean
  | 3 => .object RX1
  | _ => .array .int
def isO (N r c : Nat) : Prop := 0 < r ∧ r ≤ N ∧ sh r = (0, c)
def isA (N r k n : Nat) : Prop := 0 < r ∧ r ≤ N ∧ sh r = (k, n)
def szS (q : Nat × Nat) : Nat := if q.1 = 0 then nfc q.2 else q.2
def cum : Nat → Nat
  | 0 => 0
  | n + 1 => cum n + szS (sh (n + 1))
def fval (ρ : Nat → Nat) (I : II) (R : RR) (c i k : Nat) : Value := if fref c k = true then va_rf (rfv ρ (R i k)) else .int (i32 (I i k))
def cellE (ρ : Nat → Nat) (ca : Nat → ClassId) (I : II) (R : RR) (i : Nat) : va_E :=
  if (sh i).1 = 0 then .inr ((sh i).2, (List.range (nfc (sh i).2)).map (fval ρ I R (sh i).2 i))
  else if (sh i).1 ≤ 2 then .inl (ca i, (sh i).2, .inl (fun j => i32 (I i j)))
  else .inl (ca i, (sh i).2, .inr (.inr (.inr (.inr (fun j => rfv ρ (R i j))))))
def wsW (ρ : Nat → Nat) (ca : Nat → ClassId) (I : II) (R : RR) (N : Nat) : va_W := (List.range N).map (fun i => (ρ (i + 1), cellE ρ ca I R (i + 1)))
/-- the arrays' own kinds -/
def arK (D : va_G) (ca : Nat → ClassId) (N : Nat) (U : State) : Prop := ∀ i, 0 < i → i ≤ N → ¬ (sh i).1 = 0 → va_K D vwCl [(ca i, aty (sh i).1)] U
def agr {α : Type} (f g : Nat → α) (N0 N : Nat) : Prop := ∀ r, (r ≤ N0 ∨ N < r) → f r = g r
def isNst : Cond → Bool
  | .methodLinkNest .. => true
  | _ => false
def NB : List Cond := lw_tbl.filter isNst
/-- the words that aren't carried by the lists: those of nest mates, and what classes the arrays of arrays have -/
def nbw (U : State) : Prop := (∀ w ∈ NB, va_Nw w U) ∧ va_AO RX1 U ∧ va_AOA .int U
theorem va_AOA.moved {ty : FieldType} {u U : State} (hvm : u.vm.Alike U.vm) (h : va_AOA ty u) : va_AOA ty U := Jvm.Stand.arrayOver_alikeB hvm h
theorem nb_in {w : Cond} (i : Nat) (h : lw_tbl[i]? = some w) (hg : isNst w = true) : w ∈ NB := List.mem_filter.mpr ⟨List.mem_of_getElem? h, hg⟩
theorem nbw.warm {s U : State} (hW : s.WarmedH U.vm) (h : nbw s) : nbw U := ⟨fun w hw => by
  have h1 := h.1 w hw
  have h2 := (List.mem_filter.mp hw).2
  cases w <;> first | exact va_Nw.warmM hW h1 | (cases h2), va_AO.moved hW.alike h.2.1, va_AOA.moved hW.alike h.2.2⟩
theorem nbw.same {s U : State} (hvm : s.vm = U.vm) (h : nbw s) : nbw U := ⟨fun w hw => by
  have h1 := h.1 w hw
  have h2 := (List.mem_filter.mp hw).2
  cases w <;> first | exact va_Nw.same rfl hvm h1 | (cases h2), va_AO.moved (by rw [hvm]; exact Vm.Alike.refl _) h.2.1, va_AOA.moved (by rw [hvm]; exact Vm.Alike.refl _) h.2.2⟩
/-- the numbered slots of a method hold the listed values -/
def LR (ρ : Nat → Nat) (ls : Array Slot) (nL : Nat) (L : List AV) : Prop := ls.size = nL ∧ lv_wf ls ∧ ∀ (k : Nat) (v : Int ⊕ (Int ⊕ Nat)), L[k]? = some (some v) → ls[k]? = some (.val (cv ρ (some v)))
def SM (mt : MI) (s : State) (A : Nat → Prop) (D : va_G) (ρ0 : Nat → Nat) (ca0 : Nat → ClassId) (N0 : Nat) (H : Heap) (locs : List Loc) (ls : Array Slot) (ρ : Nat → Nat) (ca : Nat → ClassId) (L : List AV) (I : II) (R : RR) (N : Nat) : Prop :=
  va_P D vwCl (wsW ρ ca I R N) H ∧ va_D A (wsW ρ ca I R N) ∧ va_S A s.heap H locs ∧ LR ρ ls mt.2.2.1 L ∧ arK D ca N s ∧ agr ρ ρ0 N0 N ∧ agr ca ca0 N0 N ∧ N0 ≤ N
def stk (ρ : Nat → Nat) (rv : AV) : List Value := match rv with
  | none => []
  | some v => [cv ρ (some v)]
def okret (ret : Option FieldType) (rv : AV) : Prop := match ret, rv with
  | none, none => True
  | some .int, some (.inl _) => True
  | some .boolean, some (.inl x) => x = 0 ∨ x = 1
  | some .long, some (.inr (.inl _)) => True
  | _, _ => False
def retAt (mt : MI) (pc : Nat) (rv : AV) : Prop := okret mt.2.2.2.1 rv ∧ match rv with
  | none => decode mt.2.1 pc = .ok (.return_, 1)
  | some (.inl _) => decode mt.2.1 pc = .ok (.ireturn, 1)
  | some (.inr _) => decode mt.2.1 pc = .ok (.lreturn, 1)
def good (K : KT) (mt : MI) (Q : QT) (p : Program) (l : Launch) (e : Env) (Rm : Room) (s : State) (m : MethodId) (args : Array Value) (below : List Frame) (meth : Method) (c : Code) (A : Nat → Prop) (D : va_G) (ρ0 : Nat → Nat) (ca0 : Nat → ClassId) (N0 : Nat) (QQ : State → Prop) : Prop :=
  p.tables.exec = Jvm.exec ∧ c.code = mt.2.1 ∧ c.maxLocals = mt.2.2.1 ∧ s.vm.findClass mt.1.cls = some m.cls ∧ (∀ w ∈ TB, w.before args s = true) ∧ (∀ q, s.heap.size ≤ q → A q) ∧ va_K D vwCl [] s ∧ (mt.2.2.2.2.1 ≤ Rm.frames ∧ mt.2.2.2.2.2 ≤ Rm.locals ∧ K.1 - N0 ≤ Rm.cells ∧ cum K.1 - cum N0 ≤ Rm.slots) ∧ (meth.name = mt.1.name ∧ nbw s) ∧
  (K.2.1 = 0 ∨ (va_X (ρ0 1000) K.2.1 K.2.2 s s.heap ∧ ρ0 1000 < s.heap.size ∧ ¬ A (ρ0 1000) ∧ K.2.1 < 2 ^ 31)) ∧ K.1 < 1000 ∧
  ∀ (pc : Nat) (H : Heap) (locs : List Loc) (ls : Array Slot) (ρ : Nat → Nat) (ca : Nat → ClassId) (L : List AV) (rv : AV) (I : II) (R : RR), retAt mt pc rv → Q rv I R → SM mt s A D ρ0 ca0 N0 H locs ls ρ ca L I R K.1 →
    W p l e Rm s m args below meth c H locs (K.1 - N0) (cum K.1 - cum N0) QQ (F0 m pc ls (stk ρ rv))
/-- from here the method goes on to an end with Q -/
def wp (K : KT) (mt : MI) (Q : QT) (pc : Nat) (L S : List AV) (I : II) (R : RR) (N : Nat) : Prop :=
  ∀ (p : Program) (l : Launch) (e : Env) (Rm : Room) (s : State) (m : MethodId) (args : Array Value) (below : List Frame) (meth : Method) (c : Code) (A : Nat → Prop) (D : va_G) (ρ0 : Nat → Nat) (ca0 : Nat → ClassId) (N0 : Nat) (QQ : State → Prop),
  good K mt Q p l e Rm s m args below meth c A D ρ0 ca0 N0 QQ → ∀ (H : Heap) (locs : List Loc) (ls : Array Slot) (ρ : Nat → Nat) (ca : Nat → ClassId), SM mt s A D ρ0 ca0 N0 H locs ls ρ ca L I R N →
    W p l e Rm s m args below meth c H locs (N - N0) (cum N - cum N0) QQ (F0 m pc ls (S.map (cv ρ)))

/-! numbers -/
theorem i32_toInt {x : Int} (h : InI x) : (i32 x).toInt = x := Int32.toInt_ofInt_of_le (by unfold InI at h; omega) (by unfold InI at h; omega)
theorem i64_toInt {x : Int} (h : InL x) : (i64 x).toInt = x := Int64.toInt_ofInt_of_le (by unfold InL at h; omega) (by unfold InL at h; omega)
theorem i32_lt {a b : Int} (ha : InI a) (hb : InI b) : (i32 a < i32 b) ↔ a < b := by rw [Int32.lt_iff_toInt_lt, i32_toInt ha, i32_toInt hb]
theorem i32_le {a b : Int} (ha : InI a) (hb : InI b) : (i32 a ≤ i32 b) ↔ a ≤ b := by rw [Int32.le_iff_toInt_le, i32_toInt ha, i32_toInt hb]
theorem i32_eq {a b : Int} (ha : InI a) (hb : InI b) : (i32 a = i32 b) ↔ a = b := by rw [← Int32.toInt_inj, i32_toInt ha, i32_toInt hb]
theorem i32_0 : (0 : Int32) = i32 0 := by decide
theorem InI_0 : InI 0 := by unfold InI; omega
theorem i32_add (a b : Int) : i32 a + i32 b = i32 (a + b) := (Int32.ofInt_add a b).symm
theorem i32_sub (a b : Int) : i32 a - i32 b = i32 (a - b) := (Int32.ofInt_sub a b).symm
theorem i32_mul (a b : Int) : i32 a * i32 b = i32 (a * b) := (Int32.ofInt_mul a b).symm
theorem i32_neg (a : Int) : - i32 a = i32 (-a) := (Int32.ofInt_neg a).symm
theorem i64_add (a b : Int) : i64 a + i64 b = i64 (a + b) := (Int64.ofInt_add a b).symm
theorem i64_sub (a b : Int) : i64 a - i64 b = i64 (a - b) := (Int64.ofInt_sub a b).symm
theorem i64_mul (a b : Int) : i64 a * i64 b = i64 (a * b) := (Int64.ofInt_mul a b).symm
theorem i32_of (x : Int32) : i32 x.toInt = x := Int32.ofInt_toInt x
theorem i64_of (x : Int64) : i64 x.toInt = x := Int64.ofInt_toInt x
theorem i32_cl {x : Int} (h0 : 0 ≤ x) (h : x < 2147483648) : (i32 x).toNatClampNeg = x.toNat := by rw [← Int32.toNat_toInt, i32_toInt ⟨by omega, by omega⟩]
theorem i32_in {x : Int} {n : Nat} (h0 : 0 ≤ x) (h : x < (n : Int)) (hn : n ≤ 1000) : vp_in (i32 x) n := by
  rw [vp_in_iff, i32_toInt ⟨by omega, by omega⟩]; exact ⟨h0, h⟩
theorem i32_div {a b : Int} (ha : 0 ≤ a) (ha2 : a ≤ 2147483647) (hb : 0 < b) (hb2 : b ≤ 2147483647) : i32 a / i32 b = i32 (a / b) := by
  have h1 : 0 ≤ a / b := Int.ediv_nonneg ha (by omega)
  have h2 : a / b ≤ a := Int.ediv_le_self b ha
  apply Int32.toInt_inj.mp
  rw [Int32.toInt_div_of_ne_right, i32_toInt ⟨by omega, by omega⟩, i32_toInt ⟨by omega, by omega⟩, i32_toInt ⟨by omega, by omega⟩, Int.tdiv_eq_ediv_of_nonneg ha]
  intro h
  have := congrArg Int32.toInt h
  rw [i32_toInt ⟨by omega, by omega⟩] at this
  have e : (-1 : Int32).toInt = -1 := by decide
  omega
theorem i32_rem {a b : Int} (ha : 0 ≤ a) (ha2 : a ≤ 2147483647) (hb : 0 < b) (hb2 : b ≤ 2147483647) : i32 a - i32 a / i32 b * i32 b = i32 (a % b) := by
  rw [i32_div ha ha2 hb hb2, i32_mul, i32_sub]
  congr 1
  have := Int.emod_add_mul_ediv a b
  rw [Int.mul_comm b] at this
  omega
theorem i32_ne0 {b : Int} (hb : 0 < b) (hb2 : b ≤ 2147483647) : ¬ i32 b = 0 := by
  rw [i32_0, i32_eq ⟨by omega, by omega⟩ InI_0]; omega
theorem i64_div {a b : Int} (ha : 0 ≤ a) (ha2 : a ≤ 9223372036854775807) (hb : 0 < b) (hb2 : b ≤ 9223372036854775807) : i64 a / i64 b = i64 (a / b) := by
  have h1 : 0 ≤ a / b := Int.ediv_nonneg ha (by omega)
  have h2 : a / b ≤ a := Int.ediv_le_self b ha
  apply Int64.toInt_inj.mp
  rw [Int64.toInt_div_of_ne_right, i64_toInt ⟨by omega, by omega⟩, i64_toInt ⟨by omega, by omega⟩, i64_toInt ⟨by omega, by omega⟩, Int.tdiv_eq_ediv_of_nonneg ha]
  intro h
  have := congrArg Int64.toInt h
  rw [i64_toInt ⟨by omega, by omega⟩] at this
  have e : (-1 : Int64).toInt = -1 := by decide
  omega
theorem i64_rem {a b : Int} (ha : 0 ≤ a) (ha2 : a ≤ 9223372036854775807) (hb : 0 < b) (hb2 : b ≤ 9223372036854775807) : i64 a - i64 a / i64 b * i64 b = i64 (a % b) := by
  rw [i64_div ha ha2 hb hb2, i64_mul, i64_sub]
  congr 1
  have := Int.emod_add_mul_ediv a b
  rw [Int.mul_comm b] at this
  omega
theorem i64_ne0 {b : Int} (hb : 0 < b) (hb2 : b ≤ 9223372036854775807) : ¬ i64 b = 0 := by
  intro h
  have := congrArg Int64.toInt h
  rw [i64_toInt ⟨by omega, by omega⟩, Int64.toInt_zero] at this
  omega
theorem i32_i2l {x : Int} (h : InI x) : (i32 x).toInt64 = i64 x := by
  apply Int64.toInt_inj.mp
  rw [Int32.toInt_toInt64, i32_toInt h, i64_toInt ⟨by unfold InI at h; omega, by unfold InI at h; omega⟩]
theorem i64_l2i (x : Int) : (i64 x).toInt32 = i32 x := Int64.toInt32_ofInt
theorem i64_cmp {a b : Int} (ha : InL a) (hb : InL b) : lg_cmp (i64 a) (i64 b) = i32 (if b < a then 1 else if a = b then 0 else -1) := by
  unfold lg_cmp
  simp only [gt_iff_lt, Int64.lt_iff_toInt_lt, ← Int64.toInt_inj, i64_toInt ha, i64_toInt hb]
  repeat' split
  all_goals rfl
/-! the listed values of a method's slots -/
def asc (ρ : Nat → Nat) (L : List AV) : List (Nat × Value) := (List.range L.length).filterMap (fun k => match L[k]? with
  | some (some v) => some (k, cv ρ (some v))
  | _ => none)
theorem asc_mem {ρ : Nat → Nat} {L : List AV} {k : Nat} {v : Int ⊕ (Int ⊕ Nat)} (h : L[k]? = some (some v)) : (k, cv ρ (some v)) ∈ asc ρ L := by
  refine List.mem_filterMap.mpr ⟨k, List.mem_range.mpr (List.getElem?_eq_some_iff.mp h).1, ?_⟩
  rw [h]
theorem asc_of {ρ : Nat → Nat} {L : List AV} {q : Nat × Value} (h : q ∈ asc ρ L) : ∃ v, L[q.1]? = some (some v) ∧ q.2 = cv ρ (some v) := by
  obtain ⟨k, -, hk⟩ := List.mem_filterMap.mp h
  cases hL : L[k]? with
  | none => rw [hL] at hk; cases hk
  | some o =>
    rw [hL] at hk
    cases o with
    | none => cases hk
    | some v => cases hk; exact ⟨v, hL, rfl⟩
theorem LR.has {ρ : Nat → Nat} {ls : Array Slot} {nL : Nat} {L : List AV} (h : LR ρ ls nL L) : lv_has ls nL (asc ρ L) := by
  refine ⟨h.1, h.2.1, fun q hq => ?_⟩
  obtain ⟨v, h1, h2⟩ := asc_of hq
  rw [h2]
  exact h.2.2 _ _ h1
/-- no long begins one place ahead -/
def okst (L : List AV) (i : Nat) : Bool := match i with
  | 0 => true
  | j + 1 => match L[j]? with
    | some (some (.inr (.inl _))) => false
    | _ => true
theorem cv_cat1 {ρ : Nat → Nat} {x : Int} : (cv ρ (vI x)).category = 1 := rfl
theorem cv_catR {ρ : Nat → Nat} {r : Nat} : (cv ρ (vR r)).category = 1 := by
  show (va_rf (rfv ρ r)).category = 1
  unfold rfv; split <;> rfl
theorem cv_cat2 {ρ : Nat → Nat} {v : Int ⊕ (Int ⊕ Nat)} (h : (cv ρ (some v)).category = 2) : ∃ x, v = .inr (.inl x) := by
  rcases v with x | x | r
  · cases h
  · exact ⟨x, rfl⟩
  · have := cv_catR (ρ := ρ) (r := r)
    rw [show cv ρ (some (.inr (.inr r))) = cv ρ (vR r) from rfl] at h
    omega
theorem LR.set1 {ρ : Nat → Nat} {ls ls' : Array Slot} {nL i : Nat} {L : List AV} {v : Int ⊕ (Int ⊕ Nat)} (h : LR ρ ls nL L) (ok : okst L i = true)
    (h' : lv_has ls' nL ((i, cv ρ (some v)) :: (asc ρ L).filter (fun q => !(q.1 == i) && !(q.1 + 1 == i && q.2.category == 2)))) : LR ρ ls' nL (L.set i (some v)) := by
  refine ⟨h'.1, h'.2.1, fun k w hk => ?_⟩
  by_cases hki : i = k
  · subst hki
    by_cases hl : i < L.length
    · rw [List.getElem?_set_self hl] at hk
      cases hk
      exact h'.2.2 _ List.mem_cons_self
    · have := (List.getElem?_eq_some_iff.mp hk).1
      rw [List.length_set] at this
      omega
  · rw [List.getElem?_set_ne hki] at hk
    refine h'.2.2 (k, cv ρ (some w)) (List.mem_cons_of_mem _ (List.mem_filter.mpr ⟨asc_mem hk, ?_⟩))
    simp only [Bool.and_eq_true, Bool.not_eq_true', beq_eq_false_iff_ne, ne_eq, Bool.and_eq_false_iff]
    refine ⟨fun e => hki e.symm, ?_⟩
    by_cases hk1 : k + 1 = i
    · right
      intro hc
      obtain ⟨x, rfl⟩ := cv_cat2 hc
      subst hk1
      simp [okst, hk] at ok
    · exact Or.inl hk1
theorem LR.set2 {ρ : Nat → Nat} {ls ls' : Array Slot} {nL i : Nat} {L : List AV} {x : Int} (h : LR ρ ls nL L) (ok : okst L i = true)
    (h' : lv_has ls' nL ((i, .long (i64 x)) :: (asc ρ L).filter (fun q => !(q.1 == i) && (!(q.1 == i + 1) && !(q.1 + 1 == i && q.2.category == 2))))) : LR ρ ls' nL ((L.set i (vL x)).set (i + 1) none) := by
  refine ⟨h'.1, h'.2.1, fun k w hk => ?_⟩
  by_cases hk2 : i + 1 = k
  · subst hk2
    by_cases hl : i + 1 < (L.set i (vL x)).length
    · rw [List.getElem?_set_self hl] at hk
      cases hk
    · have := (List.getElem?_eq_some_iff.mp hk).1
      rw [List.length_set] at this
      omega
  · rw [List.getElem?_set_ne hk2] at hk
    by_cases hki : i = k
    · subst hki
      by_cases hl : i < L.length
      · rw [List.getElem?_set_self hl] at hk
        cases hk
        exact h'.2.2 _ List.mem_cons_self
      · have := (List.getElem?_eq_some_iff.mp hk).1
        rw [List.length_set] at this
        omega
    · rw [List.getElem?_set_ne hki] at hk
      refine h'.2.2 (k, cv ρ (some w)) (List.mem_cons_of_mem _ (List.mem_filter.mpr ⟨asc_mem hk, ?_⟩))
      simp only [Bool.and_eq_true, Bool.not_eq_true', beq_eq_false_iff_ne, ne_eq, Bool.and_eq_false_iff]
      refine ⟨fun e => hki e.symm, fun e => hk2 e.symm, ?_⟩
      by_cases hk1 : k + 1 = i
      · right
        intro hc
        obtain ⟨x, rfl⟩ := cv_cat2 hc
        subst hk1
        simp [okst, hk] at ok
      · exact Or.inl hk1
theorem LR.at {ρ : Nat → Nat} {ls : Array Slot} {nL i : Nat} {L : List AV} {v : Int ⊕ (Int ⊕ Nat)} (h : LR ρ ls nL L) (hi : L[i]? = some (some v)) : ls[i]? = some (.val (cv ρ (some v))) := h.2.2 _ _ hi
/-- fewer values -/
def leL : List AV → List AV → Bool
  | [], _ => true
  | none :: a, _ :: b => leL a b
  | some x :: a, some y :: b => decide (x = y) && leL a b
  | none :: a, [] => leL a []
  | some _ :: _, _ => false
theorem leL_at : ∀ {a b : List AV} {k : Nat} {v : Int ⊕ (Int ⊕ Nat)}, leL a b = true → a[k]? = some (some v) → b[k]? = some (some v)
  | [], _, _, _, _, h => by simp at h
  | none :: a, y :: b, 0, _, _, h => by simp at h
  | none :: a, y :: b, k + 1, v, hl, h => by
    have hl : leL a b = true := hl
    simpa using leL_at hl (by simpa using h)
  | none :: a, [], 0, _, _, h => by simp at h
  | none :: a, [], k + 1, v, hl, h => by
    have hl : leL a [] = true := hl
    have := leL_at hl (by simpa using h)
    simp at this
  | some x :: a, some y :: b, 0, v, hl, h => by
    simp only [leL, Bool.and_eq_true, decide_eq_true_eq] at hl
    simp at h
    simp [← hl.1, h]
  | some x :: a, some y :: b, k + 1, v, hl, h => by
    simp only [leL, Bool.and_eq_true] at hl
    simpa using leL_at hl.2 (by simpa using h)
  | some x :: a, none :: b, _, _, hl, _ => by simp [leL] at hl
  | some x :: a, [], _, _, hl, _ => by simp [leL] at hl
theorem LR.le {ρ : Nat → Nat} {ls : Array Slot} {nL : Nat} {L L' : List AV} (h : LR ρ ls nL L) (hl : leL L' L = true) : LR ρ ls nL L' := ⟨h.1, h.2.1, fun k v hk => h.2.2 k v (leL_at hl hk)⟩
/-! the world's list -/
theorem set_mr {α : Type} (n k : Nat) (f : Nat → α) (v : α) : ((List.range n).map f).set k v = (List.range n).map (fun j => if j = k then v else f j) := by
  apply List.ext_getElem
  · simp
  · intro i h1 h2
    rw [List.getElem_set]
    simp only [List.getElem_map, List.getElem_range]
    by_cases h : k = i
    · rw [if_pos h, if_pos h.symm]
    · rw [if_neg h, if_neg (fun e => h e.symm)]
theorem ws_at {ρ : Nat → Nat} {ca : Nat → ClassId} {I : II} {R : RR} {N r : Nat} (h0 : 0 < r) (hN : r ≤ N) : (wsW ρ ca I R N)[r - 1]? = some (ρ r, cellE ρ ca I R r) := by
  unfold wsW
  rw [List.getElem?_map, List.getElem?_range (by omega)]
  simp only [Option.map_some]
  rw [show r - 1 + 1 = r by omega]
theorem ws_set {ρ : Nat → Nat} {ca : Nat → ClassId} {I I' : II} {R R' : RR} {N r : Nat} {e : va_E} (h0 : 0 < r) (he : cellE ρ ca I' R' r = e) (ho : ∀ i, i ≠ r → cellE ρ ca I' R' i = cellE ρ ca I R i) : (wsW ρ ca I R N).set (r - 1) (ρ r, e) = wsW ρ ca I' R' N := by
  unfold wsW
  rw [set_mr]
  apply List.map_congr_left
  intro j _
  by_cases h : j = r - 1
  · rw [if_pos h]
    subst he
    rw [show j + 1 = r by omega]
  · rw [if_neg h, ho (j + 1) (by omega)]
theorem cell_obj {ρ : Nat → Nat} {ca : Nat → ClassId} {I : II} {R : RR} {r c : Nat} (h : sh r = (0, c)) : cellE ρ ca I R r = .inr (c, (List.range (nfc c)).map (fval ρ I R c r)) := by
  unfold cellE; rw [h]; rfl
theorem cell_int {ρ : Nat → Nat} {ca : Nat → ClassId} {I : II} {R : RR} {r k n : Nat} (h : sh r = (k, n)) (h1 : 0 < k) (h2 : k ≤ 2) : cellE ρ ca I R r = .inl (ca r, n, .inl (fun j => i32 (I r j))) := by
  unfold cellE; rw [h, if_neg (by show ¬ k = 0; omega), if_pos h2]
theorem cell_ref {ρ : Nat → Nat} {ca : Nat → ClassId} {I : II} {R : RR} {r k n : Nat} (h : sh r = (k, n)) (h1 : 2 < k) : cellE ρ ca I R r = .inl (ca r, n, .inr (.inr (.inr (.inr (fun j => rfv ρ (R r j)))))) := by
  unfold cellE; rw [h, if_neg (by show ¬ k = 0; omega), if_neg (by show ¬ k ≤ 2; omega)]
theorem cell_congr {ρ : Nat → Nat} {ca : Nat → ClassId} {I I' : II} {R R' : RR} {i : Nat} (hI : ∀ j, I' i j = I i j) (hR : ∀ j, R' i j = R i j) : cellE ρ ca I' R' i = cellE ρ ca I R i := by
  have h1 : I' i = I i := funext hI
  have h2 : R' i = R i := funext hR
  unfold cellE
  have h3 : fval ρ I' R' (sh i).2 i = fval ρ I R (sh i).2 i := by
    funext k
    unfold fval
    rw [hI, hR]
  rw [h3, h1, h2]
theorem up2_ne {α : Type} {f : Nat → Nat → α} {r j a b : Nat} {v : α} (h : a ≠ r) : up2 f r j v a b = f a b := by
  unfold up2; rw [if_neg (fun q => h q.1)]
theorem up2_self {α : Type} {f : Nat → Nat → α} {r j : Nat} {v : α} : up2 f r j v r j = v := by
  unfold up2; rw [if_pos ⟨rfl, rfl⟩]
theorem up2_nj {α : Type} {f : Nat → Nat → α} {r j a b : Nat} {v : α} (h : b ≠ j) : up2 f r j v a b = f a b := by
  unfold up2; rw [if_neg (fun q => h q.2)]
theorem cell_up_I {ρ : Nat → Nat} {ca : Nat → ClassId} {I : II} {R : RR} {r k : Nat} {x : Int} (i : Nat) (h : i ≠ r) : cellE ρ ca (up2 I r k x) R i = cellE ρ ca I R i := cell_congr (fun _ => up2_ne h) (fun _ => rfl)
theorem cell_up_R {ρ : Nat → Nat} {ca : Nat → ClassId} {I : II} {R : RR} {r k : Nat} {x : Nat} (i : Nat) (h : i ≠ r) : cellE ρ ca I (up2 R r k x) i = cellE ρ ca I R i := cell_congr (fun _ => rfl) (fun _ => up2_ne h)
theorem fval_at {ρ : Nat → Nat} {I : II} {R : RR} {c r k n : Nat} (h : k < n) : ((List.range n).map (fval ρ I R c r))[k]? = some (fval ρ I R c r k) := by
  rw [List.getElem?_map, List.getElem?_range h]; rfl
theorem fval_I {ρ : Nat → Nat} {I : II} {R : RR} {c r k : Nat} (h : fref c k = false) : fval ρ I R c r k = .int (i32 (I r k)) := by
  unfold fval; rw [h]; rfl
theorem fval_R {ρ : Nat → Nat} {I : II} {R : RR} {c r k : Nat} (h : fref c k = true) : fval ρ I R c r k = va_rf (rfv ρ (R r k)) := by
  unfold fval; rw [if_pos h]
theorem obj_set_I {ρ : Nat → Nat} {I : II} {R : RR} {c r k n : Nat} {x : Int} (h : fref c k = false) : ((List.range n).map (fval ρ I R c r)).set k (.int (i32 x)) = (List.range n).map (fval ρ (up2 I r k x) R c r) := by
  rw [set_mr]
  apply List.map_congr_left
  intro j _
  by_cases hj : j = k
  · subst hj
    rw [if_pos rfl, fval_I h, up2_self]
  · rw [if_neg hj]
    unfold fval
    rw [up2_nj hj]
theorem obj_set_R {ρ : Nat → Nat} {I : II} {R : RR} {c r k n x : Nat} (h : fref c k = true) : ((List.range n).map (fval ρ I R c r)).set k (va_rf (rfv ρ x)) = (List.range n).map (fval ρ I (up2 R r k x) c r) := by
  rw [set_mr]
  apply List.map_congr_left
  intro j _
  by_cases hj : j = k
  · subst hj
    rw [if_pos rfl, fval_R h, up2_self]
  · rw [if_neg hj]
    unfold fval
    rw [up2_nj hj]
theorem rfv_pos {ρ : Nat → Nat} {r : Nat} (h : 0 < r) : rfv ρ r = some (ρ r) := by unfold rfv; rw [if_neg (by omega)]
theorem cv_pos {ρ : Nat → Nat} {r : Nat} (h : 0 < r) : cv ρ (vR r) = .ref (ρ r) := by
  show va_rf (rfv ρ r) = _
  rw [rfv_pos h]; rfl
theorem sh_ok : ∀ i, (sh i).2 ≤ 1000 := by
  intro i
  unfold sh
  by_cases h : i < shL.length
  · have : ∀ q ∈ shL, q.2 ≤ 1000 := by decide +kernel
    rw [List.getD_eq_getElem?_getD, List.getElem?_eq_getElem h]
    exact this _ (List.getElem_mem h)
  · rw [List.getD_eq_getElem?_getD, List.getElem?_eq_none (by omega)]
    decide
theorem nfc_of {c n : Nat} {C : String} {T : u_T} (h : vwCl[c]? = some (C, T, n)) : nfc c = n := by unfold nfc; rw [h]; rfl
theorem vw_lt {c : Nat} {q : vw_C} (h : vwCl[c]? = some q) : c < 11 := (List.getElem?_eq_some_iff.mp h).1
end
section
/-! one rule an instruction, over the abstract words -/
theorem cl_ws0 : ∀ q ∈ vwCl, ∀ w ∈ u_ws q.1 q.2.1 q.2.2, w ∈ lw_tbl := by decide +kernel
theorem cl_ws1 : ∀ q ∈ vwCl, ∀ w ∈ u_ws q.1 q.2.1 q.2.2, goodWord w = true := by decide +kernel
theorem cl_ws {c : Nat} {C : String} {T : u_T} {n : Nat} (h : vwCl[c]? = some (C, T, n)) : ∀ w ∈ u_ws C T n, w ∈ TB := fun w hw => List.mem_filter.mpr ⟨cl_ws0 _ (List.mem_of_getElem? h) w hw, cl_ws1 _ (List.mem_of_getElem? h) w hw⟩
theorem cl_nm0 : ∀ q ∈ vwCl, ∀ a, a < q.2.2 → ∀ b, b < q.2.2 → a ≠ b → (q.2.1 a).2.1 ≠ (q.2.1 b).2.1 := by decide +kernel
theorem cl_nm {c : Nat} {C : String} {T : u_T} {n : Nat} (h : vwCl[c]? = some (C, T, n)) : ∀ a, a < n → ∀ b, b < n → a ≠ b → (T a).2.1 ≠ (T b).2.1 := cl_nm0 _ (List.mem_of_getElem? h)
theorem cl_ty0 : ∀ c, c < 11 → ∀ k, k < nfc c → (vwCl[c]?.bind (fun q => parseFieldDescriptor (q.2.1 k).2.2.1)) = some (fty c k) := by decide +kernel
theorem cl_ty {c : Nat} {C : String} {T : u_T} {n : Nat} (h : vwCl[c]? = some (C, T, n)) : ∀ k, k < n → parseFieldDescriptor (T k).2.2.1 = some (fty c k) := fun k hk => by
  have h1 := cl_ty0 c (vw_lt h) k (by rw [nfc_of h]; exact hk)
  rw [h] at h1
  exact h1
theorem cum_le {a b : Nat} (h : a ≤ b) : cum a ≤ cum b := by
  induction b with
  | zero => rw [show a = 0 by omega]; exact Nat.le_refl _
  | succ n ih =>
    by_cases e : a = n + 1
    · rw [e]; exact Nat.le_refl _
    · exact Nat.le_trans (ih (by omega)) (Nat.le_add_right _ _)
theorem bi_ok {n : Int} (h : -128 ≤ n ∧ n ≤ 127) : (Int8.ofInt n).toInt32 = i32 n := by
  apply Int32.toInt_inj.mp
  rw [Int8.toInt_toInt32, Int8.toInt_ofInt_of_le (by omega) (by omega), i32_toInt ⟨by omega, by omega⟩]
theorem si_ok {n : Int} (h : -32768 ≤ n ∧ n ≤ 32767) : (Int16.ofInt n).toInt32 = i32 n := by
  apply Int32.toInt_inj.mp
  rw [Int16.toInt_toInt32, Int16.toInt_ofInt_of_le (by omega) (by omega), i32_toInt ⟨by omega, by omega⟩]
section RULES
variable {K : KT} {mt : MI} {Q : QT} {pc pc' : Nat} {L L' S S' : List AV} {I : II} {R : RR} {N : Nat}
theorem wp_step (h : ∀ (p : Program) (l : Launch) (e : Env) (Rm : Room) (s : State) (m : MethodId) (args : Array Value) (below : List Frame) (meth : Method) (c : Code) (H : Heap) (locs : List Loc) (cells slots : Nat) (QQ : State → Prop) (ls : Array Slot) (ρ : Nat → Nat), p.tables.exec = Jvm.exec → c.code = mt.2.1 → LR ρ ls mt.2.2.1 L → s.vm.findClass mt.1.cls = some m.cls → (∀ w ∈ TB, w.before args s = true) → W p l e Rm s m args below meth c H locs cells slots QQ (F0 m pc' ls (S'.map (cv ρ))) → W p l e Rm s m args below meth c H locs cells slots QQ (F0 m pc ls (S.map (cv ρ))))
    (k : wp K mt Q pc' L S' I R N) : wp K mt Q pc L S I R N := by
  intro p l e Rm s m args below meth c A D ρ0 ca0 N0 QQ g H locs ls ρ ca hs
  exact h p l e Rm s m args below meth c H locs _ _ QQ ls ρ g.1 g.2.1 hs.2.2.2.1 g.2.2.2.1 g.2.2.2.2.1 (k p l e Rm s m args below meth c A D ρ0 ca0 N0 QQ g H locs ls ρ ca hs)
theorem wp_store (h : ∀ (p : Program) (l : Launch) (e : Env) (Rm : Room) (s : State) (m : MethodId) (args : Array Value) (below : List Frame) (meth : Method) (c : Code) (H : Heap) (locs : List Loc) (cells slots : Nat) (QQ : State → Prop) (ls : Array Slot) (ρ : Nat → Nat), p.tables.exec = Jvm.exec → c.code = mt.2.1 → LR ρ ls mt.2.2.1 L → (∀ ls' : Array Slot, LR ρ ls' mt.2.2.1 L' → W p l e Rm s m args below meth c H locs cells slots QQ (F0 m pc' ls' (S'.map (cv ρ)))) → W p l e Rm s m args below meth c H locs cells slots QQ (F0 m pc ls (S.map (cv ρ))))
    (k : wp K mt Q pc' L' S' I R N) : wp K mt Q pc L S I R N := by
  intro p l e Rm s m args below meth c A D ρ0 ca0 N0 QQ g H locs ls ρ ca ⟨h1, h2, h3, h4, h5⟩
  exact h p l e Rm s m args below meth c H locs _ _ QQ ls ρ g.1 g.2.1 h4 (fun ls' h4' => k p l e Rm s m args below meth c A D ρ0 ca0 N0 QQ g H locs ls' ρ ca ⟨h1, h2, h3, h4', h5⟩)
/-- fewer values are known -/
theorem wp_drop (hl : leL L' L = true) (k : wp K mt Q pc L' S I R N) : wp K mt Q pc L S I R N := by
  intro p l e Rm s m args below meth c A D ρ0 ca0 N0 QQ g H locs ls ρ ca ⟨h1, h2, h3, h4, h5⟩
  exact k p l e Rm s m args below meth c A D ρ0 ca0 N0 QQ g H locs ls ρ ca ⟨h1, h2, h3, h4.le hl, h5⟩

theorem wp_iconst {n : Int}  (hd : decode mt.2.1 pc = .ok (.iconst n, 1)) (hp : pc + 1 = pc') (kk : wp K mt Q pc' L (vI n :: S) I R N) : wp K mt Q pc L (S) I R N := by
  subst hp
  refine wp_step (fun p l e Rm s m args below meth c H locs cells slots QQ ls ρ hx hb hl hown hts k => ?_) kk
  exact lv_iconst hx hb hd rfl k

theorem wp_bipush {n : Int} (hn : -128 ≤ n ∧ n ≤ 127)  (hd : decode mt.2.1 pc = .ok (.bipush n, 2)) (hp : pc + 2 = pc') (kk : wp K mt Q pc' L (vI n :: S) I R N) : wp K mt Q pc L (S) I R N := by
  subst hp
  refine wp_step (fun p l e Rm s m args below meth c H locs cells slots QQ ls ρ hx hb hl hown hts k => ?_) kk
  exact lv_bipush hx hb hd (bi_ok hn) k

theorem wp_sipush {n : Int} (hn : -32768 ≤ n ∧ n ≤ 32767)  (hd : decode mt.2.1 pc = .ok (.sipush n, 3)) (hp : pc + 3 = pc') (kk : wp K mt Q pc' L (vI n :: S) I R N) : wp K mt Q pc L (S) I R N := by
  subst hp
  refine wp_step (fun p l e Rm s m args below meth c H locs cells slots QQ ls ρ hx hb hl hown hts k => ?_) kk
  exact lv_sipush hx hb hd (si_ok hn) k

theorem wp_lconst {n : Fin 2}  (hd : decode mt.2.1 pc = .ok (.lconst n, 1)) (hp : pc + 1 = pc') (kk : wp K mt Q pc' L (vL ((n : Nat) : Int) :: S) I R N) : wp K mt Q pc L (S) I R N := by
  subst hp
  refine wp_step (fun p l e Rm s m args below meth c H locs cells slots QQ ls ρ hx hb hl hown hts k => ?_) kk
  exact lv_lconst hx hb hd (Int64.ofInt_eq_ofNat (n := (n : Nat))).symm k

theorem wp_ldc2 {index : Nat} {v : Int64} {x : Int} (hc : Cond.constantLong mt.1.cls index v ∈ TB) (hv : v = i64 x)  (hd : decode mt.2.1 pc = .ok (.ldc2_w index, 3)) (hp : pc + 3 = pc') (kk : wp K mt Q pc' L (vL x :: S) I R N) : wp K mt Q pc L (S) I R N := by
  subst hp
  refine wp_step (fun p l e Rm s m args below meth c H locs cells slots QQ ls ρ hx hb hl hown hts k => ?_) kk
  subst hv; exact lv_ldc2 hx hb hown (hts _ hc) hd k

theorem wp_iload_n {q : Fin 4} {i : Nat} {x : Int} (hi : (q : Nat) = i) (hL : L[i]? = some (vI x))  (hd : decode mt.2.1 pc = .ok (.iload_n q, 1)) (hp : pc + 1 = pc') (kk : wp K mt Q pc' L (vI x :: S) I R N) : wp K mt Q pc L (S) I R N := by
  subst hp
  refine wp_step (fun p l e Rm s m args below meth c H locs cells slots QQ ls ρ hx hb hl hown hts k => ?_) kk
  exact lv_iload_n hx hb hd hi (hl.at hL) k

theorem wp_iload {i : Nat} {x : Int} (hL : L[i]? = some (vI x))  (hd : decode mt.2.1 pc = .ok (.iload i, 2)) (hp : pc + 2 = pc') (kk : wp K mt Q pc' L (vI x :: S) I R N) : wp K mt Q pc L (S) I R N := by
  subst hp
  refine wp_step (fun p l e Rm s m args below meth c H locs cells slots QQ ls ρ hx hb hl hown hts k => ?_) kk
  exact lv_iload hx hb hd (hl.at hL) k

theorem wp_lload_n {q : Fin 4} {i : Nat} {x : Int} (hi : (q : Nat) = i) (hL : L[i]? = some (vL x))  (hd : decode mt.2.1 pc = .ok (.lload_n q, 1)) (hp : pc + 1 = pc') (kk : wp K mt Q pc' L (vL x :: S) I R N) : wp K mt Q pc L (S) I R N := by
  subst hp
  refine wp_step (fun p l e Rm s m args below meth c H locs cells slots QQ ls ρ hx hb hl hown hts k => ?_) kk
  exact lv_lload_n hx hb hd hi (hl.at hL) k

theorem wp_lload {i : Nat} {x : Int} (hL : L[i]? = some (vL x))  (hd : decode mt.2.1 pc = .ok (.lload i, 2)) (hp : pc + 2 = pc') (kk : wp K mt Q pc' L (vL x :: S) I R N) : wp K mt Q pc L (S) I R N := by
  subst hp
  refine wp_step (fun p l e Rm s m args below meth c H locs cells slots QQ ls ρ hx hb hl hown hts k => ?_) kk
  exact lv_lload hx hb hd (hl.at hL) k

theorem wp_aload_n {q : Fin 4} {i x : Nat} (hi : (q : Nat) = i) (hL : L[i]? = some (vR x))  (hd : decode mt.2.1 pc = .ok (.aload_n q, 1)) (hp : pc + 1 = pc') (kk : wp K mt Q pc' L (vR x :: S) I R N) : wp K mt Q pc L (S) I R N := by
  subst hp
  refine wp_step (fun p l e Rm s m args below meth c H locs cells slots QQ ls ρ hx hb hl hown hts k => ?_) kk
  have hl2 := hl.at hL
  have k : W p l e Rm s m args below meth c H locs cells slots QQ (F0 m (pc + 1) ls (cv ρ (vR x) :: S.map (cv ρ))) := k
  by_cases h0 : x = 0
  · subst h0
    exact lv_aload_nN hx hb hd hi hl2 k
  · rw [cv_pos (by omega)] at k
    rw [show cv ρ (some (.inr (.inr x))) = .ref (ρ x) from cv_pos (by omega)] at hl2
    exact lv_aload_n hx hb hd hi hl2 k

theorem wp_aload {i x : Nat} (hL : L[i]? = some (vR x))  (hd : decode mt.2.1 pc = .ok (.aload i, 2)) (hp : pc + 2 = pc') (kk : wp K mt Q pc' L (vR x :: S) I R N) : wp K mt Q pc L (S) I R N := by
  subst hp
  refine wp_step (fun p l e Rm s m args below meth c H locs cells slots QQ ls ρ hx hb hl hown hts k => ?_) kk
  have hl2 := hl.at hL
  have k : W p l e Rm s m args below meth c H locs cells slots QQ (F0 m (pc + 2) ls (cv ρ (vR x) :: S.map (cv ρ))) := k
  by_cases h0 : x = 0
  · subst h0
    exact lv_aloadN hx hb hd hl2 k
  · rw [cv_pos (by omega)] at k
    rw [show cv ρ (some (.inr (.inr x))) = .ref (ρ x) from cv_pos (by omega)] at hl2
    exact lv_aload hx hb hd hl2 k

theorem wp_anull (hd : decode mt.2.1 pc = .ok (.aconst_null, 1)) (hp : pc + 1 = pc') (kk : wp K mt Q pc' L (vR 0 :: S) I R N) : wp K mt Q pc L (S) I R N := by
  subst hp
  refine wp_step (fun p l e Rm s m args below meth c H locs cells slots QQ ls ρ hx hb hl hown hts k => ?_) kk
  exact lv_null hx hb hd k

theorem wp_iadd {x y : Int}  (hd : decode mt.2.1 pc = .ok (.iadd, 1)) (hp : pc + 1 = pc') (kk : wp K mt Q pc' L (vI (x + y) :: S) I R N) : wp K mt Q pc L (vI y :: vI x :: S) I R N := by
  subst hp
  refine wp_step (fun p l e Rm s m args below meth c H locs cells slots QQ ls ρ hx hb hl hown hts k => ?_) kk
  refine lv_iadd hx hb hd ?_
  rw [i32_add]; exact k

theorem wp_isub {x y : Int}  (hd : decode mt.2.1 pc = .ok (.isub, 1)) (hp : pc + 1 = pc') (kk : wp K mt Q pc' L (vI (x - y) :: S) I R N) : wp K mt Q pc L (vI y :: vI x :: S) I R N := by
  subst hp
  refine wp_step (fun p l e Rm s m args below meth c H locs cells slots QQ ls ρ hx hb hl hown hts k => ?_) kk
  refine lv_isub hx hb hd ?_
  rw [i32_sub]; exact k

theorem wp_imul {x y : Int}  (hd : decode mt.2.1 pc = .ok (.imul, 1)) (hp : pc + 1 = pc') (kk : wp K mt Q pc' L (vI (x * y) :: S) I R N) : wp K mt Q pc L (vI y :: vI x :: S) I R N := by
  subst hp
  refine wp_step (fun p l e Rm s m args below meth c H locs cells slots QQ ls ρ hx hb hl hown hts k => ?_) kk
  refine lv_imul hx hb hd ?_
  rw [i32_mul]; exact k

theorem wp_ineg {x : Int}  (hd : decode mt.2.1 pc = .ok (.ineg, 1)) (hp : pc + 1 = pc') (kk : wp K mt Q pc' L (vI (-x) :: S) I R N) : wp K mt Q pc L (vI x :: S) I R N := by
  subst hp
  refine wp_step (fun p l e Rm s m args below meth c H locs cells slots QQ ls ρ hx hb hl hown hts k => ?_) kk
  refine lv_ineg hx hb hd ?_
  rw [i32_neg]; exact k

theorem wp_idiv {x y : Int} (h : 0 ≤ x ∧ x ≤ 2147483647 ∧ 0 < y ∧ y ≤ 2147483647)  (hd : decode mt.2.1 pc = .ok (.idiv, 1)) (hp : pc + 1 = pc') (kk : wp K mt Q pc' L (vI (x / y) :: S) I R N) : wp K mt Q pc L (vI y :: vI x :: S) I R N := by
  subst hp
  refine wp_step (fun p l e Rm s m args below meth c H locs cells slots QQ ls ρ hx hb hl hown hts k => ?_) kk
  refine lv_idiv hx hb hd (i32_ne0 h.2.2.1 h.2.2.2) ?_
  rw [i32_div h.1 h.2.1 h.2.2.1 h.2.2.2]; exact k

theorem wp_irem {x y : Int} (h : 0 ≤ x ∧ x ≤ 2147483647 ∧ 0 < y ∧ y ≤ 2147483647)  (hd : decode mt.2.1 pc = .ok (.irem, 1)) (hp : pc + 1 = pc') (kk : wp K mt Q pc' L (vI (x % y) :: S) I R N) : wp K mt Q pc L (vI y :: vI x :: S) I R N := by
  subst hp
  refine wp_step (fun p l e Rm s m args below meth c H locs cells slots QQ ls ρ hx hb hl hown hts k => ?_) kk
  refine lv_irem hx hb hd (i32_ne0 h.2.2.1 h.2.2.2) ?_
  rw [i32_rem h.1 h.2.1 h.2.2.1 h.2.2.2]; exact k

theorem wp_ldiv {x y : Int} (h : 0 ≤ x ∧ x ≤ 9223372036854775807 ∧ 0 < y ∧ y ≤ 9223372036854775807)  (hd : decode mt.2.1 pc = .ok (.ldiv, 1)) (hp : pc + 1 = pc') (kk : wp K mt Q pc' L (vL (x / y) :: S) I R N) : wp K mt Q pc L (vL y :: vL x :: S) I R N := by
  subst hp
  refine wp_step (fun p l e Rm s m args below meth c H locs cells slots QQ ls ρ hx hb hl hown hts k => ?_) kk
  refine lv_ldiv hx hb hd (i64_ne0 h.2.2.1 h.2.2.2) ?_
  rw [i64_div h.1 h.2.1 h.2.2.1 h.2.2.2]; exact k

theorem wp_lrem {x y : Int} (h : 0 ≤ x ∧ x ≤ 9223372036854775807 ∧ 0 < y ∧ y ≤ 9223372036854775807)  (hd : decode mt.2.1 pc = .ok (.lrem, 1)) (hp : pc + 1 = pc') (kk : wp K mt Q pc' L (vL (x % y) :: S) I R N) : wp K mt Q pc L (vL y :: vL x :: S) I R N := by
  subst hp
  refine wp_step (fun p l e Rm s m args below meth c H locs cells slots QQ ls ρ hx hb hl hown hts k => ?_) kk
  refine lv_lrem hx hb hd (i64_ne0 h.2.2.1 h.2.2.2) ?_
  rw [i64_rem h.1 h.2.1 h.2.2.1 h.2.2.2]; exact k

theorem wp_ladd {x y : Int}  (hd : decode mt.2.1 pc = .ok (.ladd, 1)) (hp : pc + 1 = pc') (kk : wp K mt Q pc' L (vL (x + y) :: S) I R N) : wp K mt Q pc L (vL y :: vL x :: S) I R N := by
  subst hp
  refine wp_step (fun p l e Rm s m args below meth c H locs cells slots QQ ls ρ hx hb hl hown hts k => ?_) kk
  refine lv_ladd hx hb hd ?_
  rw [i64_add]; exact k

theorem wp_lmul {x y : Int}  (hd : decode mt.2.1 pc = .ok (.lmul, 1)) (hp : pc + 1 = pc') (kk : wp K mt Q pc' L (vL (x * y) :: S) I R N) : wp K mt Q pc L (vL y :: vL x :: S) I R N := by
  subst hp
  refine wp_step (fun p l e Rm s m args below meth c H locs cells slots QQ ls ρ hx hb hl hown hts k => ?_) kk
  refine lv_lmul hx hb hd ?_
  rw [i64_mul]; exact k

theorem wp_iand {x y : Int}  (hd : decode mt.2.1 pc = .ok (.iand, 1)) (hp : pc + 1 = pc') (kk : wp K mt Q pc' L (vI (i32 x &&& i32 y).toInt :: S) I R N) : wp K mt Q pc L (vI y :: vI x :: S) I R N := by
  subst hp
  refine wp_step (fun p l e Rm s m args below meth c H locs cells slots QQ ls ρ hx hb hl hown hts k => ?_) kk
  refine lv_iand hx hb hd ?_
  have k : W p l e Rm s m args below meth c H locs cells slots QQ (F0 m (pc + 1) ls (.int (i32 (i32 x &&& i32 y).toInt) :: S.map (cv ρ))) := k
  rw [i32_of] at k; exact k

theorem wp_ior {x y : Int}  (hd : decode mt.2.1 pc = .ok (.ior, 1)) (hp : pc + 1 = pc') (kk : wp K mt Q pc' L (vI (i32 x ||| i32 y).toInt :: S) I R N) : wp K mt Q pc L (vI y :: vI x :: S) I R N := by
  subst hp
  refine wp_step (fun p l e Rm s m args below meth c H locs cells slots QQ ls ρ hx hb hl hown hts k => ?_) kk
  refine lv_ior hx hb hd ?_
  have k : W p l e Rm s m args below meth c H locs cells slots QQ (F0 m (pc + 1) ls (.int (i32 (i32 x ||| i32 y).toInt) :: S.map (cv ρ))) := k
  rw [i32_of] at k; exact k

theorem wp_land {x y : Int}  (hd : decode mt.2.1 pc = .ok (.land, 1)) (hp : pc + 1 = pc') (kk : wp K mt Q pc' L (vL (i64 x &&& i64 y).toInt :: S) I R N) : wp K mt Q pc L (vL y :: vL x :: S) I R N := by
  subst hp
  refine wp_step (fun p l e Rm s m args below meth c H locs cells slots QQ ls ρ hx hb hl hown hts k => ?_) kk
  refine lv_land hx hb hd ?_
  have k : W p l e Rm s m args below meth c H locs cells slots QQ (F0 m (pc + 1) ls (.long (i64 (i64 x &&& i64 y).toInt) :: S.map (cv ρ))) := k
  rw [i64_of] at k; exact k

theorem wp_lor {x y : Int}  (hd : decode mt.2.1 pc = .ok (.lor, 1)) (hp : pc + 1 = pc') (kk : wp K mt Q pc' L (vL (i64 x ||| i64 y).toInt :: S) I R N) : wp K mt Q pc L (vL y :: vL x :: S) I R N := by
  subst hp
  refine wp_step (fun p l e Rm s m args below meth c H locs cells slots QQ ls ρ hx hb hl hown hts k => ?_) kk
  refine lv_lor hx hb hd ?_
  have k : W p l e Rm s m args below meth c H locs cells slots QQ (F0 m (pc + 1) ls (.long (i64 (i64 x ||| i64 y).toInt) :: S.map (cv ρ))) := k
  rw [i64_of] at k; exact k

theorem wp_ishl {x y : Int}  (hd : decode mt.2.1 pc = .ok (.ishl, 1)) (hp : pc + 1 = pc') (kk : wp K mt Q pc' L (vI (i32 x <<< (i32 y &&& 31)).toInt :: S) I R N) : wp K mt Q pc L (vI y :: vI x :: S) I R N := by
  subst hp
  refine wp_step (fun p l e Rm s m args below meth c H locs cells slots QQ ls ρ hx hb hl hown hts k => ?_) kk
  refine lv_ishl hx hb hd ?_
  have k : W p l e Rm s m args below meth c H locs cells slots QQ (F0 m (pc + 1) ls (.int (i32 (i32 x <<< (i32 y &&& 31)).toInt) :: S.map (cv ρ))) := k
  rw [i32_of] at k; exact k

theorem wp_ishr {x y : Int}  (hd : decode mt.2.1 pc = .ok (.ishr, 1)) (hp : pc + 1 = pc') (kk : wp K mt Q pc' L (vI (i32 x >>> (i32 y &&& 31)).toInt :: S) I R N) : wp K mt Q pc L (vI y :: vI x :: S) I R N := by
  subst hp
  refine wp_step (fun p l e Rm s m args below meth c H locs cells slots QQ ls ρ hx hb hl hown hts k => ?_) kk
  refine lv_ishr hx hb hd ?_
  have k : W p l e Rm s m args below meth c H locs cells slots QQ (F0 m (pc + 1) ls (.int (i32 (i32 x >>> (i32 y &&& 31)).toInt) :: S.map (cv ρ))) := k
  rw [i32_of] at k; exact k

theorem wp_lshl {x y : Int}  (hd : decode mt.2.1 pc = .ok (.lshl, 1)) (hp : pc + 1 = pc') (kk : wp K mt Q pc' L (vL (i64 x <<< ((i32 y).toInt64 &&& 63)).toInt :: S) I R N) : wp K mt Q pc L (vI y :: vL x :: S) I R N := by
  subst hp
  refine wp_step (fun p l e Rm s m args below meth c H locs cells slots QQ ls ρ hx hb hl hown hts k => ?_) kk
  refine lv_lshl hx hb hd rfl ?_
  have k : W p l e Rm s m args below meth c H locs cells slots QQ (F0 m (pc + 1) ls (.long (i64 (i64 x <<< ((i32 y).toInt64 &&& 63)).toInt) :: S.map (cv ρ))) := k
  rw [i64_of] at k; exact k

theorem wp_lshr {x y : Int}  (hd : decode mt.2.1 pc = .ok (.lshr, 1)) (hp : pc + 1 = pc') (kk : wp K mt Q pc' L (vL (i64 x >>> ((i32 y).toInt64 &&& 63)).toInt :: S) I R N) : wp K mt Q pc L (vI y :: vL x :: S) I R N := by
  subst hp
  refine wp_step (fun p l e Rm s m args below meth c H locs cells slots QQ ls ρ hx hb hl hown hts k => ?_) kk
  refine lv_lshr hx hb hd rfl ?_
  have k : W p l e Rm s m args below meth c H locs cells slots QQ (F0 m (pc + 1) ls (.long (i64 (i64 x >>> ((i32 y).toInt64 &&& 63)).toInt) :: S.map (cv ρ))) := k
  rw [i64_of] at k; exact k

theorem wp_lushr {x y : Int}  (hd : decode mt.2.1 pc = .ok (.lushr, 1)) (hp : pc + 1 = pc') (kk : wp K mt Q pc' L (vL (((i64 x).toUInt64 >>> ((i32 y).toInt64.toUInt64 &&& Int64.toUInt64 63)).toInt64).toInt :: S) I R N) : wp K mt Q pc L (vI y :: vL x :: S) I R N := by
  subst hp
  refine wp_step (fun p l e Rm s m args below meth c H locs cells slots QQ ls ρ hx hb hl hown hts k => ?_) kk
  refine lv_lushr hx hb hd rfl ?_
  have k : W p l e Rm s m args below meth c H locs cells slots QQ (F0 m (pc + 1) ls (.long (i64 (((i64 x).toUInt64 >>> ((i32 y).toInt64.toUInt64 &&& Int64.toUInt64 63)).toInt64).toInt) :: S.map (cv ρ))) := k
  rw [i64_of] at k; exact k

theorem wp_i2l {x : Int} (h : InI x)  (hd : decode mt.2.1 pc = .ok (.i2l, 1)) (hp : pc + 1 = pc') (kk : wp K mt Q pc' L (vL x :: S) I R N) : wp K mt Q pc L (vI x :: S) I R N := by
  subst hp
  refine wp_step (fun p l e Rm s m args below meth c H locs cells slots QQ ls ρ hx hb hl hown hts k => ?_) kk
  exact lv_i2l hx hb hd (i32_i2l h) k

theorem wp_l2i {x : Int}  (hd : decode mt.2.1 pc = .ok (.l2i, 1)) (hp : pc + 1 = pc') (kk : wp K mt Q pc' L (vI x :: S) I R N) : wp K mt Q pc L (vL x :: S) I R N := by
  subst hp
  refine wp_step (fun p l e Rm s m args below meth c H locs cells slots QQ ls ρ hx hb hl hown hts k => ?_) kk
  exact lv_l2i hx hb hd (i64_l2i x) k

theorem wp_lcmp {x y : Int} (ha : InL x) (hb2 : InL y)  (hd : decode mt.2.1 pc = .ok (.lcmp, 1)) (hp : pc + 1 = pc') (kk : wp K mt Q pc' L (vI (if y < x then 1 else if x = y then 0 else -1) :: S) I R N) : wp K mt Q pc L (vL y :: vL x :: S) I R N := by
  subst hp
  refine wp_step (fun p l e Rm s m args below meth c H locs cells slots QQ ls ρ hx hb hl hown hts k => ?_) kk
  refine W.lcmp hx hb hd ?_
  rw [i64_cmp ha hb2]; exact k

theorem wp_dupI {x : Int}  (hd : decode mt.2.1 pc = .ok (.dup, 1)) (hp : pc + 1 = pc') (kk : wp K mt Q pc' L (vI x :: vI x :: S) I R N) : wp K mt Q pc L (vI x :: S) I R N := by
  subst hp
  refine wp_step (fun p l e Rm s m args below meth c H locs cells slots QQ ls ρ hx hb hl hown hts k => ?_) kk
  exact lv_dup hx hb hd rfl k

theorem wp_dupR {x : Nat}  (hd : decode mt.2.1 pc = .ok (.dup, 1)) (hp : pc + 1 = pc') (kk : wp K mt Q pc' L (vR x :: vR x :: S) I R N) : wp K mt Q pc L (vR x :: S) I R N := by
  subst hp
  refine wp_step (fun p l e Rm s m args below meth c H locs cells slots QQ ls ρ hx hb hl hown hts k => ?_) kk
  exact lv_dup hx hb hd cv_catR k

theorem wp_popI {x : Int}  (hd : decode mt.2.1 pc = .ok (.pop, 1)) (hp : pc + 1 = pc') (kk : wp K mt Q pc' L (S) I R N) : wp K mt Q pc L (vI x :: S) I R N := by
  subst hp
  refine wp_step (fun p l e Rm s m args below meth c H locs cells slots QQ ls ρ hx hb hl hown hts k => ?_) kk
  exact lv_pop hx hb hd rfl k

theorem wp_dup2 {x : Int} {r : Nat}  (hd : decode mt.2.1 pc = .ok (.dup2, 1)) (hp : pc + 1 = pc') (kk : wp K mt Q pc' L (vI x :: vR r :: vI x :: vR r :: S) I R N) : wp K mt Q pc L (vI x :: vR r :: S) I R N := by
  subst hp
  refine wp_step (fun p l e Rm s m args below meth c H locs cells slots QQ ls ρ hx hb hl hown hts k => ?_) kk
  exact lv_dup2_11 hx hb hd rfl cv_catR k

theorem wp_goto {off : Int} {tgt : Nat} (hd : decode mt.2.1 pc = .ok (.goto off, 3)) (ht : (pc : Int) + off = (tgt : Int)) (kk : wp K mt Q tgt L S I R N) : wp K mt Q pc L S I R N :=
  wp_step (fun p l e Rm s m args below meth c H locs cells slots QQ ls ρ hx hb hl hown hts k => lv_goto hx hb hd ht k) kk

theorem wp_ifnull0 {off : Int} {tgt : Nat} (hd : decode mt.2.1 pc = .ok (.ifnull off, 3)) (ht : (pc : Int) + off = (tgt : Int)) (kk : wp K mt Q tgt L S I R N) : wp K mt Q pc L (vR 0 :: S) I R N :=
  wp_step (fun p l e Rm s m args below meth c H locs cells slots QQ ls ρ hx hb hl hown hts k => lv_ifnullN hx hb hd ht k) kk

theorem wp_ifnull1 {off : Int} {x : Nat} (h0 : 0 < x) (hd : decode mt.2.1 pc = .ok (.ifnull off, 3)) (hp : pc + 3 = pc') (kk : wp K mt Q pc' L S I R N) : wp K mt Q pc L (vR x :: S) I R N := by
  subst hp
  refine wp_step (fun p l e Rm s m args below meth c H locs cells slots QQ ls ρ hx hb hl hown hts k => ?_) kk
  show W p l e Rm s m args below meth c H locs cells slots QQ (F0 m pc ls (cv ρ (vR x) :: S.map (cv ρ)))
  rw [cv_pos h0]
  exact lv_ifnull hx hb hd k

theorem wp_istore_n {q : Fin 4} {i : Nat} {x : Int} (hi : (q : Nat) = i) (hlt : i < mt.2.2.1) (ok : okst L i = true) (hd : decode mt.2.1 pc = .ok (.istore_n q, 1)) (hp : pc + 1 = pc') (hL : L.set i (vI x) = L') (kk : wp K mt Q pc' L' S I R N) : wp K mt Q pc L (vI x :: S) I R N := by
  subst hp hL
  refine wp_store (fun p l e Rm s m args below meth c H locs cells slots QQ ls ρ hx hb hl k => ?_) kk
  exact lv_istore_n hx hb hd hi hl.has hlt rfl (fun ls' h' => k ls' (hl.set1 ok h'))

theorem wp_istore {i : Nat} {x : Int} (hlt : i < mt.2.2.1) (ok : okst L i = true) (hd : decode mt.2.1 pc = .ok (.istore i, 2)) (hp : pc + 2 = pc') (hL : L.set i (vI x) = L') (kk : wp K mt Q pc' L' S I R N) : wp K mt Q pc L (vI x :: S) I R N := by
  subst hp hL
  refine wp_store (fun p l e Rm s m args below meth c H locs cells slots QQ ls ρ hx hb hl k => ?_) kk
  exact lv_istore hx hb hd hl.has hlt rfl (fun ls' h' => k ls' (hl.set1 ok h'))

theorem wp_lstore_n {q : Fin 4} {i : Nat} {x : Int} (hi : (q : Nat) = i) (hlt : i + 1 < mt.2.2.1) (ok : okst L i = true) (hd : decode mt.2.1 pc = .ok (.lstore_n q, 1)) (hp : pc + 1 = pc') (hL : (L.set i (vL x)).set (i + 1) none = L') (kk : wp K mt Q pc' L' S I R N) : wp K mt Q pc L (vL x :: S) I R N := by
  subst hp hL
  refine wp_store (fun p l e Rm s m args below meth c H locs cells slots QQ ls ρ hx hb hl k => ?_) kk
  exact lv_lstore_n hx hb hd hi hl.has hlt rfl (fun ls' h' => k ls' (hl.set2 ok h'))

theorem wp_lstore {i : Nat} {x : Int} (hlt : i + 1 < mt.2.2.1) (ok : okst L i = true) (hd : decode mt.2.1 pc = .ok (.lstore i, 2)) (hp : pc + 2 = pc') (hL : (L.set i (vL x)).set (i + 1) none = L') (kk : wp K mt Q pc' L' S I R N) : wp K mt Q pc L (vL x :: S) I R N := by
  subst hp hL
  refine wp_store (fun p l e Rm s m args below meth c H locs cells slots QQ ls ρ hx hb hl k => ?_) kk
  exact lv_lstore hx hb hd hl.has hlt rfl (fun ls' h' => k ls' (hl.set2 ok h'))

theorem wp_astore_n {q : Fin 4} {i x : Nat} (h0 : 0 < x) (hi : (q : Nat) = i) (hlt : i < mt.2.2.1) (ok : okst L i = true) (hd : decode mt.2.1 pc = .ok (.astore_n q, 1)) (hp : pc + 1 = pc') (hL : L.set i (vR x) = L') (kk : wp K mt Q pc' L' S I R N) : wp K mt Q pc L (vR x :: S) I R N := by
  subst hp hL
  refine wp_store (fun p l e Rm s m args below meth c H locs cells slots QQ ls ρ hx hb hl k => ?_) kk
  have hc : cv ρ (vR x) = .ref (ρ x) := cv_pos h0
  show W p l e Rm s m args below meth c H locs cells slots QQ (F0 m pc ls (cv ρ (vR x) :: S.map (cv ρ)))
  rw [hc]
  exact lv_astore_n hx hb hd hi hl.has hlt rfl (fun ls' h' => k ls' (hl.set1 ok (by rw [show cv ρ (some (.inr (.inr x))) = .ref (ρ x) from hc]; exact h')))

theorem wp_astore {i x : Nat} (h0 : 0 < x) (hlt : i < mt.2.2.1) (ok : okst L i = true) (hd : decode mt.2.1 pc = .ok (.astore i, 2)) (hp : pc + 2 = pc') (hL : L.set i (vR x) = L') (kk : wp K mt Q pc' L' S I R N) : wp K mt Q pc L (vR x :: S) I R N := by
  subst hp hL
  refine wp_store (fun p l e Rm s m args below meth c H locs cells slots QQ ls ρ hx hb hl k => ?_) kk
  have hc : cv ρ (vR x) = .ref (ρ x) := cv_pos h0
  show W p l e Rm s m args below meth c H locs cells slots QQ (F0 m pc ls (cv ρ (vR x) :: S.map (cv ρ)))
  rw [hc]
  exact lv_astore hx hb hd hl.has hlt rfl (fun ls' h' => k ls' (hl.set1 ok (by rw [show cv ρ (some (.inr (.inr x))) = .ref (ρ x) from hc]; exact h')))

theorem wp_iinc {i : Nat} {n x : Int} (hl0 : L[i]? = some (vI x)) (hlt : i < mt.2.2.1) (ok : okst L i = true) (hd : decode mt.2.1 pc = .ok (.iinc i n, 3)) (hp : pc + 3 = pc') (hL : L.set i (vI (x + n)) = L') (kk : wp K mt Q pc' L' S I R N) : wp K mt Q pc L S I R N := by
  subst hp hL
  refine wp_store (fun p l e Rm s m args below meth c H locs cells slots QQ ls ρ hx hb hl k => ?_) kk
  have h9 : lv_has ls mt.2.2.1 ((i, .int (i32 x)) :: asc ρ L) := ⟨hl.1, hl.2.1, fun q hq => by
    rcases List.mem_cons.mp hq with rfl | hq
    · exact hl.at hl0
    · exact hl.has.2.2 q hq⟩
  refine lv_iinc (k := 0) hx hb hd h9 rfl (i32_add x n) hlt rfl (fun ls' h' => k ls' (hl.set1 (v := .inl (x + n)) ok ⟨h'.1, h'.2.1, fun q hq => h'.2.2 q ?_⟩))
  rcases List.mem_cons.mp hq with rfl | hq
  · exact List.mem_cons_self
  · refine List.mem_cons_of_mem _ ?_
    rw [List.filter_cons]
    split
    · exact List.mem_cons_of_mem _ hq
    · exact hq

theorem wp_icmp_eq {x y : Int} {off : Int} {tgt : Nat} (ha : InI x) (hb2 : InI y) (hd : decode mt.2.1 pc = .ok (.if_icmp .eq off, 3)) (ht : (pc : Int) + off = (tgt : Int)) (hp : pc + 3 = pc') (kt : x = y → wp K mt Q tgt L S I R N) (kf : ¬ (x = y) → wp K mt Q pc' L S I R N) : wp K mt Q pc L (vI y :: vI x :: S) I R N := by
  subst hp
  intro p l e Rm s m args below meth c A D ρ0 ca0 N0 QQ g H locs ls ρ ca hs
  exact lv_icmp_eq g.1 g.2.1 hd ht (fun h => kt ((i32_eq ha hb2).mp h) p l e Rm s m args below meth c A D ρ0 ca0 N0 QQ g H locs ls ρ ca hs) (fun h => kf (fun h2 => h ((i32_eq ha hb2).mpr h2)) p l e Rm s m args below meth c A D ρ0 ca0 N0 QQ g H locs ls ρ ca hs)

theorem wp_icmp_ne {x y : Int} {off : Int} {tgt : Nat} (ha : InI x) (hb2 : InI y) (hd : decode mt.2.1 pc = .ok (.if_icmp .ne off, 3)) (ht : (pc : Int) + off = (tgt : Int)) (hp : pc + 3 = pc') (kt : ¬ x = y → wp K mt Q tgt L S I R N) (kf : x = y → wp K mt Q pc' L S I R N) : wp K mt Q pc L (vI y :: vI x :: S) I R N := by
  subst hp
  intro p l e Rm s m args below meth c A D ρ0 ca0 N0 QQ g H locs ls ρ ca hs
  exact lv_icmp_ne g.1 g.2.1 hd ht (fun h => kt ((not_congr (i32_eq ha hb2)).mp h) p l e Rm s m args below meth c A D ρ0 ca0 N0 QQ g H locs ls ρ ca hs) (fun h => kf ((i32_eq ha hb2).mp h) p l e Rm s m args below meth c A D ρ0 ca0 N0 QQ g H locs ls ρ ca hs)

theorem wp_icmp_lt {x y : Int} {off : Int} {tgt : Nat} (ha : InI x) (hb2 : InI y) (hd : decode mt.2.1 pc = .ok (.if_icmp .lt off, 3)) (ht : (pc : Int) + off = (tgt : Int)) (hp : pc + 3 = pc') (kt : x < y → wp K mt Q tgt L S I R N) (kf : ¬ (x < y) → wp K mt Q pc' L S I R N) : wp K mt Q pc L (vI y :: vI x :: S) I R N := by
  subst hp
  intro p l e Rm s m args below meth c A D ρ0 ca0 N0 QQ g H locs ls ρ ca hs
  exact lv_icmp_lt g.1 g.2.1 hd ht (fun h => kt ((i32_lt ha hb2).mp h) p l e Rm s m args below meth c A D ρ0 ca0 N0 QQ g H locs ls ρ ca hs) (fun h => kf (fun h2 => h ((i32_lt ha hb2).mpr h2)) p l e Rm s m args below meth c A D ρ0 ca0 N0 QQ g H locs ls ρ ca hs)

theorem wp_icmp_ge {x y : Int} {off : Int} {tgt : Nat} (ha : InI x) (hb2 : InI y) (hd : decode mt.2.1 pc = .ok (.if_icmp .ge off, 3)) (ht : (pc : Int) + off = (tgt : Int)) (hp : pc + 3 = pc') (kt : y ≤ x → wp K mt Q tgt L S I R N) (kf : ¬ (y ≤ x) → wp K mt Q pc' L S I R N) : wp K mt Q pc L (vI y :: vI x :: S) I R N := by
  subst hp
  intro p l e Rm s m args below meth c A D ρ0 ca0 N0 QQ g H locs ls ρ ca hs
  exact lv_icmp_ge g.1 g.2.1 hd ht (fun h => kt ((i32_le hb2 ha).mp h) p l e Rm s m args below meth c A D ρ0 ca0 N0 QQ g H locs ls ρ ca hs) (fun h => kf (fun h2 => h ((i32_le hb2 ha).mpr h2)) p l e Rm s m args below meth c A D ρ0 ca0 N0 QQ g H locs ls ρ ca hs)

theorem wp_icmp_gt {x y : Int} {off : Int} {tgt : Nat} (ha : InI x) (hb2 : InI y) (hd : decode mt.2.1 pc = .ok (.if_icmp .gt off, 3)) (ht : (pc : Int) + off = (tgt : Int)) (hp : pc + 3 = pc') (kt : y < x → wp K mt Q tgt L S I R N) (kf : ¬ (y < x) → wp K mt Q pc' L S I R N) : wp K mt Q pc L (vI y :: vI x :: S) I R N := by
  subst hp
  intro p l e Rm s m args below meth c A D ρ0 ca0 N0 QQ g H locs ls ρ ca hs
  exact lv_icmp_gt g.1 g.2.1 hd ht (fun h => kt ((i32_lt hb2 ha).mp h) p l e Rm s m args below meth c A D ρ0 ca0 N0 QQ g H locs ls ρ ca hs) (fun h => kf (fun h2 => h ((i32_lt hb2 ha).mpr h2)) p l e Rm s m args below meth c A D ρ0 ca0 N0 QQ g H locs ls ρ ca hs)

theorem wp_icmp_le {x y : Int} {off : Int} {tgt : Nat} (ha : InI x) (hb2 : InI y) (hd : decode mt.2.1 pc = .ok (.if_icmp .le off, 3)) (ht : (pc : Int) + off = (tgt : Int)) (hp : pc + 3 = pc') (kt : x ≤ y → wp K mt Q tgt L S I R N) (kf : ¬ (x ≤ y) → wp K mt Q pc' L S I R N) : wp K mt Q pc L (vI y :: vI x :: S) I R N := by
  subst hp
  intro p l e Rm s m args below meth c A D ρ0 ca0 N0 QQ g H locs ls ρ ca hs
  exact lv_icmp_le g.1 g.2.1 hd ht (fun h => kt ((i32_le ha hb2).mp h) p l e Rm s m args below meth c A D ρ0 ca0 N0 QQ g H locs ls ρ ca hs) (fun h => kf (fun h2 => h ((i32_le ha hb2).mpr h2)) p l e Rm s m args below meth c A D ρ0 ca0 N0 QQ g H locs ls ρ ca hs)

theorem wp_if_eq {x : Int} {off : Int} {tgt : Nat} (ha : InI x) (hd : decode mt.2.1 pc = .ok (.ifCond .eq off, 3)) (ht : (pc : Int) + off = (tgt : Int)) (hp : pc + 3 = pc') (kt : x = 0 → wp K mt Q tgt L S I R N) (kf : ¬ (x = 0) → wp K mt Q pc' L S I R N) : wp K mt Q pc L (vI x :: S) I R N := by
  subst hp
  intro p l e Rm s m args below meth c A D ρ0 ca0 N0 QQ g H locs ls ρ ca hs
  have hi : i32 x = 0 ↔ x = 0 := by
    rw [i32_0]; exact i32_eq ha InI_0
  exact lv_if_eq g.1 g.2.1 hd ht (fun h => kt (hi.mp h) p l e Rm s m args below meth c A D ρ0 ca0 N0 QQ g H locs ls ρ ca hs) (fun h => kf (fun h2 => h (hi.mpr h2)) p l e Rm s m args below meth c A D ρ0 ca0 N0 QQ g H locs ls ρ ca hs)

theorem wp_if_ne {x : Int} {off : Int} {tgt : Nat} (ha : InI x) (hd : decode mt.2.1 pc = .ok (.ifCond .ne off, 3)) (ht : (pc : Int) + off = (tgt : Int)) (hp : pc + 3 = pc') (kt : ¬ x = 0 → wp K mt Q tgt L S I R N) (kf : x = 0 → wp K mt Q pc' L S I R N) : wp K mt Q pc L (vI x :: S) I R N := by
  subst hp
  intro p l e Rm s m args below meth c A D ρ0 ca0 N0 QQ g H locs ls ρ ca hs
  have hi : (¬ i32 x = 0) ↔ ¬ x = 0 := by
    rw [i32_0]; exact not_congr (i32_eq ha InI_0)
  exact lv_if_ne g.1 g.2.1 hd ht (fun h => kt (hi.mp h) p l e Rm s m args below meth c A D ρ0 ca0 N0 QQ g H locs ls ρ ca hs) (fun h => kf (by rw [i32_0] at h; exact (i32_eq ha InI_0).mp h) p l e Rm s m args below meth c A D ρ0 ca0 N0 QQ g H locs ls ρ ca hs)

theorem wp_if_lt {x : Int} {off : Int} {tgt : Nat} (ha : InI x) (hd : decode mt.2.1 pc = .ok (.ifCond .lt off, 3)) (ht : (pc : Int) + off = (tgt : Int)) (hp : pc + 3 = pc') (kt : x < 0 → wp K mt Q tgt L S I R N) (kf : ¬ (x < 0) → wp K mt Q pc' L S I R N) : wp K mt Q pc L (vI x :: S) I R N := by
  subst hp
  intro p l e Rm s m args below meth c A D ρ0 ca0 N0 QQ g H locs ls ρ ca hs
  have hi : i32 x < 0 ↔ x < 0 := by
    rw [i32_0]; exact i32_lt ha InI_0
  exact lv_if_lt g.1 g.2.1 hd ht (fun h => kt (hi.mp h) p l e Rm s m args below meth c A D ρ0 ca0 N0 QQ g H locs ls ρ ca hs) (fun h => kf (fun h2 => h (hi.mpr h2)) p l e Rm s m args below meth c A D ρ0 ca0 N0 QQ g H locs ls ρ ca hs)

theorem wp_if_ge {x : Int} {off : Int} {tgt : Nat} (ha : InI x) (hd : decode mt.2.1 pc = .ok (.ifCond .ge off, 3)) (ht : (pc : Int) + off = (tgt : Int)) (hp : pc + 3 = pc') (kt : 0 ≤ x → wp K mt Q tgt L S I R N) (kf : ¬ (0 ≤ x) → wp K mt Q pc' L S I R N) : wp K mt Q pc L (vI x :: S) I R N := by
  subst hp
  intro p l e Rm s m args below meth c A D ρ0 ca0 N0 QQ g H locs ls ρ ca hs
  have hi : 0 ≤ i32 x ↔ 0 ≤ x := by
    rw [i32_0]; exact i32_le InI_0 ha
  exact lv_if_ge g.1 g.2.1 hd ht (fun h => kt (hi.mp h) p l e Rm s m args below meth c A D ρ0 ca0 N0 QQ g H locs ls ρ ca hs) (fun h => kf (fun h2 => h (hi.mpr h2)) p l e Rm s m args below meth c A D ρ0 ca0 N0 QQ g H locs ls ρ ca hs)

theorem wp_if_gt {x : Int} {off : Int} {tgt : Nat} (ha : InI x) (hd : decode mt.2.1 pc = .ok (.ifCond .gt off, 3)) (ht : (pc : Int) + off = (tgt : Int)) (hp : pc + 3 = pc') (kt : 0 < x → wp K mt Q tgt L S I R N) (kf : ¬ (0 < x) → wp K mt Q pc' L S I R N) : wp K mt Q pc L (vI x :: S) I R N := by
  subst hp
  intro p l e Rm s m args below meth c A D ρ0 ca0 N0 QQ g H locs ls ρ ca hs
  have hi : 0 < i32 x ↔ 0 < x := by
    rw [i32_0]; exact i32_lt InI_0 ha
  exact lv_if_gt g.1 g.2.1 hd ht (fun h => kt (hi.mp h) p l e Rm s m args below meth c A D ρ0 ca0 N0 QQ g H locs ls ρ ca hs) (fun h => kf (fun h2 => h (hi.mpr h2)) p l e Rm s m args below meth c A D ρ0 ca0 N0 QQ g H locs ls ρ ca hs)

theorem wp_if_le {x : Int} {off : Int} {tgt : Nat} (ha : InI x) (hd : decode mt.2.1 pc = .ok (.ifCond .le off, 3)) (ht : (pc : Int) + off = (tgt : Int)) (hp : pc + 3 = pc') (kt : x ≤ 0 → wp K mt Q tgt L S I R N) (kf : ¬ (x ≤ 0) → wp K mt Q pc' L S I R N) : wp K mt Q pc L (vI x :: S) I R N := by
  subst hp
  intro p l e Rm s m args below meth c A D ρ0 ca0 N0 QQ g H locs ls ρ ca hs
  have hi : i32 x ≤ 0 ↔ x ≤ 0 := by
    rw [i32_0]; exact i32_le ha InI_0
  exact lv_if_le g.1 g.2.1 hd ht (fun h => kt (hi.mp h) p l e Rm s m args below meth c A D ρ0 ca0 N0 QQ g H locs ls ρ ca hs) (fun h => kf (fun h2 => h (hi.mpr h2)) p l e Rm s m args below meth c A D ρ0 ca0 N0 QQ g H locs ls ρ ca hs)

theorem wp_table {x dflt lo hi : Int} {offs : Array Int} {len tgtD : Nat} (ha : InI x) (hd : decode mt.2.1 pc = .ok (.tableswitch dflt lo hi offs, len)) (ht : (pc : Int) + dflt = (tgtD : Int)) (kd : (x < lo ∨ hi < x) → wp K mt Q tgtD L S I R N)
    (ki : ∀ j : Nat, x = lo + j → lo + j ≤ hi → ∃ (off : Int) (tgt : Nat), offs[j]? = some off ∧ (pc : Int) + off = (tgt : Int) ∧ wp K mt Q tgt L S I R N) : wp K mt Q pc L (vI x :: S) I R N := by
  intro p l e Rm s m args below meth c A D ρ0 ca0 N0 QQ g H locs ls ρ ca hs
  by_cases h : x < lo ∨ hi < x
  · exact lv_tableOut g.1 g.2.1 hd (by rw [i32_toInt ha]; exact h) ht (kd h p l e Rm s m args below meth c A D ρ0 ca0 N0 QQ g H locs ls ρ ca hs)
  · obtain ⟨off, tgt, h1, h2, h3⟩ := ki (x - lo).toNat (by omega) (by omega)
    exact lv_tableIn g.1 g.2.1 hd (by rw [i32_toInt ha]; omega) (by rw [i32_toInt ha]; omega) (by rw [i32_toInt ha]; exact h1) h2 (h3 p l e Rm s m args below meth c A D ρ0 ca0 N0 QQ g H locs ls ρ ca hs)
theorem wp_lookup {x dflt off : Int} {ps : Array (Int × Int)} {len tgt : Nat} (ha : InI x) (hd : decode mt.2.1 pc = .ok (.lookupswitch dflt ps, len)) (hps : (ps.toList.zip (ps.toList.drop 1)).all (fun (a, next) => a.1 < next.1) = true) (ho : Op.lookupswitch.offset ps.toList dflt x = off) (ht : (pc : Int) + off = (tgt : Int)) (kk : wp K mt Q tgt L S I R N) : wp K mt Q pc L (vI x :: S) I R N := by
  intro p l e Rm s m args below meth c A D ρ0 ca0 N0 QQ g H locs ls ρ ca hs
  exact lv_lookup g.1 g.2.1 hd hps (by rw [i32_toInt ha]; exact ho) ht (kk p l e Rm s m args below meth c A D ρ0 ca0 N0 QQ g H locs ls ρ ca hs)

/-- fewer values -/
def leP : List AV → List AV → Prop
  | [], _ => True
  | none :: a, _ :: b => leP a b
  | some x :: a, some y :: b => x = y ∧ leP a b
  | none :: a, [] => leP a []
  | some _ :: _, _ => False
theorem leP_leL : ∀ {a b : List AV}, leP a b → leL a b = true
  | [], _, _ => rfl
  | none :: a, y :: b, h => leP_leL (a := a) (b := b) h
  | some x :: a, some y :: b, h => by
    obtain ⟨h1, h2⟩ := h
    simp [leL, h1, leP_leL h2]
  | none :: a, [], h => leP_leL (a := a) (b := []) h
  | some _ :: _, none :: _, h => h.elim
  | some _ :: _, [], h => h.elim
theorem wp_dropP (hl : leP L' L) (k : wp K mt Q pc L' S I R N) : wp K mt Q pc L S I R N := wp_drop (leP_leL hl) k

theorem wp_lif_eq {x y : Int} {off : Int} {tgt pc1 : Nat} (ha : InL x) (hb2 : InL y) (hd : decode mt.2.1 pc = .ok (.lcmp, 1)) (hp1 : pc + 1 = pc1) (hd2 : decode mt.2.1 pc1 = .ok (.ifCond .eq off, 3)) (ht : (pc1 : Int) + off = (tgt : Int)) (hp : pc1 + 3 = pc') (kt : x = y → wp K mt Q tgt L S I R N) (kf : ¬ (x = y) → wp K mt Q pc' L S I R N) : wp K mt Q pc L (vL y :: vL x :: S) I R N := by
  refine wp_lcmp ha hb2 hd hp1 (wp_if_eq (by unfold InI; split <;> (try split) <;> omega) hd2 ht hp (fun h => kt ?_) (fun h => kf ?_))
  · revert h; split <;> (try split) <;> omega
  · revert h; split <;> (try split) <;> omega

theorem wp_lif_ne {x y : Int} {off : Int} {tgt pc1 : Nat} (ha : InL x) (hb2 : InL y) (hd : decode mt.2.1 pc = .ok (.lcmp, 1)) (hp1 : pc + 1 = pc1) (hd2 : decode mt.2.1 pc1 = .ok (.ifCond .ne off, 3)) (ht : (pc1 : Int) + off = (tgt : Int)) (hp : pc1 + 3 = pc') (kt : ¬ x = y → wp K mt Q tgt L S I R N) (kf : x = y → wp K mt Q pc' L S I R N) : wp K mt Q pc L (vL y :: vL x :: S) I R N := by
  refine wp_lcmp ha hb2 hd hp1 (wp_if_ne (by unfold InI; split <;> (try split) <;> omega) hd2 ht hp (fun h => kt ?_) (fun h => kf ?_))
  · revert h; split <;> (try split) <;> omega
  · revert h; split <;> (try split) <;> omega

theorem wp_lif_lt {x y : Int} {off : Int} {tgt pc1 : Nat} (ha : InL x) (hb2 : InL y) (hd : decode mt.2.1 pc = .ok (.lcmp, 1)) (hp1 : pc + 1 = pc1) (hd2 : decode mt.2.1 pc1 = .ok (.ifCond .lt off, 3)) (ht : (pc1 : Int) + off = (tgt : Int)) (hp : pc1 + 3 = pc') (kt : x < y → wp K mt Q tgt L S I R N) (kf : ¬ (x < y) → wp K mt Q pc' L S I R N) : wp K mt Q pc L (vL y :: vL x :: S) I R N := by
  refine wp_lcmp ha hb2 hd hp1 (wp_if_lt (by unfold InI; split <;> (try split) <;> omega) hd2 ht hp (fun h => kt ?_) (fun h => kf ?_))
  · revert h; split <;> (try split) <;> omega
  · revert h; split <;> (try split) <;> omega

theorem wp_lif_ge {x y : Int} {off : Int} {tgt pc1 : Nat} (ha : InL x) (hb2 : InL y) (hd : decode mt.2.1 pc = .ok (.lcmp, 1)) (hp1 : pc + 1 = pc1) (hd2 : decode mt.2.1 pc1 = .ok (.ifCond .ge off, 3)) (ht : (pc1 : Int) + off = (tgt : Int)) (hp : pc1 + 3 = pc') (kt : y ≤ x → wp K mt Q tgt L S I R N) (kf : ¬ (y ≤ x) → wp K mt Q pc' L S I R N) : wp K mt Q pc L (vL y :: vL x :: S) I R N := by
  refine wp_lcmp ha hb2 hd hp1 (wp_if_ge (by unfold InI; split <;> (try split) <;> omega) hd2 ht hp (fun h => kt ?_) (fun h => kf ?_))
  · revert h; split <;> (try split) <;> omega
  · revert h; split <;> (try split) <;> omega

theorem wp_lif_gt {x y : Int} {off : Int} {tgt pc1 : Nat} (ha : InL x) (hb2 : InL y) (hd : decode mt.2.1 pc = .ok (.lcmp, 1)) (hp1 : pc + 1 = pc1) (hd2 : decode mt.2.1 pc1 = .ok (.ifCond .gt off, 3)) (ht : (pc1 : Int) + off = (tgt : Int)) (hp : pc1 + 3 = pc') (kt : y < x → wp K mt Q tgt L S I R N) (kf : ¬ (y < x) → wp K mt Q pc' L S I R N) : wp K mt Q pc L (vL y :: vL x :: S) I R N := by
  refine wp_lcmp ha hb2 hd hp1 (wp_if_gt (by unfold InI; split <;> (try split) <;> omega) hd2 ht hp (fun h => kt ?_) (fun h => kf ?_))
  · revert h; split <;> (try split) <;> omega
  · revert h; split <;> (try split) <;> omega

theorem wp_lif_le {x y : Int} {off : Int} {tgt pc1 : Nat} (ha : InL x) (hb2 : InL y) (hd : decode mt.2.1 pc = .ok (.lcmp, 1)) (hp1 : pc + 1 = pc1) (hd2 : decode mt.2.1 pc1 = .ok (.ifCond .le off, 3)) (ht : (pc1 : Int) + off = (tgt : Int)) (hp : pc1 + 3 = pc') (kt : x ≤ y → wp K mt Q tgt L S I R N) (kf : ¬ (x ≤ y) → wp K mt Q pc' L S I R N) : wp K mt Q pc L (vL y :: vL x :: S) I R N := by
  refine wp_lcmp ha hb2 hd hp1 (wp_if_le (by unfold InI; split <;> (try split) <;> omega) hd2 ht hp (fun h => kt ?_) (fun h => kf ?_))
  · revert h; split <;> (try split) <;> omega
  · revert h; split <;> (try split) <;> omega

theorem wp_ireturn {x : Int} (hd : decode mt.2.1 pc = .ok (.ireturn, 1)) (hr : mt.2.2.2.1 = some .int) (hN : N = K.1) (h : Q (vI x) I R) : wp K mt Q pc L [vI x] I R N := by
  subst hN
  intro p l e Rm s m args below meth c A D ρ0 ca0 N0 QQ g H locs ls ρ ca hs
  exact g.2.2.2.2.2.2.2.2.2.2.2 pc H locs ls ρ ca L (vI x) I R ⟨by rw [hr]; trivial, hd⟩ h hs

theorem wp_lreturn {x : Int} (hd : decode mt.2.1 pc = .ok (.lreturn, 1)) (hr : mt.2.2.2.1 = some .long) (hN : N = K.1) (h : Q (vL x) I R) : wp K mt Q pc L [vL x] I R N := by
  subst hN
  intro p l e Rm s m args below meth c A D ρ0 ca0 N0 QQ g H locs ls ρ ca hs
  exact g.2.2.2.2.2.2.2.2.2.2.2 pc H locs ls ρ ca L (vL x) I R ⟨by rw [hr]; trivial, hd⟩ h hs

theorem wp_zreturn {x : Int} (hd : decode mt.2.1 pc = .ok (.ireturn, 1)) (hr : mt.2.2.2.1 = some .boolean) (hN : N = K.1) (hx : x = 0 ∨ x = 1) (h : Q (vI x) I R) : wp K mt Q pc L [vI x] I R N := by
  subst hN
  intro p l e Rm s m args below meth c A D ρ0 ca0 N0 QQ g H locs ls ρ ca hs
  exact g.2.2.2.2.2.2.2.2.2.2.2 pc H locs ls ρ ca L (vI x) I R ⟨by rw [hr]; exact hx, hd⟩ h hs
theorem wp_vreturn (hd : decode mt.2.1 pc = .ok (.return_, 1)) (hr : mt.2.2.2.1 = none) (hN : N = K.1) (h : Q none I R) : wp K mt Q pc L [] I R N := by
  subst hN
  intro p l e Rm s m args below meth c A D ρ0 ca0 N0 QQ g H locs ls ρ ca hs
  exact g.2.2.2.2.2.2.2.2.2.2.2 pc H locs ls ρ ca L none I R ⟨by rw [hr]; trivial, hd⟩ h hs

theorem wp_getI {r c0 k n idx : Nat} {C : String} {T : u_T} (hd : decode mt.2.1 pc = .ok (.getfield idx, 3)) (hc : vwCl[c0]? = some (C, T, n)) (hk : k < n) (hr : fref c0 k = false) (lk : Cond.fieldLink mt.1.cls idx (T k).1 (T k).2.1 (T k).2.2.1 ∈ TB) (ho : isO N r c0) (hp : pc + 3 = pc') (kk : wp K mt Q pc' L (vI (I r k) :: S) I R N) : wp K mt Q pc L (vR r :: S) I R N := by
  subst hp
  intro p l e Rm s m args below meth c A D ρ0 ca0 N0 QQ g H locs ls ρ ca hs
  have k9 := kk p l e Rm s m args below meth c A D ρ0 ca0 N0 QQ g H locs ls ρ ca hs
  obtain ⟨h0, hN, hsh⟩ := ho
  show W p l e Rm s m args below meth c H locs _ _ QQ (F0 m pc ls (cv ρ (vR r) :: S.map (cv ρ)))
  rw [cv_pos h0]
  refine va_get (ci := c0) (D := D) (cl := vwCl) (tys := []) (C := C) (T := T) (N := n) (ref := (T k).1) (Ts := TB) g.1 g.2.1 g.2.2.2.2.1 (cl_ws hc) g.2.2.2.1 g.2.2.2.2.2.2.1 hs.1 (r - 1) ((ws_at h0 hN).trans (by rw [cell_obj hsh])) hc k hk (g.2.2.2.2.1 _ lk) (fun _ h9 => h9) (fval_at (by rw [nfc_of hc]; exact hk)) hd ?_
  rw [fval_I hr]
  exact k9

theorem wp_getR {r c0 k n idx : Nat} {C : String} {T : u_T} (hd : decode mt.2.1 pc = .ok (.getfield idx, 3)) (hc : vwCl[c0]? = some (C, T, n)) (hk : k < n) (hr : fref c0 k = true) (lk : Cond.fieldLink mt.1.cls idx (T k).1 (T k).2.1 (T k).2.2.1 ∈ TB) (ho : isO N r c0) (hp : pc + 3 = pc') (kk : wp K mt Q pc' L (vR (R r k) :: S) I R N) : wp K mt Q pc L (vR r :: S) I R N := by
  subst hp
  intro p l e Rm s m args below meth c A D ρ0 ca0 N0 QQ g H locs ls ρ ca hs
  have k9 := kk p l e Rm s m args below meth c A D ρ0 ca0 N0 QQ g H locs ls ρ ca hs
  obtain ⟨h0, hN, hsh⟩ := ho
  show W p l e Rm s m args below meth c H locs _ _ QQ (F0 m pc ls (cv ρ (vR r) :: S.map (cv ρ)))
  rw [cv_pos h0]
  refine va_get (ci := c0) (D := D) (cl := vwCl) (tys := []) (C := C) (T := T) (N := n) (ref := (T k).1) (Ts := TB) g.1 g.2.1 g.2.2.2.2.1 (cl_ws hc) g.2.2.2.1 g.2.2.2.2.2.2.1 hs.1 (r - 1) ((ws_at h0 hN).trans (by rw [cell_obj hsh])) hc k hk (g.2.2.2.2.1 _ lk) (fun _ h9 => h9) (fval_at (by rw [nfc_of hc]; exact hk)) hd ?_
  rw [fval_R hr]
  exact k9

theorem wp_putI {r c0 k n idx : Nat} {C : String} {T : u_T} {x : Int} (hd : decode mt.2.1 pc = .ok (.putfield idx, 3)) (hc : vwCl[c0]? = some (C, T, n)) (hk : k < n) (hr : fref c0 k = false) (hf : (T k).2.2.2 = false) (hty : parseFieldDescriptor (T k).2.2.1 = some .int) (lk : Cond.fieldLink mt.1.cls idx (T k).1 (T k).2.1 (T k).2.2.1 ∈ TB) (ho : isO N r c0) (hp : pc + 3 = pc') {I' : II} (hI : I' = up2 I r k x) (kk : wp K mt Q pc' L S I' R N) : wp K mt Q pc L (vI x :: vR r :: S) I R N := by
  subst hp hI
  intro p l e Rm s m args below meth c A D ρ0 ca0 N0 QQ g H locs ls ρ ca ⟨s1, s2, s3, s4⟩
  obtain ⟨h0, hN, hsh⟩ := ho
  show W p l e Rm s m args below meth c H locs _ _ QQ (F0 m pc ls (.int (i32 x) :: cv ρ (vR r) :: S.map (cv ρ)))
  rw [cv_pos h0]
  refine va_put (ci := c0) (D := D) (cl := vwCl) (tys := []) (C := C) (T := T) (N := n) (ref := (T k).1) (Ts := TB) g.1 g.2.1 g.2.2.2.2.1 (cl_ws hc) (fty c0) (cl_ty hc) (cl_nm hc) g.2.2.2.1 g.2.2.2.2.2.2.1 s1 s2 s3 (r - 1) ((ws_at h0 hN).trans (by rw [cell_obj hsh])) hc k hk (g.2.2.2.2.1 _ lk) (fun _ h9 => h9) hf  hty rfl rfl (by simp [nfc_of hc, hk]) hd (fun H1 locs1 a1 a2 a3 => ?_)
  rw [obj_set_I hr, ws_set (I' := up2 I r k x) (R' := R) h0 (cell_obj hsh) cell_up_I] at a1 a2
  exact kk p l e Rm s m args below meth c A D ρ0 ca0 N0 QQ g H1 locs1 ls ρ ca ⟨a1, a2, a3, s4⟩

theorem wp_putZ {r c0 k n idx : Nat} {C : String} {T : u_T} {x : Int} (hz : x = 0 ∨ x = 1) (hd : decode mt.2.1 pc = .ok (.putfield idx, 3)) (hc : vwCl[c0]? = some (C, T, n)) (hk : k < n) (hr : fref c0 k = false) (hf : (T k).2.2.2 = false) (hty : parseFieldDescriptor (T k).2.2.1 = some .boolean) (lk : Cond.fieldLink mt.1.cls idx (T k).1 (T k).2.1 (T k).2.2.1 ∈ TB) (ho : isO N r c0) (hp : pc + 3 = pc') {I' : II} (hI : I' = up2 I r k x) (kk : wp K mt Q pc' L S I' R N) : wp K mt Q pc L (vI x :: vR r :: S) I R N := by
  subst hp hI
  intro p l e Rm s m args below meth c A D ρ0 ca0 N0 QQ g H locs ls ρ ca ⟨s1, s2, s3, s4⟩
  obtain ⟨h0, hN, hsh⟩ := ho
  show W p l e Rm s m args below meth c H locs _ _ QQ (F0 m pc ls (.int (i32 x) :: cv ρ (vR r) :: S.map (cv ρ)))
  rw [cv_pos h0]
  refine va_put (ci := c0) (D := D) (cl := vwCl) (tys := []) (C := C) (T := T) (N := n) (ref := (T k).1) (Ts := TB) g.1 g.2.1 g.2.2.2.2.1 (cl_ws hc) (fty c0) (cl_ty hc) (cl_nm hc) g.2.2.2.1 g.2.2.2.2.2.2.1 s1 s2 s3 (r - 1) ((ws_at h0 hN).trans (by rw [cell_obj hsh])) hc k hk (g.2.2.2.2.1 _ lk) (fun _ h9 => h9) hf  hty (by rcases hz with rfl | rfl <;> rfl) (by rcases hz with rfl | rfl <;> rfl) (by simp [nfc_of hc, hk]) hd (fun H1 locs1 a1 a2 a3 => ?_)
  rw [obj_set_I hr, ws_set (I' := up2 I r k x) (R' := R) h0 (cell_obj hsh) cell_up_I] at a1 a2
  exact kk p l e Rm s m args below meth c A D ρ0 ca0 N0 QQ g H1 locs1 ls ρ ca ⟨a1, a2, a3, s4⟩

theorem wp_putR {r c0 k n idx : Nat} {C : String} {T : u_T} {x : Nat} {ty : FieldType} (ht : (∃ o, ty = .object o) ∨ ∃ o, ty = .array o) (hd : decode mt.2.1 pc = .ok (.putfield idx, 3)) (hc : vwCl[c0]? = some (C, T, n)) (hk : k < n) (hr : fref c0 k = true) (hf : (T k).2.2.2 = false) (hty : parseFieldDescriptor (T k).2.2.1 = some ty) (lk : Cond.fieldLink mt.1.cls idx (T k).1 (T k).2.1 (T k).2.2.1 ∈ TB) (ho : isO N r c0) (hp : pc + 3 = pc') {R' : RR} (hI : R' = up2 R r k x) (kk : wp K mt Q pc' L S I R' N) : wp K mt Q pc L (vR x :: vR r :: S) I R N := by
  subst hp hI
  intro p l e Rm s m args below meth c A D ρ0 ca0 N0 QQ g H locs ls ρ ca ⟨s1, s2, s3, s4⟩
  obtain ⟨h0, hN, hsh⟩ := ho
  show W p l e Rm s m args below meth c H locs _ _ QQ (F0 m pc ls (va_rf (rfv ρ x) :: cv ρ (vR r) :: S.map (cv ρ)))
  rw [cv_pos h0]
  refine va_put (ci := c0) (D := D) (cl := vwCl) (tys := []) (C := C) (T := T) (N := n) (ref := (T k).1) (Ts := TB) g.1 g.2.1 g.2.2.2.2.1 (cl_ws hc) (fty c0) (cl_ty hc) (cl_nm hc) g.2.2.2.1 g.2.2.2.2.2.2.1 s1 s2 s3 (r - 1) ((ws_at h0 hN).trans (by rw [cell_obj hsh])) hc k hk (g.2.2.2.2.1 _ lk) (fun _ h9 => h9) hf  hty (by rcases ht with ⟨o, rfl⟩ | ⟨o, rfl⟩ <;> (unfold rfv; split <;> rfl)) (by rcases ht with ⟨o, rfl⟩ | ⟨o, rfl⟩ <;> (unfold rfv; split <;> rfl)) (by simp [nfc_of hc, hk]) hd (fun H1 locs1 a1 a2 a3 => ?_)
  rw [obj_set_R hr, ws_set (I' := I) (R' := up2 R r k x) h0 (cell_obj hsh) cell_up_R] at a1 a2
  exact kk p l e Rm s m args below meth c A D ρ0 ca0 N0 QQ g H1 locs1 ls ρ ca ⟨a1, a2, a3, s4⟩

theorem wp_putFI {r c0 k n idx : Nat} {C : String} {T : u_T} {x : Int} (hd : decode mt.2.1 pc = .ok (.putfield idx, 3)) (hc : vwCl[c0]? = some (C, T, n)) (hk : k < n) (hr : fref c0 k = false) (hf : (T k).2.2.2 = true) (hin : mt.1.name = "<init>") (hdc : (T k).1 = mt.1.cls) (hty : parseFieldDescriptor (T k).2.2.1 = some .int) (lk : Cond.fieldLink mt.1.cls idx (T k).1 (T k).2.1 (T k).2.2.1 ∈ TB) (ho : isO N r c0) (hp : pc + 3 = pc') {I' : II} (hI : I' = up2 I r k x) (kk : wp K mt Q pc' L S I' R N) : wp K mt Q pc L (vI x :: vR r :: S) I R N := by
  subst hp hI
  intro p l e Rm s m args below meth c A D ρ0 ca0 N0 QQ g H locs ls ρ ca ⟨s1, s2, s3, s4⟩
  obtain ⟨h0, hN, hsh⟩ := ho
  show W p l e Rm s m args below meth c H locs _ _ QQ (F0 m pc ls (.int (i32 x) :: cv ρ (vR r) :: S.map (cv ρ)))
  rw [cv_pos h0]
  refine va_putF (ci := c0) (D := D) (cl := vwCl) (tys := []) (C := C) (T := T) (N := n) (ref := (T k).1) (Ts := TB) g.1 g.2.1 g.2.2.2.2.1 (cl_ws hc) (fty c0) (cl_ty hc) (cl_nm hc) g.2.2.2.1 g.2.2.2.2.2.2.1 s1 s2 s3 (r - 1) ((ws_at h0 hN).trans (by rw [cell_obj hsh])) hc k hk (g.2.2.2.2.1 _ lk) (fun _ h9 => h9) hf (g.2.2.2.2.2.2.2.2.1.1.trans hin) hdc hty rfl rfl (by simp [nfc_of hc, hk]) hd (fun H1 locs1 a1 a2 a3 => ?_)
  rw [obj_set_I hr, ws_set (I' := up2 I r k x) (R' := R) h0 (cell_obj hsh) cell_up_I] at a1 a2
  exact kk p l e Rm s m args below meth c A D ρ0 ca0 N0 QQ g H1 locs1 ls ρ ca ⟨a1, a2, a3, s4⟩

theorem wp_putFZ {r c0 k n idx : Nat} {C : String} {T : u_T} {x : Int} (hz : x = 0 ∨ x = 1) (hd : decode mt.2.1 pc = .ok (.putfield idx, 3)) (hc : vwCl[c0]? = some (C, T, n)) (hk : k < n) (hr : fref c0 k = false) (hf : (T k).2.2.2 = true) (hin : mt.1.name = "<init>") (hdc : (T k).1 = mt.1.cls) (hty : parseFieldDescriptor (T k).2.2.1 = some .boolean) (lk : Cond.fieldLink mt.1.cls idx (T k).1 (T k).2.1 (T k).2.2.1 ∈ TB) (ho : isO N r c0) (hp : pc + 3 = pc') {I' : II} (hI : I' = up2 I r k x) (kk : wp K mt Q pc' L S I' R N) : wp K mt Q pc L (vI x :: vR r :: S) I R N := by
  subst hp hI
  intro p l e Rm s m args below meth c A D ρ0 ca0 N0 QQ g H locs ls ρ ca ⟨s1, s2, s3, s4⟩
  obtain ⟨h0, hN, hsh⟩ := ho
  show W p l e Rm s m args below meth c H locs _ _ QQ (F0 m pc ls (.int (i32 x) :: cv ρ (vR r) :: S.map (cv ρ)))
  rw [cv_pos h0]
  refine va_putF (ci := c0) (D := D) (cl := vwCl) (tys := []) (C := C) (T := T) (N := n) (ref := (T k).1) (Ts := TB) g.1 g.2.1 g.2.2.2.2.1 (cl_ws hc) (fty c0) (cl_ty hc) (cl_nm hc) g.2.2.2.1 g.2.2.2.2.2.2.1 s1 s2 s3 (r - 1) ((ws_at h0 hN).trans (by rw [cell_obj hsh])) hc k hk (g.2.2.2.2.1 _ lk) (fun _ h9 => h9) hf (g.2.2.2.2.2.2.2.2.1.1.trans hin) hdc hty (by rcases hz with rfl | rfl <;> rfl) (by rcases hz with rfl | rfl <;> rfl) (by simp [nfc_of hc, hk]) hd (fun H1 locs1 a1 a2 a3 => ?_)
  rw [obj_set_I hr, ws_set (I' := up2 I r k x) (R' := R) h0 (cell_obj hsh) cell_up_I] at a1 a2
  exact kk p l e Rm s m args below meth c A D ρ0 ca0 N0 QQ g H1 locs1 ls ρ ca ⟨a1, a2, a3, s4⟩

theorem wp_putFR {r c0 k n idx : Nat} {C : String} {T : u_T} {x : Nat} {ty : FieldType} (ht : (∃ o, ty = .object o) ∨ ∃ o, ty = .array o) (hd : decode mt.2.1 pc = .ok (.putfield idx, 3)) (hc : vwCl[c0]? = some (C, T, n)) (hk : k < n) (hr : fref c0 k = true) (hf : (T k).2.2.2 = true) (hin : mt.1.name = "<init>") (hdc : (T k).1 = mt.1.cls) (hty : parseFieldDescriptor (T k).2.2.1 = some ty) (lk : Cond.fieldLink mt.1.cls idx (T k).1 (T k).2.1 (T k).2.2.1 ∈ TB) (ho : isO N r c0) (hp : pc + 3 = pc') {R' : RR} (hI : R' = up2 R r k x) (kk : wp K mt Q pc' L S I R' N) : wp K mt Q pc L (vR x :: vR r :: S) I R N := by
  subst hp hI
  intro p l e Rm s m args below meth c A D ρ0 ca0 N0 QQ g H locs ls ρ ca ⟨s1, s2, s3, s4⟩
  obtain ⟨h0, hN, hsh⟩ := ho
  show W p l e Rm s m args below meth c H locs _ _ QQ (F0 m pc ls (va_rf (rfv ρ x) :: cv ρ (vR r) :: S.map (cv ρ)))
  rw [cv_pos h0]
  refine va_putF (ci := c0) (D := D) (cl := vwCl) (tys := []) (C := C) (T := T) (N := n) (ref := (T k).1) (Ts := TB) g.1 g.2.1 g.2.2.2.2.1 (cl_ws hc) (fty c0) (cl_ty hc) (cl_nm hc) g.2.2.2.1 g.2.2.2.2.2.2.1 s1 s2 s3 (r - 1) ((ws_at h0 hN).trans (by rw [cell_obj hsh])) hc k hk (g.2.2.2.2.1 _ lk) (fun _ h9 => h9) hf (g.2.2.2.2.2.2.2.2.1.1.trans hin) hdc hty (by rcases ht with ⟨o, rfl⟩ | ⟨o, rfl⟩ <;> (unfold rfv; split <;> rfl)) (by rcases ht with ⟨o, rfl⟩ | ⟨o, rfl⟩ <;> (unfold rfv; split <;> rfl)) (by simp [nfc_of hc, hk]) hd (fun H1 locs1 a1 a2 a3 => ?_)
  rw [obj_set_R hr, ws_set (I' := I) (R' := up2 R r k x) h0 (cell_obj hsh) cell_up_R] at a1 a2
  exact kk p l e Rm s m args below meth c A D ρ0 ca0 N0 QQ g H1 locs1 ls ρ ca ⟨a1, a2, a3, s4⟩

theorem wp_iald {r n : Nat} {i : Int} (hd : decode mt.2.1 pc = .ok (.iaload, 1)) (ho : isA N r 1 n) (hi : 0 ≤ i ∧ i < (n : Int)) (hp : pc + 1 = pc') (kk : wp K mt Q pc' L (vI (I r i.toNat) :: S) I R N) : wp K mt Q pc L (vI i :: vR r :: S) I R N := by
  subst hp
  intro p l e Rm s m args below meth c A D ρ0 ca0 N0 QQ g H locs ls ρ ca hs
  have k9 := kk p l e Rm s m args below meth c A D ρ0 ca0 N0 QQ g H locs ls ρ ca hs
  obtain ⟨h0, hN, hsh⟩ := ho
  have hn : n ≤ 1000 := by have := sh_ok r; rw [hsh] at this; exact this
  have hka := hs.2.2.2.2.1 r h0 hN (by rw [hsh]; show ¬ 1 = 0; decide)
  rw [hsh] at hka
  show W p l e Rm s m args below meth c H locs _ _ QQ (F0 m pc ls (.int (i32 i) :: cv ρ (vR r) :: S.map (cv ρ)))
  rw [cv_pos h0]
  refine va_iald (D := D) (cl := vwCl) (tys := [(ca r, aty 1)]) (n := n) (f := fun j => i32 (I r j)) g.1 g.2.1 hka hs.1 (r - 1) 0 ((ws_at h0 hN).trans (by rw [cell_int hsh (by decide) (by decide)])) rfl (i32_in hi.1 hi.2 hn) hd ?_
  rw [i32_cl hi.1 (by omega)]
  exact k9

theorem wp_zald {r n : Nat} {i : Int} (hd : decode mt.2.1 pc = .ok (.baload, 1)) (ho : isA N r 2 n) (hi : 0 ≤ i ∧ i < (n : Int)) (hp : pc + 1 = pc') (kk : wp K mt Q pc' L (vI (I r i.toNat) :: S) I R N) : wp K mt Q pc L (vI i :: vR r :: S) I R N := by
  subst hp
  intro p l e Rm s m args below meth c A D ρ0 ca0 N0 QQ g H locs ls ρ ca hs
  have k9 := kk p l e Rm s m args below meth c A D ρ0 ca0 N0 QQ g H locs ls ρ ca hs
  obtain ⟨h0, hN, hsh⟩ := ho
  have hn : n ≤ 1000 := by have := sh_ok r; rw [hsh] at this; exact this
  have hka := hs.2.2.2.2.1 r h0 hN (by rw [hsh]; show ¬ 2 = 0; decide)
  rw [hsh] at hka
  show W p l e Rm s m args below meth c H locs _ _ QQ (F0 m pc ls (.int (i32 i) :: cv ρ (vR r) :: S.map (cv ρ)))
  rw [cv_pos h0]
  refine va_zald (D := D) (cl := vwCl) (tys := [(ca r, aty 2)]) (n := n) (f := fun j => i32 (I r j)) g.1 g.2.1 hka hs.1 (r - 1) 0 ((ws_at h0 hN).trans (by rw [cell_int hsh (by decide) (by decide)])) rfl (i32_in hi.1 hi.2 hn) hd ?_
  rw [i32_cl hi.1 (by omega)]
  exact k9

theorem i32_upd {I : II} {r : Nat} {i : Nat} {x : Int} : upd (fun j => i32 (I r j)) i (i32 x) = fun j => i32 (up2 I r i x r j) := by
  funext j
  unfold upd up2
  by_cases h : j = i
  · rw [if_pos h, if_pos ⟨rfl, h⟩]
  · rw [if_neg h, if_neg (fun q => h q.2)]
theorem nar_z {x : Int} (h : x = 0 ∨ x = 1) : vp_nar .boolean (i32 x) = i32 x := by rcases h with rfl | rfl <;> rfl

theorem wp_iast {r n : Nat} {i x : Int} (hd : decode mt.2.1 pc = .ok (.iastore, 1)) (ho : isA N r 1 n) (hi : 0 ≤ i ∧ i < (n : Int)) (hp : pc + 1 = pc') {I' : II} (hI : I' = up2 I r i.toNat x) (kk : wp K mt Q pc' L S I' R N) : wp K mt Q pc L (vI x :: vI i :: vR r :: S) I R N := by
  subst hp hI
  intro p l e Rm s m args below meth c A D ρ0 ca0 N0 QQ g H locs ls ρ ca ⟨s1, s2, s3, s4, s5, s6⟩
  obtain ⟨h0, hN, hsh⟩ := ho
  have hn : n ≤ 1000 := by have := sh_ok r; rw [hsh] at this; exact this
  have hka := s5 r h0 hN (by rw [hsh]; show ¬ 1 = 0; decide)
  rw [hsh] at hka
  show W p l e Rm s m args below meth c H locs _ _ QQ (F0 m pc ls (.int (i32 x) :: .int (i32 i) :: cv ρ (vR r) :: S.map (cv ρ)))
  rw [cv_pos h0]
  refine va_iast (D := D) (cl := vwCl) (tys := [(ca r, aty 1)]) (n := n) (f := fun j => i32 (I r j)) g.1 g.2.1 hka s1 s2 s3 (r - 1) 0 ((ws_at h0 hN).trans (by rw [cell_int hsh (by decide) (by decide)])) rfl (i32_in hi.1 hi.2 hn) hd (fun H1 locs1 a1 a2 a3 => ?_)
  rw [i32_cl hi.1 (by omega), i32_upd, ws_set (I' := up2 I r i.toNat x) (R' := R) h0 (cell_int hsh (by decide) (by decide)) cell_up_I] at a1 a2
  exact kk p l e Rm s m args below meth c A D ρ0 ca0 N0 QQ g H1 locs1 ls ρ ca ⟨a1, a2, a3, s4, s5, s6⟩

theorem wp_zast {r n : Nat} {i x : Int} (hd : decode mt.2.1 pc = .ok (.bastore, 1)) (ho : isA N r 2 n) (hi : 0 ≤ i ∧ i < (n : Int)) (hz : x = 0 ∨ x = 1) (hp : pc + 1 = pc') {I' : II} (hI : I' = up2 I r i.toNat x) (kk : wp K mt Q pc' L S I' R N) : wp K mt Q pc L (vI x :: vI i :: vR r :: S) I R N := by
  subst hp hI
  intro p l e Rm s m args below meth c A D ρ0 ca0 N0 QQ g H locs ls ρ ca ⟨s1, s2, s3, s4, s5, s6⟩
  obtain ⟨h0, hN, hsh⟩ := ho
  have hn : n ≤ 1000 := by have := sh_ok r; rw [hsh] at this; exact this
  have hka := s5 r h0 hN (by rw [hsh]; show ¬ 2 = 0; decide)
  rw [hsh] at hka
  show W p l e Rm s m args below meth c H locs _ _ QQ (F0 m pc ls (.int (i32 x) :: .int (i32 i) :: cv ρ (vR r) :: S.map (cv ρ)))
  rw [cv_pos h0]
  refine va_zast (D := D) (cl := vwCl) (tys := [(ca r, aty 2)]) (n := n) (f := fun j => i32 (I r j)) g.1 g.2.1 hka s1 s2 s3 (r - 1) 0 ((ws_at h0 hN).trans (by rw [cell_int hsh (by decide) (by decide)])) rfl (i32_in hi.1 hi.2 hn) hd (fun H1 locs1 a1 a2 a3 => ?_)
  rw [i32_cl hi.1 (by omega), nar_z hz, i32_upd, ws_set (I' := up2 I r i.toNat x) (R' := R) h0 (cell_int hsh (by decide) (by decide)) cell_up_I] at a1 a2
  exact kk p l e Rm s m args below meth c A D ρ0 ca0 N0 QQ g H1 locs1 ls ρ ca ⟨a1, a2, a3, s4, s5, s6⟩

end RULES
end
section
/-! contracts in the abstract words, and calls -/
abbrev ST : Type := II × RR × (Nat → Nat) × (Nat → ClassId)
def wldU (D : va_G) (ρ : Nat → Nat) (ca : Nat → ClassId) (I : II) (R : RR) (N : Nat) (U : State) : Prop := va_P D vwCl (wsW ρ ca I R N) U.heap ∧ va_K D vwCl [] U ∧ arK D ca N U ∧ va_D (fun _ => True) (wsW ρ ca I R N) ∧ nbw U
def bwl (D : va_G) (ρ : Nat → Nat) (ca : Nat → ClassId) (N M : Nat) (A : Nat → Prop) (u : ST) (t : State) : Prop := va_P D vwCl (wsW u.2.2.1 u.2.2.2 u.1 u.2.1 M) t.heap ∧ va_K D vwCl [] t ∧ arK D u.2.2.2 M t ∧ va_D A (wsW u.2.2.1 u.2.2.2 u.1 u.2.1 M) ∧ agr u.2.2.1 ρ N M ∧ agr u.2.2.2 ca N M
def QC (ret : Option FieldType) (Q : QT) (D : va_G) (ρ : Nat → Nat) (ca : Nat → ClassId) (N M : Nat) (A : Nat → Prop) : Array Value → State → Outcome → State → Prop :=
  if ret = none then va_Qv (fun u : ST => Q none u.1 u.2.1) (bwl D ρ ca N M A) A
  else if ret = some .long then va_Ql (fun (r : Int64) (u : ST) => ∃ x, r = i64 x ∧ Q (vL x) u.1 u.2.1) (bwl D ρ ca N M A) A
  else va_Qi (fun (r : Int32) (u : ST) => ∃ x, r = i32 x ∧ okret ret (vI x) ∧ Q (vI x) u.1 u.2.1) (bwl D ρ ca N M A) A
def rmO (mt : MI) (N M : Nat) : Room := { frames := mt.2.2.2.2.1, cells := M - N, slots := cum M - cum N, locals := mt.2.2.2.2.2 }
/-- called with these values over this heap (N cells), the method returns with Q, and M cells are there -/
def Spec (mt : MI) (as : List AV) (I : II) (R : RR) (N M : Nat) (Q : QT) : Prop :=
  ∀ (l : Launch) (D : va_G) (ρ : Nat → Nat) (ca : Nat → ClassId) (sz : Nat), Met l mt.1 (wds mt) (rmO mt N M) (va_Pc (as.map (cv ρ)) (fun U => U.heap.size = sz ∧ wldU D ρ ca I R N U)) (QC mt.2.2.2.1 Q D ρ ca N M (va_A (wsW ρ ca I R N) sz)) (M - N) (cum M - cum N) (va_A (wsW ρ ca I R N) sz)
def layL : List AV → List AV
  | [] => []
  | some (.inr (.inl x)) :: vs => some (.inr (.inl x)) :: none :: layL vs
  | v :: vs => v :: layL vs
def entL (n : Nat) (as : List AV) : List AV := layL as ++ List.replicate (n - (layL as).length) none
theorem lay_mem {ρ : Nat → Nat} : ∀ (as : List AV) (i k : Nat) (v : Int ⊕ (Int ⊕ Nat)), (layL as)[k]? = some (some v) → (i + k, cv ρ (some v)) ∈ lv_args i (as.map (cv ρ))
  | [], i, k, v, h => by simp [layL] at h
  | some (.inr (.inl x)) :: vs, i, 0, v, h => by
    simp [layL] at h
    subst h
    exact List.mem_cons_self
  | some (.inr (.inl x)) :: vs, i, 1, v, h => by simp [layL] at h
  | some (.inr (.inl x)) :: vs, i, k + 2, v, h => by
    have h1 : (layL vs)[k]? = some (some v) := by simpa [layL] using h
    refine List.mem_cons_of_mem _ ?_
    have := lay_mem (ρ := ρ) vs (i + 2) k v h1
    rw [show i + (k + 2) = i + 2 + k by omega]
    exact this
  | some (.inl x) :: vs, i, 0, v, h => by
    simp [layL] at h
    subst h
    exact List.mem_cons_self
  | some (.inl x) :: vs, i, k + 1, v, h => by
    have h1 : (layL vs)[k]? = some (some v) := by simpa [layL] using h
    refine List.mem_cons_of_mem _ ?_
    have := lay_mem (ρ := ρ) vs (i + 1) k v h1
    rw [show i + (k + 1) = i + 1 + k by omega]
    exact this
  | some (.inr (.inr r)) :: vs, i, 0, v, h => by
    simp [layL] at h
    subst h
    exact List.mem_cons_self
  | some (.inr (.inr r)) :: vs, i, k + 1, v, h => by
    have h1 : (layL vs)[k]? = some (some v) := by simpa [layL] using h
    refine List.mem_cons_of_mem _ ?_
    have := lay_mem (ρ := ρ) vs (i + 1) k v h1
    rw [show i + (k + 1) = i + 1 + k by omega]
    have hc : ¬ (cv ρ (some (.inr (.inr r)))).category = 2 := by
      have := cv_catR (ρ := ρ) (r := r)
      rw [show cv ρ (some (.inr (.inr r))) = cv ρ (vR r) from rfl]
      omega
    rw [if_neg hc]
    exact this
  | none :: vs, i, 0, v, h => by simp [layL] at h
  | none :: vs, i, k + 1, v, h => by
    have h1 : (layL vs)[k]? = some (some v) := by simpa [layL] using h
    refine List.mem_cons_of_mem _ ?_
    have := lay_mem (ρ := ρ) vs (i + 1) k v h1
    rw [show i + (k + 1) = i + 1 + k by omega]
    exact this
theorem lay_len {ρ : Nat → Nat} : ∀ as : List AV, (lg_sl (as.map (cv ρ))).length = (layL as).length
  | [] => rfl
  | some (.inr (.inl x)) :: vs => by
    have := lay_len (ρ := ρ) vs
    show ([Slot.val (cv ρ (some (.inr (.inl x)))), Slot.second] ++ lg_sl (vs.map (cv ρ))).length = _
    rw [List.length_append, this]
    show 2 + _ = (layL vs).length + 1 + 1
    omega
  | some (.inl x) :: vs => by
    have := lay_len (ρ := ρ) vs
    show ([Slot.val (cv ρ (some (.inl x)))] ++ lg_sl (vs.map (cv ρ))).length = _
    rw [List.length_append, this]
    show 1 + _ = (layL vs).length + 1
    omega
  | some (.inr (.inr r)) :: vs => by
    have := lay_len (ρ := ρ) vs
    have hc : ¬ (cv ρ (some (.inr (.inr r)))).category = 2 := by
      have := cv_catR (ρ := ρ) (r := r)
      rw [show cv ρ (some (.inr (.inr r))) = cv ρ (vR r) from rfl]
      omega
    show ((if (cv ρ (some (.inr (.inr r)))).category = 2 then [Slot.val (cv ρ (some (.inr (.inr r)))), .second] else [.val (cv ρ (some (.inr (.inr r))))]) ++ lg_sl (vs.map (cv ρ))).length = _
    rw [if_neg hc, List.length_append, this]
    show 1 + _ = (layL vs).length + 1
    omega
  | none :: vs => by
    have := lay_len (ρ := ρ) vs
    show ([Slot.val (cv ρ none)] ++ lg_sl (vs.map (cv ρ))).length = _
    rw [List.length_append, this]
    show 1 + _ = (layL vs).length + 1
    omega
theorem ent_LR {ρ : Nat → Nat} {ls : Array Slot} {n : Nat} {as : List AV} (h : lv_has ls n (lv_args 0 (as.map (cv ρ)))) : LR ρ ls n (entL n as) := by
  refine ⟨h.1, h.2.1, fun k v hk => ?_⟩
  unfold entL at hk
  by_cases hl : k < (layL as).length
  · rw [List.getElem?_append_left hl] at hk
    have := h.2.2 _ (lay_mem (ρ := ρ) as 0 k v hk)
    rw [show (0 + k, cv ρ (some v)).1 = k from Nat.zero_add k] at this
    exact this
  · rw [List.getElem?_append_right (by omega), List.getElem?_replicate] at hk
    split at hk
    · cases hk
    · cases hk
theorem okret_n {ret : Option FieldType} (h : okret ret none) : ret = none := by
  cases ret with
  | none => rfl
  | some ty => cases ty <;> simp [okret] at h
theorem okret_i {ret : Option FieldType} {x : Int} (h : okret ret (vI x)) : ret = some .int ∨ (ret = some .boolean ∧ (x = 0 ∨ x = 1)) := by
  cases ret with
  | none => simp [okret, vI] at h
  | some ty => cases ty <;> first | exact Or.inl rfl | exact Or.inr ⟨rfl, h⟩ | (simp [okret, vI] at h)
theorem okret_l {ret : Option FieldType} {x : Int} (h : okret ret (vL x)) : ret = some .long := by
  cases ret with
  | none => simp [okret, vL] at h
  | some ty => cases ty <;> first | rfl | (simp [okret, vL] at h)
theorem okret_r {ret : Option FieldType} {x : Nat} (h : okret ret (vR x)) : False := by
  cases ret with
  | none => simp [okret, vR] at h
  | some ty => cases ty <;> simp [okret, vR] at h
theorem arK.moved {D : va_G} {ca : Nat → ClassId} {N : Nat} {u U : State} (hvm : u.vm.Alike U.vm) (h : arK D ca N u) : arK D ca N U := fun i h0 h1 h2 => va_K.moved hvm (h i h0 h1 h2)
set_option maxHeartbeats 4000000 in
theorem Spec_of_wp {mt : MI} {as L : List AV} {I : II} {R : RR} {N M : Nat} {Q : QT} (hy : plainName mt.1.cls = true) (hL : entL mt.2.2.1 as = L) (hlen : (layL as).length ≤ mt.2.2.1) (hNM : N ≤ M) (hM : M < 1000) (h : wp (M, 0, fun _ => 0) mt Q 0 L [] I R N) : Spec mt as I R N M Q := by
  intro l D ρ ca sz
  refine Met.ofW (cc := mt.2.1) (maxL := mt.2.2.1) (ret := mt.2.2.2.1) hy rfl ?_
  intro p e s m args below meth c s₁ B hml hv
  obtain ⟨rfl, hsz, hP, hK, hAr, hD0, hNb⟩ := hv
  have hts := atoms_spec (ws := wds mt) B.pre
  have hown : s.vm.findClass mt.1.cls = some m.cls := findClass_of_methodNamed B.named
  have hnm : meth.name = mt.1.name := (name_of_methodNamed B.named B.method).1
  have hlocks : meth.locks = false := B.notSynchronized
  have hr := B.returns
  have hx := B.exec
  have hb := B.bytes
  subst hsz
  have hD := hD0.self (sz := s.heap.size)
  have hl := lv_entry (as.map (cv ρ)) (n := mt.2.2.1) (by rw [lay_len]; exact hlen)
  rw [lg_entry_eq]
  generalize (lg_sl (as.map (cv ρ)) ++ List.replicate (mt.2.2.1 - (lg_sl (as.map (cv ρ))).length) Slot.unset).toArray = ls at hl ⊢
  have hLR : LR ρ ls mt.2.2.1 L := by rw [← hL]; exact ent_LR hl
  have h1 := h p l e (rmO mt N M) s m (as.map (cv ρ)).toArray below meth c (va_A (wsW ρ ca I R N) s.heap.size) D ρ ca N (MQ below (QC mt.2.2.2.1 Q D ρ ca N M (va_A (wsW ρ ca I R N) s.heap.size)) (as.map (cv ρ)).toArray s (M - N) (cum M - cum N) (va_A (wsW ρ ca I R N) s.heap.size))
    ⟨hx, hb, hml, hown, fun w hw => hts w (List.mem_cons_of_mem _ hw), fun q h => Or.inr h, hK, ⟨Nat.le_refl _, Nat.le_refl _, Nat.le_refl _, Nat.le_refl _⟩, ⟨hnm, hNb⟩, Or.inl rfl, hM, ?_⟩ s.heap [] ls ρ ca ⟨hP, hD, va_S.rf, hLR, hAr, fun _ _ => rfl, fun _ _ => rfl, Nat.le_refl _⟩
  · rw [Nat.sub_self, Nat.sub_self] at h1
    exact h1
  · intro pc H locs ls' ρ' ca' L' rv I' R' hra hq hs
    obtain ⟨hok, hdec⟩ := hra
    obtain ⟨a1, a2, a3, -, a5, a6, a7, -⟩ := hs
    have fin : ∀ t : State, t.heap = H → s.WarmedH t.vm → bwl D ρ ca N M (va_A (wsW ρ ca I R N) s.heap.size) (I', R', ρ', ca') t := fun t ht hW => ⟨by rw [ht]; exact a1, va_K.moved hW.alike hK, arK.moved hW.alike a5, a2, a6, a7⟩
    rcases rv with _ | x | x | x
    · have hr0 := okret_n hok
      refine W.vret hx hb (hr.trans hr0) (fun t ht hW => ?_) a3.2.2 hdec hlocks
      unfold QC
      rw [if_pos hr0]
      exact ⟨⟨(I', R', ρ', ca'), rfl, hq, fin t ht hW⟩, a3.F ht⟩
    · rcases okret_i hok with hr0 | ⟨hr0, hx01⟩
      · refine W.iret (v := i32 x) hx hb (hr.trans hr0) (fun t ht hW => ?_) a3.2.2 hdec hlocks
        unfold QC
        rw [if_neg (by rw [hr0]; decide), if_neg (by rw [hr0]; decide)]
        exact ⟨⟨i32 x, (I', R', ρ', ca'), rfl, ⟨x, rfl, hok, hq⟩, fin t ht hW⟩, a3.F ht⟩
      · refine W.zret (v := i32 x) (ty := .boolean) hx hb (hr.trans hr0) (by rcases hx01 with rfl | rfl <;> rfl) (fun t ht hW => ?_) a3.2.2 hdec hlocks
        unfold QC
        rw [if_neg (by rw [hr0]; decide), if_neg (by rw [hr0]; decide)]
        exact ⟨⟨i32 x, (I', R', ρ', ca'), rfl, ⟨x, rfl, hok, hq⟩, fin t ht hW⟩, a3.F ht⟩
    · have hr0 := okret_l hok
      refine W.lret (v := i64 x) hx hb (hr.trans hr0) (fun t ht hW => ?_) a3.2.2 hdec hlocks
      unfold QC
      rw [if_neg (by rw [hr0]; decide), if_pos hr0]
      exact ⟨⟨i64 x, (I', R', ρ', ca'), rfl, ⟨x, rfl, hq⟩, fin t ht hW⟩, a3.F ht⟩
    · exact (okret_r hok).elim
/-! calls -/
def okv (N M : Nat) (v : AV) : Prop := match v with
  | some (.inr (.inr r)) => r ≤ N ∨ M < r
  | _ => True
def okP (N M : Nat) (L : List AV) : Prop := ∀ v ∈ L, okv N M v
theorem okP_nil {N M : Nat} : okP N M [] := fun _ h => by cases h
theorem okP_cons {N M : Nat} {v : AV} {L : List AV} (h : okv N M v) (h2 : okP N M L) : okP N M (v :: L) := fun w hw => (List.mem_cons.mp hw).elim (fun e => e ▸ h) (h2 w)
theorem okP_eq {N : Nat} {L : List AV} : okP N N L := fun v _ => by
  rcases v with _ | x | x | r
  · trivial
  · trivial
  · trivial
  · show r ≤ N ∨ N < r
    omega
theorem cv_agr {ρ ρ' : Nat → Nat} {N M : Nat} {v : AV} (h : agr ρ' ρ N M) (hv : okv N M v) : cv ρ' v = cv ρ v := by
  rcases v with _ | x | x | r
  · rfl
  · rfl
  · rfl
  · show va_rf (rfv ρ' r) = va_rf (rfv ρ r)
    unfold rfv
    rw [h r hv]
theorem map_agr {ρ ρ' : Nat → Nat} {N M : Nat} {L : List AV} (h : agr ρ' ρ N M) (hv : okP N M L) : L.map (cv ρ') = L.map (cv ρ) := List.map_congr_left (fun v hv' => cv_agr h (hv v hv'))
theorem LR.agr {ρ ρ' : Nat → Nat} {N M : Nat} {ls : Array Slot} {nL : Nat} {L : List AV} (hl : LR ρ ls nL L) (h : agr ρ' ρ N M) (hv : okP N M L) : LR ρ' ls nL L := ⟨hl.1, hl.2.1, fun k v hk => by
  rw [cv_agr h (hv _ (List.mem_of_getElem? hk))]
  exact hl.2.2 k v hk⟩
theorem agr.trans {α : Type} {f g k : Nat → α} {N0 N M : Nat} (h0 : N0 ≤ N) (h1 : N ≤ M) (a : agr f g N M) (b : agr g k N0 N) : agr f k N0 M := fun r hr => by
  rcases hr with hr | hr
  · rw [a r (Or.inl (by omega)), b r (Or.inl hr)]
  · rw [a r (Or.inr hr), b r (Or.inr (by omega))]
def psh (rv : AV) (rest : List AV) : List AV := match rv with
  | none => rest
  | some v => some v :: rest
def catA (v : AV) : Nat := match v with
  | some (.inr (.inl _)) => 2
  | _ => 1
def catS (L : List AV) : Nat := (L.map catA).sum
theorem catS_eq {ρ : Nat → Nat} : ∀ L : List AV, ((L.map (cv ρ)).map fun v => v.category).sum = catS L
  | [] => rfl
  | v :: L => by
    have ih := catS_eq (ρ := ρ) L
    have h1 : (cv ρ v).category = catA v := by
      rcases v with _ | x | x | r
      · rfl
      · rfl
      · rfl
      · exact cv_catR
    rw [List.map_cons, List.map_cons, List.sum_cons, h1, ih]
    unfold catS
    rw [List.map_cons, List.sum_cons]
section CALL
variable {K : KT} {mt : MI} {Q : QT} {pc : Nat} {L S : List AV} {I : II} {R : RR} {N : Nat}
set_option maxHeartbeats 4000000 in
theorem call_fin {ret : Option FieldType} {Q' : QT} {M' : Nat} {rest : List AV} {p : Program} {l : Launch} {e : Env} {Rm : Room} {s : State} {m : MethodId} {args : Array Value} {below : List Frame} {meth : Method} {c : Code} {A : Nat → Prop} {D : va_G} {ρ0 : Nat → Nat} {ca0 : Nat → ClassId} {N0 : Nat} {QQ : State → Prop} {H : Heap} {locs : List Loc} {ls : Array Slot} {ρ : Nat → Nat} {ca : Nat → ClassId} {st0 : List Value} {a : Array Value}
    (g : good K mt Q p l e Rm s m args below meth c A D ρ0 ca0 N0 QQ) (hs : SM mt s A D ρ0 ca0 N0 H locs ls ρ ca L I R N) (hNM : N ≤ M') (okL : okP N M' L) (okr : okP N M' rest)
    (hrun : va_Run p l e Rm s m args below meth c H locs (N - N0) (cum N - cum N0) (M' - N) (cum M' - cum N) (F0 m pc ls st0) (rest.map (cv ρ)) (QC ret Q' D ρ ca N M' (va_A (wsW ρ ca I R N) H.size) a) (va_A (wsW ρ ca I R N) H.size))
    (kk : ∀ rv I' R', okret ret rv → Q' rv I' R' → wp K mt Q (pc + 3) L (psh rv rest) I' R' M') : W p l e Rm s m args below meth c H locs (N - N0) (cum N - cum N0) QQ (F0 m pc ls st0) := by
  obtain ⟨s1, s2, s3, s4, s5, s6, s7, s8⟩ := hs
  have hF : ∀ q, va_A (wsW ρ ca I R N) H.size q → A q := by
    intro q h
    rcases h with ⟨k, e, h⟩ | h
    · exact s2.2 k (q, e) h
    · exact g.2.2.2.2.2.1 q (Nat.le_trans s3.1 h)
  have hc1 : N - N0 + (M' - N) = M' - N0 := by omega
  have hc2 : cum N - cum N0 + (cum M' - cum N) = cum M' - cum N0 := by
    have h1 := cum_le s8
    have h2 := cum_le hNM
    omega
  have next : ∀ (rv : AV) (u : ST) (t : State) (H1 : Heap) (locs1 : List Loc), okret ret rv → Q' rv u.1 u.2.1 → t.heap = H1 → s.vm.Alike t.vm → bwl D ρ ca N M' (va_A (wsW ρ ca I R N) H.size) u t → va_S A s.heap H1 locs1 →
      W p l e Rm s m args below meth c H1 locs1 (N - N0 + (M' - N)) (cum N - cum N0 + (cum M' - cum N)) QQ (F0 m (pc + 3) ls ((psh rv rest).map (cv u.2.2.1))) := by
    intro rv u t H1 locs1 ho hq ht hvm hB hS
    obtain ⟨b1, b2, b3, b4, b5, b6⟩ := hB
    rw [ht] at b1
    rw [hc1, hc2]
    exact kk rv u.1 u.2.1 ho hq p l e Rm s m args below meth c A D ρ0 ca0 N0 QQ g H1 locs1 ls u.2.2.1 u.2.2.2 ⟨b1, b4.weaken (fun _ _ _ h => hF _ h), hS, s4.agr b5 okL, arK.moved hvm.symm b3, agr.trans s8 hNM b5 s6, agr.trans s8 hNM b6 s7, Nat.le_trans s8 hNM⟩
  unfold QC at hrun
  by_cases h0 : ret = none
  · rw [if_pos h0] at hrun
    refine va_callv hrun s3 (fun q _ h => hF q h) hF (fun u t H1 locs1 ht hvm hw hB hz hk hS => ?_)
    have := next none u t H1 locs1 (by rw [h0]; trivial) hw ht hvm hB hS
    rw [show (psh none rest).map (cv u.2.2.1) = rest.map (cv ρ) from map_agr hB.2.2.2.2.1 okr] at this
    exact this
  · rw [if_neg h0] at hrun
    by_cases h1 : ret = some .long
    · rw [if_pos h1] at hrun
      refine va_calll hrun s3 (fun q _ h => hF q h) hF (fun r u t H1 locs1 ht hvm hw hB hz hk hS => ?_)
      obtain ⟨x, rfl, hq⟩ := hw
      have := next (vL x) u t H1 locs1 (by rw [h1]; trivial) hq ht hvm hB hS
      rw [show (psh (vL x) rest).map (cv u.2.2.1) = .long (i64 x) :: rest.map (cv ρ) from congrArg (fun z => Value.long (i64 x) :: z) (map_agr hB.2.2.2.2.1 okr)] at this
      exact this
    · rw [if_neg h1] at hrun
      refine va_calli hrun s3 (fun q _ h => hF q h) hF (fun r u t H1 locs1 ht hvm hw hB hz hk hS => ?_)
      obtain ⟨x, rfl, hok, hq⟩ := hw
      have := next (vI x) u t H1 locs1 hok hq ht hvm hB hS
      rw [show (psh (vI x) rest).map (cv u.2.2.1) = .int (i32 x) :: rest.map (cv ρ) from congrArg (fun z => Value.int (i32 x) :: z) (map_agr hB.2.2.2.2.1 okr)] at this
      exact this
theorem gin {ws : List Cond} (h : ∀ w ∈ ws, w ∈ TB) : GoodIn TB ws := fun w hw => ⟨h w hw, tb_good (h w hw)⟩
theorem blind {D : va_G} {ρ : Nat → Nat} {ca : Nat → ClassId} {sz : Nat} {av : List Value} : FrameBlind (va_Pc av (fun U => U.heap.size = sz ∧ wldU D ρ ca I R N U)) := fun a U g mk q => by
  obtain ⟨q0, q1, qP, qK, qA, qD, qN⟩ := q
  exact ⟨q0, q1, qP, va_K.moved (u := U) (U := U.calling g mk a) (Vm.Alike.refl U.vm) qK, arK.moved (u := U) (U := U.calling g mk a) (Vm.Alike.refl U.vm) qA, qD, nbw.same (s := U) rfl qN⟩
/-- what a call needs of the called method's own words -/
def mOK (mt' : MI) (n : Nat) : Prop := Cond.code mt'.1 mt'.2.1 mt'.2.2.1 mt'.2.2.2.1 ∈ TB ∧ Cond.initialized mt'.1.cls ∈ TB ∧ (mt'.1.cls ≠ "java/lang/invoke/MethodHandle" ∧ mt'.1.cls ≠ "java/lang/invoke/VarHandle" ∧ (parseMethodDescriptor mt'.1.desc).map (fun d => d.parameters.length) = some n)
def fits2 (mt mt' : MI) : Prop := mt'.2.2.2.2.1 + 1 ≤ mt.2.2.2.2.1 ∧ 8 + (mt'.2.2.1 + 11) + mt'.2.2.2.2.2 ≤ mt.2.2.2.2.2
theorem wds_in {mt' : MI} {n : Nat} (h : mOK mt' n) : ∀ w ∈ wds mt', w ∈ TB := fun w hw => (List.mem_cons.mp hw).elim (fun e => e ▸ h.1) id
theorem pcok {D : va_G} {ρ : Nat → Nat} {ca : Nat → ClassId} {A : Nat → Prop} {s : State} {H : Heap} {av : List Value} (s1 : va_P D vwCl (wsW ρ ca I R N) H) (s2 : va_D A (wsW ρ ca I R N)) (s5 : arK D ca N s) (gK : va_K D vwCl [] s) (gN : nbw s) : ∀ U : State, U.heap = H → s.WarmedH U.vm → va_Pc av (fun U => U.heap.size = H.size ∧ wldU D ρ ca I R N U) av.toArray U :=
  fun U hU hW => ⟨rfl, by rw [hU], by rw [hU]; exact s1, va_K.moved hW.alike gK, arK.moved hW.alike s5, s2.weaken (fun _ _ _ _ => trivial), nbw.warm hW gN⟩
set_option maxHeartbeats 4000000 in
theorem wp_callV {mt' : MI} {as rest : List AV} {r c0 idx M' n : Nat} {T : u_T} {Q' : QT} (hsp : Spec mt' (vR r :: as) I R N M' Q') (hd : decode mt.2.1 pc = .ok (.invokevirtual idx, 3)) (hS : as.reverse ++ vR r :: rest = S)
    (lk : Cond.methodLink mt.1.cls idx mt'.1 ∈ TB) (hm : mOK mt' as.length) (hin : Cond.instanceMethod mt'.1 ∈ TB) (hse : Cond.selects mt'.1.cls mt'.1 mt'.1 ∈ TB) (ho : isO N r c0) (hc : vwCl[c0]? = some (mt'.1.cls, T, n)) (hf : fits2 mt mt') (hw : catS rest ≤ 8) (hNM : N ≤ M') (hM : M' ≤ K.1) (okL : okP N M' L) (okr : okP N M' rest)
    (kk : ∀ rv I' R', okret mt'.2.2.2.1 rv → Q' rv I' R' → wp K mt Q (pc + 3) L (psh rv rest) I' R' M') : wp K mt Q pc L S I R N := by
  subst hS
  intro p l e Rm s m args below meth c A D ρ0 ca0 N0 QQ g H locs ls ρ ca hs
  have ⟨s1, s2, s3, s4, s5, s6, s7, s8⟩ := hs
  obtain ⟨h0, hN, hsh⟩ := ho
  have hrm := g.2.2.2.2.2.2.2.1
  have c1 := cum_le s8
  have c2 := cum_le hNM
  have c3 := cum_le hM
  have hG : GoodIn TB (wsV mt.1.cls idx mt'.1.cls mt'.1 (wds mt')) := gin (fun w hw => by
    rcases List.mem_append.mp hw with h | h
    · simp only [List.mem_cons, List.not_mem_nil, or_false] at h
      rcases h with rfl | rfl | rfl | rfl
      · exact lk
      · exact hin
      · exact hse
      · exact hm.2.1
    · exact wds_in hm w h)
  refine call_fin g hs hNM okL okr (va_runV (C := mt'.1.cls) (As := as.map (cv ρ)) (b := ρ r) (rest := rest.map (cv ρ)) (Ts := TB) ⟨g.1, g.2.1, g.2.2.1, g.2.2.2.1, g.2.2.2.2.1⟩ (hsp l D ρ ca H.size) (cwV as.length g.2.2.2.2.1 hG rfl rfl rfl ⟨rfl, hm.2.2.1, hm.2.2.2.1, hm.2.2.2.2⟩ ⟨Nat.le_trans hf.1 hrm.1, Nat.le_trans hf.2 hrm.2.1⟩) ⟨blind, va_recv g.2.2.2.2.2.2.1 s1 hc ((ws_at h0 hN).trans (by rw [cell_obj hsh])), ?_⟩ rfl (List.length_map _) s4.1 ?_ (lv_room (by rw [catS_eq]; exact hw)) hd ⟨by omega, by omega⟩) kk
  · have := pcok (av := (vR r :: as).map (cv ρ)) s1 s2 s5 g.2.2.2.2.2.2.1 g.2.2.2.2.2.2.2.2.1.2
    intro U hU hW
    have := this U hU hW
    rw [show (vR r :: as).map (cv ρ) = Value.ref (ρ r) :: as.map (cv ρ) by rw [List.map_cons, cv_pos h0]] at this ⊢
    exact this
  · show (as.reverse ++ vR r :: rest).map (cv ρ) = _
    rw [List.map_append, List.map_cons, cv_pos h0, List.map_reverse]
set_option maxHeartbeats 4000000 in
theorem wp_callS {mt' : MI} {as rest : List AV} {idx M' : Nat} {Q' : QT} (hsp : Spec mt' as I R N M' Q') (hd : decode mt.2.1 pc = .ok (.invokestatic idx, 3)) (hS : as.reverse ++ rest = S)
    (lk : Cond.methodLink mt.1.cls idx mt'.1 ∈ TB) (hm : mOK mt' as.length) (hst : Cond.static mt'.1 ∈ TB) (hf : fits2 mt mt') (hw : catS rest ≤ 8) (hNM : N ≤ M') (hM : M' ≤ K.1) (okL : okP N M' L) (okr : okP N M' rest)
    (kk : ∀ rv I' R', okret mt'.2.2.2.1 rv → Q' rv I' R' → wp K mt Q (pc + 3) L (psh rv rest) I' R' M') : wp K mt Q pc L S I R N := by
  subst hS
  intro p l e Rm s m args below meth c A D ρ0 ca0 N0 QQ g H locs ls ρ ca hs
  have ⟨s1, s2, s3, s4, s5, s6, s7, s8⟩ := hs
  have hrm := g.2.2.2.2.2.2.2.1
  have c1 := cum_le s8
  have c2 := cum_le hNM
  have c3 := cum_le hM
  have hG : GoodIn TB (va_wsS mt.1.cls idx mt'.1 (wds mt')) := gin (fun w hw => by
    rcases List.mem_append.mp hw with h | h
    · simp only [List.mem_cons, List.not_mem_nil, or_false] at h
      rcases h with rfl | rfl | rfl
      · exact lk
      · exact hst
      · exact hm.2.1
    · exact wds_in hm w h)
  refine call_fin g hs hNM okL okr (va_runS (As := as.map (cv ρ)) (rest := rest.map (cv ρ)) (Ts := TB) ⟨g.1, g.2.1, g.2.2.1, g.2.2.2.1, g.2.2.2.2.1⟩ (hsp l D ρ ca H.size) (va_cwS as.length g.2.2.2.2.1 hG rfl rfl rfl ⟨hm.2.2.1, hm.2.2.2.1, hm.2.2.2.2⟩ ⟨Nat.le_trans hf.1 hrm.1, Nat.le_trans hf.2 hrm.2.1⟩) ⟨blind, pcok s1 s2 s5 g.2.2.2.2.2.2.1 g.2.2.2.2.2.2.2.2.1.2⟩ rfl (List.length_map _) s4.1 ?_ (lv_room (by rw [catS_eq]; exact hw)) hd ⟨by omega, by omega⟩) kk
  show (as.reverse ++ rest).map (cv ρ) = _
  rw [List.map_append, List.map_reverse]
set_option maxHeartbeats 4000000 in
theorem wp_callSN {mt' : MI} {as rest : List AV} {idx M' : Nat} {host : String} {Q' : QT} (hsp : Spec mt' as I R N M' Q') (hd : decode mt.2.1 pc = .ok (.invokestatic idx, 3)) (hS : as.reverse ++ rest = S)
    (lk : Cond.methodLinkNest mt.1.cls idx mt'.1 host ∈ NB) (hm : mOK mt' as.length) (hst : Cond.static mt'.1 ∈ TB) (hf : fits2 mt mt') (hw : catS rest ≤ 8) (hNM : N ≤ M') (hM : M' ≤ K.1) (okL : okP N M' L) (okr : okP N M' rest)
    (kk : ∀ rv I' R', okret mt'.2.2.2.1 rv → Q' rv I' R' → wp K mt Q (pc + 3) L (psh rv rest) I' R' M') : wp K mt Q pc L S I R N := by
  subst hS
  intro p l e Rm s m args below meth c A D ρ0 ca0 N0 QQ g H locs ls ρ ca hs
  have ⟨s1, s2, s3, s4, s5, s6, s7, s8⟩ := hs
  have hrm := g.2.2.2.2.2.2.2.1
  have c1 := cum_le s8
  have c2 := cum_le hNM
  have c3 := cum_le hM
  refine call_fin g hs hNM okL okr (va_runSN (As := as.map (cv ρ)) (rest := rest.map (cv ρ)) (Ts := TB) ⟨g.1, g.2.1, g.2.2.1, g.2.2.2.1, g.2.2.2.2.1⟩ (hsp l D ρ ca H.size) ⟨va_cnB as.length g.2.2.2.2.1 (gin (wds_in hm)) rfl rfl rfl (g.2.2.2.2.2.2.2.2.1.2.1 _ lk) (g.2.2.2.2.1 _ hm.2.1) ⟨hm.2.2.1, hm.2.2.2.1, hm.2.2.2.2⟩ ⟨Nat.le_trans hf.1 hrm.1, Nat.le_trans hf.2 hrm.2.1⟩, g.2.2.2.2.1 _ hst, trivial⟩ ⟨blind, pcok s1 s2 s5 g.2.2.2.2.2.2.1 g.2.2.2.2.2.2.2.2.1.2⟩ rfl (List.length_map _) s4.1 ?_ (lv_room (by rw [catS_eq]; exact hw)) hd ⟨by omega, by omega⟩) kk
  show (as.reverse ++ rest).map (cv ρ) = _
  rw [List.map_append, List.map_reverse]
set_option maxHeartbeats 4000000 in
theorem wp_callI {mt' : MI} {as rest : List AV} {r idx M' : Nat} {Q' : QT} (hsp : Spec mt' (vR r :: as) I R N M' Q') (hd : decode mt.2.1 pc = .ok (.invokespecial idx, 3)) (hS : as.reverse ++ vR r :: rest = S) (h0 : 0 < r)
    (lk : Cond.methodLink mt.1.cls idx mt'.1 ∈ TB) (hm : mOK mt' as.length) (hin : Cond.instanceMethod mt'.1 ∈ TB) (hnm : mt'.1.name = "<init>") (hret : mt'.2.2.2.1 = none) (hf : fits2 mt mt') (hw : catS rest ≤ 8) (hNM : N ≤ M') (hM : M' ≤ K.1) (okL : okP N M' L) (okr : okP N M' rest)
    (kk : ∀ I' R', Q' none I' R' → wp K mt Q (pc + 3) L rest I' R' M') : wp K mt Q pc L S I R N := by
  subst hS
  intro p l e Rm s m args below meth c A D ρ0 ca0 N0 QQ g H locs ls ρ ca hs
  have ⟨s1, s2, s3, s4, s5, s6, s7, s8⟩ := hs
  have hrm := g.2.2.2.2.2.2.2.1
  have c1 := cum_le s8
  have c2 := cum_le hNM
  have c3 := cum_le hM
  have hme : wds mt' = Cond.code mt'.1 mt'.2.1 mt'.2.2.1 none :: TB := by unfold wds; rw [hret]
  have hp := pcok (av := (vR r :: as).map (cv ρ)) s1 s2 s5 g.2.2.2.2.2.2.1 g.2.2.2.2.2.2.2.2.1.2
  have hsp' := hsp l D ρ ca H.size
  have hav : (vR r :: as).map (cv ρ) = Value.ref (ρ r) :: as.map (cv ρ) := by rw [List.map_cons, cv_pos h0]
  rw [hav] at hp hsp'
  refine call_fin g hs hNM okL okr (va_runI (As := as.map (cv ρ)) (b := ρ r) (rest := rest.map (cv ρ)) (Ts := TB) ⟨g.1, g.2.1, g.2.2.1, g.2.2.2.1, g.2.2.2.2.1⟩ hsp' (cwI as.length g.2.2.2.2.1 (gin (wds_in hm)) hme rfl rfl (g.2.2.2.2.1 _ hm.2.1) (g.2.2.2.2.1 _ lk) (g.2.2.2.2.1 _ hin) hnm ⟨hm.2.2.1, hm.2.2.2.1, hm.2.2.2.2⟩ ⟨Nat.le_trans hf.1 hrm.1, Nat.le_trans hf.2 hrm.2.1⟩) ⟨blind, hp⟩ rfl (List.length_map _) s4.1 ?_ (lv_room (by rw [catS_eq]; exact hw)) hd ⟨by omega, by omega⟩) (fun rv I' R' ho hq => ?_)
  · show (as.reverse ++ vR r :: rest).map (cv ρ) = _
    rw [List.map_append, List.map_cons, cv_pos h0, List.map_reverse]
  · rw [hret] at ho
    rcases rv with _ | x | x | x
    · exact kk I' R' hq
    · rcases okret_i ho with h | ⟨h, -⟩ <;> cases h
    · have := okret_l ho; cases this
    · exact (okret_r ho).elim
set_option maxHeartbeats 4000000 in
theorem wp_callIN {mt' : MI} {as rest : List AV} {r idx M' : Nat} {host : String} {Q' : QT} (hsp : Spec mt' (vR r :: as) I R N M' Q') (hd : decode mt.2.1 pc = .ok (.invokespecial idx, 3)) (hS : as.reverse ++ vR r :: rest = S) (h0 : 0 < r)
    (lk : Cond.methodLinkNest mt.1.cls idx mt'.1 host ∈ NB) (hm : mOK mt' as.length) (hin : Cond.instanceMethod mt'.1 ∈ TB) (hnm : mt'.1.name = "<init>") (hret : mt'.2.2.2.1 = none) (hf : fits2 mt mt') (hw : catS rest ≤ 8) (hNM : N ≤ M') (hM : M' ≤ K.1) (okL : okP N M' L) (okr : okP N M' rest)
    (kk : ∀ I' R', Q' none I' R' → wp K mt Q (pc + 3) L rest I' R' M') : wp K mt Q pc L S I R N := by
  subst hS
  intro p l e Rm s m args below meth c A D ρ0 ca0 N0 QQ g H locs ls ρ ca hs
  have ⟨s1, s2, s3, s4, s5, s6, s7, s8⟩ := hs
  have hrm := g.2.2.2.2.2.2.2.1
  have c1 := cum_le s8
  have c2 := cum_le hNM
  have c3 := cum_le hM
  have hme : wds mt' = Cond.code mt'.1 mt'.2.1 mt'.2.2.1 none :: TB := by unfold wds; rw [hret]
  have hp := pcok (av := (vR r :: as).map (cv ρ)) s1 s2 s5 g.2.2.2.2.2.2.1 g.2.2.2.2.2.2.2.2.1.2
  have hsp' := hsp l D ρ ca H.size
  have hav : (vR r :: as).map (cv ρ) = Value.ref (ρ r) :: as.map (cv ρ) := by rw [List.map_cons, cv_pos h0]
  rw [hav] at hp hsp'
  refine call_fin g hs hNM okL okr (va_runIN (As := as.map (cv ρ)) (b := ρ r) (rest := rest.map (cv ρ)) (Ts := TB) ⟨g.1, g.2.1, g.2.2.1, g.2.2.2.1, g.2.2.2.2.1⟩ hsp' ⟨va_cnB as.length g.2.2.2.2.1 (gin (wds_in hm)) hme rfl rfl (g.2.2.2.2.2.2.2.2.1.2.1 _ lk) (g.2.2.2.2.1 _ hm.2.1) ⟨hm.2.2.1, hm.2.2.2.1, hm.2.2.2.2⟩ ⟨Nat.le_trans hf.1 hrm.1, Nat.le_trans hf.2 hrm.2.1⟩, hnm, g.2.2.2.2.1 _ hin⟩ ⟨blind, hp⟩ rfl (List.length_map _) s4.1 ?_ (lv_room (by rw [catS_eq]; exact hw)) hd ⟨by omega, by omega⟩) (fun rv I' R' ho hq => ?_)
  · show (as.reverse ++ vR r :: rest).map (cv ρ) = _
    rw [List.map_append, List.map_cons, cv_pos h0, List.map_reverse]
  · rw [hret] at ho
    rcases rv with _ | x | x | x
    · exact kk I' R' hq
    · rcases okret_i ho with h | ⟨h, -⟩ <;> cases h
    · have := okret_l ho; cases this
    · exact (okret_r ho).elim
end CALL
end
section
/-! making of cells, the JDK's own functions, references in arrays, the script -/
theorem cl_df0 : ∀ c, c < 11 → ∀ k, k < nfc c → defaultValue (fty c k) = if fref c k = true then .null else .int 0 := by decide +kernel
theorem range_map_succ {α : Type} (f : Nat → α) (N : Nat) : (List.range (N + 1)).map f = (List.range N).map f ++ [f N] := by
  rw [List.range_succ, List.map_append]; rfl
theorem cell_agr {ρ ρ' : Nat → Nat} {ca ca' : Nat → ClassId} {I : II} {R : RR} {i : Nat} (h1 : ca' i = ca i) (h2 : ∀ j, rfv ρ' (R i j) = rfv ρ (R i j)) : cellE ρ' ca' I R i = cellE ρ ca I R i := by
  unfold cellE
  have h3 : fval ρ' I R (sh i).2 i = fval ρ I R (sh i).2 i := by
    funext k
    unfold fval
    rw [h2]
  have h4 : (fun j => rfv ρ' (R i j)) = fun j => rfv ρ (R i j) := funext h2
  rw [h1, h3, h4]
theorem rfv_up {ρ : Nat → Nat} {N r q : Nat} (h : r ≤ N) : rfv (up1 ρ (N + 1) q) r = rfv ρ r := by
  unfold rfv up1
  rw [if_neg (show ¬ r = N + 1 by omega)]
theorem ws_push {ρ : Nat → Nat} {ca : Nat → ClassId} {I : II} {R : RR} {N q : Nat} {cA : ClassId} {e : va_E} (hR : ∀ i j, R i j ≤ N) (he : cellE (up1 ρ (N + 1) q) (up1 ca (N + 1) cA) I R (N + 1) = e) : wsW ρ ca I R N ++ [(q, e)] = wsW (up1 ρ (N + 1) q) (up1 ca (N + 1) cA) I R (N + 1) := by
  unfold wsW
  rw [range_map_succ]
  congr 1
  · apply List.map_congr_left
    intro j hj
    have hj := List.mem_range.mp hj
    have e1 : up1 ρ (N + 1) q (j + 1) = ρ (j + 1) := by unfold up1; rw [if_neg (by omega)]
    have e2 : up1 ca (N + 1) cA (j + 1) = ca (j + 1) := by unfold up1; rw [if_neg (by omega)]
    rw [e1, cell_agr e2 (fun k => rfv_up (hR _ _))]
  · rw [he]
    have e1 : up1 ρ (N + 1) q (N + 1) = q := by unfold up1; rw [if_pos rfl]
    rw [e1]
theorem agr_up {α : Type} {f f0 : Nat → α} {N0 N : Nat} {v : α} (h8 : N0 ≤ N) (h : agr f f0 N0 N) : agr (up1 f (N + 1) v) f0 N0 (N + 1) := fun r hr => by
  unfold up1
  rw [if_neg (by omega)]
  exact h r (by omega)
theorem agr_self {α : Type} {f : Nat → α} {N : Nat} {v : α} : agr (up1 f (N + 1) v) f N (N + 1) := fun r hr => by
  unfold up1
  rw [if_neg (by omega)]
theorem arK_up {D : va_G} {ca : Nat → ClassId} {N : Nat} {s : State} {cA : ClassId} (h : arK D ca N s) (h2 : ¬ (sh (N + 1)).1 = 0 → va_K D vwCl [(cA, aty (sh (N + 1)).1)] s) : arK D (up1 ca (N + 1) cA) (N + 1) s := fun i h0 h1 hk => by
  by_cases e : i = N + 1
  · subst e
    have e2 : up1 ca (N + 1) cA (N + 1) = cA := by unfold up1; rw [if_pos rfl]
    rw [e2]
    exact h2 hk
  · have e2 : up1 ca (N + 1) cA i = ca i := by unfold up1; rw [if_neg e]
    rw [e2]
    exact h i h0 (by omega) hk
section MORE
variable {K : KT} {mt : MI} {Q : QT} {pc pc' : Nat} {L S : List AV} {I : II} {R : RR} {N : Nat}
set_option maxHeartbeats 4000000 in
theorem wp_new {c0 n idx : Nat} {C : String} {T : u_T} (hd : decode mt.2.1 pc = .ok (.new idx, 3)) (hc : vwCl[c0]? = some (C, T, n)) (hsh : sh (N + 1) = (0, c0)) (w1 : Cond.classLink mt.1.cls idx C ∈ TB) (w2 : Cond.instantiable C n ∈ TB) (w3 : Cond.initialized C ∈ TB) (hM : N + 1 ≤ K.1) (okL : okP N (N + 1) L) (okS : okP N (N + 1) S) (hR : ∀ i j, R i j ≤ N) (hI0 : ∀ j, I (N + 1) j = 0) (hR0 : ∀ j, R (N + 1) j = 0) (hp : pc + 3 = pc')
    (kk : wp K mt Q pc' L (vR (N + 1) :: S) I R (N + 1)) : wp K mt Q pc L S I R N := by
  subst hp
  intro p l e Rm s m args below meth c A D ρ0 ca0 N0 QQ g H locs ls ρ ca ⟨s1, s2, s3, s4, s5, s6, s7, s8⟩
  have hrm := g.2.2.2.2.2.2.2.1
  have c1 := cum_le s8
  have c2 := cum_le hM
  have hcs : cum (N + 1) = cum N + n := by
    show cum N + szS (sh (N + 1)) = _
    rw [hsh]
    show cum N + nfc c0 = _
    rw [nfc_of hc]
  refine va_new (ci := c0) (D := D) (cl := vwCl) (tys := []) (C := C) (T := T) (N := n) (Ts := TB) (fs := (List.range n).map (fval ρ I R c0 (N + 1))) g.1 g.2.1 g.2.2.2.2.1 (cl_ws hc) (fty c0) (cl_ty hc) g.2.2.2.1 (g.2.2.2.2.1 _ w1) (g.2.2.2.2.1 _ w2) (g.2.2.2.2.1 _ w3) g.2.2.2.2.2.2.1 s1 s2 s3 g.2.2.2.2.2.1 hc (fun j hj => ?_) (by omega) (by omega) hd (fun q H1 a1 a2 a3 => ?_)
  · have h1 := cl_df0 c0 (vw_lt hc) j (by rw [nfc_of hc]; exact hj)
    rw [h1]
    unfold vp_V
    rw [List.getD_eq_getElem?_getD, fval_at hj]
    show _ = fval ρ I R c0 (N + 1) j
    unfold fval
    rw [hI0, hR0]
    rfl
  · have he : cellE (up1 ρ (N + 1) q) (up1 ca (N + 1) 0) I R (N + 1) = .inr (c0, (List.range n).map (fval ρ I R c0 (N + 1))) := by
      rw [cell_obj hsh, nfc_of hc]
      congr 2
      apply List.map_congr_left
      intro k _
      unfold fval
      rw [rfv_up (hR _ _)]
    rw [ws_push hR he] at a1 a2
    have e1 : N - N0 + 1 = N + 1 - N0 := by omega
    have e2 : cum N - cum N0 + n = cum (N + 1) - cum N0 := by omega
    have e3 : (vR (N + 1) :: S).map (cv (up1 ρ (N + 1) q)) = .ref q :: S.map (cv ρ) := by
      rw [List.map_cons, cv_pos (by omega), map_agr agr_self okS]
      unfold up1
      rw [if_pos rfl]
    have k9 := kk p l e Rm s m args below meth c A D ρ0 ca0 N0 QQ g H1 locs ls (up1 ρ (N + 1) q) (up1 ca (N + 1) 0) ⟨a1, a2, a3, s4.agr agr_self okL, arK_up s5 (fun h => absurd (by rw [hsh]) h), agr_up s8 s6, agr_up s8 s7, by omega⟩
    rw [e1, e2]
    rw [e3] at k9
    exact k9
set_option maxHeartbeats 4000000 in
theorem wp_newa {atype : ArrayType} {k n : Nat} {i : Int} (hd : decode mt.2.1 pc = .ok (.newarray atype, 2)) (hsh : sh (N + 1) = (k, n)) (hk : (k = 1 ∧ atype = .int) ∨ (k = 2 ∧ atype = .boolean)) (hi : i = (n : Int)) (w1 : Cond.arrayClass (newarray.typeOf atype) ∈ TB) (hM : N + 1 ≤ K.1) (okL : okP N (N + 1) L) (okS : okP N (N + 1) S) (hR : ∀ i j, R i j ≤ N) (hI0 : ∀ j, I (N + 1) j = 0) (hp : pc + 2 = pc')
    (kk : wp K mt Q pc' L (vR (N + 1) :: S) I R (N + 1)) : wp K mt Q pc L (vI i :: S) I R N := by
  subst hp hi
  intro p l e Rm s m args below meth c A D ρ0 ca0 N0 QQ g H locs ls ρ ca ⟨s1, s2, s3, s4, s5, s6, s7, s8⟩
  have hrm := g.2.2.2.2.2.2.2.1
  have c1 := cum_le s8
  have c2 := cum_le hM
  have hn : n ≤ 1000 := by have := sh_ok (N + 1); rw [hsh] at this; exact this
  have hk0 : ¬ k = 0 := by omega
  have hcs : cum (N + 1) = cum N + n := by
    show cum N + szS (sh (N + 1)) = _
    rw [hsh]
    unfold szS
    rw [if_neg hk0]
  have hty : newarray.typeOf atype = aty k := by rcases hk with ⟨rfl, rfl⟩ | ⟨rfl, rfl⟩ <;> rfl
  have hn0 : ¬ i32 (n : Int) < 0 := by rw [i32_0, i32_lt ⟨by omega, by omega⟩ InI_0]; omega
  refine va_newa (D := D) (cl := vwCl) (tys := []) (a0 := (n, .inl (fun j => i32 (I (N + 1) j)))) (N' := n) g.1 g.2.1 (g.2.2.2.2.1 _ w1) hty g.2.2.2.2.2.2.1 s1 s2 s3 g.2.2.2.2.2.1 (fun cA => ?_) hn0 (by rw [i32_cl (by omega) (by omega)]; omega) ?_ (by omega) (by omega) hd (fun q cA H1 a0 a1 a2 a3 => ?_)
  · rw [vp_cell_i]
    congr 1
    funext j
    rw [hI0]
    rcases hk with ⟨rfl, rfl⟩ | ⟨rfl, rfl⟩ <;> rfl
  · rcases hk with ⟨rfl, rfl⟩ | ⟨rfl, rfl⟩
    · show n * 4 ≤ _
      omega
    · show n * 1 ≤ _
      omega
  · have he : cellE (up1 ρ (N + 1) q) (up1 ca (N + 1) cA) I R (N + 1) = .inl (cA, n, .inl (fun j => i32 (I (N + 1) j))) := by
      rw [cell_int hsh (by omega) (by omega)]
      unfold up1
      rw [if_pos rfl]
    rw [ws_push hR he] at a1 a2
    have e1 : N - N0 + 1 = N + 1 - N0 := by omega
    have e2 : cum N - cum N0 + n = cum (N + 1) - cum N0 := by omega
    have e3 : (vR (N + 1) :: S).map (cv (up1 ρ (N + 1) q)) = .ref q :: S.map (cv ρ) := by
      rw [List.map_cons, cv_pos (by omega), map_agr agr_self okS]
      unfold up1
      rw [if_pos rfl]
    have k9 := kk p l e Rm s m args below meth c A D ρ0 ca0 N0 QQ g H1 locs ls (up1 ρ (N + 1) q) (up1 ca (N + 1) cA) ⟨a1, a2, a3, s4.agr agr_self okL, arK_up s5 (fun _ => by rw [hsh]; exact a0), agr_up s8 s6, agr_up s8 s7, by omega⟩
    rw [e1, e2]
    rw [e3] at k9
    exact k9
set_option maxHeartbeats 4000000 in
theorem wp_newq {n idx : Nat} {i : Int} (hd : decode mt.2.1 pc = .ok (.anewarray idx, 3)) (hsh : sh (N + 1) = (3, n)) (hi : i = (n : Int)) (w1 : Cond.classLink mt.1.cls idx RX1 ∈ TB) (hM : N + 1 ≤ K.1) (okL : okP N (N + 1) L) (okS : okP N (N + 1) S) (hR : ∀ i j, R i j ≤ N) (hR0 : ∀ j, R (N + 1) j = 0) (hp : pc + 3 = pc')
    (kk : wp K mt Q pc' L (vR (N + 1) :: S) I R (N + 1)) : wp K mt Q pc L (vI i :: S) I R N := by
  subst hp hi
  intro p l e Rm s m args below meth c A D ρ0 ca0 N0 QQ g H locs ls ρ ca ⟨s1, s2, s3, s4, s5, s6, s7, s8⟩
  have hrm := g.2.2.2.2.2.2.2.1
  have c1 := cum_le s8
  have c2 := cum_le hM
  have hn : n ≤ 1000 := by have := sh_ok (N + 1); rw [hsh] at this; exact this
  have hcs : cum (N + 1) = cum N + n := by
    show cum N + szS (sh (N + 1)) = _
    rw [hsh]
    rfl
  have hn0 : ¬ i32 (n : Int) < 0 := by rw [i32_0, i32_lt ⟨by omega, by omega⟩ InI_0]; omega
  refine va_newq (D := D) (cl := vwCl) (tys := []) (C := RX1) (N' := n) g.1 g.2.1 g.2.2.2.1 (g.2.2.2.2.1 _ w1) g.2.2.2.2.2.2.2.2.1.2.2.1 g.2.2.2.2.2.2.1 s1 s2 s3 g.2.2.2.2.2.1 hn0 (by rw [i32_cl (by omega) (by omega)]; omega) (by omega) (by omega) (by omega) hd (fun q cA H1 a0 a1 a2 a3 => ?_)
  have he : cellE (up1 ρ (N + 1) q) (up1 ca (N + 1) cA) I R (N + 1) = .inl (cA, n, .inr (.inr (.inr (.inr (fun _ => none))))) := by
    rw [cell_ref hsh (by omega)]
    have : (fun j => rfv (up1 ρ (N + 1) q) (R (N + 1) j)) = fun _ => none := funext fun j => by rw [hR0]; rfl
    rw [this]
    unfold up1
    rw [if_pos rfl]
  rw [ws_push hR he] at a1 a2
  have e1 : N - N0 + 1 = N + 1 - N0 := by omega
  have e2 : cum N - cum N0 + n = cum (N + 1) - cum N0 := by omega
  have e3 : (vR (N + 1) :: S).map (cv (up1 ρ (N + 1) q)) = .ref q :: S.map (cv ρ) := by
    rw [List.map_cons, cv_pos (by omega), map_agr agr_self okS]
    unfold up1
    rw [if_pos rfl]
  have k9 := kk p l e Rm s m args below meth c A D ρ0 ca0 N0 QQ g H1 locs ls (up1 ρ (N + 1) q) (up1 ca (N + 1) cA) ⟨a1, a2, a3, s4.agr agr_self okL, arK_up s5 (fun _ => by rw [hsh]; exact a0), agr_up s8 s6, agr_up s8 s7, by omega⟩
  rw [e1, e2]
  rw [e3] at k9
  exact k9
theorem wp_objInit {idx r : Nat} (hd : decode mt.2.1 pc = .ok (.invokespecial idx, 3)) (h0 : 0 < r) (w1 : Cond.methodLink mt.1.cls idx objectInit ∈ TB) (w2 : Cond.instanceMethod objectInit ∈ TB) (w3 : Cond.code objectInit ⟨#[0xb1]⟩ 1 none ∈ TB) (hf : 1 ≤ mt.2.2.2.2.1 ∧ catS S + 12 ≤ mt.2.2.2.2.2) (hp : pc + 3 = pc')
    (kk : wp K mt Q pc' L S I R N) : wp K mt Q pc L (vR r :: S) I R N := by
  subst hp
  intro p l e Rm s m args below meth c A D ρ0 ca0 N0 QQ g H locs ls ρ ca hs
  have hrm := g.2.2.2.2.2.2.2.1
  refine W.objInit (a := ρ r) (rest := S.map (cv ρ)) g.1 g.2.1 g.2.2.2.1 (g.2.2.2.2.1 _ w1) (g.2.2.2.2.1 _ w2) (g.2.2.2.2.1 _ w3) rfl (by rw [g.2.2.1]; exact hs.2.2.2.1.1) (by show (cv ρ (vR r) :: S.map (cv ρ)) = _; rw [cv_pos h0]) hd (by omega) ?_ (kk p l e Rm s m args below meth c A D ρ0 ca0 N0 QQ g H locs ls ρ ca hs)
  rw [catS_eq]
  show 2 * 0 + _ + 12 ≤ _
  omega
theorem wp_mmax {idx : Nat} {x y : Int} (ha : InI x) (hb2 : InI y) (hd : decode mt.2.1 pc = .ok (.invokestatic idx, 3)) (w1 : Cond.methodLink mt.1.cls idx Lib.Math.max.name ∈ TB) (w2 : Cond.static Lib.Math.max.name ∈ TB) (w3 : Cond.initialized "java/lang/Math" ∈ TB) (w4 : Cond.code Lib.Math.max.name Lib.Math.max.code 2 (some .int) ∈ TB) (hf : 1 ≤ mt.2.2.2.2.1 ∧ catS S + 13 ≤ mt.2.2.2.2.2) (hNK : N ≤ K.1) (hp : pc + 3 = pc')
    (kk : wp K mt Q pc' L (vI (max x y) :: S) I R N) : wp K mt Q pc L (vI y :: vI x :: S) I R N := by
  subst hp
  intro p l e Rm s m args below meth c A D ρ0 ca0 N0 QQ g H locs ls ρ ca hs
  have hrm := g.2.2.2.2.2.2.2.1
  have h8 : N0 ≤ N := hs.2.2.2.2.2.2.2
  have c1 := cum_le h8
  have c2 := cum_le hNK
  have k9 := kk p l e Rm s m args below meth c A D ρ0 ca0 N0 QQ g H locs ls ρ ca hs
  have e9 : (if i32 x < i32 y then i32 y else i32 x) = i32 (max x y) := by
    by_cases h : x < y
    · rw [if_pos ((i32_lt ha hb2).mpr h), Int.max_eq_right (by omega)]
    · rw [if_neg (fun q => h ((i32_lt ha hb2).mp q)), Int.max_eq_left (by omega)]
  refine va_mmax g.1 g.2.1 (by rw [g.2.2.1]; exact hs.2.2.2.1.1.symm) g.2.2.2.1 (g.2.2.2.2.1 _ w1) (g.2.2.2.2.1 _ w2) (g.2.2.2.2.1 _ w3) (g.2.2.2.2.1 _ w4) (by omega) (by rw [catS_eq]; omega) (by omega) (by omega) hd ?_
  rw [e9]
  exact k9

theorem wp_mmin {idx : Nat} {x y : Int} (ha : InI x) (hb2 : InI y) (hd : decode mt.2.1 pc = .ok (.invokestatic idx, 3)) (w1 : Cond.methodLink mt.1.cls idx Lib.Math.min.name ∈ TB) (w2 : Cond.static Lib.Math.min.name ∈ TB) (w3 : Cond.initialized "java/lang/Math" ∈ TB) (w4 : Cond.code Lib.Math.min.name Lib.Math.min.code 2 (some .int) ∈ TB) (hf : 1 ≤ mt.2.2.2.2.1 ∧ catS S + 13 ≤ mt.2.2.2.2.2) (hNK : N ≤ K.1) (hp : pc + 3 = pc')
    (kk : wp K mt Q pc' L (vI (min x y) :: S) I R N) : wp K mt Q pc L (vI y :: vI x :: S) I R N := by
  subst hp
  intro p l e Rm s m args below meth c A D ρ0 ca0 N0 QQ g H locs ls ρ ca hs
  have hrm := g.2.2.2.2.2.2.2.1
  have h8 : N0 ≤ N := hs.2.2.2.2.2.2.2
  have c1 := cum_le h8
  have c2 := cum_le hNK
  have k9 := kk p l e Rm s m args below meth c A D ρ0 ca0 N0 QQ g H locs ls ρ ca hs
  have e9 : (if i32 y < i32 x then i32 y else i32 x) = i32 (min x y) := by
    by_cases h : y < x
    · rw [if_pos ((i32_lt hb2 ha).mpr h), Int.min_eq_right (by omega)]
    · rw [if_neg (fun q => h ((i32_lt hb2 ha).mp q)), Int.min_eq_left (by omega)]
  refine va_mmin g.1 g.2.1 (by rw [g.2.2.1]; exact hs.2.2.2.1.1.symm) g.2.2.2.1 (g.2.2.2.2.1 _ w1) (g.2.2.2.2.1 _ w2) (g.2.2.2.2.1 _ w3) (g.2.2.2.2.1 _ w4) (by omega) (by rw [catS_eq]; omega) (by omega) (by omega) hd ?_
  rw [e9]
  exact k9

theorem wp_mabs {idx : Nat} {x : Int} (ha : InI x) (hd : decode mt.2.1 pc = .ok (.invokestatic idx, 3)) (w1 : Cond.methodLink mt.1.cls idx Lib.Math.abs.name ∈ TB) (w2 : Cond.static Lib.Math.abs.name ∈ TB) (w3 : Cond.initialized "java/lang/Math" ∈ TB) (w4 : Cond.code Lib.Math.abs.name Lib.Math.abs.code 1 (some .int) ∈ TB) (hf : 1 ≤ mt.2.2.2.2.1 ∧ catS S + 13 ≤ mt.2.2.2.2.2) (hNK : N ≤ K.1) (hp : pc + 3 = pc')
    (kk : wp K mt Q pc' L (vI (((x.natAbs : Nat) : Int)) :: S) I R N) : wp K mt Q pc L (vI x :: S) I R N := by
  subst hp
  intro p l e Rm s m args below meth c A D ρ0 ca0 N0 QQ g H locs ls ρ ca hs
  have hrm := g.2.2.2.2.2.2.2.1
  have h8 : N0 ≤ N := hs.2.2.2.2.2.2.2
  have c1 := cum_le h8
  have c2 := cum_le hNK
  have k9 := kk p l e Rm s m args below meth c A D ρ0 ca0 N0 QQ g H locs ls ρ ca hs
  have e9 : (if 0 ≤ i32 x then i32 x else 0 - i32 x) = i32 (((x.natAbs : Nat) : Int)) := by
    by_cases h : 0 ≤ x
    · rw [if_pos (by rw [i32_0]; exact (i32_le InI_0 ha).mpr h), show ((x.natAbs : Nat) : Int) = x by omega]
    · rw [if_neg (fun q => h ((i32_le InI_0 ha).mp (by rw [← i32_0]; exact q))), show ((x.natAbs : Nat) : Int) = 0 - x by omega, ← i32_sub, i32_0]
  refine va_mabs g.1 g.2.1 (by rw [g.2.2.1]; exact hs.2.2.2.1.1.symm) g.2.2.2.1 (g.2.2.2.2.1 _ w1) (g.2.2.2.2.1 _ w2) (g.2.2.2.2.1 _ w3) (g.2.2.2.2.1 _ w4) (by omega) (by rw [catS_eq]; omega) (by omega) (by omega) hd ?_
  rw [e9]
  exact k9

/-- n places of src from sp on, written into dst from dp on -/
def cpy2 (I : II) (src dst sp dp n : Nat) : II := fun a b => if a = dst ∧ dp ≤ b ∧ b < dp + n then I src (sp + (b - dp)) else I a b
theorem i32_cpy {I : II} {src dst sp dp n : Nat} : va_cpy (fun j => i32 (I src j)) (fun j => i32 (I dst j)) sp dp n = fun j => i32 (cpy2 I src dst sp dp n dst j) := by
  funext j
  unfold va_cpy cpy2
  by_cases h : dp ≤ j ∧ j < dp + n
  · rw [if_pos h, if_pos ⟨rfl, h⟩]
  · rw [if_neg h, if_neg (fun q => h q.2)]
set_option maxHeartbeats 4000000 in
theorem wp_copy {idx src dst n0 n1 : Nat} {sp dp n : Int} (hd : decode mt.2.1 pc = .ok (.invokestatic idx, 3)) (w1 : Cond.methodLink mt.1.cls idx arraycopyName ∈ TB) (w2 : Cond.native arraycopyName ∈ TB) (w3 : Cond.static arraycopyName ∈ TB) (w4 : Cond.initialized "java/lang/System" ∈ TB) (h0 : isA N src 1 n0) (h1 : isA N dst 1 n1) (hs0 : 0 ≤ sp ∧ 0 ≤ dp ∧ 0 ≤ n ∧ sp + n ≤ (n0 : Int) ∧ dp + n ≤ (n1 : Int)) (hf : 1 ≤ mt.2.2.2.2.1 ∧ catS S + (nativeFrameWords "java/lang/System" "arraycopy" 5 + 11) ≤ mt.2.2.2.2.2) (hp : pc + 3 = pc') {I' : II} (hI : I' = cpy2 I src dst sp.toNat dp.toNat n.toNat)
    (kk : wp K mt Q pc' L S I' R N) : wp K mt Q pc L (vI n :: vI dp :: vR dst :: vI sp :: vR src :: S) I R N := by
  subst hp hI
  intro p l e Rm s m args below meth c A D ρ0 ca0 N0 QQ g H locs ls ρ ca ⟨s1, s2, s3, s4, s5, s6⟩
  have hrm := g.2.2.2.2.2.2.2.1
  obtain ⟨p0, q0, r0⟩ := h0
  obtain ⟨p1, q1, r1⟩ := h1
  have hn0 : n0 ≤ 1000 := by have := sh_ok src; rw [r0] at this; exact this
  have hn1 : n1 ≤ 1000 := by have := sh_ok dst; rw [r1] at this; exact this
  have hka0 := s5 src p0 q0 (by rw [r0]; show ¬ 1 = 0; decide)
  have hka1 := s5 dst p1 q1 (by rw [r1]; show ¬ 1 = 0; decide)
  rw [r0] at hka0
  rw [r1] at hka1
  have hK2 : va_K D vwCl ([(ca src, aty 1)] ++ [(ca dst, aty 1)]) s := hka0.app hka1
  have e1 := i32_cl (x := sp) hs0.1 (by omega)
  have e2 := i32_cl (x := dp) hs0.2.1 (by omega)
  have e3 := i32_cl (x := n) hs0.2.2.1 (by omega)
  show W p l e Rm s m args below meth c H locs _ _ QQ (F0 m pc ls (.int (i32 n) :: .int (i32 dp) :: cv ρ (vR dst) :: .int (i32 sp) :: cv ρ (vR src) :: S.map (cv ρ)))
  rw [cv_pos p0, cv_pos p1]
  refine va_copyi (D := D) (cl := vwCl) (tys := [(ca src, aty 1)] ++ [(ca dst, aty 1)]) (n0 := n0) (n1 := n1) (f := fun j => i32 (I src j)) (g := fun j => i32 (I dst j)) (ty := .int) g.1 g.2.1 (by rw [g.2.2.1]; exact s4.1.symm) g.2.2.2.1 (g.2.2.2.2.1 _ w1) (g.2.2.2.2.1 _ w2) (g.2.2.2.2.1 _ w3) (g.2.2.2.2.1 _ w4) hK2 s1 s2 s3 (src - 1) (dst - 1) 0 1 ((ws_at p0 q0).trans (by rw [cell_int r0 (by decide) (by decide)])) ((ws_at p1 q1).trans (by rw [cell_int r1 (by decide) (by decide)])) rfl rfl rfl
    (by rw [i32_0, i32_lt ⟨by omega, by omega⟩ InI_0]; omega) (by rw [i32_0, i32_lt ⟨by omega, by omega⟩ InI_0]; omega) (by rw [i32_0, i32_lt ⟨by omega, by omega⟩ InI_0]; omega) (by rw [e1, e3]; omega) (by rw [e2, e3]; omega) (fun _ _ => rfl) (by omega) (by rw [catS_eq]; omega) hd (fun H1 locs1 a1 a2 a3 => ?_)
  rw [e1, e2, e3, i32_cpy, ws_set (I' := cpy2 I src dst sp.toNat dp.toNat n.toNat) (R' := R) p1 (cell_int r1 (by decide) (by decide)) (fun i h => cell_congr (fun j => by unfold cpy2; rw [if_neg (fun q => h q.1)]) (fun _ => rfl))] at a1 a2
  exact kk p l e Rm s m args below meth c A D ρ0 ca0 N0 QQ g H1 locs1 ls ρ ca ⟨a1, a2, a3, s4, s5, s6⟩
theorem wp_aald {r k n : Nat} {i : Int} (hd : decode mt.2.1 pc = .ok (.aaload, 1)) (ho : isA N r k n) (hk : k = 3 ∨ k = 4) (hi : 0 ≤ i ∧ i < (n : Int)) (hp : pc + 1 = pc') (kk : wp K mt Q pc' L (vR (R r i.toNat) :: S) I R N) : wp K mt Q pc L (vI i :: vR r :: S) I R N := by
  subst hp
  intro p l e Rm s m args below meth c A D ρ0 ca0 N0 QQ g H locs ls ρ ca hs
  have k9 := kk p l e Rm s m args below meth c A D ρ0 ca0 N0 QQ g H locs ls ρ ca hs
  obtain ⟨h0, hN, hsh⟩ := ho
  have hn : n ≤ 1000 := by have := sh_ok r; rw [hsh] at this; exact this
  have hka := hs.2.2.2.2.1 r h0 hN (by rw [hsh]; show ¬ k = 0; omega)
  rw [hsh] at hka
  have hin := i32_in hi.1 hi.2 hn
  have hlt : (i32 i).toNatClampNeg < n := Nat.not_le.mp fun q => hin (Or.inr q)
  show W p l e Rm s m args below meth c H locs _ _ QQ (F0 m pc ls (.int (i32 i) :: cv ρ (vR r) :: S.map (cv ρ)))
  rw [cv_pos h0]
  have hcell := hs.1 (r - 1) _ ((ws_at h0 hN).trans (by rw [cell_ref hsh (by omega)]))
  refine W.aald (v := va_rf (rfv ρ (R r (i32 i).toNatClampNeg))) (ty := aty k) g.1 g.2.1 hcell ((hka.2 0 _ rfl).1 n (fun j => va_rf (rfv ρ (R r j)))) (by rcases hk with rfl | rfl <;> rfl) (fun q => by cases q) (by show ¬ (i32 i < 0 ∨ (arrV _ _ _).slots.size ≤ _); rw [arrV_size]; exact hin) (by show (arrV _ _ _).slots[_]? = _; rw [arrV_read _ _ hlt]) rfl rfl hd ?_
  rw [i32_cl hi.1 (by omega)]
  exact k9
set_option maxHeartbeats 4000000 in
theorem wp_aast {r n v : Nat} {i : Int} (hd : decode mt.2.1 pc = .ok (.aastore, 1)) (ho : isA N r 3 n) (hv : isO N v 1) (hi : 0 ≤ i ∧ i < (n : Int)) (hp : pc + 1 = pc') {R' : RR} (hI : R' = up2 R r i.toNat v) (kk : wp K mt Q pc' L S I R' N) : wp K mt Q pc L (vR v :: vI i :: vR r :: S) I R N := by
  subst hp hI
  intro p l e Rm s m args below meth c A D ρ0 ca0 N0 QQ g H locs ls ρ ca ⟨s1, s2, s3, s4, s5, s6⟩
  obtain ⟨h0, hN, hsh⟩ := ho
  obtain ⟨v0, vN, vsh⟩ := hv
  have hn : n ≤ 1000 := by have := sh_ok r; rw [hsh] at this; exact this
  have hka := s5 r h0 hN (by rw [hsh]; show ¬ 3 = 0; decide)
  rw [hsh] at hka
  show W p l e Rm s m args below meth c H locs _ _ QQ (F0 m pc ls (cv ρ (vR v) :: .int (i32 i) :: cv ρ (vR r) :: S.map (cv ρ)))
  rw [cv_pos h0, cv_pos v0]
  refine va_astq (D := D) (cl := vwCl) (tys := [(ca r, aty 3)]) (n := n) (f := fun j => rfv ρ (R r j)) (r := (RX1, TX1, 2)) (ci := 1) g.1 g.2.1 hka s1 s2 s3 (r - 1) 0 (v - 1) ((ws_at h0 hN).trans (by rw [cell_ref hsh (by decide)])) rfl ((ws_at v0 vN).trans (by rw [cell_obj vsh])) rfl (i32_in hi.1 hi.2 hn) hd (fun H1 locs1 a1 a2 a3 => ?_)
  have e9 : va_up (fun j => rfv ρ (R r j)) i.toNat (some (ρ v)) = fun j => rfv ρ (up2 R r i.toNat v r j) := by
    funext j
    unfold va_up up2
    by_cases h : j = i.toNat
    · rw [if_pos h, if_pos ⟨rfl, h⟩, rfv_pos v0]
    · rw [if_neg h, if_neg (fun q => h q.2)]
  rw [i32_cl hi.1 (by omega), e9, ws_set (I' := I) (R' := up2 R r i.toNat v) h0 (cell_ref hsh (by decide)) cell_up_R] at a1 a2
  exact kk p l e Rm s m args below meth c A D ρ0 ca0 N0 QQ g H1 locs1 ls ρ ca ⟨a1, a2, a3, s4, s5, s6⟩
theorem wp_sld {i : Int} (hN : N < 1000) (hd : decode mt.2.1 pc = .ok (.iaload, 1)) (hi : 0 ≤ i ∧ i < (K.2.1 : Int)) (hp : pc + 1 = pc') (kk : wp K mt Q pc' L (vI (K.2.2 i.toNat).toInt :: S) I R N) : wp K mt Q pc L (vI i :: vR 1000 :: S) I R N := by
  subst hp
  intro p l e Rm s m args below meth c A D ρ0 ca0 N0 QQ g H locs ls ρ ca hs
  have k9 := kk p l e Rm s m args below meth c A D ρ0 ca0 N0 QQ g H locs ls ρ ca hs
  have k9 : W p l e Rm s m args below meth c H locs (N - N0) (cum N - cum N0) QQ (F0 m (pc + 1) ls (.int (i32 (K.2.2 i.toNat).toInt) :: S.map (cv ρ))) := k9
  rw [i32_of] at k9
  rcases g.2.2.2.2.2.2.2.2.2.1 with h | ⟨hX, hb, hA, hl⟩
  · omega
  · have hρ : ρ 1000 = ρ0 1000 := hs.2.2.2.2.2.1 1000 (Or.inr hN)
    show W p l e Rm s m args below meth c H locs _ _ QQ (F0 m pc ls (.int (i32 i) :: cv ρ (vR 1000) :: S.map (cv ρ)))
    rw [cv_pos (by decide), hρ]
    refine va_sld g.1 g.2.1 hX hb hA hs.2.2.1 (by rw [vp_in_iff, i32_toInt ⟨by omega, by omega⟩]; exact hi) hd ?_
    rw [i32_cl hi.1 (by omega)]
    exact k9
theorem wp_slen (hN : N < 1000) (h0 : 0 < K.2.1 → K.2.1 < 2 ^ 31) (hs0 : 0 < K.2.1) (hd : decode mt.2.1 pc = .ok (.arraylength, 1)) (hp : pc + 1 = pc') (kk : wp K mt Q pc' L (vI (K.2.1 : Int) :: S) I R N) : wp K mt Q pc L (vR 1000 :: S) I R N := by
  subst hp
  intro p l e Rm s m args below meth c A D ρ0 ca0 N0 QQ g H locs ls ρ ca hs
  have k9 := kk p l e Rm s m args below meth c A D ρ0 ca0 N0 QQ g H locs ls ρ ca hs
  rcases g.2.2.2.2.2.2.2.2.2.1 with h | ⟨hX, hb, hA, hl⟩
  · omega
  · have hρ : ρ 1000 = ρ0 1000 := hs.2.2.2.2.2.1 1000 (Or.inr hN)
    show W p l e Rm s m args below meth c H locs _ _ QQ (F0 m pc ls (cv ρ (vR 1000) :: S.map (cv ρ)))
    rw [cv_pos (by decide), hρ]
    refine va_slen g.1 g.2.1 hX hb hA hs.2.2.1 hd ?_
    rw [← Int32.ofInt_eq_ofNat]
    exact k9
theorem rvI {mt' : MI} {Q' : QT} {rest : List AV} {M' : Nat} (hr : mt'.2.2.2.1 = some .int) (k : ∀ x I' R', Q' (vI x) I' R' → wp K mt Q pc L (vI x :: rest) I' R' M') : ∀ rv I' R', okret mt'.2.2.2.1 rv → Q' rv I' R' → wp K mt Q pc L (psh rv rest) I' R' M' := fun rv I' R' ho hq => by
  rw [hr] at ho
  rcases rv with _ | x | x | x
  · exact ho.elim
  · exact k x I' R' hq
  · exact ho.elim
  · exact ho.elim
theorem rvZ {mt' : MI} {Q' : QT} {rest : List AV} {M' : Nat} (hr : mt'.2.2.2.1 = some .boolean) (k : ∀ x I' R', (x = 0 ∨ x = 1) → Q' (vI x) I' R' → wp K mt Q pc L (vI x :: rest) I' R' M') : ∀ rv I' R', okret mt'.2.2.2.1 rv → Q' rv I' R' → wp K mt Q pc L (psh rv rest) I' R' M' := fun rv I' R' ho hq => by
  rw [hr] at ho
  rcases rv with _ | x | x | x
  · exact ho.elim
  · exact k x I' R' ho hq
  · exact ho.elim
  · exact ho.elim
theorem rvL {mt' : MI} {Q' : QT} {rest : List AV} {M' : Nat} (hr : mt'.2.2.2.1 = some .long) (k : ∀ x I' R', Q' (vL x) I' R' → wp K mt Q pc L (vL x :: rest) I' R' M') : ∀ rv I' R', okret mt'.2.2.2.1 rv → Q' rv I' R' → wp K mt Q pc L (psh rv rest) I' R' M' := fun rv I' R' ho hq => by
  rw [hr] at ho
  rcases rv with _ | x | x | x
  · exact ho.elim
  · exact ho.elim
  · exact k x I' R' hq
  · exact ho.elim
theorem rvV {mt' : MI} {Q' : QT} {rest : List AV} {M' : Nat} (hr : mt'.2.2.2.1 = none) (k : ∀ I' R', Q' none I' R' → wp K mt Q pc L rest I' R' M') : ∀ rv I' R', okret mt'.2.2.2.1 rv → Q' rv I' R' → wp K mt Q pc L (psh rv rest) I' R' M' := fun rv I' R' ho hq => by
  rw [hr] at ho
  rcases rv with _ | x | x | x
  · exact k I' R' hq
  · exact ho.elim
  · exact ho.elim
  · exact ho.elim
end MORE
/-- the room of a method that makes no cells -/
abbrev kN (N : Nat) : KT := (N, 0, fun _ => 0)
end
