section
-- ===== PART A: goes FIRST, ahead of the names: the tables' words, and 'selects' of the private methods out of them =====
/-- a private method of a class that the tables say can be made, by its rows of tables_1 -/
def lw_okq (q : MethodName × Nat) : Prop := (q.1.cls ≠ "java/lang/invoke/MethodHandle" ∧ q.1.cls ≠ "java/lang/invoke/VarHandle") ∧ Cond.instantiable q.1.cls q.2 ∈ tables_1 ∧ Cond.privateMethod q.1 ∈ tables_1 ∧ Cond.instanceMethod q.1 ∈ tables_1
theorem lw_p0 : lw_okq (⟨"AskedMaps$Text", "step", "()V"⟩, 6) := ⟨⟨by decide +kernel, by decide +kernel⟩, List.mem_of_getElem? (i := 24) (by decide +kernel), List.mem_of_getElem? (i := 360) (by decide +kernel), List.mem_of_getElem? (i := 361) (by decide +kernel)⟩
theorem lw_p1 : lw_okq (⟨"AskedMaps$Text", "numberToken", "()I"⟩, 6) := ⟨⟨by decide +kernel, by decide +kernel⟩, List.mem_of_getElem? (i := 24) (by decide +kernel), List.mem_of_getElem? (i := 367) (by decide +kernel), List.mem_of_getElem? (i := 368) (by decide +kernel)⟩
theorem lw_p2 : lw_okq (⟨"AskedMaps$Text", "letterToken", "()I"⟩, 6) := ⟨⟨by decide +kernel, by decide +kernel⟩, List.mem_of_getElem? (i := 24) (by decide +kernel), List.mem_of_getElem? (i := 371) (by decide +kernel), List.mem_of_getElem? (i := 372) (by decide +kernel)⟩
theorem lw_p3 : lw_okq (⟨"AskedMaps$Text", "readItem", "(LAskedMaps$Ground;LAskedMaps$Now;I)Z"⟩, 6) := ⟨⟨by decide +kernel, by decide +kernel⟩, List.mem_of_getElem? (i := 24) (by decide +kernel), List.mem_of_getElem? (i := 375) (by decide +kernel), List.mem_of_getElem? (i := 376) (by decide +kernel)⟩
theorem lw_p4 : lw_okq (⟨"AskedMaps$Text", "readPlaces", "(LAskedMaps$Ground;)Z"⟩, 6) := ⟨⟨by decide +kernel, by decide +kernel⟩, List.mem_of_getElem? (i := 24) (by decide +kernel), List.mem_of_getElem? (i := 379) (by decide +kernel), List.mem_of_getElem? (i := 380) (by decide +kernel)⟩
theorem lw_p5 : lw_okq (⟨"AskedMaps$Text", "stepTo", "(II)Z"⟩, 6) := ⟨⟨by decide +kernel, by decide +kernel⟩, List.mem_of_getElem? (i := 24) (by decide +kernel), List.mem_of_getElem? (i := 383) (by decide +kernel), List.mem_of_getElem? (i := 384) (by decide +kernel)⟩
theorem lw_p6 : lw_okq (⟨"AskedMaps$Text", "stepToEnd", "()Z"⟩, 6) := ⟨⟨by decide +kernel, by decide +kernel⟩, List.mem_of_getElem? (i := 24) (by decide +kernel), List.mem_of_getElem? (i := 387) (by decide +kernel), List.mem_of_getElem? (i := 388) (by decide +kernel)⟩
theorem lw_p7 : lw_okq (⟨"AskedMaps$Text", "readLane", "(LAskedMaps$Ground;LAskedMaps$Now;)Z"⟩, 6) := ⟨⟨by decide +kernel, by decide +kernel⟩, List.mem_of_getElem? (i := 24) (by decide +kernel), List.mem_of_getElem? (i := 391) (by decide +kernel), List.mem_of_getElem? (i := 392) (by decide +kernel)⟩
theorem lw_p8 : lw_okq (⟨"AskedMaps$Text", "readMap", "(LAskedMaps$Ground;LAskedMaps$Now;)Z"⟩, 6) := ⟨⟨by decide +kernel, by decide +kernel⟩, List.mem_of_getElem? (i := 24) (by decide +kernel), List.mem_of_getElem? (i := 403) (by decide +kernel), List.mem_of_getElem? (i := 404) (by decide +kernel)⟩
theorem lw_p9 : lw_okq (⟨"AskedMaps$Ways", "addTrail", "(II)V"⟩, 8) := ⟨⟨by decide +kernel, by decide +kernel⟩, List.mem_of_getElem? (i := 119) (by decide +kernel), List.mem_of_getElem? (i := 427) (by decide +kernel), List.mem_of_getElem? (i := 428) (by decide +kernel)⟩
theorem lw_p10 : lw_okq (⟨"AskedMaps$Ways", "onTrail", "(II)Z"⟩, 8) := ⟨⟨by decide +kernel, by decide +kernel⟩, List.mem_of_getElem? (i := 119) (by decide +kernel), List.mem_of_getElem? (i := 435) (by decide +kernel), List.mem_of_getElem? (i := 436) (by decide +kernel)⟩
theorem lw_p11 : lw_okq (⟨"AskedMaps", "forgetAnswers", "()V"⟩, 14) := ⟨⟨by decide +kernel, by decide +kernel⟩, List.mem_of_getElem? (i := 16) (by decide +kernel), List.mem_of_getElem? (i := 452) (by decide +kernel), List.mem_of_getElem? (i := 453) (by decide +kernel)⟩
theorem lw_p12 : lw_okq (⟨"AskedMaps", "isLane", "(I)Z"⟩, 14) := ⟨⟨by decide +kernel, by decide +kernel⟩, List.mem_of_getElem? (i := 16) (by decide +kernel), List.mem_of_getElem? (i := 460) (by decide +kernel), List.mem_of_getElem? (i := 461) (by decide +kernel)⟩
theorem lw_p13 : lw_okq (⟨"AskedMaps", "mapsBy", "(I)I"⟩, 14) := ⟨⟨by decide +kernel, by decide +kernel⟩, List.mem_of_getElem? (i := 16) (by decide +kernel), List.mem_of_getElem? (i := 464) (by decide +kernel), List.mem_of_getElem? (i := 465) (by decide +kernel)⟩
theorem lw_p14 : lw_okq (⟨"AskedMaps", "isMap", "(I)Z"⟩, 14) := ⟨⟨by decide +kernel, by decide +kernel⟩, List.mem_of_getElem? (i := 16) (by decide +kernel), List.mem_of_getElem? (i := 476) (by decide +kernel), List.mem_of_getElem? (i := 477) (by decide +kernel)⟩
theorem lw_p15 : lw_okq (⟨"AskedMaps", "heldMaps", "()I"⟩, 14) := ⟨⟨by decide +kernel, by decide +kernel⟩, List.mem_of_getElem? (i := 16) (by decide +kernel), List.mem_of_getElem? (i := 484) (by decide +kernel), List.mem_of_getElem? (i := 485) (by decide +kernel)⟩
def lw_privs_1 : List (MethodName × Nat) := [(⟨"AskedMaps$Text", "step", "()V"⟩, 6), (⟨"AskedMaps$Text", "numberToken", "()I"⟩, 6), (⟨"AskedMaps$Text", "letterToken", "()I"⟩, 6), (⟨"AskedMaps$Text", "readItem", "(LAskedMaps$Ground;LAskedMaps$Now;I)Z"⟩, 6), (⟨"AskedMaps$Text", "readPlaces", "(LAskedMaps$Ground;)Z"⟩, 6), (⟨"AskedMaps$Text", "stepTo", "(II)Z"⟩, 6), (⟨"AskedMaps$Text", "stepToEnd", "()Z"⟩, 6), (⟨"AskedMaps$Text", "readLane", "(LAskedMaps$Ground;LAskedMaps$Now;)Z"⟩, 6), (⟨"AskedMaps$Text", "readMap", "(LAskedMaps$Ground;LAskedMaps$Now;)Z"⟩, 6), (⟨"AskedMaps$Ways", "addTrail", "(II)V"⟩, 8), (⟨"AskedMaps$Ways", "onTrail", "(II)Z"⟩, 8), (⟨"AskedMaps", "forgetAnswers", "()V"⟩, 14), (⟨"AskedMaps", "isLane", "(I)Z"⟩, 14), (⟨"AskedMaps", "mapsBy", "(I)I"⟩, 14), (⟨"AskedMaps", "isMap", "(I)Z"⟩, 14), (⟨"AskedMaps", "heldMaps", "()I"⟩, 14)]
theorem lw_r1 : ∀ q ∈ lw_privs_1, lw_okq q := List.forall_mem_cons.mpr ⟨lw_p0, List.forall_mem_cons.mpr ⟨lw_p1, List.forall_mem_cons.mpr ⟨lw_p2, List.forall_mem_cons.mpr ⟨lw_p3, List.forall_mem_cons.mpr ⟨lw_p4, List.forall_mem_cons.mpr ⟨lw_p5, List.forall_mem_cons.mpr ⟨lw_p6, List.forall_mem_cons.mpr ⟨lw_p7, List.forall_mem_cons.mpr ⟨lw_p8, List.forall_mem_cons.mpr ⟨lw_p9, List.forall_mem_cons.mpr ⟨lw_p10, List.forall_mem_cons.mpr ⟨lw_p11, List.forall_mem_cons.mpr ⟨lw_p12, List.forall_mem_cons.mpr ⟨lw_p13, List.forall_mem_cons.mpr ⟨lw_p14, List.forall_mem_cons.mpr ⟨lw_p15, fun _ h => absurd h List.not_mem_nil⟩⟩⟩⟩⟩⟩⟩⟩⟩⟩⟩⟩⟩⟩⟩⟩
theorem lw_p16 : lw_okq (⟨"AskedMaps", "isPlace", "(I)Z"⟩, 14) := ⟨⟨by decide +kernel, by decide +kernel⟩, List.mem_of_getElem? (i := 16) (by decide +kernel), List.mem_of_getElem? (i := 517) (by decide +kernel), List.mem_of_getElem? (i := 518) (by decide +kernel)⟩
theorem lw_p17 : lw_okq (⟨"AskedMaps", "beforeChange", "()V"⟩, 14) := ⟨⟨by decide +kernel, by decide +kernel⟩, List.mem_of_getElem? (i := 16) (by decide +kernel), List.mem_of_getElem? (i := 522) (by decide +kernel), List.mem_of_getElem? (i := 523) (by decide +kernel)⟩
theorem lw_p18 : lw_okq (⟨"AskedMaps", "draftIsWay", "()Z"⟩, 14) := ⟨⟨by decide +kernel, by decide +kernel⟩, List.mem_of_getElem? (i := 16) (by decide +kernel), List.mem_of_getElem? (i := 537) (by decide +kernel), List.mem_of_getElem? (i := 538) (by decide +kernel)⟩
theorem lw_p19 : lw_okq (⟨"AskedMaps", "askedCost", "()I"⟩, 14) := ⟨⟨by decide +kernel, by decide +kernel⟩, List.mem_of_getElem? (i := 16) (by decide +kernel), List.mem_of_getElem? (i := 541) (by decide +kernel), List.mem_of_getElem? (i := 542) (by decide +kernel)⟩
theorem lw_p20 : lw_okq (⟨"AskedMaps", "allMaps", "()I"⟩, 14) := ⟨⟨by decide +kernel, by decide +kernel⟩, List.mem_of_getElem? (i := 16) (by decide +kernel), List.mem_of_getElem? (i := 545) (by decide +kernel), List.mem_of_getElem? (i := 546) (by decide +kernel)⟩
theorem lw_p21 : lw_okq (⟨"AskedMaps", "waysOf", "(I)J"⟩, 14) := ⟨⟨by decide +kernel, by decide +kernel⟩, List.mem_of_getElem? (i := 16) (by decide +kernel), List.mem_of_getElem? (i := 549) (by decide +kernel), List.mem_of_getElem? (i := 550) (by decide +kernel)⟩
theorem lw_p22 : lw_okq (⟨"AskedMaps", "costOf", "(J)I"⟩, 14) := ⟨⟨by decide +kernel, by decide +kernel⟩, List.mem_of_getElem? (i := 16) (by decide +kernel), List.mem_of_getElem? (i := 558) (by decide +kernel), List.mem_of_getElem? (i := 559) (by decide +kernel)⟩
theorem lw_p23 : lw_okq (⟨"AskedMaps$Search", "bindWay", "(LAskedMaps$Ways;I)V"⟩, 9) := ⟨⟨by decide +kernel, by decide +kernel⟩, List.mem_of_getElem? (i := 176) (by decide +kernel), List.mem_of_getElem? (i := 567) (by decide +kernel), List.mem_of_getElem? (i := 568) (by decide +kernel)⟩
theorem lw_p24 : lw_okq (⟨"AskedMaps$Search", "lowest", "(I)I"⟩, 9) := ⟨⟨by decide +kernel, by decide +kernel⟩, List.mem_of_getElem? (i := 176) (by decide +kernel), List.mem_of_getElem? (i := 585) (by decide +kernel), List.mem_of_getElem? (i := 586) (by decide +kernel)⟩
theorem lw_p25 : lw_okq (⟨"AskedMaps$Search", "highest", "(I)I"⟩, 9) := ⟨⟨by decide +kernel, by decide +kernel⟩, List.mem_of_getElem? (i := 176) (by decide +kernel), List.mem_of_getElem? (i := 592) (by decide +kernel), List.mem_of_getElem? (i := 593) (by decide +kernel)⟩
theorem lw_p26 : lw_okq (⟨"AskedMaps$Search", "choose", "(II)V"⟩, 9) := ⟨⟨by decide +kernel, by decide +kernel⟩, List.mem_of_getElem? (i := 176) (by decide +kernel), List.mem_of_getElem? (i := 596) (by decide +kernel), List.mem_of_getElem? (i := 597) (by decide +kernel)⟩
theorem lw_p27 : lw_okq (⟨"AskedMaps", "addDug", "(I)V"⟩, 14) := ⟨⟨by decide +kernel, by decide +kernel⟩, List.mem_of_getElem? (i := 16) (by decide +kernel), List.mem_of_getElem? (i := 611) (by decide +kernel), List.mem_of_getElem? (i := 612) (by decide +kernel)⟩
theorem lw_p28 : lw_okq (⟨"AskedMaps$Now", "copyRow", "(II)V"⟩, 5) := ⟨⟨by decide +kernel, by decide +kernel⟩, List.mem_of_getElem? (i := 90) (by decide +kernel), List.mem_of_getElem? (i := 621) (by decide +kernel), List.mem_of_getElem? (i := 622) (by decide +kernel)⟩
theorem lw_p29 : lw_okq (⟨"AskedMaps", "standing", "()I"⟩, 14) := ⟨⟨by decide +kernel, by decide +kernel⟩, List.mem_of_getElem? (i := 16) (by decide +kernel), List.mem_of_getElem? (i := 680) (by decide +kernel), List.mem_of_getElem? (i := 681) (by decide +kernel)⟩
theorem lw_p30 : lw_okq (⟨"AskedMaps", "canHold", "(J)Z"⟩, 14) := ⟨⟨by decide +kernel, by decide +kernel⟩, List.mem_of_getElem? (i := 16) (by decide +kernel), List.mem_of_getElem? (i := 684) (by decide +kernel), List.mem_of_getElem? (i := 685) (by decide +kernel)⟩
theorem lw_p31 : lw_okq (⟨"AskedMaps", "partsStand", "(II)Z"⟩, 14) := ⟨⟨by decide +kernel, by decide +kernel⟩, List.mem_of_getElem? (i := 16) (by decide +kernel), List.mem_of_getElem? (i := 688) (by decide +kernel), List.mem_of_getElem? (i := 689) (by decide +kernel)⟩
def lw_privs_2 : List (MethodName × Nat) := [(⟨"AskedMaps", "isPlace", "(I)Z"⟩, 14), (⟨"AskedMaps", "beforeChange", "()V"⟩, 14), (⟨"AskedMaps", "draftIsWay", "()Z"⟩, 14), (⟨"AskedMaps", "askedCost", "()I"⟩, 14), (⟨"AskedMaps", "allMaps", "()I"⟩, 14), (⟨"AskedMaps", "waysOf", "(I)J"⟩, 14), (⟨"AskedMaps", "costOf", "(J)I"⟩, 14), (⟨"AskedMaps$Search", "bindWay", "(LAskedMaps$Ways;I)V"⟩, 9), (⟨"AskedMaps$Search", "lowest", "(I)I"⟩, 9), (⟨"AskedMaps$Search", "highest", "(I)I"⟩, 9), (⟨"AskedMaps$Search", "choose", "(II)V"⟩, 9), (⟨"AskedMaps", "addDug", "(I)V"⟩, 14), (⟨"AskedMaps$Now", "copyRow", "(II)V"⟩, 5), (⟨"AskedMaps", "standing", "()I"⟩, 14), (⟨"AskedMaps", "canHold", "(J)Z"⟩, 14), (⟨"AskedMaps", "partsStand", "(II)Z"⟩, 14)]
theorem lw_r2 : ∀ q ∈ lw_privs_2, lw_okq q := List.forall_mem_cons.mpr ⟨lw_p16, List.forall_mem_cons.mpr ⟨lw_p17, List.forall_mem_cons.mpr ⟨lw_p18, List.forall_mem_cons.mpr ⟨lw_p19, List.forall_mem_cons.mpr ⟨lw_p20, List.forall_mem_cons.mpr ⟨lw_p21, List.forall_mem_cons.mpr ⟨lw_p22, List.forall_mem_cons.mpr ⟨lw_p23, List.forall_mem_cons.mpr ⟨lw_p24, List.forall_mem_cons.mpr ⟨lw_p25, List.forall_mem_cons.mpr ⟨lw_p26, List.forall_mem_cons.mpr ⟨lw_p27, List.forall_mem_cons.mpr ⟨lw_p28, List.forall_mem_cons.mpr ⟨lw_p29, List.forall_mem_cons.mpr ⟨lw_p30, List.forall_mem_cons.mpr ⟨lw_p31, fun _ h => absurd h List.not_mem_nil⟩⟩⟩⟩⟩⟩⟩⟩⟩⟩⟩⟩⟩⟩⟩⟩
theorem lw_p32 : lw_okq (⟨"AskedMaps", "findSpite", "()V"⟩, 14) := ⟨⟨by decide +kernel, by decide +kernel⟩, List.mem_of_getElem? (i := 16) (by decide +kernel), List.mem_of_getElem? (i := 701) (by decide +kernel), List.mem_of_getElem? (i := 702) (by decide +kernel)⟩
theorem lw_p33 : lw_okq (⟨"AskedMaps", "chances", "(II)I"⟩, 14) := ⟨⟨by decide +kernel, by decide +kernel⟩, List.mem_of_getElem? (i := 16) (by decide +kernel), List.mem_of_getElem? (i := 725) (by decide +kernel), List.mem_of_getElem? (i := 726) (by decide +kernel)⟩
theorem lw_p34 : lw_okq (⟨"AskedMaps$Stranger", "addFitting", "(I)V"⟩, 7) := ⟨⟨by decide +kernel, by decide +kernel⟩, List.mem_of_getElem? (i := 255) (by decide +kernel), List.mem_of_getElem? (i := 753) (by decide +kernel), List.mem_of_getElem? (i := 754) (by decide +kernel)⟩
theorem lw_p35 : lw_okq (⟨"AskedMaps", "asLane", "(I)I"⟩, 14) := ⟨⟨by decide +kernel, by decide +kernel⟩, List.mem_of_getElem? (i := 16) (by decide +kernel), List.mem_of_getElem? (i := 767) (by decide +kernel), List.mem_of_getElem? (i := 768) (by decide +kernel)⟩
theorem lw_p36 : lw_okq (⟨"AskedMaps", "asBrook", "(I)I"⟩, 14) := ⟨⟨by decide +kernel, by decide +kernel⟩, List.mem_of_getElem? (i := 16) (by decide +kernel), List.mem_of_getElem? (i := 771) (by decide +kernel), List.mem_of_getElem? (i := 772) (by decide +kernel)⟩
theorem lw_p37 : lw_okq (⟨"AskedMaps", "asCart", "(I)I"⟩, 14) := ⟨⟨by decide +kernel, by decide +kernel⟩, List.mem_of_getElem? (i := 16) (by decide +kernel), List.mem_of_getElem? (i := 776) (by decide +kernel), List.mem_of_getElem? (i := 777) (by decide +kernel)⟩
theorem lw_p38 : lw_okq (⟨"AskedMaps", "asParlour", "(I)I"⟩, 14) := ⟨⟨by decide +kernel, by decide +kernel⟩, List.mem_of_getElem? (i := 16) (by decide +kernel), List.mem_of_getElem? (i := 781) (by decide +kernel), List.mem_of_getElem? (i := 782) (by decide +kernel)⟩
theorem lw_p39 : lw_okq (⟨"AskedMaps", "asHome", "(I)I"⟩, 14) := ⟨⟨by decide +kernel, by decide +kernel⟩, List.mem_of_getElem? (i := 16) (by decide +kernel), List.mem_of_getElem? (i := 786) (by decide +kernel), List.mem_of_getElem? (i := 787) (by decide +kernel)⟩
theorem lw_p40 : lw_okq (⟨"AskedMaps", "asSea", "(I)I"⟩, 14) := ⟨⟨by decide +kernel, by decide +kernel⟩, List.mem_of_getElem? (i := 16) (by decide +kernel), List.mem_of_getElem? (i := 791) (by decide +kernel), List.mem_of_getElem? (i := 792) (by decide +kernel)⟩
theorem lw_p41 : lw_okq (⟨"AskedMapsModel", "begins", "()V"⟩, 35) := ⟨⟨by decide +kernel, by decide +kernel⟩, List.mem_of_getElem? (i := 812) (by decide +kernel), List.mem_of_getElem? (i := 818) (by decide +kernel), List.mem_of_getElem? (i := 819) (by decide +kernel)⟩
theorem lw_p42 : lw_okq (⟨"AskedMapsModel", "settles", "()V"⟩, 35) := ⟨⟨by decide +kernel, by decide +kernel⟩, List.mem_of_getElem? (i := 812) (by decide +kernel), List.mem_of_getElem? (i := 822) (by decide +kernel), List.mem_of_getElem? (i := 823) (by decide +kernel)⟩
theorem lw_p43 : lw_okq (⟨"AskedMapsModel", "endsOf", "(I)I"⟩, 35) := ⟨⟨by decide +kernel, by decide +kernel⟩, List.mem_of_getElem? (i := 812) (by decide +kernel), List.mem_of_getElem? (i := 826) (by decide +kernel), List.mem_of_getElem? (i := 827) (by decide +kernel)⟩
theorem lw_p44 : lw_okq (⟨"AskedMapsModel", "advances", "()V"⟩, 35) := ⟨⟨by decide +kernel, by decide +kernel⟩, List.mem_of_getElem? (i := 812) (by decide +kernel), List.mem_of_getElem? (i := 952) (by decide +kernel), List.mem_of_getElem? (i := 953) (by decide +kernel)⟩
theorem lw_p45 : lw_okq (⟨"AskedMapsModel", "letterAt", "(I)I"⟩, 35) := ⟨⟨by decide +kernel, by decide +kernel⟩, List.mem_of_getElem? (i := 812) (by decide +kernel), List.mem_of_getElem? (i := 956) (by decide +kernel), List.mem_of_getElem? (i := 957) (by decide +kernel)⟩
theorem lw_p46 : lw_okq (⟨"AskedMapsModel", "isWell", "()Z"⟩, 35) := ⟨⟨by decide +kernel, by decide +kernel⟩, List.mem_of_getElem? (i := 812) (by decide +kernel), List.mem_of_getElem? (i := 960) (by decide +kernel), List.mem_of_getElem? (i := 961) (by decide +kernel)⟩
theorem lw_p47 : lw_okq (⟨"AskedMapsModel", "takes", "(Z)I"⟩, 35) := ⟨⟨by decide +kernel, by decide +kernel⟩, List.mem_of_getElem? (i := 812) (by decide +kernel), List.mem_of_getElem? (i := 964) (by decide +kernel), List.mem_of_getElem? (i := 965) (by decide +kernel)⟩
def lw_privs_3 : List (MethodName × Nat) := [(⟨"AskedMaps", "findSpite", "()V"⟩, 14), (⟨"AskedMaps", "chances", "(II)I"⟩, 14), (⟨"AskedMaps$Stranger", "addFitting", "(I)V"⟩, 7), (⟨"AskedMaps", "asLane", "(I)I"⟩, 14), (⟨"AskedMaps", "asBrook", "(I)I"⟩, 14), (⟨"AskedMaps", "asCart", "(I)I"⟩, 14), (⟨"AskedMaps", "asParlour", "(I)I"⟩, 14), (⟨"AskedMaps", "asHome", "(I)I"⟩, 14), (⟨"AskedMaps", "asSea", "(I)I"⟩, 14), (⟨"AskedMapsModel", "begins", "()V"⟩, 35), (⟨"AskedMapsModel", "settles", "()V"⟩, 35), (⟨"AskedMapsModel", "endsOf", "(I)I"⟩, 35), (⟨"AskedMapsModel", "advances", "()V"⟩, 35), (⟨"AskedMapsModel", "letterAt", "(I)I"⟩, 35), (⟨"AskedMapsModel", "isWell", "()Z"⟩, 35), (⟨"AskedMapsModel", "takes", "(Z)I"⟩, 35)]
theorem lw_r3 : ∀ q ∈ lw_privs_3, lw_okq q := List.forall_mem_cons.mpr ⟨lw_p32, List.forall_mem_cons.mpr ⟨lw_p33, List.forall_mem_cons.mpr ⟨lw_p34, List.forall_mem_cons.mpr ⟨lw_p35, List.forall_mem_cons.mpr ⟨lw_p36, List.forall_mem_cons.mpr ⟨lw_p37, List.forall_mem_cons.mpr ⟨lw_p38, List.forall_mem_cons.mpr ⟨lw_p39, List.forall_mem_cons.mpr ⟨lw_p40, List.forall_mem_cons.mpr ⟨lw_p41, List.forall_mem_cons.mpr ⟨lw_p42, List.forall_mem_cons.mpr ⟨lw_p43, List.forall_mem_cons.mpr ⟨lw_p44, List.forall_mem_cons.mpr ⟨lw_p45, List.forall_mem_cons.mpr ⟨lw_p46, List.forall_mem_cons.mpr ⟨lw_p47, fun _ h => absurd h List.not_mem_nil⟩⟩⟩⟩⟩⟩⟩⟩⟩⟩⟩⟩⟩⟩⟩⟩
theorem lw_p48 : lw_okq (⟨"AskedMapsModel", "readsItem", "(I)V"⟩, 35) := ⟨⟨by decide +kernel, by decide +kernel⟩, List.mem_of_getElem? (i := 812) (by decide +kernel), List.mem_of_getElem? (i := 968) (by decide +kernel), List.mem_of_getElem? (i := 969) (by decide +kernel)⟩
theorem lw_p49 : lw_okq (⟨"AskedMapsModel", "number", "(II)I"⟩, 35) := ⟨⟨by decide +kernel, by decide +kernel⟩, List.mem_of_getElem? (i := 812) (by decide +kernel), List.mem_of_getElem? (i := 972) (by decide +kernel), List.mem_of_getElem? (i := 973) (by decide +kernel)⟩
theorem lw_p50 : lw_okq (⟨"AskedMapsModel", "readsLane", "()V"⟩, 35) := ⟨⟨by decide +kernel, by decide +kernel⟩, List.mem_of_getElem? (i := 812) (by decide +kernel), List.mem_of_getElem? (i := 976) (by decide +kernel), List.mem_of_getElem? (i := 977) (by decide +kernel)⟩
theorem lw_p51 : lw_okq (⟨"AskedMapsModel", "laneOf", "(IIII)I"⟩, 35) := ⟨⟨by decide +kernel, by decide +kernel⟩, List.mem_of_getElem? (i := 812) (by decide +kernel), List.mem_of_getElem? (i := 980) (by decide +kernel), List.mem_of_getElem? (i := 981) (by decide +kernel)⟩
theorem lw_p52 : lw_okq (⟨"AskedMapsModel", "readsMap", "()V"⟩, 35) := ⟨⟨by decide +kernel, by decide +kernel⟩, List.mem_of_getElem? (i := 812) (by decide +kernel), List.mem_of_getElem? (i := 984) (by decide +kernel), List.mem_of_getElem? (i := 985) (by decide +kernel)⟩
theorem lw_p53 : lw_okq (⟨"AskedMapsModel", "canBeNext", "([IIIIII)Z"⟩, 35) := ⟨⟨by decide +kernel, by decide +kernel⟩, List.mem_of_getElem? (i := 812) (by decide +kernel), List.mem_of_getElem? (i := 988) (by decide +kernel), List.mem_of_getElem? (i := 989) (by decide +kernel)⟩
theorem lw_p54 : lw_okq (⟨"AskedMapsModel", "isLane", "(I)Z"⟩, 35) := ⟨⟨by decide +kernel, by decide +kernel⟩, List.mem_of_getElem? (i := 812) (by decide +kernel), List.mem_of_getElem? (i := 996) (by decide +kernel), List.mem_of_getElem? (i := 997) (by decide +kernel)⟩
theorem lw_p55 : lw_okq (⟨"AskedMapsModel", "mapsBy", "(I)I"⟩, 35) := ⟨⟨by decide +kernel, by decide +kernel⟩, List.mem_of_getElem? (i := 812) (by decide +kernel), List.mem_of_getElem? (i := 1000) (by decide +kernel), List.mem_of_getElem? (i := 1001) (by decide +kernel)⟩
theorem lw_p56 : lw_okq (⟨"AskedMapsModel", "mapLanes", "(I)I"⟩, 35) := ⟨⟨by decide +kernel, by decide +kernel⟩, List.mem_of_getElem? (i := 812) (by decide +kernel), List.mem_of_getElem? (i := 1004) (by decide +kernel), List.mem_of_getElem? (i := 1005) (by decide +kernel)⟩
theorem lw_p57 : lw_okq (⟨"AskedMapsModel", "lanesOf", "(II)I"⟩, 35) := ⟨⟨by decide +kernel, by decide +kernel⟩, List.mem_of_getElem? (i := 812) (by decide +kernel), List.mem_of_getElem? (i := 1008) (by decide +kernel), List.mem_of_getElem? (i := 1009) (by decide +kernel)⟩
theorem lw_p58 : lw_okq (⟨"AskedMapsModel", "isMap", "(I)Z"⟩, 35) := ⟨⟨by decide +kernel, by decide +kernel⟩, List.mem_of_getElem? (i := 812) (by decide +kernel), List.mem_of_getElem? (i := 1016) (by decide +kernel), List.mem_of_getElem? (i := 1017) (by decide +kernel)⟩
theorem lw_p59 : lw_okq (⟨"AskedMapsModel", "measures", "([I)V"⟩, 35) := ⟨⟨by decide +kernel, by decide +kernel⟩, List.mem_of_getElem? (i := 812) (by decide +kernel), List.mem_of_getElem? (i := 1020) (by decide +kernel), List.mem_of_getElem? (i := 1021) (by decide +kernel)⟩
theorem lw_p60 : lw_okq (⟨"AskedMapsModel", "holds", "(I)Z"⟩, 35) := ⟨⟨by decide +kernel, by decide +kernel⟩, List.mem_of_getElem? (i := 812) (by decide +kernel), List.mem_of_getElem? (i := 1025) (by decide +kernel), List.mem_of_getElem? (i := 1026) (by decide +kernel)⟩
theorem lw_p61 : lw_okq (⟨"AskedMapsModel", "isPlace", "(I)Z"⟩, 35) := ⟨⟨by decide +kernel, by decide +kernel⟩, List.mem_of_getElem? (i := 812) (by decide +kernel), List.mem_of_getElem? (i := 1041) (by decide +kernel), List.mem_of_getElem? (i := 1042) (by decide +kernel)⟩
theorem lw_p62 : lw_okq (⟨"AskedMapsModel", "notes", "()V"⟩, 35) := ⟨⟨by decide +kernel, by decide +kernel⟩, List.mem_of_getElem? (i := 812) (by decide +kernel), List.mem_of_getElem? (i := 1045) (by decide +kernel), List.mem_of_getElem? (i := 1046) (by decide +kernel)⟩
theorem lw_p63 : lw_okq (⟨"AskedMapsModel", "draftLanes", "()I"⟩, 35) := ⟨⟨by decide +kernel, by decide +kernel⟩, List.mem_of_getElem? (i := 812) (by decide +kernel), List.mem_of_getElem? (i := 1053) (by decide +kernel), List.mem_of_getElem? (i := 1054) (by decide +kernel)⟩
def lw_privs_4 : List (MethodName × Nat) := [(⟨"AskedMapsModel", "readsItem", "(I)V"⟩, 35), (⟨"AskedMapsModel", "number", "(II)I"⟩, 35), (⟨"AskedMapsModel", "readsLane", "()V"⟩, 35), (⟨"AskedMapsModel", "laneOf", "(IIII)I"⟩, 35), (⟨"AskedMapsModel", "readsMap", "()V"⟩, 35), (⟨"AskedMapsModel", "canBeNext", "([IIIIII)Z"⟩, 35), (⟨"AskedMapsModel", "isLane", "(I)Z"⟩, 35), (⟨"AskedMapsModel", "mapsBy", "(I)I"⟩, 35), (⟨"AskedMapsModel", "mapLanes", "(I)I"⟩, 35), (⟨"AskedMapsModel", "lanesOf", "(II)I"⟩, 35), (⟨"AskedMapsModel", "isMap", "(I)Z"⟩, 35), (⟨"AskedMapsModel", "measures", "([I)V"⟩, 35), (⟨"AskedMapsModel", "holds", "(I)Z"⟩, 35), (⟨"AskedMapsModel", "isPlace", "(I)Z"⟩, 35), (⟨"AskedMapsModel", "notes", "()V"⟩, 35), (⟨"AskedMapsModel", "draftLanes", "()I"⟩, 35)]
theorem lw_r4 : ∀ q ∈ lw_privs_4, lw_okq q := List.forall_mem_cons.mpr ⟨lw_p48, List.forall_mem_cons.mpr ⟨lw_p49, List.forall_mem_cons.mpr ⟨lw_p50, List.forall_mem_cons.mpr ⟨lw_p51, List.forall_mem_cons.mpr ⟨lw_p52, List.forall_mem_cons.mpr ⟨lw_p53, List.forall_mem_cons.mpr ⟨lw_p54, List.forall_mem_cons.mpr ⟨lw_p55, List.forall_mem_cons.mpr ⟨lw_p56, List.forall_mem_cons.mpr ⟨lw_p57, List.forall_mem_cons.mpr ⟨lw_p58, List.forall_mem_cons.mpr ⟨lw_p59, List.forall_mem_cons.mpr ⟨lw_p60, List.forall_mem_cons.mpr ⟨lw_p61, List.forall_mem_cons.mpr ⟨lw_p62, List.forall_mem_cons.mpr ⟨lw_p63, fun _ h => absurd h List.not_mem_nil⟩⟩⟩⟩⟩⟩⟩⟩⟩⟩⟩⟩⟩⟩⟩⟩
theorem lw_p64 : lw_okq (⟨"AskedMapsModel", "scans", "(I)V"⟩, 35) := ⟨⟨by decide +kernel, by decide +kernel⟩, List.mem_of_getElem? (i := 812) (by decide +kernel), List.mem_of_getElem? (i := 1057) (by decide +kernel), List.mem_of_getElem? (i := 1058) (by decide +kernel)⟩
theorem lw_p65 : lw_okq (⟨"AskedMapsModel", "scansOne", "()V"⟩, 35) := ⟨⟨by decide +kernel, by decide +kernel⟩, List.mem_of_getElem? (i := 812) (by decide +kernel), List.mem_of_getElem? (i := 1061) (by decide +kernel), List.mem_of_getElem? (i := 1062) (by decide +kernel)⟩
theorem lw_p66 : lw_okq (⟨"AskedMapsModel", "allMaps", "()I"⟩, 35) := ⟨⟨by decide +kernel, by decide +kernel⟩, List.mem_of_getElem? (i := 812) (by decide +kernel), List.mem_of_getElem? (i := 1068) (by decide +kernel), List.mem_of_getElem? (i := 1069) (by decide +kernel)⟩
theorem lw_p67 : lw_okq (⟨"AskedMapsModel", "steps", "()Z"⟩, 35) := ⟨⟨by decide +kernel, by decide +kernel⟩, List.mem_of_getElem? (i := 812) (by decide +kernel), List.mem_of_getElem? (i := 1072) (by decide +kernel), List.mem_of_getElem? (i := 1073) (by decide +kernel)⟩
theorem lw_p68 : lw_okq (⟨"AskedMapsModel", "costOf", "(I)I"⟩, 35) := ⟨⟨by decide +kernel, by decide +kernel⟩, List.mem_of_getElem? (i := 812) (by decide +kernel), List.mem_of_getElem? (i := 1076) (by decide +kernel), List.mem_of_getElem? (i := 1077) (by decide +kernel)⟩
theorem lw_p69 : lw_okq (⟨"AskedMapsModel", "digsFor", "(I)V"⟩, 35) := ⟨⟨by decide +kernel, by decide +kernel⟩, List.mem_of_getElem? (i := 812) (by decide +kernel), List.mem_of_getElem? (i := 1080) (by decide +kernel), List.mem_of_getElem? (i := 1081) (by decide +kernel)⟩
theorem lw_p70 : lw_okq (⟨"AskedMapsModel", "spiteSet", "()I"⟩, 35) := ⟨⟨by decide +kernel, by decide +kernel⟩, List.mem_of_getElem? (i := 812) (by decide +kernel), List.mem_of_getElem? (i := 1135) (by decide +kernel), List.mem_of_getElem? (i := 1136) (by decide +kernel)⟩
theorem lw_p71 : lw_okq (⟨"AskedMapsModel", "reads", "(I)I"⟩, 35) := ⟨⟨by decide +kernel, by decide +kernel⟩, List.mem_of_getElem? (i := 812) (by decide +kernel), List.mem_of_getElem? (i := 1139) (by decide +kernel), List.mem_of_getElem? (i := 1140) (by decide +kernel)⟩
theorem lw_p72 : lw_okq (⟨"AskedMapsModel", "isAhead", "(II)Z"⟩, 35) := ⟨⟨by decide +kernel, by decide +kernel⟩, List.mem_of_getElem? (i := 812) (by decide +kernel), List.mem_of_getElem? (i := 1143) (by decide +kernel), List.mem_of_getElem? (i := 1144) (by decide +kernel)⟩
theorem lw_p73 : lw_okq (⟨"AskedMapsModel", "mayBe", "(I)Z"⟩, 35) := ⟨⟨by decide +kernel, by decide +kernel⟩, List.mem_of_getElem? (i := 812) (by decide +kernel), List.mem_of_getElem? (i := 1170) (by decide +kernel), List.mem_of_getElem? (i := 1171) (by decide +kernel)⟩
def lw_privs_5 : List (MethodName × Nat) := [(⟨"AskedMapsModel", "scans", "(I)V"⟩, 35), (⟨"AskedMapsModel", "scansOne", "()V"⟩, 35), (⟨"AskedMapsModel", "allMaps", "()I"⟩, 35), (⟨"AskedMapsModel", "steps", "()Z"⟩, 35), (⟨"AskedMapsModel", "costOf", "(I)I"⟩, 35), (⟨"AskedMapsModel", "digsFor", "(I)V"⟩, 35), (⟨"AskedMapsModel", "spiteSet", "()I"⟩, 35), (⟨"AskedMapsModel", "reads", "(I)I"⟩, 35), (⟨"AskedMapsModel", "isAhead", "(II)Z"⟩, 35), (⟨"AskedMapsModel", "mayBe", "(I)Z"⟩, 35)]
theorem lw_r5 : ∀ q ∈ lw_privs_5, lw_okq q := List.forall_mem_cons.mpr ⟨lw_p64, List.forall_mem_cons.mpr ⟨lw_p65, List.forall_mem_cons.mpr ⟨lw_p66, List.forall_mem_cons.mpr ⟨lw_p67, List.forall_mem_cons.mpr ⟨lw_p68, List.forall_mem_cons.mpr ⟨lw_p69, List.forall_mem_cons.mpr ⟨lw_p70, List.forall_mem_cons.mpr ⟨lw_p71, List.forall_mem_cons.mpr ⟨lw_p72, List.forall_mem_cons.mpr ⟨lw_p73, fun _ h => absurd h List.not_mem_nil⟩⟩⟩⟩⟩⟩⟩⟩⟩⟩
def lw_privs : List (MethodName × Nat) := lw_privs_1 ++ (lw_privs_2 ++ (lw_privs_3 ++ (lw_privs_4 ++ (lw_privs_5))))
def lw_tbl : List Cond := k2_sels lw_privs ++ tables_1
theorem lw_privs_ok : ∀ q ∈ lw_privs, lw_okq q := by
  show ∀ q ∈ lw_privs_1 ++ (lw_privs_2 ++ (lw_privs_3 ++ (lw_privs_4 ++ (lw_privs_5)))), lw_okq q
  exact List.forall_mem_append.mpr ⟨lw_r1, List.forall_mem_append.mpr ⟨lw_r2, List.forall_mem_append.mpr ⟨lw_r3, List.forall_mem_append.mpr ⟨lw_r4, lw_r5⟩⟩⟩⟩
-- ===== end of PART A; then your names; then what follows =====
end
section
def RX0 : String := "AskedMaps$Asked"
def TX0 : u_T := fun k => match k with
  | 0 => ("AskedMaps$Asked", "known", "Z", false)
  | 1 => ("AskedMaps$Asked", "cost", "I", false)
  | _ => ("AskedMaps$Asked", "lengths", "[I", true)
def tyX0 : Nat → FieldType := fun k => match k with
  | 0 => .boolean
  | 1 => .int
  | _ => .array .int
abbrev wsX00 : List Cond := u_ws RX0 TX0 3
theorem nmX0 : ∀ a, a < 3 → ∀ b, b < 3 → a ≠ b → (TX0 a).2.1 ≠ (TX0 b).2.1 := by decide +kernel
theorem tyX0_ok : ∀ k, k < 3 → parseFieldDescriptor (TX0 k).2.2.1 = some (tyX0 k) := by decide +kernel
abbrev cX0_init : ByteArray := prog_2_method_1_code
def yX0_init : MethodName := ⟨RX0, "<init>", "()V"⟩
def RX1 : String := "AskedMaps$Ground"
def TX1 : u_T := fun k => match k with
  | 0 => ("AskedMaps$Ground", "places", "I", false)
  | 1 => ("AskedMaps$Ground", "lanes", "I", false)
  | 2 => ("AskedMaps$Ground", "first", "[I", true)
  | 3 => ("AskedMaps$Ground", "second", "[I", true)
  | 4 => ("AskedMaps$Ground", "spades", "[I", true)
  | _ => ("AskedMaps$Ground", "joins", "[I", true)
def tyX1 : Nat → FieldType := fun k => match k with
  | 0 => .int
  | 1 => .int
  | 2 => .array .int
  | 3 => .array .int
  | 4 => .array .int
  | _ => .array .int
abbrev wsX10 : List Cond := u_ws RX1 TX1 6
theorem nmX1 : ∀ a, a < 6 → ∀ b, b < 6 → a ≠ b → (TX1 a).2.1 ≠ (TX1 b).2.1 := by decide +kernel
theorem tyX1_ok : ∀ k, k < 6 → parseFieldDescriptor (TX1 k).2.2.1 = some (tyX1 k) := by decide +kernel
abbrev cX1_init : ByteArray := prog_3_method_1_code
def yX1_init : MethodName := ⟨RX1, "<init>", "()V"⟩
abbrev cX1_empty : ByteArray := prog_3_method_2_code
def yX1_empty : MethodName := ⟨RX1, "empty", "()V"⟩
abbrev cX1_laneBetween : ByteArray := prog_3_method_3_code
def yX1_laneBetween : MethodName := ⟨RX1, "laneBetween", "(II)I"⟩
abbrev cX1_addLane : ByteArray := prog_3_method_4_code
def yX1_addLane : MethodName := ⟨RX1, "addLane", "(III)V"⟩
abbrev cX1_lengthOf : ByteArray := prog_3_method_5_code
def yX1_lengthOf : MethodName := ⟨RX1, "lengthOf", "(I[I)I"⟩
def RX2 : String := "AskedMaps$Now"
def TX2 : u_T := fun k => match k with
  | 0 => ("AskedMaps$Now", "lengths", "[I", true)
  | 1 => ("AskedMaps$Now", "sizes", "[I", true)
  | 2 => ("AskedMaps$Now", "spots", "[I", true)
  | 3 => ("AskedMaps$Now", "maps", "I", false)
  | _ => ("AskedMaps$Now", "dug", "I", false)
def tyX2 : Nat → FieldType := fun k => match k with
  | 0 => .array .int
  | 1 => .array .int
  | 2 => .array .int
  | 3 => .int
  | _ => .int
abbrev wsX20 : List Cond := u_ws RX2 TX2 5
theorem nmX2 : ∀ a, a < 5 → ∀ b, b < 5 → a ≠ b → (TX2 a).2.1 ≠ (TX2 b).2.1 := by decide +kernel
theorem tyX2_ok : ∀ k, k < 5 → parseFieldDescriptor (TX2 k).2.2.1 = some (tyX2 k) := by decide +kernel
abbrev cX2_init : ByteArray := prog_4_method_1_code
def yX2_init : MethodName := ⟨RX2, "<init>", "()V"⟩
abbrev cX2_empty : ByteArray := prog_4_method_2_code
def yX2_empty : MethodName := ⟨RX2, "empty", "()V"⟩
abbrev cX2_become : ByteArray := prog_4_method_3_code
def yX2_become : MethodName := ⟨RX2, "become", "(LAskedMaps$Now;)V"⟩
abbrev cX2_placeAt : ByteArray := prog_4_method_4_code
def yX2_placeAt : MethodName := ⟨RX2, "placeAt", "(II)I"⟩
abbrev cX2_fits : ByteArray := prog_4_method_5_code
def yX2_fits : MethodName := ⟨RX2, "fits", "(LAskedMaps$Ground;II)Z"⟩
abbrev cX2_append : ByteArray := prog_4_method_6_code
def yX2_append : MethodName := ⟨RX2, "append", "(II)V"⟩
abbrev cX2_lanesOf : ByteArray := prog_4_method_7_code
def yX2_lanesOf : MethodName := ⟨RX2, "lanesOf", "(LAskedMaps$Ground;I)I"⟩
abbrev cX2_draftToMap : ByteArray := prog_4_method_8_code
def yX2_draftToMap : MethodName := ⟨RX2, "draftToMap", "()V"⟩
abbrev cX2_dropMap : ByteArray := prog_4_method_9_code
def yX2_dropMap : MethodName := ⟨RX2, "dropMap", "(I)V"⟩
abbrev cX2_copyRow : ByteArray := prog_4_method_10_code
def yX2_copyRow : MethodName := ⟨RX2, "copyRow", "(II)V"⟩
def RX3 : String := "AskedMaps$Past"
def TX3 : u_T := fun k => match k with
  | 0 => ("AskedMaps$Past", "rows", "[LAskedMaps$Now;", true)
  | 1 => ("AskedMaps$Past", "next", "I", false)
  | _ => ("AskedMaps$Past", "known", "I", false)
def tyX3 : Nat → FieldType := fun k => match k with
  | 0 => .array (.object "AskedMaps$Now")
  | 1 => .int
  | _ => .int
abbrev wsX30 : List Cond := u_ws RX3 TX3 3
theorem nmX3 : ∀ a, a < 3 → ∀ b, b < 3 → a ≠ b → (TX3 a).2.1 ≠ (TX3 b).2.1 := by decide +kernel
theorem tyX3_ok : ∀ k, k < 3 → parseFieldDescriptor (TX3 k).2.2.1 = some (tyX3 k) := by decide +kernel
abbrev cX3_init : ByteArray := prog_5_method_1_code
def yX3_init : MethodName := ⟨RX3, "<init>", "()V"⟩
abbrev cX3_empty : ByteArray := prog_5_method_2_code
def yX3_empty : MethodName := ⟨RX3, "empty", "()V"⟩
abbrev cX3_remember : ByteArray := prog_5_method_3_code
def yX3_remember : MethodName := ⟨RX3, "remember", "(LAskedMaps$Now;)V"⟩
abbrev cX3_restore : ByteArray := prog_5_method_4_code
def yX3_restore : MethodName := ⟨RX3, "restore", "(LAskedMaps$Now;)V"⟩
def RX4 : String := "AskedMaps$Search"
def TX4 : u_T := fun k => match k with
  | 0 => ("AskedMaps$Search", "lanes", "I", false)
  | 1 => ("AskedMaps$Search", "bonds", "I", false)
  | 2 => ("AskedMaps$Search", "least", "I", false)
  | 3 => ("AskedMaps$Search", "mine", "[I", true)
  | 4 => ("AskedMaps$Search", "rivals", "[I", true)
  | 5 => ("AskedMaps$Search", "excess", "[[I", true)
  | 6 => ("AskedMaps$Search", "lengths", "[I", true)
  | 7 => ("AskedMaps$Search", "spades", "[I", true)
  | _ => ("AskedMaps$Search", "chosen", "[I", true)
def tyX4 : Nat → FieldType := fun k => match k with
  | 0 => .int
  | 1 => .int
  | 2 => .int
  | 3 => .array .int
  | 4 => .array .int
  | 5 => .array (.array .int)
  | 6 => .array .int
  | 7 => .array .int
  | _ => .array .int
abbrev wsX40 : List Cond := u_ws RX4 TX4 9
theorem nmX4 : ∀ a, a < 9 → ∀ b, b < 9 → a ≠ b → (TX4 a).2.1 ≠ (TX4 b).2.1 := by decide +kernel
theorem tyX4_ok : ∀ k, k < 9 → parseFieldDescriptor (TX4 k).2.2.1 = some (tyX4 k) := by decide +kernel
abbrev cX4_init : ByteArray := prog_6_method_1_code
def yX4_init : MethodName := ⟨RX4, "<init>", "()V"⟩
abbrev cX4_begin : ByteArray := prog_6_method_2_code
def yX4_begin : MethodName := ⟨RX4, "begin", "(LAskedMaps$Ground;LAskedMaps$Ways;[IJ)V"⟩
abbrev cX4_bindWay : ByteArray := prog_6_method_3_code
def yX4_bindWay : MethodName := ⟨RX4, "bindWay", "(LAskedMaps$Ways;I)V"⟩
abbrev cX4_leastCost : ByteArray := prog_6_method_4_code
def yX4_leastCost : MethodName := ⟨RX4, "leastCost", "()I"⟩
abbrev cX4_findFirst : ByteArray := prog_6_method_5_code
def yX4_findFirst : MethodName := ⟨RX4, "findFirst", "(I)Z"⟩
abbrev cX4_goCheapest : ByteArray := prog_6_method_6_code
def yX4_goCheapest : MethodName := ⟨RX4, "goCheapest", "(LAskedMaps$Search;II)V"⟩
abbrev cX4_goFirst : ByteArray := prog_6_method_7_code
def yX4_goFirst : MethodName := ⟨RX4, "goFirst", "(LAskedMaps$Search;II)Z"⟩
abbrev cX4_lowest : ByteArray := prog_6_method_8_code
def yX4_lowest : MethodName := ⟨RX4, "lowest", "(I)I"⟩
abbrev cX4_highest : ByteArray := prog_6_method_9_code
def yX4_highest : MethodName := ⟨RX4, "highest", "(I)I"⟩
abbrev cX4_choose : ByteArray := prog_6_method_10_code
def yX4_choose : MethodName := ⟨RX4, "choose", "(II)V"⟩
def RX5 : String := "AskedMaps$Spited"
def TX5 : u_T := fun k => match k with
  | 0 => ("AskedMaps$Spited", "known", "Z", false)
  | 1 => ("AskedMaps$Spited", "cost", "I", false)
  | 2 => ("AskedMaps$Spited", "way", "I", false)
  | _ => ("AskedMaps$Spited", "impossible", "I", false)
def tyX5 : Nat → FieldType := fun k => match k with
  | 0 => .boolean
  | 1 => .int
  | 2 => .int
  | _ => .int
abbrev wsX50 : List Cond := u_ws RX5 TX5 4
theorem nmX5 : ∀ a, a < 4 → ∀ b, b < 4 → a ≠ b → (TX5 a).2.1 ≠ (TX5 b).2.1 := by decide +kernel
theorem tyX5_ok : ∀ k, k < 4 → parseFieldDescriptor (TX5 k).2.2.1 = some (tyX5 k) := by decide +kernel
abbrev cX5_init : ByteArray := prog_7_method_1_code
def yX5_init : MethodName := ⟨RX5, "<init>", "()V"⟩
abbrev cX5_empty : ByteArray := prog_7_method_2_code
def yX5_empty : MethodName := ⟨RX5, "empty", "()V"⟩
abbrev cX5_see : ByteArray := prog_7_method_3_code
def yX5_see : MethodName := ⟨RX5, "see", "(II)V"⟩
def RX6 : String := "AskedMaps$Stranger"
def TX6 : u_T := fun k => match k with
  | 0 => ("AskedMaps$Stranger", "many", "I", false)
  | 1 => ("AskedMaps$Stranger", "takenBits", "I", false)
  | 2 => ("AskedMaps$Stranger", "leftBits", "I", false)
  | 3 => ("AskedMaps$Stranger", "fitting", "I", false)
  | 4 => ("AskedMaps$Stranger", "inAll", "I", false)
  | 5 => ("AskedMaps$Stranger", "inSome", "I", false)
  | _ => ("AskedMaps$Stranger", "byLane", "[I", true)
def tyX6 : Nat → FieldType := fun k => match k with
  | 0 => .int
  | 1 => .int
  | 2 => .int
  | 3 => .int
  | 4 => .int
  | 5 => .int
  | _ => .array .int
abbrev wsX60 : List Cond := u_ws RX6 TX6 7
theorem nmX6 : ∀ a, a < 7 → ∀ b, b < 7 → a ≠ b → (TX6 a).2.1 ≠ (TX6 b).2.1 := by decide +kernel
theorem tyX6_ok : ∀ k, k < 7 → parseFieldDescriptor (TX6 k).2.2.1 = some (tyX6 k) := by decide +kernel
abbrev cX6_init : ByteArray := prog_8_method_1_code
def yX6_init : MethodName := ⟨RX6, "<init>", "()V"⟩
abbrev cX6_empty : ByteArray := prog_8_method_2_code
def yX6_empty : MethodName := ⟨RX6, "empty", "()I"⟩
abbrev cX6_add : ByteArray := prog_8_method_3_code
def yX6_add : MethodName := ⟨RX6, "add", "(II)Z"⟩
abbrev cX6_guess : ByteArray := prog_8_method_4_code
def yX6_guess : MethodName := ⟨RX6, "guess", "(LAskedMaps$Ways;)V"⟩
abbrev cX6_addFitting : ByteArray := prog_8_method_5_code
def yX6_addFitting : MethodName := ⟨RX6, "addFitting", "(I)V"⟩
def RX7 : String := "AskedMaps$Text"
def TX7 : u_T := fun k => match k with
  | 0 => ("AskedMaps$Text", "size", "I", false)
  | 1 => ("AskedMaps$Text", "letters", "[I", true)
  | 2 => ("AskedMaps$Text", "start", "I", false)
  | 3 => ("AskedMaps$Text", "next", "I", false)
  | 4 => ("AskedMaps$Text", "token", "I", false)
  | _ => ("AskedMaps$Text", "value", "I", false)
def tyX7 : Nat → FieldType := fun k => match k with
  | 0 => .int
  | 1 => .array .int
  | 2 => .int
  | 3 => .int
  | 4 => .int
  | _ => .int
abbrev wsX70 : List Cond := u_ws RX7 TX7 6
theorem nmX7 : ∀ a, a < 6 → ∀ b, b < 6 → a ≠ b → (TX7 a).2.1 ≠ (TX7 b).2.1 := by decide +kernel
theorem tyX7_ok : ∀ k, k < 6 → parseFieldDescriptor (TX7 k).2.2.1 = some (tyX7 k) := by decide +kernel
abbrev cX7_init : ByteArray := prog_9_method_1_code
def yX7_init : MethodName := ⟨RX7, "<init>", "()V"⟩
abbrev cX7_add : ByteArray := prog_9_method_2_code
def yX7_add : MethodName := ⟨RX7, "add", "(I)Z"⟩
abbrev cX7_empty : ByteArray := prog_9_method_3_code
def yX7_empty : MethodName := ⟨RX7, "empty", "()I"⟩
abbrev cX7_read : ByteArray := prog_9_method_4_code
def yX7_read : MethodName := ⟨RX7, "read", "(LAskedMaps$Ground;LAskedMaps$Now;)I"⟩
abbrev cX7_readItem : ByteArray := prog_9_method_5_code
def yX7_readItem : MethodName := ⟨RX7, "readItem", "(LAskedMaps$Ground;LAskedMaps$Now;I)Z"⟩
abbrev cX7_readPlaces : ByteArray := prog_9_method_6_code
def yX7_readPlaces : MethodName := ⟨RX7, "readPlaces", "(LAskedMaps$Ground;)Z"⟩
abbrev cX7_readLane : ByteArray := prog_9_method_7_code
def yX7_readLane : MethodName := ⟨RX7, "readLane", "(LAskedMaps$Ground;LAskedMaps$Now;)Z"⟩
abbrev cX7_readMap : ByteArray := prog_9_method_8_code
def yX7_readMap : MethodName := ⟨RX7, "readMap", "(LAskedMaps$Ground;LAskedMaps$Now;)Z"⟩
abbrev cX7_stepTo : ByteArray := prog_9_method_9_code
def yX7_stepTo : MethodName := ⟨RX7, "stepTo", "(II)Z"⟩
abbrev cX7_stepToEnd : ByteArray := prog_9_method_10_code
def yX7_stepToEnd : MethodName := ⟨RX7, "stepToEnd", "()Z"⟩
abbrev cX7_step : ByteArray := prog_9_method_11_code
def yX7_step : MethodName := ⟨RX7, "step", "()V"⟩
abbrev cX7_numberToken : ByteArray := prog_9_method_12_code
def yX7_numberToken : MethodName := ⟨RX7, "numberToken", "()I"⟩
abbrev cX7_letterToken : ByteArray := prog_9_method_13_code
def yX7_letterToken : MethodName := ⟨RX7, "letterToken", "()I"⟩
abbrev cX7_isDigit : ByteArray := prog_9_method_14_code
def yX7_isDigit : MethodName := ⟨RX7, "isDigit", "(I)Z"⟩
def RX8 : String := "AskedMaps$Ways"
def TX8 : u_T := fun k => match k with
  | 0 => ("AskedMaps$Ways", "many", "I", false)
  | 1 => ("AskedMaps$Ways", "spots", "[I", true)
  | 2 => ("AskedMaps$Ways", "sizes", "[I", true)
  | 3 => ("AskedMaps$Ways", "ends", "[I", true)
  | 4 => ("AskedMaps$Ways", "laneBits", "[I", true)
  | 5 => ("AskedMaps$Ways", "lengths", "[I", true)
  | 6 => ("AskedMaps$Ways", "least", "[I", true)
  | _ => ("AskedMaps$Ways", "trail", "[I", true)
def tyX8 : Nat → FieldType := fun k => match k with
  | 0 => .int
  | 1 => .array .int
  | 2 => .array .int
  | 3 => .array .int
  | 4 => .array .int
  | 5 => .array .int
  | 6 => .array .int
  | _ => .array .int
abbrev wsX80 : List Cond := u_ws RX8 TX8 8
theorem nmX8 : ∀ a, a < 8 → ∀ b, b < 8 → a ≠ b → (TX8 a).2.1 ≠ (TX8 b).2.1 := by decide +kernel
theorem tyX8_ok : ∀ k, k < 8 → parseFieldDescriptor (TX8 k).2.2.1 = some (tyX8 k) := by decide +kernel
abbrev cX8_init : ByteArray := prog_10_method_1_code
def yX8_init : MethodName := ⟨RX8, "<init>", "()V"⟩
abbrev cX8_find : ByteArray := prog_10_method_2_code
def yX8_find : MethodName := ⟨RX8, "find", "(LAskedMaps$Ground;)V"⟩
abbrev cX8_walk : ByteArray := prog_10_method_3_code
def yX8_walk : MethodName := ⟨RX8, "walk", "(LAskedMaps$Ways;LAskedMaps$Ground;II)V"⟩
abbrev cX8_onTrail : ByteArray := prog_10_method_4_code
def yX8_onTrail : MethodName := ⟨RX8, "onTrail", "(II)Z"⟩
abbrev cX8_addTrail : ByteArray := prog_10_method_5_code
def yX8_addTrail : MethodName := ⟨RX8, "addTrail", "(II)V"⟩
abbrev cX8_measure : ByteArray := prog_10_method_6_code
def yX8_measure : MethodName := ⟨RX8, "measure", "(LAskedMaps$Ground;[I)V"⟩
abbrev cX8_isShortest : ByteArray := prog_10_method_7_code
def yX8_isShortest : MethodName := ⟨RX8, "isShortest", "(I)Z"⟩
abbrev cX8_leastBetween : ByteArray := prog_10_method_8_code
def yX8_leastBetween : MethodName := ⟨RX8, "leastBetween", "(II)I"⟩
abbrev cX8_shortestBetween : ByteArray := prog_10_method_9_code
def yX8_shortestBetween : MethodName := ⟨RX8, "shortestBetween", "(II)I"⟩
abbrev cX8_placeAt : ByteArray := prog_10_method_10_code
def yX8_placeAt : MethodName := ⟨RX8, "placeAt", "(II)I"⟩
abbrev cX8_wayBy : ByteArray := prog_10_method_11_code
def yX8_wayBy : MethodName := ⟨RX8, "wayBy", "(I)I"⟩
abbrev cX8_bitBy : ByteArray := prog_10_method_12_code
def yX8_bitBy : MethodName := ⟨RX8, "bitBy", "(I)J"⟩
def RX9 : String := "AskedMaps"
def TX9 : u_T := fun k => match k with
  | 0 => ("AskedMaps", "text", "LAskedMaps$Text;", true)
  | 1 => ("AskedMaps", "ground", "LAskedMaps$Ground;", false)
  | 2 => ("AskedMaps", "otherGround", "LAskedMaps$Ground;", false)
  | 3 => ("AskedMaps", "current", "LAskedMaps$Now;", true)
  | 4 => ("AskedMaps", "toldNow", "LAskedMaps$Now;", true)
  | 5 => ("AskedMaps", "ways", "LAskedMaps$Ways;", true)
  | 6 => ("AskedMaps", "past", "LAskedMaps$Past;", true)
  | 7 => ("AskedMaps", "images", "[LAskedMaps$Now;", true)
  | 8 => ("AskedMaps", "imagesKept", "I", false)
  | 9 => ("AskedMaps", "search", "LAskedMaps$Search;", true)
  | 10 => ("AskedMaps", "asked", "LAskedMaps$Asked;", true)
  | 11 => ("AskedMaps", "spited", "LAskedMaps$Spited;", true)
  | 12 => ("AskedMaps", "stranger", "LAskedMaps$Stranger;", true)
  | _ => ("AskedMaps", "traced", "J", false)
def tyX9 : Nat → FieldType := fun k => match k with
  | 0 => .object "AskedMaps$Text"
  | 1 => .object "AskedMaps$Ground"
  | 2 => .object "AskedMaps$Ground"
  | 3 => .object "AskedMaps$Now"
  | 4 => .object "AskedMaps$Now"
  | 5 => .object "AskedMaps$Ways"
  | 6 => .object "AskedMaps$Past"
  | 7 => .array (.object "AskedMaps$Now")
  | 8 => .int
  | 9 => .object "AskedMaps$Search"
  | 10 => .object "AskedMaps$Asked"
  | 11 => .object "AskedMaps$Spited"
  | 12 => .object "AskedMaps$Stranger"
  | _ => .long
abbrev wsX90 : List Cond := u_ws RX9 TX9 14
theorem nmX9 : ∀ a, a < 14 → ∀ b, b < 14 → a ≠ b → (TX9 a).2.1 ≠ (TX9 b).2.1 := by decide +kernel
theorem tyX9_ok : ∀ k, k < 14 → parseFieldDescriptor (TX9 k).2.2.1 = some (tyX9 k) := by decide +kernel
abbrev cX9_init : ByteArray := prog_1_method_1_code
def yX9_init : MethodName := ⟨RX9, "<init>", "()V"⟩
abbrev cX9_type : ByteArray := prog_1_method_2_code
def yX9_type : MethodName := ⟨RX9, "type", "(I)I"⟩
abbrev cX9_clear : ByteArray := prog_1_method_3_code
def yX9_clear : MethodName := ⟨RX9, "clear", "()I"⟩
abbrev cX9_land : ByteArray := prog_1_method_4_code
def yX9_land : MethodName := ⟨RX9, "land", "()I"⟩
abbrev cX9_lane : ByteArray := prog_1_method_5_code
def yX9_lane : MethodName := ⟨RX9, "lane", "(II)I"⟩
abbrev cX9_map : ByteArray := prog_1_method_6_code
def yX9_map : MethodName := ⟨RX9, "map", "(II)I"⟩
abbrev cX9_place : ByteArray := prog_1_method_7_code
def yX9_place : MethodName := ⟨RX9, "place", "(II)I"⟩
abbrev cX9_now : ByteArray := prog_1_method_8_code
def yX9_now : MethodName := ⟨RX9, "now", "(I)I"⟩
abbrev cX9_isPlace : ByteArray := prog_1_method_9_code
def yX9_isPlace : MethodName := ⟨RX9, "isPlace", "(I)Z"⟩
abbrev cX9_isLane : ByteArray := prog_1_method_10_code
def yX9_isLane : MethodName := ⟨RX9, "isLane", "(I)Z"⟩
abbrev cX9_isMap : ByteArray := prog_1_method_11_code
def yX9_isMap : MethodName := ⟨RX9, "isMap", "(I)Z"⟩
abbrev cX9_mapsBy : ByteArray := prog_1_method_12_code
def yX9_mapsBy : MethodName := ⟨RX9, "mapsBy", "(I)I"⟩
abbrev cX9_heldMaps : ByteArray := prog_1_method_13_code
def yX9_heldMaps : MethodName := ⟨RX9, "heldMaps", "()I"⟩
abbrev cX9_names : ByteArray := prog_1_method_14_code
def yX9_names : MethodName := ⟨RX9, "names", "(I)I"⟩
abbrev cX9_asks : ByteArray := prog_1_method_15_code
def yX9_asks : MethodName := ⟨RX9, "asks", "()I"⟩
abbrev cX9_digs : ByteArray := prog_1_method_16_code
def yX9_digs : MethodName := ⟨RX9, "digs", "(II)I"⟩
abbrev cX9_burns : ByteArray := prog_1_method_17_code
def yX9_burns : MethodName := ⟨RX9, "burns", "(I)I"⟩
abbrev cX9_wipes : ByteArray := prog_1_method_18_code
def yX9_wipes : MethodName := ⟨RX9, "wipes", "()I"⟩
abbrev cX9_undo : ByteArray := prog_1_method_19_code
def yX9_undo : MethodName := ⟨RX9, "undo", "()I"⟩
abbrev cX9_draftIsWay : ByteArray := prog_1_method_20_code
def yX9_draftIsWay : MethodName := ⟨RX9, "draftIsWay", "()Z"⟩
abbrev cX9_addDug : ByteArray := prog_1_method_21_code
def yX9_addDug : MethodName := ⟨RX9, "addDug", "(I)V"⟩
abbrev cX9_beforeChange : ByteArray := prog_1_method_22_code
def yX9_beforeChange : MethodName := ⟨RX9, "beforeChange", "()V"⟩
abbrev cX9_forgetAnswers : ByteArray := prog_1_method_23_code
def yX9_forgetAnswers : MethodName := ⟨RX9, "forgetAnswers", "()V"⟩
abbrev cX9_far : ByteArray := prog_1_method_24_code
def yX9_far : MethodName := ⟨RX9, "far", "(II)I"⟩
abbrev cX9_by : ByteArray := prog_1_method_25_code
def yX9_by : MethodName := ⟨RX9, "by", "(II)I"⟩
abbrev cX9_knot : ByteArray := prog_1_method_26_code
def yX9_knot : MethodName := ⟨RX9, "knot", "(I)I"⟩
abbrev cX9_asking : ByteArray := prog_1_method_27_code
def yX9_asking : MethodName := ⟨RX9, "asking", "(I)I"⟩
abbrev cX9_clash : ByteArray := prog_1_method_28_code
def yX9_clash : MethodName := ⟨RX9, "clash", "()I"⟩
abbrev cX9_fire : ByteArray := prog_1_method_29_code
def yX9_fire : MethodName := ⟨RX9, "fire", "(I)I"⟩
abbrev cX9_spite : ByteArray := prog_1_method_30_code
def yX9_spite : MethodName := ⟨RX9, "spite", "(I)I"⟩
abbrev cX9_spiteful : ByteArray := prog_1_method_31_code
def yX9_spiteful : MethodName := ⟨RX9, "spiteful", "(I)I"⟩
abbrev cX9_odds : ByteArray := prog_1_method_32_code
def yX9_odds : MethodName := ⟨RX9, "odds", "(II)I"⟩
abbrev cX9_allMaps : ByteArray := prog_1_method_33_code
def yX9_allMaps : MethodName := ⟨RX9, "allMaps", "()I"⟩
abbrev cX9_waysOf : ByteArray := prog_1_method_34_code
def yX9_waysOf : MethodName := ⟨RX9, "waysOf", "(I)J"⟩
abbrev cX9_costOf : ByteArray := prog_1_method_35_code
def yX9_costOf : MethodName := ⟨RX9, "costOf", "(J)I"⟩
abbrev cX9_canHold : ByteArray := prog_1_method_36_code
def yX9_canHold : MethodName := ⟨RX9, "canHold", "(J)Z"⟩
abbrev cX9_askedCost : ByteArray := prog_1_method_37_code
def yX9_askedCost : MethodName := ⟨RX9, "askedCost", "()I"⟩
abbrev cX9_standing : ByteArray := prog_1_method_38_code
def yX9_standing : MethodName := ⟨RX9, "standing", "()I"⟩
abbrev cX9_partsStand : ByteArray := prog_1_method_39_code
def yX9_partsStand : MethodName := ⟨RX9, "partsStand", "(II)Z"⟩
abbrev cX9_chances : ByteArray := prog_1_method_40_code
def yX9_chances : MethodName := ⟨RX9, "chances", "(II)I"⟩
abbrev cX9_commonDivisor : ByteArray := prog_1_method_41_code
def yX9_commonDivisor : MethodName := ⟨RX9, "commonDivisor", "(II)I"⟩
abbrev cX9_findSpite : ByteArray := prog_1_method_42_code
def yX9_findSpite : MethodName := ⟨RX9, "findSpite", "()V"⟩
abbrev cX9_took : ByteArray := prog_1_method_43_code
def yX9_took : MethodName := ⟨RX9, "took", "(II)I"⟩
abbrev cX9_forget : ByteArray := prog_1_method_44_code
def yX9_forget : MethodName := ⟨RX9, "forget", "()I"⟩
abbrev cX9_can : ByteArray := prog_1_method_45_code
def yX9_can : MethodName := ⟨RX9, "can", "(I)I"⟩
abbrev cX9_look : ByteArray := prog_1_method_46_code
def yX9_look : MethodName := ⟨RX9, "look", "()I"⟩
abbrev cX9_rate : ByteArray := prog_1_method_47_code
def yX9_rate : MethodName := ⟨RX9, "rate", "(II)I"⟩
abbrev cX9_keep : ByteArray := prog_1_method_48_code
def yX9_keep : MethodName := ⟨RX9, "keep", "(I)I"⟩
abbrev cX9_back : ByteArray := prog_1_method_49_code
def yX9_back : MethodName := ⟨RX9, "back", "(I)I"⟩
abbrev cX9_count : ByteArray := prog_1_method_50_code
def yX9_count : MethodName := ⟨RX9, "count", "(I)I"⟩
abbrev cX9_trace : ByteArray := prog_1_method_51_code
def yX9_trace : MethodName := ⟨RX9, "trace", "()J"⟩
abbrev cX9_asLane : ByteArray := prog_1_method_52_code
def yX9_asLane : MethodName := ⟨RX9, "asLane", "(I)I"⟩
abbrev cX9_asBrook : ByteArray := prog_1_method_53_code
def yX9_asBrook : MethodName := ⟨RX9, "asBrook", "(I)I"⟩
abbrev cX9_asCart : ByteArray := prog_1_method_54_code
def yX9_asCart : MethodName := ⟨RX9, "asCart", "(I)I"⟩
abbrev cX9_asParlour : ByteArray := prog_1_method_55_code
def yX9_asParlour : MethodName := ⟨RX9, "asParlour", "(I)I"⟩
abbrev cX9_asHome : ByteArray := prog_1_method_56_code
def yX9_asHome : MethodName := ⟨RX9, "asHome", "(I)I"⟩
abbrev cX9_asSea : ByteArray := prog_1_method_57_code
def yX9_asSea : MethodName := ⟨RX9, "asSea", "(I)I"⟩
def RX10 : String := "AskedMapsModel"
def TX10 : u_T := fun k => match k with
  | 0 => ("AskedMapsModel", "thrown", "I", false)
  | 1 => ("AskedMapsModel", "trace", "J", false)
  | 2 => ("AskedMapsModel", "text", "[I", true)
  | 3 => ("AskedMapsModel", "typed", "I", false)
  | 4 => ("AskedMapsModel", "next", "I", false)
  | 5 => ("AskedMapsModel", "token", "I", false)
  | 6 => ("AskedMapsModel", "place", "I", false)
  | 7 => ("AskedMapsModel", "value", "I", false)
  | 8 => ("AskedMapsModel", "fault", "I", false)
  | 9 => ("AskedMapsModel", "many", "[I", true)
  | 10 => ("AskedMapsModel", "one", "[I", true)
  | 11 => ("AskedMapsModel", "other", "[I", true)
  | 12 => ("AskedMapsModel", "spades", "[I", true)
  | 13 => ("AskedMapsModel", "draft", "[I", true)
  | 14 => ("AskedMapsModel", "s", "[I", true)
  | 15 => ("AskedMapsModel", "kept", "[I", true)
  | 16 => ("AskedMapsModel", "isKept", "[Z", true)
  | 17 => ("AskedMapsModel", "undos", "[I", true)
  | 18 => ("AskedMapsModel", "undoMany", "I", false)
  | 19 => ("AskedMapsModel", "tookLane", "[I", true)
  | 20 => ("AskedMapsModel", "tookIs", "[I", true)
  | 21 => ("AskedMapsModel", "tookMany", "I", false)
  | 22 => ("AskedMapsModel", "ends", "[I", true)
  | 23 => ("AskedMapsModel", "lengthOf", "[I", true)
  | 24 => ("AskedMapsModel", "lowest", "[I", true)
  | 25 => ("AskedMapsModel", "ways", "[I", true)
  | 26 => ("AskedMapsModel", "wayMany", "I", false)
  | 27 => ("AskedMapsModel", "mapSet", "[I", true)
  | 28 => ("AskedMapsModel", "least", "[I", true)
  | 29 => ("AskedMapsModel", "trial", "[I", true)
  | 30 => ("AskedMapsModel", "costBy", "[I", true)
  | 31 => ("AskedMapsModel", "cheapest", "[I", true)
  | 32 => ("AskedMapsModel", "spite", "[I", true)
  | 33 => ("AskedMapsModel", "row", "[I", true)
  | _ => ("AskedMapsModel", "best", "[I", true)
def tyX10 : Nat → FieldType := fun k => match k with
  | 0 => .int
  | 1 => .long
  | 2 => .array .int
  | 3 => .int
  | 4 => .int
  | 5 => .int
  | 6 => .int
  | 7 => .int
  | 8 => .int
  | 9 => .array .int
  | 10 => .array .int
  | 11 => .array .int
  | 12 => .array .int
  | 13 => .array .int
  | 14 => .array .int
  | 15 => .array .int
  | 16 => .array .boolean
  | 17 => .array .int
  | 18 => .int
  | 19 => .array .int
  | 20 => .array .int
  | 21 => .int
  | 22 => .array .int
  | 23 => .array .int
  | 24 => .array .int
  | 25 => .array .int
  | 26 => .int
  | 27 => .array .int
  | 28 => .array .int
  | 29 => .array .int
  | 30 => .array .int
  | 31 => .array .int
  | 32 => .array .int
  | 33 => .array .int
  | _ => .array .int
abbrev wsX100 : List Cond := u_ws RX10 TX10 35
theorem nmX10 : ∀ a, a < 35 → ∀ b, b < 35 → a ≠ b → (TX10 a).2.1 ≠ (TX10 b).2.1 := by decide +kernel
theorem tyX10_ok : ∀ k, k < 35 → parseFieldDescriptor (TX10 k).2.2.1 = some (tyX10 k) := by decide +kernel
abbrev cX10_init : ByteArray := prog_12_method_1_code
def yX10_init : MethodName := ⟨RX10, "<init>", "()V"⟩
abbrev cX10_in : ByteArray := prog_12_method_3_code
def yX10_in : MethodName := ⟨RX10, "in", "(III)Z"⟩
abbrev cX10_ones : ByteArray := prog_12_method_4_code
def yX10_ones : MethodName := ⟨RX10, "ones", "(I)I"⟩
abbrev cX10_type : ByteArray := prog_12_method_5_code
def yX10_type : MethodName := ⟨RX10, "type", "(I)I"⟩
abbrev cX10_clear : ByteArray := prog_12_method_6_code
def yX10_clear : MethodName := ⟨RX10, "clear", "()I"⟩
abbrev cX10_letterAt : ByteArray := prog_12_method_7_code
def yX10_letterAt : MethodName := ⟨RX10, "letterAt", "(I)I"⟩
abbrev cX10_advances : ByteArray := prog_12_method_8_code
def yX10_advances : MethodName := ⟨RX10, "advances", "()V"⟩
abbrev cX10_isWell : ByteArray := prog_12_method_9_code
def yX10_isWell : MethodName := ⟨RX10, "isWell", "()Z"⟩
abbrev cX10_takes : ByteArray := prog_12_method_10_code
def yX10_takes : MethodName := ⟨RX10, "takes", "(Z)I"⟩
abbrev cX10_number : ByteArray := prog_12_method_11_code
def yX10_number : MethodName := ⟨RX10, "number", "(II)I"⟩
abbrev cX10_begins : ByteArray := prog_12_method_12_code
def yX10_begins : MethodName := ⟨RX10, "begins", "()V"⟩
abbrev cX10_laneOf : ByteArray := prog_12_method_13_code
def yX10_laneOf : MethodName := ⟨RX10, "laneOf", "(IIII)I"⟩
abbrev cX10_readsLane : ByteArray := prog_12_method_14_code
def yX10_readsLane : MethodName := ⟨RX10, "readsLane", "()V"⟩
abbrev cX10_canBeNext : ByteArray := prog_12_method_15_code
def yX10_canBeNext : MethodName := ⟨RX10, "canBeNext", "([IIIIII)Z"⟩
abbrev cX10_readsMap : ByteArray := prog_12_method_16_code
def yX10_readsMap : MethodName := ⟨RX10, "readsMap", "()V"⟩
abbrev cX10_readsItem : ByteArray := prog_12_method_17_code
def yX10_readsItem : MethodName := ⟨RX10, "readsItem", "(I)V"⟩
abbrev cX10_land : ByteArray := prog_12_method_18_code
def yX10_land : MethodName := ⟨RX10, "land", "()I"⟩
abbrev cX10_settles : ByteArray := prog_12_method_19_code
def yX10_settles : MethodName := ⟨RX10, "settles", "()V"⟩
abbrev cX10_endsOf : ByteArray := prog_12_method_20_code
def yX10_endsOf : MethodName := ⟨RX10, "endsOf", "(I)I"⟩
abbrev cX10_isLane : ByteArray := prog_12_method_21_code
def yX10_isLane : MethodName := ⟨RX10, "isLane", "(I)Z"⟩
abbrev cX10_isMap : ByteArray := prog_12_method_22_code
def yX10_isMap : MethodName := ⟨RX10, "isMap", "(I)Z"⟩
abbrev cX10_isPlace : ByteArray := prog_12_method_23_code
def yX10_isPlace : MethodName := ⟨RX10, "isPlace", "(I)Z"⟩
abbrev cX10_lanesOf : ByteArray := prog_12_method_24_code
def yX10_lanesOf : MethodName := ⟨RX10, "lanesOf", "(II)I"⟩
abbrev cX10_mapLanes : ByteArray := prog_12_method_25_code
def yX10_mapLanes : MethodName := ⟨RX10, "mapLanes", "(I)I"⟩
abbrev cX10_measures : ByteArray := prog_12_method_26_code
def yX10_measures : MethodName := ⟨RX10, "measures", "([I)V"⟩
abbrev cX10_holds : ByteArray := prog_12_method_27_code
def yX10_holds : MethodName := ⟨RX10, "holds", "(I)Z"⟩
abbrev cX10_mapsBy : ByteArray := prog_12_method_28_code
def yX10_mapsBy : MethodName := ⟨RX10, "mapsBy", "(I)I"⟩
abbrev cX10_lane : ByteArray := prog_12_method_29_code
def yX10_lane : MethodName := ⟨RX10, "lane", "(II)I"⟩
abbrev cX10_map : ByteArray := prog_12_method_30_code
def yX10_map : MethodName := ⟨RX10, "map", "(II)I"⟩
abbrev cX10_place : ByteArray := prog_12_method_31_code
def yX10_place : MethodName := ⟨RX10, "place", "(II)I"⟩
abbrev cX10_now : ByteArray := prog_12_method_32_code
def yX10_now : MethodName := ⟨RX10, "now", "(I)I"⟩
abbrev cX10_notes : ByteArray := prog_12_method_33_code
def yX10_notes : MethodName := ⟨RX10, "notes", "()V"⟩
abbrev cX10_names : ByteArray := prog_12_method_34_code
def yX10_names : MethodName := ⟨RX10, "names", "(I)I"⟩
abbrev cX10_digsFor : ByteArray := prog_12_method_35_code
def yX10_digsFor : MethodName := ⟨RX10, "digsFor", "(I)V"⟩
abbrev cX10_asks : ByteArray := prog_12_method_36_code
def yX10_asks : MethodName := ⟨RX10, "asks", "()I"⟩
abbrev cX10_apart : ByteArray := prog_12_method_37_code
def yX10_apart : MethodName := ⟨RX10, "apart", "(II)I"⟩
abbrev cX10_digs : ByteArray := prog_12_method_38_code
def yX10_digs : MethodName := ⟨RX10, "digs", "(II)I"⟩
abbrev cX10_burns : ByteArray := prog_12_method_39_code
def yX10_burns : MethodName := ⟨RX10, "burns", "(I)I"⟩
abbrev cX10_wipes : ByteArray := prog_12_method_40_code
def yX10_wipes : MethodName := ⟨RX10, "wipes", "()I"⟩
abbrev cX10_undo : ByteArray := prog_12_method_41_code
def yX10_undo : MethodName := ⟨RX10, "undo", "()I"⟩
abbrev cX10_endsBetween : ByteArray := prog_12_method_42_code
def yX10_endsBetween : MethodName := ⟨RX10, "endsBetween", "(II)I"⟩
abbrev cX10_far : ByteArray := prog_12_method_43_code
def yX10_far : MethodName := ⟨RX10, "far", "(II)I"⟩
abbrev cX10_by : ByteArray := prog_12_method_44_code
def yX10_by : MethodName := ⟨RX10, "by", "(II)I"⟩
abbrev cX10_knot : ByteArray := prog_12_method_45_code
def yX10_knot : MethodName := ⟨RX10, "knot", "(I)I"⟩
abbrev cX10_draftLanes : ByteArray := prog_12_method_46_code
def yX10_draftLanes : MethodName := ⟨RX10, "draftLanes", "()I"⟩
abbrev cX10_allMaps : ByteArray := prog_12_method_47_code
def yX10_allMaps : MethodName := ⟨RX10, "allMaps", "()I"⟩
abbrev cX10_steps : ByteArray := prog_12_method_48_code
def yX10_steps : MethodName := ⟨RX10, "steps", "()Z"⟩
abbrev cX10_scans : ByteArray := prog_12_method_49_code
def yX10_scans : MethodName := ⟨RX10, "scans", "(I)V"⟩
abbrev cX10_scansOne : ByteArray := prog_12_method_50_code
def yX10_scansOne : MethodName := ⟨RX10, "scansOne", "()V"⟩
abbrev cX10_costOf : ByteArray := prog_12_method_51_code
def yX10_costOf : MethodName := ⟨RX10, "costOf", "(I)I"⟩
abbrev cX10_asking : ByteArray := prog_12_method_52_code
def yX10_asking : MethodName := ⟨RX10, "asking", "(I)I"⟩
abbrev cX10_clash : ByteArray := prog_12_method_53_code
def yX10_clash : MethodName := ⟨RX10, "clash", "()I"⟩
abbrev cX10_fire : ByteArray := prog_12_method_54_code
def yX10_fire : MethodName := ⟨RX10, "fire", "(I)I"⟩
abbrev cX10_reads : ByteArray := prog_12_method_55_code
def yX10_reads : MethodName := ⟨RX10, "reads", "(I)I"⟩
abbrev cX10_isAhead : ByteArray := prog_12_method_56_code
def yX10_isAhead : MethodName := ⟨RX10, "isAhead", "(II)Z"⟩
abbrev cX10_spiteSet : ByteArray := prog_12_method_57_code
def yX10_spiteSet : MethodName := ⟨RX10, "spiteSet", "()I"⟩
abbrev cX10_spite : ByteArray := prog_12_method_58_code
def yX10_spite : MethodName := ⟨RX10, "spite", "(I)I"⟩
abbrev cX10_spiteful : ByteArray := prog_12_method_59_code
def yX10_spiteful : MethodName := ⟨RX10, "spiteful", "(I)I"⟩
abbrev cX10_gcd : ByteArray := prog_12_method_60_code
def yX10_gcd : MethodName := ⟨RX10, "gcd", "(II)I"⟩
abbrev cX10_odds : ByteArray := prog_12_method_61_code
def yX10_odds : MethodName := ⟨RX10, "odds", "(II)I"⟩
abbrev cX10_took : ByteArray := prog_12_method_62_code
def yX10_took : MethodName := ⟨RX10, "took", "(II)I"⟩
abbrev cX10_forget : ByteArray := prog_12_method_63_code
def yX10_forget : MethodName := ⟨RX10, "forget", "()I"⟩
abbrev cX10_mayBe : ByteArray := prog_12_method_64_code
def yX10_mayBe : MethodName := ⟨RX10, "mayBe", "(I)Z"⟩
abbrev cX10_can : ByteArray := prog_12_method_65_code
def yX10_can : MethodName := ⟨RX10, "can", "(I)I"⟩
abbrev cX10_look : ByteArray := prog_12_method_66_code
def yX10_look : MethodName := ⟨RX10, "look", "()I"⟩
abbrev cX10_rate : ByteArray := prog_12_method_67_code
def yX10_rate : MethodName := ⟨RX10, "rate", "(II)I"⟩
abbrev cX10_keep : ByteArray := prog_12_method_68_code
def yX10_keep : MethodName := ⟨RX10, "keep", "(I)I"⟩
abbrev cX10_back : ByteArray := prog_12_method_69_code
def yX10_back : MethodName := ⟨RX10, "back", "(I)I"⟩
abbrev cX10_count : ByteArray := prog_12_method_70_code
def yX10_count : MethodName := ⟨RX10, "count", "(I)I"⟩
abbrev cX10_trace : ByteArray := prog_12_method_71_code
def yX10_trace : MethodName := ⟨RX10, "trace", "()J"⟩
def RJ6 : String := "java/lang/Integer"
def TJ6 : u_T := fun k => match k with
  | _ => ("", "", "", false)
def tyJ6 : Nat → FieldType := fun k => match k with
  | _ => .int
abbrev wsJ60 : List Cond := u_ws RJ6 TJ6 0
theorem nmJ6 : ∀ a, a < 0 → ∀ b, b < 0 → a ≠ b → (TJ6 a).2.1 ≠ (TJ6 b).2.1 := by decide +kernel
theorem tyJ6_ok : ∀ k, k < 0 → parseFieldDescriptor (TJ6 k).2.2.1 = some (tyJ6 k) := by decide +kernel
abbrev cJ6_bitCount_0f7a4 : ByteArray := prog_13_method_49_code
def yJ6_bitCount_0f7a4 : MethodName := ⟨RJ6, "bitCount", "(I)I"⟩
def RJ9 : String := "java/lang/Math"
def TJ9 : u_T := fun k => match k with
  | _ => ("", "", "", false)
def tyJ9 : Nat → FieldType := fun k => match k with
  | _ => .int
abbrev wsJ90 : List Cond := u_ws RJ9 TJ9 0
theorem nmJ9 : ∀ a, a < 0 → ∀ b, b < 0 → a ≠ b → (TJ9 a).2.1 ≠ (TJ9 b).2.1 := by decide +kernel
theorem tyJ9_ok : ∀ k, k < 0 → parseFieldDescriptor (TJ9 k).2.2.1 = some (tyJ9 k) := by decide +kernel
abbrev cJ9_abs_0f7a4 : ByteArray := prog_14_method_59_code
def yJ9_abs_0f7a4 : MethodName := ⟨RJ9, "abs", "(I)I"⟩
abbrev cJ9_max_7cf53 : ByteArray := prog_14_method_65_code
def yJ9_max_7cf53 : MethodName := ⟨RJ9, "max", "(II)I"⟩
abbrev cJ9_min_7cf53 : ByteArray := prog_14_method_69_code
def yJ9_min_7cf53 : MethodName := ⟨RJ9, "min", "(II)I"⟩
def RJ10 : String := "java/lang/System"
def TJ10 : u_T := fun k => match k with
  | _ => ("", "", "", false)
def tyJ10 : Nat → FieldType := fun k => match k with
  | _ => .int
abbrev wsJ100 : List Cond := u_ws RJ10 TJ10 0
theorem nmJ10 : ∀ a, a < 0 → ∀ b, b < 0 → a ≠ b → (TJ10 a).2.1 ≠ (TJ10 b).2.1 := by decide +kernel
theorem tyJ10_ok : ∀ k, k < 0 → parseFieldDescriptor (TJ10 k).2.2.1 = some (tyJ10 k) := by decide +kernel
def RL : String := "AskedMapsLaw"
abbrev cL_law : ByteArray := code
def yL_law : MethodName := ⟨RL, "law", "([I)Z"⟩
end
section
theorem dX0_init_0 : decode cX0_init 0 = .ok (.aload_n 0, 1) := by decide +kernel
theorem dX0_init_1 : decode cX0_init 1 = .ok (.invokespecial 3, 3) := by decide +kernel
theorem dX0_init_4 : decode cX0_init 4 = .ok (.aload_n 0, 1) := by decide +kernel
theorem dX0_init_5 : decode cX0_init 5 = .ok (.iconst 0, 1) := by decide +kernel
theorem dX0_init_6 : decode cX0_init 6 = .ok (.putfield 9, 3) := by decide +kernel
theorem dX0_init_9 : decode cX0_init 9 = .ok (.aload_n 0, 1) := by decide +kernel
theorem dX0_init_10 : decode cX0_init 10 = .ok (.bipush (-9), 2) := by decide +kernel
theorem dX0_init_12 : decode cX0_init 12 = .ok (.putfield 15, 3) := by decide +kernel
theorem dX0_init_15 : decode cX0_init 15 = .ok (.aload_n 0, 1) := by decide +kernel
theorem dX0_init_16 : decode cX0_init 16 = .ok (.bipush 6, 2) := by decide +kernel
theorem dX0_init_18 : decode cX0_init 18 = .ok (.newarray .int, 2) := by decide +kernel
theorem dX0_init_20 : decode cX0_init 20 = .ok (.putfield 19, 3) := by decide +kernel
theorem dX0_init_23 : decode cX0_init 23 = .ok (.return_, 1) := by decide +kernel
theorem dX1_init_0 : decode cX1_init 0 = .ok (.aload_n 0, 1) := by decide +kernel
theorem dX1_init_1 : decode cX1_init 1 = .ok (.invokespecial 3, 3) := by decide +kernel
theorem dX1_init_4 : decode cX1_init 4 = .ok (.aload_n 0, 1) := by decide +kernel
theorem dX1_init_5 : decode cX1_init 5 = .ok (.bipush 6, 2) := by decide +kernel
theorem dX1_init_7 : decode cX1_init 7 = .ok (.newarray .int, 2) := by decide +kernel
theorem dX1_init_9 : decode cX1_init 9 = .ok (.putfield 9, 3) := by decide +kernel
theorem dX1_init_12 : decode cX1_init 12 = .ok (.aload_n 0, 1) := by decide +kernel
theorem dX1_init_13 : decode cX1_init 13 = .ok (.bipush 6, 2) := by decide +kernel
theorem dX1_init_15 : decode cX1_init 15 = .ok (.newarray .int, 2) := by decide +kernel
theorem dX1_init_17 : decode cX1_init 17 = .ok (.putfield 15, 3) := by decide +kernel
theorem dX1_init_20 : decode cX1_init 20 = .ok (.aload_n 0, 1) := by decide +kernel
theorem dX1_init_21 : decode cX1_init 21 = .ok (.bipush 6, 2) := by decide +kernel
theorem dX1_init_23 : decode cX1_init 23 = .ok (.newarray .int, 2) := by decide +kernel
theorem dX1_init_25 : decode cX1_init 25 = .ok (.putfield 18, 3) := by decide +kernel
theorem dX1_init_28 : decode cX1_init 28 = .ok (.aload_n 0, 1) := by decide +kernel
theorem dX1_init_29 : decode cX1_init 29 = .ok (.bipush 25, 2) := by decide +kernel
theorem dX1_init_31 : decode cX1_init 31 = .ok (.newarray .int, 2) := by decide +kernel
theorem dX1_init_33 : decode cX1_init 33 = .ok (.putfield 21, 3) := by decide +kernel
theorem dX1_init_36 : decode cX1_init 36 = .ok (.aload_n 0, 1) := by decide +kernel
theorem dX1_init_37 : decode cX1_init 37 = .ok (.invokevirtual 24, 3) := by decide +kernel
theorem dX1_init_40 : decode cX1_init 40 = .ok (.return_, 1) := by decide +kernel
theorem dX1_empty_0 : decode cX1_empty 0 = .ok (.aload_n 0, 1) := by decide +kernel
theorem dX1_empty_1 : decode cX1_empty 1 = .ok (.iconst 2, 1) := by decide +kernel
theorem dX1_empty_2 : decode cX1_empty 2 = .ok (.putfield 27, 3) := by decide +kernel
theorem dX1_empty_5 : decode cX1_empty 5 = .ok (.aload_n 0, 1) := by decide +kernel
theorem dX1_empty_6 : decode cX1_empty 6 = .ok (.iconst 0, 1) := by decide +kernel
theorem dX1_empty_7 : decode cX1_empty 7 = .ok (.putfield 31, 3) := by decide +kernel
theorem dX1_empty_10 : decode cX1_empty 10 = .ok (.iconst 0, 1) := by decide +kernel
theorem dX1_empty_11 : decode cX1_empty 11 = .ok (.istore_n 1, 1) := by decide +kernel
theorem dX1_empty_12 : decode cX1_empty 12 = .ok (.iload_n 1, 1) := by decide +kernel
theorem dX1_empty_13 : decode cX1_empty 13 = .ok (.aload_n 0, 1) := by decide +kernel
theorem dX1_empty_14 : decode cX1_empty 14 = .ok (.getfield 21, 3) := by decide +kernel
theorem dX1_empty_17 : decode cX1_empty 17 = .ok (.arraylength, 1) := by decide +kernel
theorem dX1_empty_18 : decode cX1_empty 18 = .ok (.if_icmp .ge 17, 3) := by decide +kernel
theorem dX1_empty_21 : decode cX1_empty 21 = .ok (.aload_n 0, 1) := by decide +kernel
theorem dX1_empty_22 : decode cX1_empty 22 = .ok (.getfield 21, 3) := by decide +kernel
theorem dX1_empty_25 : decode cX1_empty 25 = .ok (.iload_n 1, 1) := by decide +kernel
theorem dX1_empty_26 : decode cX1_empty 26 = .ok (.bipush (-9), 2) := by decide +kernel
theorem dX1_empty_28 : decode cX1_empty 28 = .ok (.iastore, 1) := by decide +kernel
theorem dX1_empty_29 : decode cX1_empty 29 = .ok (.iinc 1 1, 3) := by decide +kernel
theorem dX1_empty_32 : decode cX1_empty 32 = .ok (.goto (-20), 3) := by decide +kernel
theorem dX1_empty_35 : decode cX1_empty 35 = .ok (.return_, 1) := by decide +kernel
theorem dX1_laneBetween_0 : decode cX1_laneBetween 0 = .ok (.iload_n 1, 1) := by decide +kernel
theorem dX1_laneBetween_1 : decode cX1_laneBetween 1 = .ok (.ifCond .lt 23, 3) := by decide +kernel
theorem dX1_laneBetween_4 : decode cX1_laneBetween 4 = .ok (.iload_n 1, 1) := by decide +kernel
theorem dX1_laneBetween_5 : decode cX1_laneBetween 5 = .ok (.aload_n 0, 1) := by decide +kernel
theorem dX1_laneBetween_6 : decode cX1_laneBetween 6 = .ok (.getfield 27, 3) := by decide +kernel
theorem dX1_laneBetween_9 : decode cX1_laneBetween 9 = .ok (.if_icmp .ge 15, 3) := by decide +kernel
theorem dX1_laneBetween_12 : decode cX1_laneBetween 12 = .ok (.iload_n 2, 1) := by decide +kernel
theorem dX1_laneBetween_13 : decode cX1_laneBetween 13 = .ok (.ifCond .lt 11, 3) := by decide +kernel
theorem dX1_laneBetween_16 : decode cX1_laneBetween 16 = .ok (.iload_n 2, 1) := by decide +kernel
theorem dX1_laneBetween_17 : decode cX1_laneBetween 17 = .ok (.aload_n 0, 1) := by decide +kernel
theorem dX1_laneBetween_18 : decode cX1_laneBetween 18 = .ok (.getfield 27, 3) := by decide +kernel
theorem dX1_laneBetween_21 : decode cX1_laneBetween 21 = .ok (.if_icmp .lt 6, 3) := by decide +kernel
theorem dX1_laneBetween_24 : decode cX1_laneBetween 24 = .ok (.bipush (-9), 2) := by decide +kernel
theorem dX1_laneBetween_26 : decode cX1_laneBetween 26 = .ok (.ireturn, 1) := by decide +kernel
theorem dX1_laneBetween_27 : decode cX1_laneBetween 27 = .ok (.aload_n 0, 1) := by decide +kernel
theorem dX1_laneBetween_28 : decode cX1_laneBetween 28 = .ok (.getfield 21, 3) := by decide +kernel
theorem dX1_laneBetween_31 : decode cX1_laneBetween 31 = .ok (.iload_n 1, 1) := by decide +kernel
theorem dX1_laneBetween_32 : decode cX1_laneBetween 32 = .ok (.iconst 5, 1) := by decide +kernel
theorem dX1_laneBetween_33 : decode cX1_laneBetween 33 = .ok (.imul, 1) := by decide +kernel
theorem dX1_laneBetween_34 : decode cX1_laneBetween 34 = .ok (.iload_n 2, 1) := by decide +kernel
theorem dX1_laneBetween_35 : decode cX1_laneBetween 35 = .ok (.iadd, 1) := by decide +kernel
theorem dX1_laneBetween_36 : decode cX1_laneBetween 36 = .ok (.iaload, 1) := by decide +kernel
theorem dX1_laneBetween_37 : decode cX1_laneBetween 37 = .ok (.ireturn, 1) := by decide +kernel
theorem dX1_addLane_0 : decode cX1_addLane 0 = .ok (.aload_n 0, 1) := by decide +kernel
theorem dX1_addLane_1 : decode cX1_addLane 1 = .ok (.getfield 31, 3) := by decide +kernel
theorem dX1_addLane_4 : decode cX1_addLane 4 = .ok (.bipush 6, 2) := by decide +kernel
theorem dX1_addLane_6 : decode cX1_addLane 6 = .ok (.if_icmp .ge 27, 3) := by decide +kernel
theorem dX1_addLane_9 : decode cX1_addLane 9 = .ok (.iload_n 1, 1) := by decide +kernel
theorem dX1_addLane_10 : decode cX1_addLane 10 = .ok (.ifCond .lt 23, 3) := by decide +kernel
theorem dX1_addLane_13 : decode cX1_addLane 13 = .ok (.iload_n 1, 1) := by decide +kernel
theorem dX1_addLane_14 : decode cX1_addLane 14 = .ok (.aload_n 0, 1) := by decide +kernel
theorem dX1_addLane_15 : decode cX1_addLane 15 = .ok (.getfield 27, 3) := by decide +kernel
theorem dX1_addLane_18 : decode cX1_addLane 18 = .ok (.if_icmp .ge 15, 3) := by decide +kernel
theorem dX1_addLane_21 : decode cX1_addLane 21 = .ok (.iload_n 2, 1) := by decide +kernel
theorem dX1_addLane_22 : decode cX1_addLane 22 = .ok (.ifCond .lt 11, 3) := by decide +kernel
theorem dX1_addLane_25 : decode cX1_addLane 25 = .ok (.iload_n 2, 1) := by decide +kernel
theorem dX1_addLane_26 : decode cX1_addLane 26 = .ok (.aload_n 0, 1) := by decide +kernel
theorem dX1_addLane_27 : decode cX1_addLane 27 = .ok (.getfield 27, 3) := by decide +kernel
theorem dX1_addLane_30 : decode cX1_addLane 30 = .ok (.if_icmp .lt 4, 3) := by decide +kernel
theorem dX1_addLane_33 : decode cX1_addLane 33 = .ok (.return_, 1) := by decide +kernel
theorem dX1_addLane_34 : decode cX1_addLane 34 = .ok (.aload_n 0, 1) := by decide +kernel
theorem dX1_addLane_35 : decode cX1_addLane 35 = .ok (.getfield 9, 3) := by decide +kernel
theorem dX1_addLane_38 : decode cX1_addLane 38 = .ok (.aload_n 0, 1) := by decide +kernel
theorem dX1_addLane_39 : decode cX1_addLane 39 = .ok (.getfield 31, 3) := by decide +kernel
theorem dX1_addLane_42 : decode cX1_addLane 42 = .ok (.iload_n 1, 1) := by decide +kernel
theorem dX1_addLane_43 : decode cX1_addLane 43 = .ok (.iastore, 1) := by decide +kernel
theorem dX1_addLane_44 : decode cX1_addLane 44 = .ok (.aload_n 0, 1) := by decide +kernel
theorem dX1_addLane_45 : decode cX1_addLane 45 = .ok (.getfield 15, 3) := by decide +kernel
theorem dX1_addLane_48 : decode cX1_addLane 48 = .ok (.aload_n 0, 1) := by decide +kernel
theorem dX1_addLane_49 : decode cX1_addLane 49 = .ok (.getfield 31, 3) := by decide +kernel
theorem dX1_addLane_52 : decode cX1_addLane 52 = .ok (.iload_n 2, 1) := by decide +kernel
theorem dX1_addLane_53 : decode cX1_addLane 53 = .ok (.iastore, 1) := by decide +kernel
theorem dX1_addLane_54 : decode cX1_addLane 54 = .ok (.aload_n 0, 1) := by decide +kernel
theorem dX1_addLane_55 : decode cX1_addLane 55 = .ok (.getfield 18, 3) := by decide +kernel
theorem dX1_addLane_58 : decode cX1_addLane 58 = .ok (.aload_n 0, 1) := by decide +kernel
theorem dX1_addLane_59 : decode cX1_addLane 59 = .ok (.getfield 31, 3) := by decide +kernel
theorem dX1_addLane_62 : decode cX1_addLane 62 = .ok (.iload_n 3, 1) := by decide +kernel
theorem dX1_addLane_63 : decode cX1_addLane 63 = .ok (.iastore, 1) := by decide +kernel
theorem dX1_addLane_64 : decode cX1_addLane 64 = .ok (.aload_n 0, 1) := by decide +kernel
theorem dX1_addLane_65 : decode cX1_addLane 65 = .ok (.getfield 21, 3) := by decide +kernel
theorem dX1_addLane_68 : decode cX1_addLane 68 = .ok (.iload_n 1, 1) := by decide +kernel
theorem dX1_addLane_69 : decode cX1_addLane 69 = .ok (.iconst 5, 1) := by decide +kernel
theorem dX1_addLane_70 : decode cX1_addLane 70 = .ok (.imul, 1) := by decide +kernel
theorem dX1_addLane_71 : decode cX1_addLane 71 = .ok (.iload_n 2, 1) := by decide +kernel
theorem dX1_addLane_72 : decode cX1_addLane 72 = .ok (.iadd, 1) := by decide +kernel
theorem dX1_addLane_73 : decode cX1_addLane 73 = .ok (.aload_n 0, 1) := by decide +kernel
theorem dX1_addLane_74 : decode cX1_addLane 74 = .ok (.getfield 31, 3) := by decide +kernel
theorem dX1_addLane_77 : decode cX1_addLane 77 = .ok (.iastore, 1) := by decide +kernel
theorem dX1_addLane_78 : decode cX1_addLane 78 = .ok (.aload_n 0, 1) := by decide +kernel
theorem dX1_addLane_79 : decode cX1_addLane 79 = .ok (.getfield 21, 3) := by decide +kernel
theorem dX1_addLane_82 : decode cX1_addLane 82 = .ok (.iload_n 2, 1) := by decide +kernel
theorem dX1_addLane_83 : decode cX1_addLane 83 = .ok (.iconst 5, 1) := by decide +kernel
theorem dX1_addLane_84 : decode cX1_addLane 84 = .ok (.imul, 1) := by decide +kernel
theorem dX1_addLane_85 : decode cX1_addLane 85 = .ok (.iload_n 1, 1) := by decide +kernel
theorem dX1_addLane_86 : decode cX1_addLane 86 = .ok (.iadd, 1) := by decide +kernel
theorem dX1_addLane_87 : decode cX1_addLane 87 = .ok (.aload_n 0, 1) := by decide +kernel
theorem dX1_addLane_88 : decode cX1_addLane 88 = .ok (.getfield 31, 3) := by decide +kernel
theorem dX1_addLane_91 : decode cX1_addLane 91 = .ok (.iastore, 1) := by decide +kernel
theorem dX1_addLane_92 : decode cX1_addLane 92 = .ok (.aload_n 0, 1) := by decide +kernel
theorem dX1_addLane_93 : decode cX1_addLane 93 = .ok (.dup, 1) := by decide +kernel
theorem dX1_addLane_94 : decode cX1_addLane 94 = .ok (.getfield 31, 3) := by decide +kernel
theorem dX1_addLane_97 : decode cX1_addLane 97 = .ok (.iconst 1, 1) := by decide +kernel
theorem dX1_addLane_98 : decode cX1_addLane 98 = .ok (.iadd, 1) := by decide +kernel
theorem dX1_addLane_99 : decode cX1_addLane 99 = .ok (.putfield 31, 3) := by decide +kernel
theorem dX1_addLane_102 : decode cX1_addLane 102 = .ok (.return_, 1) := by decide +kernel
theorem dX1_lengthOf_0 : decode cX1_lengthOf 0 = .ok (.iconst 0, 1) := by decide +kernel
theorem dX1_lengthOf_1 : decode cX1_lengthOf 1 = .ok (.istore_n 3, 1) := by decide +kernel
theorem dX1_lengthOf_2 : decode cX1_lengthOf 2 = .ok (.iconst 0, 1) := by decide +kernel
theorem dX1_lengthOf_3 : decode cX1_lengthOf 3 = .ok (.istore 4, 2) := by decide +kernel
theorem dX1_lengthOf_5 : decode cX1_lengthOf 5 = .ok (.iload 4, 2) := by decide +kernel
theorem dX1_lengthOf_7 : decode cX1_lengthOf 7 = .ok (.aload_n 0, 1) := by decide +kernel
theorem dX1_lengthOf_8 : decode cX1_lengthOf 8 = .ok (.getfield 31, 3) := by decide +kernel
theorem dX1_lengthOf_11 : decode cX1_lengthOf 11 = .ok (.if_icmp .ge 26, 3) := by decide +kernel
theorem dX1_lengthOf_14 : decode cX1_lengthOf 14 = .ok (.iload_n 1, 1) := by decide +kernel
theorem dX1_lengthOf_15 : decode cX1_lengthOf 15 = .ok (.iload 4, 2) := by decide +kernel
theorem dX1_lengthOf_17 : decode cX1_lengthOf 17 = .ok (.ishr, 1) := by decide +kernel
theorem dX1_lengthOf_18 : decode cX1_lengthOf 18 = .ok (.iconst 1, 1) := by decide +kernel
theorem dX1_lengthOf_19 : decode cX1_lengthOf 19 = .ok (.iand, 1) := by decide +kernel
theorem dX1_lengthOf_20 : decode cX1_lengthOf 20 = .ok (.iconst 1, 1) := by decide +kernel
theorem dX1_lengthOf_21 : decode cX1_lengthOf 21 = .ok (.if_icmp .ne 10, 3) := by decide +kernel
theorem dX1_lengthOf_24 : decode cX1_lengthOf 24 = .ok (.iload_n 3, 1) := by decide +kernel
theorem dX1_lengthOf_25 : decode cX1_lengthOf 25 = .ok (.aload_n 2, 1) := by decide +kernel
theorem dX1_lengthOf_26 : decode cX1_lengthOf 26 = .ok (.iload 4, 2) := by decide +kernel
theorem dX1_lengthOf_28 : decode cX1_lengthOf 28 = .ok (.iaload, 1) := by decide +kernel
theorem dX1_lengthOf_29 : decode cX1_lengthOf 29 = .ok (.iadd, 1) := by decide +kernel
theorem dX1_lengthOf_30 : decode cX1_lengthOf 30 = .ok (.istore_n 3, 1) := by decide +kernel
theorem dX1_lengthOf_31 : decode cX1_lengthOf 31 = .ok (.iinc 4 1, 3) := by decide +kernel
theorem dX1_lengthOf_34 : decode cX1_lengthOf 34 = .ok (.goto (-29), 3) := by decide +kernel
theorem dX1_lengthOf_37 : decode cX1_lengthOf 37 = .ok (.iload_n 3, 1) := by decide +kernel
theorem dX1_lengthOf_38 : decode cX1_lengthOf 38 = .ok (.ireturn, 1) := by decide +kernel
theorem dX2_init_0 : decode cX2_init 0 = .ok (.aload_n 0, 1) := by decide +kernel
theorem dX2_init_1 : decode cX2_init 1 = .ok (.invokespecial 3, 3) := by decide +kernel
theorem dX2_init_4 : decode cX2_init 4 = .ok (.aload_n 0, 1) := by decide +kernel
theorem dX2_init_5 : decode cX2_init 5 = .ok (.bipush 6, 2) := by decide +kernel
theorem dX2_init_7 : decode cX2_init 7 = .ok (.newarray .int, 2) := by decide +kernel
theorem dX2_init_9 : decode cX2_init 9 = .ok (.putfield 9, 3) := by decide +kernel
theorem dX2_init_12 : decode cX2_init 12 = .ok (.aload_n 0, 1) := by decide +kernel
theorem dX2_init_13 : decode cX2_init 13 = .ok (.iconst 5, 1) := by decide +kernel
theorem dX2_init_14 : decode cX2_init 14 = .ok (.newarray .int, 2) := by decide +kernel
theorem dX2_init_16 : decode cX2_init 16 = .ok (.putfield 15, 3) := by decide +kernel
theorem dX2_init_19 : decode cX2_init 19 = .ok (.aload_n 0, 1) := by decide +kernel
theorem dX2_init_20 : decode cX2_init 20 = .ok (.bipush 25, 2) := by decide +kernel
theorem dX2_init_22 : decode cX2_init 22 = .ok (.newarray .int, 2) := by decide +kernel
theorem dX2_init_24 : decode cX2_init 24 = .ok (.putfield 18, 3) := by decide +kernel
theorem dX2_init_27 : decode cX2_init 27 = .ok (.aload_n 0, 1) := by decide +kernel
theorem dX2_init_28 : decode cX2_init 28 = .ok (.iconst 0, 1) := by decide +kernel
theorem dX2_init_29 : decode cX2_init 29 = .ok (.putfield 21, 3) := by decide +kernel
theorem dX2_init_32 : decode cX2_init 32 = .ok (.aload_n 0, 1) := by decide +kernel
theorem dX2_init_33 : decode cX2_init 33 = .ok (.iconst 0, 1) := by decide +kernel
theorem dX2_init_34 : decode cX2_init 34 = .ok (.putfield 25, 3) := by decide +kernel
theorem dX2_init_37 : decode cX2_init 37 = .ok (.return_, 1) := by decide +kernel
theorem dX2_empty_0 : decode cX2_empty 0 = .ok (.aload_n 0, 1) := by decide +kernel
theorem dX2_empty_1 : decode cX2_empty 1 = .ok (.iconst 0, 1) := by decide +kernel
theorem dX2_empty_2 : decode cX2_empty 2 = .ok (.putfield 21, 3) := by decide +kernel
theorem dX2_empty_5 : decode cX2_empty 5 = .ok (.aload_n 0, 1) := by decide +kernel
theorem dX2_empty_6 : decode cX2_empty 6 = .ok (.iconst 0, 1) := by decide +kernel
theorem dX2_empty_7 : decode cX2_empty 7 = .ok (.putfield 25, 3) := by decide +kernel
theorem dX2_empty_10 : decode cX2_empty 10 = .ok (.aload_n 0, 1) := by decide +kernel
theorem dX2_empty_11 : decode cX2_empty 11 = .ok (.getfield 15, 3) := by decide +kernel
theorem dX2_empty_14 : decode cX2_empty 14 = .ok (.iconst 4, 1) := by decide +kernel
theorem dX2_empty_15 : decode cX2_empty 15 = .ok (.iconst 0, 1) := by decide +kernel
theorem dX2_empty_16 : decode cX2_empty 16 = .ok (.iastore, 1) := by decide +kernel
theorem dX2_empty_17 : decode cX2_empty 17 = .ok (.return_, 1) := by decide +kernel
theorem dX2_become_0 : decode cX2_become 0 = .ok (.aload_n 1, 1) := by decide +kernel
theorem dX2_become_1 : decode cX2_become 1 = .ok (.getfield 9, 3) := by decide +kernel
theorem dX2_become_4 : decode cX2_become 4 = .ok (.iconst 0, 1) := by decide +kernel
theorem dX2_become_5 : decode cX2_become 5 = .ok (.aload_n 0, 1) := by decide +kernel
theorem dX2_become_6 : decode cX2_become 6 = .ok (.getfield 9, 3) := by decide +kernel
theorem dX2_become_9 : decode cX2_become 9 = .ok (.iconst 0, 1) := by decide +kernel
theorem dX2_become_10 : decode cX2_become 10 = .ok (.bipush 6, 2) := by decide +kernel
theorem dX2_become_12 : decode cX2_become 12 = .ok (.invokestatic 28, 3) := by decide +kernel
theorem dX2_become_15 : decode cX2_become 15 = .ok (.aload_n 1, 1) := by decide +kernel
theorem dX2_become_16 : decode cX2_become 16 = .ok (.getfield 15, 3) := by decide +kernel
theorem dX2_become_19 : decode cX2_become 19 = .ok (.iconst 0, 1) := by decide +kernel
theorem dX2_become_20 : decode cX2_become 20 = .ok (.aload_n 0, 1) := by decide +kernel
theorem dX2_become_21 : decode cX2_become 21 = .ok (.getfield 15, 3) := by decide +kernel
theorem dX2_become_24 : decode cX2_become 24 = .ok (.iconst 0, 1) := by decide +kernel
theorem dX2_become_25 : decode cX2_become 25 = .ok (.iconst 5, 1) := by decide +kernel
theorem dX2_become_26 : decode cX2_become 26 = .ok (.invokestatic 28, 3) := by decide +kernel
theorem dX2_become_29 : decode cX2_become 29 = .ok (.aload_n 1, 1) := by decide +kernel
theorem dX2_become_30 : decode cX2_become 30 = .ok (.getfield 18, 3) := by decide +kernel
theorem dX2_become_33 : decode cX2_become 33 = .ok (.iconst 0, 1) := by decide +kernel
theorem dX2_become_34 : decode cX2_become 34 = .ok (.aload_n 0, 1) := by decide +kernel
theorem dX2_become_35 : decode cX2_become 35 = .ok (.getfield 18, 3) := by decide +kernel
theorem dX2_become_38 : decode cX2_become 38 = .ok (.iconst 0, 1) := by decide +kernel
theorem dX2_become_39 : decode cX2_become 39 = .ok (.bipush 25, 2) := by decide +kernel
theorem dX2_become_41 : decode cX2_become 41 = .ok (.invokestatic 28, 3) := by decide +kernel
theorem dX2_become_44 : decode cX2_become 44 = .ok (.aload_n 0, 1) := by decide +kernel
theorem dX2_become_45 : decode cX2_become 45 = .ok (.aload_n 1, 1) := by decide +kernel
theorem dX2_become_46 : decode cX2_become 46 = .ok (.getfield 21, 3) := by decide +kernel
theorem dX2_become_49 : decode cX2_become 49 = .ok (.putfield 21, 3) := by decide +kernel
theorem dX2_become_52 : decode cX2_become 52 = .ok (.aload_n 0, 1) := by decide +kernel
theorem dX2_become_53 : decode cX2_become 53 = .ok (.aload_n 1, 1) := by decide +kernel
theorem dX2_become_54 : decode cX2_become 54 = .ok (.getfield 25, 3) := by decide +kernel
theorem dX2_become_57 : decode cX2_become 57 = .ok (.putfield 25, 3) := by decide +kernel
theorem dX2_become_60 : decode cX2_become 60 = .ok (.return_, 1) := by decide +kernel
theorem dX2_placeAt_0 : decode cX2_placeAt 0 = .ok (.iload_n 2, 1) := by decide +kernel
theorem dX2_placeAt_1 : decode cX2_placeAt 1 = .ok (.ifCond .lt 26, 3) := by decide +kernel
theorem dX2_placeAt_4 : decode cX2_placeAt 4 = .ok (.iload_n 2, 1) := by decide +kernel
theorem dX2_placeAt_5 : decode cX2_placeAt 5 = .ok (.aload_n 0, 1) := by decide +kernel
theorem dX2_placeAt_6 : decode cX2_placeAt 6 = .ok (.getfield 15, 3) := by decide +kernel
theorem dX2_placeAt_9 : decode cX2_placeAt 9 = .ok (.iload_n 1, 1) := by decide +kernel
theorem dX2_placeAt_10 : decode cX2_placeAt 10 = .ok (.iaload, 1) := by decide +kernel
theorem dX2_placeAt_11 : decode cX2_placeAt 11 = .ok (.if_icmp .ge 16, 3) := by decide +kernel
theorem dX2_placeAt_14 : decode cX2_placeAt 14 = .ok (.aload_n 0, 1) := by decide +kernel
theorem dX2_placeAt_15 : decode cX2_placeAt 15 = .ok (.getfield 18, 3) := by decide +kernel
theorem dX2_placeAt_18 : decode cX2_placeAt 18 = .ok (.iload_n 1, 1) := by decide +kernel
theorem dX2_placeAt_19 : decode cX2_placeAt 19 = .ok (.iconst 5, 1) := by decide +kernel
theorem dX2_placeAt_20 : decode cX2_placeAt 20 = .ok (.imul, 1) := by decide +kernel
theorem dX2_placeAt_21 : decode cX2_placeAt 21 = .ok (.iload_n 2, 1) := by decide +kernel
theorem dX2_placeAt_22 : decode cX2_placeAt 22 = .ok (.iadd, 1) := by decide +kernel
theorem dX2_placeAt_23 : decode cX2_placeAt 23 = .ok (.iaload, 1) := by decide +kernel
theorem dX2_placeAt_24 : decode cX2_placeAt 24 = .ok (.goto 5, 3) := by decide +kernel
theorem dX2_placeAt_27 : decode cX2_placeAt 27 = .ok (.bipush (-9), 2) := by decide +kernel
theorem dX2_placeAt_29 : decode cX2_placeAt 29 = .ok (.ireturn, 1) := by decide +kernel
theorem dX2_fits_0 : decode cX2_fits 0 = .ok (.aload_n 0, 1) := by decide +kernel
theorem dX2_fits_1 : decode cX2_fits 1 = .ok (.getfield 15, 3) := by decide +kernel
theorem dX2_fits_4 : decode cX2_fits 4 = .ok (.iload_n 2, 1) := by decide +kernel
theorem dX2_fits_5 : decode cX2_fits 5 = .ok (.iaload, 1) := by decide +kernel
theorem dX2_fits_6 : decode cX2_fits 6 = .ok (.istore 4, 2) := by decide +kernel
theorem dX2_fits_8 : decode cX2_fits 8 = .ok (.iload 4, 2) := by decide +kernel
theorem dX2_fits_10 : decode cX2_fits 10 = .ok (.ifCond .ne 5, 3) := by decide +kernel
theorem dX2_fits_13 : decode cX2_fits 13 = .ok (.iconst 1, 1) := by decide +kernel
theorem dX2_fits_14 : decode cX2_fits 14 = .ok (.ireturn, 1) := by decide +kernel
theorem dX2_fits_15 : decode cX2_fits 15 = .ok (.iload 4, 2) := by decide +kernel
theorem dX2_fits_17 : decode cX2_fits 17 = .ok (.iconst 5, 1) := by decide +kernel
theorem dX2_fits_18 : decode cX2_fits 18 = .ok (.if_icmp .ge 22, 3) := by decide +kernel
theorem dX2_fits_21 : decode cX2_fits 21 = .ok (.aload_n 1, 1) := by decide +kernel
theorem dX2_fits_22 : decode cX2_fits 22 = .ok (.aload_n 0, 1) := by decide +kernel
theorem dX2_fits_23 : decode cX2_fits 23 = .ok (.iload_n 2, 1) := by decide +kernel
theorem dX2_fits_24 : decode cX2_fits 24 = .ok (.iload 4, 2) := by decide +kernel
theorem dX2_fits_26 : decode cX2_fits 26 = .ok (.iconst 1, 1) := by decide +kernel
theorem dX2_fits_27 : decode cX2_fits 27 = .ok (.isub, 1) := by decide +kernel
theorem dX2_fits_28 : decode cX2_fits 28 = .ok (.invokevirtual 34, 3) := by decide +kernel
theorem dX2_fits_31 : decode cX2_fits 31 = .ok (.iload_n 3, 1) := by decide +kernel
theorem dX2_fits_32 : decode cX2_fits 32 = .ok (.invokevirtual 38, 3) := by decide +kernel
theorem dX2_fits_35 : decode cX2_fits 35 = .ok (.bipush (-9), 2) := by decide +kernel
theorem dX2_fits_37 : decode cX2_fits 37 = .ok (.if_icmp .ne 5, 3) := by decide +kernel
theorem dX2_fits_40 : decode cX2_fits 40 = .ok (.iconst 0, 1) := by decide +kernel
theorem dX2_fits_41 : decode cX2_fits 41 = .ok (.ireturn, 1) := by decide +kernel
theorem dX2_fits_42 : decode cX2_fits 42 = .ok (.iconst 0, 1) := by decide +kernel
theorem dX2_fits_43 : decode cX2_fits 43 = .ok (.istore 5, 2) := by decide +kernel
theorem dX2_fits_45 : decode cX2_fits 45 = .ok (.iload 5, 2) := by decide +kernel
theorem dX2_fits_47 : decode cX2_fits 47 = .ok (.iload 4, 2) := by decide +kernel
theorem dX2_fits_49 : decode cX2_fits 49 = .ok (.if_icmp .ge 22, 3) := by decide +kernel
theorem dX2_fits_52 : decode cX2_fits 52 = .ok (.aload_n 0, 1) := by decide +kernel
theorem dX2_fits_53 : decode cX2_fits 53 = .ok (.iload_n 2, 1) := by decide +kernel
theorem dX2_fits_54 : decode cX2_fits 54 = .ok (.iload 5, 2) := by decide +kernel
theorem dX2_fits_56 : decode cX2_fits 56 = .ok (.invokevirtual 34, 3) := by decide +kernel
theorem dX2_fits_59 : decode cX2_fits 59 = .ok (.iload_n 3, 1) := by decide +kernel
theorem dX2_fits_60 : decode cX2_fits 60 = .ok (.if_icmp .ne 5, 3) := by decide +kernel
theorem dX2_fits_63 : decode cX2_fits 63 = .ok (.iconst 0, 1) := by decide +kernel
theorem dX2_fits_64 : decode cX2_fits 64 = .ok (.ireturn, 1) := by decide +kernel
theorem dX2_fits_65 : decode cX2_fits 65 = .ok (.iinc 5 1, 3) := by decide +kernel
theorem dX2_fits_68 : decode cX2_fits 68 = .ok (.goto (-23), 3) := by decide +kernel
theorem dX2_fits_71 : decode cX2_fits 71 = .ok (.iconst 1, 1) := by decide +kernel
theorem dX2_fits_72 : decode cX2_fits 72 = .ok (.ireturn, 1) := by decide +kernel
theorem dX2_append_0 : decode cX2_append 0 = .ok (.aload_n 0, 1) := by decide +kernel
theorem dX2_append_1 : decode cX2_append 1 = .ok (.getfield 15, 3) := by decide +kernel
theorem dX2_append_4 : decode cX2_append 4 = .ok (.iload_n 1, 1) := by decide +kernel
theorem dX2_append_5 : decode cX2_append 5 = .ok (.iaload, 1) := by decide +kernel
theorem dX2_append_6 : decode cX2_append 6 = .ok (.iconst 5, 1) := by decide +kernel
theorem dX2_append_7 : decode cX2_append 7 = .ok (.if_icmp .lt 4, 3) := by decide +kernel
theorem dX2_append_10 : decode cX2_append 10 = .ok (.return_, 1) := by decide +kernel
theorem dX2_append_11 : decode cX2_append 11 = .ok (.aload_n 0, 1) := by decide +kernel
theorem dX2_append_12 : decode cX2_append 12 = .ok (.getfield 18, 3) := by decide +kernel
theorem dX2_append_15 : decode cX2_append 15 = .ok (.iload_n 1, 1) := by decide +kernel
theorem dX2_append_16 : decode cX2_append 16 = .ok (.iconst 5, 1) := by decide +kernel
theorem dX2_append_17 : decode cX2_append 17 = .ok (.imul, 1) := by decide +kernel
theorem dX2_append_18 : decode cX2_append 18 = .ok (.aload_n 0, 1) := by decide +kernel
theorem dX2_append_19 : decode cX2_append 19 = .ok (.getfield 15, 3) := by decide +kernel
theorem dX2_append_22 : decode cX2_append 22 = .ok (.iload_n 1, 1) := by decide +kernel
theorem dX2_append_23 : decode cX2_append 23 = .ok (.iaload, 1) := by decide +kernel
theorem dX2_append_24 : decode cX2_append 24 = .ok (.iadd, 1) := by decide +kernel
theorem dX2_append_25 : decode cX2_append 25 = .ok (.iload_n 2, 1) := by decide +kernel
theorem dX2_append_26 : decode cX2_append 26 = .ok (.iastore, 1) := by decide +kernel
theorem dX2_append_27 : decode cX2_append 27 = .ok (.aload_n 0, 1) := by decide +kernel
theorem dX2_append_28 : decode cX2_append 28 = .ok (.getfield 15, 3) := by decide +kernel
theorem dX2_append_31 : decode cX2_append 31 = .ok (.iload_n 1, 1) := by decide +kernel
theorem dX2_append_32 : decode cX2_append 32 = .ok (.dup2, 1) := by decide +kernel
theorem dX2_append_33 : decode cX2_append 33 = .ok (.iaload, 1) := by decide +kernel
theorem dX2_append_34 : decode cX2_append 34 = .ok (.iconst 1, 1) := by decide +kernel
theorem dX2_append_35 : decode cX2_append 35 = .ok (.iadd, 1) := by decide +kernel
theorem dX2_append_36 : decode cX2_append 36 = .ok (.iastore, 1) := by decide +kernel
theorem dX2_append_37 : decode cX2_append 37 = .ok (.return_, 1) := by decide +kernel
theorem dX2_lanesOf_0 : decode cX2_lanesOf 0 = .ok (.iconst 0, 1) := by decide +kernel
theorem dX2_lanesOf_1 : decode cX2_lanesOf 1 = .ok (.istore_n 3, 1) := by decide +kernel
theorem dX2_lanesOf_2 : decode cX2_lanesOf 2 = .ok (.iconst 1, 1) := by decide +kernel
theorem dX2_lanesOf_3 : decode cX2_lanesOf 3 = .ok (.istore 4, 2) := by decide +kernel
theorem dX2_lanesOf_5 : decode cX2_lanesOf 5 = .ok (.iload 4, 2) := by decide +kernel
theorem dX2_lanesOf_7 : decode cX2_lanesOf 7 = .ok (.aload_n 0, 1) := by decide +kernel
theorem dX2_lanesOf_8 : decode cX2_lanesOf 8 = .ok (.getfield 15, 3) := by decide +kernel
theorem dX2_lanesOf_11 : decode cX2_lanesOf 11 = .ok (.iload_n 2, 1) := by decide +kernel
theorem dX2_lanesOf_12 : decode cX2_lanesOf 12 = .ok (.iaload, 1) := by decide +kernel
theorem dX2_lanesOf_13 : decode cX2_lanesOf 13 = .ok (.if_icmp .ge 45, 3) := by decide +kernel
theorem dX2_lanesOf_16 : decode cX2_lanesOf 16 = .ok (.aload_n 1, 1) := by decide +kernel
theorem dX2_lanesOf_17 : decode cX2_lanesOf 17 = .ok (.aload_n 0, 1) := by decide +kernel
theorem dX2_lanesOf_18 : decode cX2_lanesOf 18 = .ok (.iload_n 2, 1) := by decide +kernel
theorem dX2_lanesOf_19 : decode cX2_lanesOf 19 = .ok (.iload 4, 2) := by decide +kernel
theorem dX2_lanesOf_21 : decode cX2_lanesOf 21 = .ok (.iconst 1, 1) := by decide +kernel
theorem dX2_lanesOf_22 : decode cX2_lanesOf 22 = .ok (.isub, 1) := by decide +kernel
theorem dX2_lanesOf_23 : decode cX2_lanesOf 23 = .ok (.invokevirtual 34, 3) := by decide +kernel
theorem dX2_lanesOf_26 : decode cX2_lanesOf 26 = .ok (.aload_n 0, 1) := by decide +kernel
theorem dX2_lanesOf_27 : decode cX2_lanesOf 27 = .ok (.iload_n 2, 1) := by decide +kernel
theorem dX2_lanesOf_28 : decode cX2_lanesOf 28 = .ok (.iload 4, 2) := by decide +kernel
theorem dX2_lanesOf_30 : decode cX2_lanesOf 30 = .ok (.invokevirtual 34, 3) := by decide +kernel
theorem dX2_lanesOf_33 : decode cX2_lanesOf 33 = .ok (.invokevirtual 38, 3) := by decide +kernel
theorem dX2_lanesOf_36 : decode cX2_lanesOf 36 = .ok (.istore 5, 2) := by decide +kernel
theorem dX2_lanesOf_38 : decode cX2_lanesOf 38 = .ok (.iload 5, 2) := by decide +kernel
theorem dX2_lanesOf_40 : decode cX2_lanesOf 40 = .ok (.bipush (-9), 2) := by decide +kernel
theorem dX2_lanesOf_42 : decode cX2_lanesOf 42 = .ok (.if_icmp .eq 10, 3) := by decide +kernel
theorem dX2_lanesOf_45 : decode cX2_lanesOf 45 = .ok (.iload_n 3, 1) := by decide +kernel
theorem dX2_lanesOf_46 : decode cX2_lanesOf 46 = .ok (.iconst 1, 1) := by decide +kernel
theorem dX2_lanesOf_47 : decode cX2_lanesOf 47 = .ok (.iload 5, 2) := by decide +kernel
theorem dX2_lanesOf_49 : decode cX2_lanesOf 49 = .ok (.ishl, 1) := by decide +kernel
theorem dX2_lanesOf_50 : decode cX2_lanesOf 50 = .ok (.ior, 1) := by decide +kernel
theorem dX2_lanesOf_51 : decode cX2_lanesOf 51 = .ok (.istore_n 3, 1) := by decide +kernel
theorem dX2_lanesOf_52 : decode cX2_lanesOf 52 = .ok (.iinc 4 1, 3) := by decide +kernel
theorem dX2_lanesOf_55 : decode cX2_lanesOf 55 = .ok (.goto (-50), 3) := by decide +kernel
theorem dX2_lanesOf_58 : decode cX2_lanesOf 58 = .ok (.iload_n 3, 1) := by decide +kernel
theorem dX2_lanesOf_59 : decode cX2_lanesOf 59 = .ok (.ireturn, 1) := by decide +kernel
theorem dX2_draftToMap_0 : decode cX2_draftToMap 0 = .ok (.aload_n 0, 1) := by decide +kernel
theorem dX2_draftToMap_1 : decode cX2_draftToMap 1 = .ok (.getfield 21, 3) := by decide +kernel
theorem dX2_draftToMap_4 : decode cX2_draftToMap 4 = .ok (.iconst 4, 1) := by decide +kernel
theorem dX2_draftToMap_5 : decode cX2_draftToMap 5 = .ok (.if_icmp .lt 4, 3) := by decide +kernel
theorem dX2_draftToMap_8 : decode cX2_draftToMap 8 = .ok (.return_, 1) := by decide +kernel
theorem dX2_draftToMap_9 : decode cX2_draftToMap 9 = .ok (.aload_n 0, 1) := by decide +kernel
theorem dX2_draftToMap_10 : decode cX2_draftToMap 10 = .ok (.iconst 4, 1) := by decide +kernel
theorem dX2_draftToMap_11 : decode cX2_draftToMap 11 = .ok (.aload_n 0, 1) := by decide +kernel
theorem dX2_draftToMap_12 : decode cX2_draftToMap 12 = .ok (.getfield 21, 3) := by decide +kernel
theorem dX2_draftToMap_15 : decode cX2_draftToMap 15 = .ok (.invokevirtual 43, 3) := by decide +kernel
theorem dX2_draftToMap_18 : decode cX2_draftToMap 18 = .ok (.aload_n 0, 1) := by decide +kernel
theorem dX2_draftToMap_19 : decode cX2_draftToMap 19 = .ok (.dup, 1) := by decide +kernel
theorem dX2_draftToMap_20 : decode cX2_draftToMap 20 = .ok (.getfield 21, 3) := by decide +kernel
theorem dX2_draftToMap_23 : decode cX2_draftToMap 23 = .ok (.iconst 1, 1) := by decide +kernel
theorem dX2_draftToMap_24 : decode cX2_draftToMap 24 = .ok (.iadd, 1) := by decide +kernel
theorem dX2_draftToMap_25 : decode cX2_draftToMap 25 = .ok (.putfield 21, 3) := by decide +kernel
theorem dX2_draftToMap_28 : decode cX2_draftToMap 28 = .ok (.aload_n 0, 1) := by decide +kernel
theorem dX2_draftToMap_29 : decode cX2_draftToMap 29 = .ok (.getfield 15, 3) := by decide +kernel
theorem dX2_draftToMap_32 : decode cX2_draftToMap 32 = .ok (.iconst 4, 1) := by decide +kernel
theorem dX2_draftToMap_33 : decode cX2_draftToMap 33 = .ok (.iconst 0, 1) := by decide +kernel
theorem dX2_draftToMap_34 : decode cX2_draftToMap 34 = .ok (.iastore, 1) := by decide +kernel
theorem dX2_draftToMap_35 : decode cX2_draftToMap 35 = .ok (.return_, 1) := by decide +kernel
theorem dX2_dropMap_0 : decode cX2_dropMap 0 = .ok (.iload_n 1, 1) := by decide +kernel
theorem dX2_dropMap_1 : decode cX2_dropMap 1 = .ok (.ifCond .lt 11, 3) := by decide +kernel
theorem dX2_dropMap_4 : decode cX2_dropMap 4 = .ok (.iload_n 1, 1) := by decide +kernel
theorem dX2_dropMap_5 : decode cX2_dropMap 5 = .ok (.aload_n 0, 1) := by decide +kernel
theorem dX2_dropMap_6 : decode cX2_dropMap 6 = .ok (.getfield 21, 3) := by decide +kernel
theorem dX2_dropMap_9 : decode cX2_dropMap 9 = .ok (.if_icmp .lt 4, 3) := by decide +kernel
theorem dX2_dropMap_12 : decode cX2_dropMap 12 = .ok (.return_, 1) := by decide +kernel
theorem dX2_dropMap_13 : decode cX2_dropMap 13 = .ok (.aload_n 0, 1) := by decide +kernel
theorem dX2_dropMap_14 : decode cX2_dropMap 14 = .ok (.dup, 1) := by decide +kernel
theorem dX2_dropMap_15 : decode cX2_dropMap 15 = .ok (.getfield 21, 3) := by decide +kernel
theorem dX2_dropMap_18 : decode cX2_dropMap 18 = .ok (.iconst 1, 1) := by decide +kernel
theorem dX2_dropMap_19 : decode cX2_dropMap 19 = .ok (.isub, 1) := by decide +kernel
theorem dX2_dropMap_20 : decode cX2_dropMap 20 = .ok (.putfield 21, 3) := by decide +kernel
theorem dX2_dropMap_23 : decode cX2_dropMap 23 = .ok (.iload_n 1, 1) := by decide +kernel
theorem dX2_dropMap_24 : decode cX2_dropMap 24 = .ok (.istore_n 2, 1) := by decide +kernel
theorem dX2_dropMap_25 : decode cX2_dropMap 25 = .ok (.iload_n 2, 1) := by decide +kernel
theorem dX2_dropMap_26 : decode cX2_dropMap 26 = .ok (.aload_n 0, 1) := by decide +kernel
theorem dX2_dropMap_27 : decode cX2_dropMap 27 = .ok (.getfield 21, 3) := by decide +kernel
theorem dX2_dropMap_30 : decode cX2_dropMap 30 = .ok (.if_icmp .ge 17, 3) := by decide +kernel
theorem dX2_dropMap_33 : decode cX2_dropMap 33 = .ok (.aload_n 0, 1) := by decide +kernel
theorem dX2_dropMap_34 : decode cX2_dropMap 34 = .ok (.iload_n 2, 1) := by decide +kernel
theorem dX2_dropMap_35 : decode cX2_dropMap 35 = .ok (.iconst 1, 1) := by decide +kernel
theorem dX2_dropMap_36 : decode cX2_dropMap 36 = .ok (.iadd, 1) := by decide +kernel
theorem dX2_dropMap_37 : decode cX2_dropMap 37 = .ok (.iload_n 2, 1) := by decide +kernel
theorem dX2_dropMap_38 : decode cX2_dropMap 38 = .ok (.invokevirtual 43, 3) := by decide +kernel
theorem dX2_dropMap_41 : decode cX2_dropMap 41 = .ok (.iinc 2 1, 3) := by decide +kernel
theorem dX2_dropMap_44 : decode cX2_dropMap 44 = .ok (.goto (-19), 3) := by decide +kernel
theorem dX2_dropMap_47 : decode cX2_dropMap 47 = .ok (.return_, 1) := by decide +kernel
theorem dX2_copyRow_0 : decode cX2_copyRow 0 = .ok (.aload_n 0, 1) := by decide +kernel
theorem dX2_copyRow_1 : decode cX2_copyRow 1 = .ok (.getfield 18, 3) := by decide +kernel
theorem dX2_copyRow_4 : decode cX2_copyRow 4 = .ok (.iload_n 1, 1) := by decide +kernel
theorem dX2_copyRow_5 : decode cX2_copyRow 5 = .ok (.iconst 5, 1) := by decide +kernel
theorem dX2_copyRow_6 : decode cX2_copyRow 6 = .ok (.imul, 1) := by decide +kernel
theorem dX2_copyRow_7 : decode cX2_copyRow 7 = .ok (.aload_n 0, 1) := by decide +kernel
theorem dX2_copyRow_8 : decode cX2_copyRow 8 = .ok (.getfield 18, 3) := by decide +kernel
theorem dX2_copyRow_11 : decode cX2_copyRow 11 = .ok (.iload_n 2, 1) := by decide +kernel
theorem dX2_copyRow_12 : decode cX2_copyRow 12 = .ok (.iconst 5, 1) := by decide +kernel
theorem dX2_copyRow_13 : decode cX2_copyRow 13 = .ok (.imul, 1) := by decide +kernel
theorem dX2_copyRow_14 : decode cX2_copyRow 14 = .ok (.iconst 5, 1) := by decide +kernel
theorem dX2_copyRow_15 : decode cX2_copyRow 15 = .ok (.invokestatic 28, 3) := by decide +kernel
theorem dX2_copyRow_18 : decode cX2_copyRow 18 = .ok (.aload_n 0, 1) := by decide +kernel
theorem dX2_copyRow_19 : decode cX2_copyRow 19 = .ok (.getfield 15, 3) := by decide +kernel
theorem dX2_copyRow_22 : decode cX2_copyRow 22 = .ok (.iload_n 2, 1) := by decide +kernel
theorem dX2_copyRow_23 : decode cX2_copyRow 23 = .ok (.aload_n 0, 1) := by decide +kernel
theorem dX2_copyRow_24 : decode cX2_copyRow 24 = .ok (.getfield 15, 3) := by decide +kernel
theorem dX2_copyRow_27 : decode cX2_copyRow 27 = .ok (.iload_n 1, 1) := by decide +kernel
theorem dX2_copyRow_28 : decode cX2_copyRow 28 = .ok (.iaload, 1) := by decide +kernel
theorem dX2_copyRow_29 : decode cX2_copyRow 29 = .ok (.iastore, 1) := by decide +kernel
theorem dX2_copyRow_30 : decode cX2_copyRow 30 = .ok (.return_, 1) := by decide +kernel
theorem dX3_init_0 : decode cX3_init 0 = .ok (.aload_n 0, 1) := by decide +kernel
theorem dX3_init_1 : decode cX3_init 1 = .ok (.invokespecial 3, 3) := by decide +kernel
theorem dX3_init_4 : decode cX3_init 4 = .ok (.aload_n 0, 1) := by decide +kernel
theorem dX3_init_5 : decode cX3_init 5 = .ok (.bipush 10, 2) := by decide +kernel
theorem dX3_init_7 : decode cX3_init 7 = .ok (.anewarray 9, 3) := by decide +kernel
theorem dX3_init_10 : decode cX3_init 10 = .ok (.putfield 11, 3) := by decide +kernel
theorem dX3_init_13 : decode cX3_init 13 = .ok (.aload_n 0, 1) := by decide +kernel
theorem dX3_init_14 : decode cX3_init 14 = .ok (.iconst 0, 1) := by decide +kernel
theorem dX3_init_15 : decode cX3_init 15 = .ok (.putfield 17, 3) := by decide +kernel
theorem dX3_init_18 : decode cX3_init 18 = .ok (.aload_n 0, 1) := by decide +kernel
theorem dX3_init_19 : decode cX3_init 19 = .ok (.iconst 0, 1) := by decide +kernel
theorem dX3_init_20 : decode cX3_init 20 = .ok (.putfield 21, 3) := by decide +kernel
theorem dX3_init_23 : decode cX3_init 23 = .ok (.iconst 0, 1) := by decide +kernel
theorem dX3_init_24 : decode cX3_init 24 = .ok (.istore_n 1, 1) := by decide +kernel
theorem dX3_init_25 : decode cX3_init 25 = .ok (.iload_n 1, 1) := by decide +kernel
theorem dX3_init_26 : decode cX3_init 26 = .ok (.bipush 10, 2) := by decide +kernel
theorem dX3_init_28 : decode cX3_init 28 = .ok (.if_icmp .ge 22, 3) := by decide +kernel
theorem dX3_init_31 : decode cX3_init 31 = .ok (.aload_n 0, 1) := by decide +kernel
theorem dX3_init_32 : decode cX3_init 32 = .ok (.getfield 11, 3) := by decide +kernel
theorem dX3_init_35 : decode cX3_init 35 = .ok (.iload_n 1, 1) := by decide +kernel
theorem dX3_init_36 : decode cX3_init 36 = .ok (.new 9, 3) := by decide +kernel
theorem dX3_init_39 : decode cX3_init 39 = .ok (.dup, 1) := by decide +kernel
theorem dX3_init_40 : decode cX3_init 40 = .ok (.invokespecial 24, 3) := by decide +kernel
theorem dX3_init_43 : decode cX3_init 43 = .ok (.aastore, 1) := by decide +kernel
theorem dX3_init_44 : decode cX3_init 44 = .ok (.iinc 1 1, 3) := by decide +kernel
theorem dX3_init_47 : decode cX3_init 47 = .ok (.goto (-22), 3) := by decide +kernel
theorem dX3_init_50 : decode cX3_init 50 = .ok (.return_, 1) := by decide +kernel
theorem dX3_empty_0 : decode cX3_empty 0 = .ok (.aload_n 0, 1) := by decide +kernel
theorem dX3_empty_1 : decode cX3_empty 1 = .ok (.iconst 0, 1) := by decide +kernel
theorem dX3_empty_2 : decode cX3_empty 2 = .ok (.putfield 21, 3) := by decide +kernel
theorem dX3_empty_5 : decode cX3_empty 5 = .ok (.return_, 1) := by decide +kernel
theorem dX3_remember_0 : decode cX3_remember 0 = .ok (.aload_n 0, 1) := by decide +kernel
theorem dX3_remember_1 : decode cX3_remember 1 = .ok (.getfield 11, 3) := by decide +kernel
theorem dX3_remember_4 : decode cX3_remember 4 = .ok (.aload_n 0, 1) := by decide +kernel
theorem dX3_remember_5 : decode cX3_remember 5 = .ok (.getfield 17, 3) := by decide +kernel
theorem dX3_remember_8 : decode cX3_remember 8 = .ok (.aaload, 1) := by decide +kernel
theorem dX3_remember_9 : decode cX3_remember 9 = .ok (.aload_n 1, 1) := by decide +kernel
theorem dX3_remember_10 : decode cX3_remember 10 = .ok (.invokevirtual 25, 3) := by decide +kernel
theorem dX3_remember_13 : decode cX3_remember 13 = .ok (.aload_n 0, 1) := by decide +kernel
theorem dX3_remember_14 : decode cX3_remember 14 = .ok (.aload_n 0, 1) := by decide +kernel
theorem dX3_remember_15 : decode cX3_remember 15 = .ok (.getfield 17, 3) := by decide +kernel
theorem dX3_remember_18 : decode cX3_remember 18 = .ok (.iconst 1, 1) := by decide +kernel
theorem dX3_remember_19 : decode cX3_remember 19 = .ok (.iadd, 1) := by decide +kernel
theorem dX3_remember_20 : decode cX3_remember 20 = .ok (.bipush 10, 2) := by decide +kernel
theorem dX3_remember_22 : decode cX3_remember 22 = .ok (.irem, 1) := by decide +kernel
theorem dX3_remember_23 : decode cX3_remember 23 = .ok (.putfield 17, 3) := by decide +kernel
theorem dX3_remember_26 : decode cX3_remember 26 = .ok (.aload_n 0, 1) := by decide +kernel
theorem dX3_remember_27 : decode cX3_remember 27 = .ok (.bipush 10, 2) := by decide +kernel
theorem dX3_remember_29 : decode cX3_remember 29 = .ok (.aload_n 0, 1) := by decide +kernel
theorem dX3_remember_30 : decode cX3_remember 30 = .ok (.getfield 21, 3) := by decide +kernel
theorem dX3_remember_33 : decode cX3_remember 33 = .ok (.iconst 1, 1) := by decide +kernel
theorem dX3_remember_34 : decode cX3_remember 34 = .ok (.iadd, 1) := by decide +kernel
theorem dX3_remember_35 : decode cX3_remember 35 = .ok (.invokestatic 29, 3) := by decide +kernel
theorem dX3_remember_38 : decode cX3_remember 38 = .ok (.putfield 21, 3) := by decide +kernel
theorem dX3_remember_41 : decode cX3_remember 41 = .ok (.return_, 1) := by decide +kernel
theorem dX3_restore_0 : decode cX3_restore 0 = .ok (.aload_n 0, 1) := by decide +kernel
theorem dX3_restore_1 : decode cX3_restore 1 = .ok (.getfield 21, 3) := by decide +kernel
theorem dX3_restore_4 : decode cX3_restore 4 = .ok (.ifCond .ne 4, 3) := by decide +kernel
theorem dX3_restore_7 : decode cX3_restore 7 = .ok (.return_, 1) := by decide +kernel
theorem dX3_restore_8 : decode cX3_restore 8 = .ok (.aload_n 0, 1) := by decide +kernel
theorem dX3_restore_9 : decode cX3_restore 9 = .ok (.aload_n 0, 1) := by decide +kernel
theorem dX3_restore_10 : decode cX3_restore 10 = .ok (.getfield 17, 3) := by decide +kernel
theorem dX3_restore_13 : decode cX3_restore 13 = .ok (.bipush 10, 2) := by decide +kernel
theorem dX3_restore_15 : decode cX3_restore 15 = .ok (.iadd, 1) := by decide +kernel
theorem dX3_restore_16 : decode cX3_restore 16 = .ok (.iconst 1, 1) := by decide +kernel
theorem dX3_restore_17 : decode cX3_restore 17 = .ok (.isub, 1) := by decide +kernel
theorem dX3_restore_18 : decode cX3_restore 18 = .ok (.bipush 10, 2) := by decide +kernel
theorem dX3_restore_20 : decode cX3_restore 20 = .ok (.irem, 1) := by decide +kernel
theorem dX3_restore_21 : decode cX3_restore 21 = .ok (.putfield 17, 3) := by decide +kernel
theorem dX3_restore_24 : decode cX3_restore 24 = .ok (.aload_n 0, 1) := by decide +kernel
theorem dX3_restore_25 : decode cX3_restore 25 = .ok (.dup, 1) := by decide +kernel
theorem dX3_restore_26 : decode cX3_restore 26 = .ok (.getfield 21, 3) := by decide +kernel
theorem dX3_restore_29 : decode cX3_restore 29 = .ok (.iconst 1, 1) := by decide +kernel
theorem dX3_restore_30 : decode cX3_restore 30 = .ok (.isub, 1) := by decide +kernel
theorem dX3_restore_31 : decode cX3_restore 31 = .ok (.putfield 21, 3) := by decide +kernel
theorem dX3_restore_34 : decode cX3_restore 34 = .ok (.aload_n 1, 1) := by decide +kernel
theorem dX3_restore_35 : decode cX3_restore 35 = .ok (.aload_n 0, 1) := by decide +kernel
theorem dX3_restore_36 : decode cX3_restore 36 = .ok (.getfield 11, 3) := by decide +kernel
theorem dX3_restore_39 : decode cX3_restore 39 = .ok (.aload_n 0, 1) := by decide +kernel
theorem dX3_restore_40 : decode cX3_restore 40 = .ok (.getfield 17, 3) := by decide +kernel
theorem dX3_restore_43 : decode cX3_restore 43 = .ok (.aaload, 1) := by decide +kernel
theorem dX3_restore_44 : decode cX3_restore 44 = .ok (.invokevirtual 25, 3) := by decide +kernel
theorem dX3_restore_47 : decode cX3_restore 47 = .ok (.return_, 1) := by decide +kernel
theorem dX4_init_0 : decode cX4_init 0 = .ok (.aload_n 0, 1) := by decide +kernel
theorem dX4_init_1 : decode cX4_init 1 = .ok (.invokespecial 3, 3) := by decide +kernel
theorem dX4_init_4 : decode cX4_init 4 = .ok (.aload_n 0, 1) := by decide +kernel
theorem dX4_init_5 : decode cX4_init 5 = .ok (.iconst 0, 1) := by decide +kernel
theorem dX4_init_6 : decode cX4_init 6 = .ok (.putfield 9, 3) := by decide +kernel
theorem dX4_init_9 : decode cX4_init 9 = .ok (.aload_n 0, 1) := by decide +kernel
theorem dX4_init_10 : decode cX4_init 10 = .ok (.iconst 0, 1) := by decide +kernel
theorem dX4_init_11 : decode cX4_init 11 = .ok (.putfield 15, 3) := by decide +kernel
theorem dX4_init_14 : decode cX4_init 14 = .ok (.aload_n 0, 1) := by decide +kernel
theorem dX4_init_15 : decode cX4_init 15 = .ok (.sipush 1000, 3) := by decide +kernel
theorem dX4_init_18 : decode cX4_init 18 = .ok (.putfield 18, 3) := by decide +kernel
theorem dX4_init_21 : decode cX4_init 21 = .ok (.aload_n 0, 1) := by decide +kernel
theorem dX4_init_22 : decode cX4_init 22 = .ok (.bipush 20, 2) := by decide +kernel
theorem dX4_init_24 : decode cX4_init 24 = .ok (.newarray .int, 2) := by decide +kernel
theorem dX4_init_26 : decode cX4_init 26 = .ok (.putfield 21, 3) := by decide +kernel
theorem dX4_init_29 : decode cX4_init 29 = .ok (.aload_n 0, 1) := by decide +kernel
theorem dX4_init_30 : decode cX4_init 30 = .ok (.bipush 20, 2) := by decide +kernel
theorem dX4_init_32 : decode cX4_init 32 = .ok (.newarray .int, 2) := by decide +kernel
theorem dX4_init_34 : decode cX4_init 34 = .ok (.putfield 25, 3) := by decide +kernel
theorem dX4_init_37 : decode cX4_init 37 = .ok (.aload_n 0, 1) := by decide +kernel
theorem dX4_init_38 : decode cX4_init 38 = .ok (.bipush 7, 2) := by decide +kernel
theorem dX4_init_40 : decode cX4_init 40 = .ok (.bipush 20, 2) := by decide +kernel
theorem dX4_init_42 : decode cX4_init 42 = .ok (.multianewarray 28 2, 4) := by decide +kernel
theorem dX4_init_46 : decode cX4_init 46 = .ok (.putfield 30, 3) := by decide +kernel
theorem dX4_init_49 : decode cX4_init 49 = .ok (.aload_n 0, 1) := by decide +kernel
theorem dX4_init_50 : decode cX4_init 50 = .ok (.bipush 6, 2) := by decide +kernel
theorem dX4_init_52 : decode cX4_init 52 = .ok (.newarray .int, 2) := by decide +kernel
theorem dX4_init_54 : decode cX4_init 54 = .ok (.putfield 33, 3) := by decide +kernel
theorem dX4_init_57 : decode cX4_init 57 = .ok (.aload_n 0, 1) := by decide +kernel
theorem dX4_init_58 : decode cX4_init 58 = .ok (.bipush 6, 2) := by decide +kernel
theorem dX4_init_60 : decode cX4_init 60 = .ok (.newarray .int, 2) := by decide +kernel
theorem dX4_init_62 : decode cX4_init 62 = .ok (.putfield 36, 3) := by decide +kernel
theorem dX4_init_65 : decode cX4_init 65 = .ok (.aload_n 0, 1) := by decide +kernel
theorem dX4_init_66 : decode cX4_init 66 = .ok (.bipush 6, 2) := by decide +kernel
theorem dX4_init_68 : decode cX4_init 68 = .ok (.newarray .int, 2) := by decide +kernel
theorem dX4_init_70 : decode cX4_init 70 = .ok (.putfield 39, 3) := by decide +kernel
theorem dX4_init_73 : decode cX4_init 73 = .ok (.return_, 1) := by decide +kernel
theorem dX4_begin_0 : decode cX4_begin 0 = .ok (.aload_n 0, 1) := by decide +kernel
theorem dX4_begin_1 : decode cX4_begin 1 = .ok (.aload_n 1, 1) := by decide +kernel
theorem dX4_begin_2 : decode cX4_begin 2 = .ok (.getfield 42, 3) := by decide +kernel
theorem dX4_begin_5 : decode cX4_begin 5 = .ok (.putfield 9, 3) := by decide +kernel
theorem dX4_begin_8 : decode cX4_begin 8 = .ok (.aload_n 3, 1) := by decide +kernel
theorem dX4_begin_9 : decode cX4_begin 9 = .ok (.iconst 0, 1) := by decide +kernel
theorem dX4_begin_10 : decode cX4_begin 10 = .ok (.aload_n 0, 1) := by decide +kernel
theorem dX4_begin_11 : decode cX4_begin 11 = .ok (.getfield 33, 3) := by decide +kernel
theorem dX4_begin_14 : decode cX4_begin 14 = .ok (.iconst 0, 1) := by decide +kernel
theorem dX4_begin_15 : decode cX4_begin 15 = .ok (.bipush 6, 2) := by decide +kernel
theorem dX4_begin_17 : decode cX4_begin 17 = .ok (.invokestatic 45, 3) := by decide +kernel
theorem dX4_begin_20 : decode cX4_begin 20 = .ok (.aload_n 1, 1) := by decide +kernel
theorem dX4_begin_21 : decode cX4_begin 21 = .ok (.getfield 51, 3) := by decide +kernel
theorem dX4_begin_24 : decode cX4_begin 24 = .ok (.iconst 0, 1) := by decide +kernel
theorem dX4_begin_25 : decode cX4_begin 25 = .ok (.aload_n 0, 1) := by decide +kernel
theorem dX4_begin_26 : decode cX4_begin 26 = .ok (.getfield 36, 3) := by decide +kernel
theorem dX4_begin_29 : decode cX4_begin 29 = .ok (.iconst 0, 1) := by decide +kernel
theorem dX4_begin_30 : decode cX4_begin 30 = .ok (.bipush 6, 2) := by decide +kernel
theorem dX4_begin_32 : decode cX4_begin 32 = .ok (.invokestatic 45, 3) := by decide +kernel
theorem dX4_begin_35 : decode cX4_begin 35 = .ok (.aload_n 0, 1) := by decide +kernel
theorem dX4_begin_36 : decode cX4_begin 36 = .ok (.iconst 0, 1) := by decide +kernel
theorem dX4_begin_37 : decode cX4_begin 37 = .ok (.putfield 15, 3) := by decide +kernel
theorem dX4_begin_40 : decode cX4_begin 40 = .ok (.iconst 0, 1) := by decide +kernel
theorem dX4_begin_41 : decode cX4_begin 41 = .ok (.istore 6, 2) := by decide +kernel
theorem dX4_begin_43 : decode cX4_begin 43 = .ok (.iload 6, 2) := by decide +kernel
theorem dX4_begin_45 : decode cX4_begin 45 = .ok (.aload_n 2, 1) := by decide +kernel
theorem dX4_begin_46 : decode cX4_begin 46 = .ok (.getfield 52, 3) := by decide +kernel
theorem dX4_begin_49 : decode cX4_begin 49 = .ok (.if_icmp .ge 28, 3) := by decide +kernel
theorem dX4_begin_52 : decode cX4_begin 52 = .ok (.lload 4, 2) := by decide +kernel
theorem dX4_begin_54 : decode cX4_begin 54 = .ok (.iload 6, 2) := by decide +kernel
theorem dX4_begin_56 : decode cX4_begin 56 = .ok (.lshr, 1) := by decide +kernel
theorem dX4_begin_57 : decode cX4_begin 57 = .ok (.lconst 1, 1) := by decide +kernel
theorem dX4_begin_58 : decode cX4_begin 58 = .ok (.land, 1) := by decide +kernel
theorem dX4_begin_59 : decode cX4_begin 59 = .ok (.lconst 1, 1) := by decide +kernel
theorem dX4_begin_60 : decode cX4_begin 60 = .ok (.lcmp, 1) := by decide +kernel
theorem dX4_begin_61 : decode cX4_begin 61 = .ok (.ifCond .ne 10, 3) := by decide +kernel
theorem dX4_begin_64 : decode cX4_begin 64 = .ok (.aload_n 0, 1) := by decide +kernel
theorem dX4_begin_65 : decode cX4_begin 65 = .ok (.aload_n 2, 1) := by decide +kernel
theorem dX4_begin_66 : decode cX4_begin 66 = .ok (.iload 6, 2) := by decide +kernel
theorem dX4_begin_68 : decode cX4_begin 68 = .ok (.invokevirtual 57, 3) := by decide +kernel
theorem dX4_begin_71 : decode cX4_begin 71 = .ok (.iinc 6 1, 3) := by decide +kernel
theorem dX4_begin_74 : decode cX4_begin 74 = .ok (.goto (-31), 3) := by decide +kernel
theorem dX4_begin_77 : decode cX4_begin 77 = .ok (.return_, 1) := by decide +kernel
theorem dX4_bindWay_0 : decode cX4_bindWay 0 = .ok (.iconst 0, 1) := by decide +kernel
theorem dX4_bindWay_1 : decode cX4_bindWay 1 = .ok (.istore_n 3, 1) := by decide +kernel
theorem dX4_bindWay_2 : decode cX4_bindWay 2 = .ok (.iload_n 3, 1) := by decide +kernel
theorem dX4_bindWay_3 : decode cX4_bindWay 3 = .ok (.aload_n 1, 1) := by decide +kernel
theorem dX4_bindWay_4 : decode cX4_bindWay 4 = .ok (.getfield 52, 3) := by decide +kernel
theorem dX4_bindWay_7 : decode cX4_bindWay 7 = .ok (.if_icmp .ge 139, 3) := by decide +kernel
theorem dX4_bindWay_10 : decode cX4_bindWay 10 = .ok (.iload_n 3, 1) := by decide +kernel
theorem dX4_bindWay_11 : decode cX4_bindWay 11 = .ok (.iload_n 2, 1) := by decide +kernel
theorem dX4_bindWay_12 : decode cX4_bindWay 12 = .ok (.if_icmp .eq 128, 3) := by decide +kernel
theorem dX4_bindWay_15 : decode cX4_bindWay 15 = .ok (.aload_n 1, 1) := by decide +kernel
theorem dX4_bindWay_16 : decode cX4_bindWay 16 = .ok (.getfield 61, 3) := by decide +kernel
theorem dX4_bindWay_19 : decode cX4_bindWay 19 = .ok (.iload_n 3, 1) := by decide +kernel
theorem dX4_bindWay_20 : decode cX4_bindWay 20 = .ok (.iaload, 1) := by decide +kernel
theorem dX4_bindWay_21 : decode cX4_bindWay 21 = .ok (.aload_n 1, 1) := by decide +kernel
theorem dX4_bindWay_22 : decode cX4_bindWay 22 = .ok (.getfield 61, 3) := by decide +kernel
theorem dX4_bindWay_25 : decode cX4_bindWay 25 = .ok (.iload_n 2, 1) := by decide +kernel
theorem dX4_bindWay_26 : decode cX4_bindWay 26 = .ok (.iaload, 1) := by decide +kernel
theorem dX4_bindWay_27 : decode cX4_bindWay 27 = .ok (.if_icmp .ne 113, 3) := by decide +kernel
theorem dX4_bindWay_30 : decode cX4_bindWay 30 = .ok (.aload_n 0, 1) := by decide +kernel
theorem dX4_bindWay_31 : decode cX4_bindWay 31 = .ok (.getfield 15, 3) := by decide +kernel
theorem dX4_bindWay_34 : decode cX4_bindWay 34 = .ok (.aload_n 0, 1) := by decide +kernel
theorem dX4_bindWay_35 : decode cX4_bindWay 35 = .ok (.getfield 21, 3) := by decide +kernel
theorem dX4_bindWay_38 : decode cX4_bindWay 38 = .ok (.arraylength, 1) := by decide +kernel
theorem dX4_bindWay_39 : decode cX4_bindWay 39 = .ok (.if_icmp .ge 101, 3) := by decide +kernel
theorem dX4_bindWay_42 : decode cX4_bindWay 42 = .ok (.aload_n 1, 1) := by decide +kernel
theorem dX4_bindWay_43 : decode cX4_bindWay 43 = .ok (.getfield 64, 3) := by decide +kernel
theorem dX4_bindWay_46 : decode cX4_bindWay 46 = .ok (.iload_n 2, 1) := by decide +kernel
theorem dX4_bindWay_47 : decode cX4_bindWay 47 = .ok (.iaload, 1) := by decide +kernel
theorem dX4_bindWay_48 : decode cX4_bindWay 48 = .ok (.istore 4, 2) := by decide +kernel
theorem dX4_bindWay_50 : decode cX4_bindWay 50 = .ok (.aload_n 1, 1) := by decide +kernel
theorem dX4_bindWay_51 : decode cX4_bindWay 51 = .ok (.getfield 64, 3) := by decide +kernel
theorem dX4_bindWay_54 : decode cX4_bindWay 54 = .ok (.iload_n 3, 1) := by decide +kernel
theorem dX4_bindWay_55 : decode cX4_bindWay 55 = .ok (.iaload, 1) := by decide +kernel
theorem dX4_bindWay_56 : decode cX4_bindWay 56 = .ok (.istore 5, 2) := by decide +kernel
theorem dX4_bindWay_58 : decode cX4_bindWay 58 = .ok (.aload_n 0, 1) := by decide +kernel
theorem dX4_bindWay_59 : decode cX4_bindWay 59 = .ok (.getfield 21, 3) := by decide +kernel
theorem dX4_bindWay_62 : decode cX4_bindWay 62 = .ok (.aload_n 0, 1) := by decide +kernel
theorem dX4_bindWay_63 : decode cX4_bindWay 63 = .ok (.getfield 15, 3) := by decide +kernel
theorem dX4_bindWay_66 : decode cX4_bindWay 66 = .ok (.iload 4, 2) := by decide +kernel
theorem dX4_bindWay_68 : decode cX4_bindWay 68 = .ok (.iload 5, 2) := by decide +kernel
theorem dX4_bindWay_70 : decode cX4_bindWay 70 = .ok (.iconst (-1), 1) := by decide +kernel
theorem dX4_bindWay_71 : decode cX4_bindWay 71 = .ok (.ixor, 1) := by decide +kernel
theorem dX4_bindWay_72 : decode cX4_bindWay 72 = .ok (.iand, 1) := by decide +kernel
theorem dX4_bindWay_73 : decode cX4_bindWay 73 = .ok (.iastore, 1) := by decide +kernel
theorem dX4_bindWay_74 : decode cX4_bindWay 74 = .ok (.aload_n 0, 1) := by decide +kernel
theorem dX4_bindWay_75 : decode cX4_bindWay 75 = .ok (.getfield 25, 3) := by decide +kernel
theorem dX4_bindWay_78 : decode cX4_bindWay 78 = .ok (.aload_n 0, 1) := by decide +kernel
theorem dX4_bindWay_79 : decode cX4_bindWay 79 = .ok (.getfield 15, 3) := by decide +kernel
theorem dX4_bindWay_82 : decode cX4_bindWay 82 = .ok (.iload 5, 2) := by decide +kernel
theorem dX4_bindWay_84 : decode cX4_bindWay 84 = .ok (.iload 4, 2) := by decide +kernel
theorem dX4_bindWay_86 : decode cX4_bindWay 86 = .ok (.iconst (-1), 1) := by decide +kernel
theorem dX4_bindWay_87 : decode cX4_bindWay 87 = .ok (.ixor, 1) := by decide +kernel
theorem dX4_bindWay_88 : decode cX4_bindWay 88 = .ok (.iand, 1) := by decide +kernel
theorem dX4_bindWay_89 : decode cX4_bindWay 89 = .ok (.iastore, 1) := by decide +kernel
theorem dX4_bindWay_90 : decode cX4_bindWay 90 = .ok (.aload_n 0, 1) := by decide +kernel
theorem dX4_bindWay_91 : decode cX4_bindWay 91 = .ok (.getfield 30, 3) := by decide +kernel
theorem dX4_bindWay_94 : decode cX4_bindWay 94 = .ok (.iconst 0, 1) := by decide +kernel
theorem dX4_bindWay_95 : decode cX4_bindWay 95 = .ok (.aaload, 1) := by decide +kernel
theorem dX4_bindWay_96 : decode cX4_bindWay 96 = .ok (.aload_n 0, 1) := by decide +kernel
theorem dX4_bindWay_97 : decode cX4_bindWay 97 = .ok (.getfield 15, 3) := by decide +kernel
end
section
theorem dX4_bindWay_100 : decode cX4_bindWay 100 = .ok (.iconst 1, 1) := by decide +kernel
theorem dX4_bindWay_101 : decode cX4_bindWay 101 = .ok (.aload_n 0, 1) := by decide +kernel
theorem dX4_bindWay_102 : decode cX4_bindWay 102 = .ok (.getfield 21, 3) := by decide +kernel
theorem dX4_bindWay_105 : decode cX4_bindWay 105 = .ok (.aload_n 0, 1) := by decide +kernel
theorem dX4_bindWay_106 : decode cX4_bindWay 106 = .ok (.getfield 15, 3) := by decide +kernel
theorem dX4_bindWay_109 : decode cX4_bindWay 109 = .ok (.iaload, 1) := by decide +kernel
theorem dX4_bindWay_110 : decode cX4_bindWay 110 = .ok (.invokestatic 67, 3) := by decide +kernel
theorem dX4_bindWay_113 : decode cX4_bindWay 113 = .ok (.imul, 1) := by decide +kernel
theorem dX4_bindWay_114 : decode cX4_bindWay 114 = .ok (.iconst 5, 1) := by decide +kernel
theorem dX4_bindWay_115 : decode cX4_bindWay 115 = .ok (.aload_n 0, 1) := by decide +kernel
theorem dX4_bindWay_116 : decode cX4_bindWay 116 = .ok (.getfield 25, 3) := by decide +kernel
theorem dX4_bindWay_119 : decode cX4_bindWay 119 = .ok (.aload_n 0, 1) := by decide +kernel
theorem dX4_bindWay_120 : decode cX4_bindWay 120 = .ok (.getfield 15, 3) := by decide +kernel
theorem dX4_bindWay_123 : decode cX4_bindWay 123 = .ok (.iaload, 1) := by decide +kernel
theorem dX4_bindWay_124 : decode cX4_bindWay 124 = .ok (.invokestatic 67, 3) := by decide +kernel
theorem dX4_bindWay_127 : decode cX4_bindWay 127 = .ok (.imul, 1) := by decide +kernel
theorem dX4_bindWay_128 : decode cX4_bindWay 128 = .ok (.isub, 1) := by decide +kernel
theorem dX4_bindWay_129 : decode cX4_bindWay 129 = .ok (.iastore, 1) := by decide +kernel
theorem dX4_bindWay_130 : decode cX4_bindWay 130 = .ok (.aload_n 0, 1) := by decide +kernel
theorem dX4_bindWay_131 : decode cX4_bindWay 131 = .ok (.dup, 1) := by decide +kernel
theorem dX4_bindWay_132 : decode cX4_bindWay 132 = .ok (.getfield 15, 3) := by decide +kernel
theorem dX4_bindWay_135 : decode cX4_bindWay 135 = .ok (.iconst 1, 1) := by decide +kernel
theorem dX4_bindWay_136 : decode cX4_bindWay 136 = .ok (.iadd, 1) := by decide +kernel
theorem dX4_bindWay_137 : decode cX4_bindWay 137 = .ok (.putfield 15, 3) := by decide +kernel
theorem dX4_bindWay_140 : decode cX4_bindWay 140 = .ok (.iinc 3 1, 3) := by decide +kernel
theorem dX4_bindWay_143 : decode cX4_bindWay 143 = .ok (.goto (-141), 3) := by decide +kernel
theorem dX4_bindWay_146 : decode cX4_bindWay 146 = .ok (.return_, 1) := by decide +kernel
theorem dX4_leastCost_0 : decode cX4_leastCost 0 = .ok (.aload_n 0, 1) := by decide +kernel
theorem dX4_leastCost_1 : decode cX4_leastCost 1 = .ok (.sipush 1000, 3) := by decide +kernel
theorem dX4_leastCost_4 : decode cX4_leastCost 4 = .ok (.putfield 18, 3) := by decide +kernel
theorem dX4_leastCost_7 : decode cX4_leastCost 7 = .ok (.aload_n 0, 1) := by decide +kernel
theorem dX4_leastCost_8 : decode cX4_leastCost 8 = .ok (.iconst 0, 1) := by decide +kernel
theorem dX4_leastCost_9 : decode cX4_leastCost 9 = .ok (.iconst 0, 1) := by decide +kernel
theorem dX4_leastCost_10 : decode cX4_leastCost 10 = .ok (.invokestatic 73, 3) := by decide +kernel
theorem dX4_leastCost_13 : decode cX4_leastCost 13 = .ok (.aload_n 0, 1) := by decide +kernel
theorem dX4_leastCost_14 : decode cX4_leastCost 14 = .ok (.getfield 18, 3) := by decide +kernel
theorem dX4_leastCost_17 : decode cX4_leastCost 17 = .ok (.sipush 1000, 3) := by decide +kernel
theorem dX4_leastCost_20 : decode cX4_leastCost 20 = .ok (.if_icmp .ne 8, 3) := by decide +kernel
theorem dX4_leastCost_23 : decode cX4_leastCost 23 = .ok (.bipush (-9), 2) := by decide +kernel
theorem dX4_leastCost_25 : decode cX4_leastCost 25 = .ok (.goto 7, 3) := by decide +kernel
theorem dX4_leastCost_28 : decode cX4_leastCost 28 = .ok (.aload_n 0, 1) := by decide +kernel
theorem dX4_leastCost_29 : decode cX4_leastCost 29 = .ok (.getfield 18, 3) := by decide +kernel
theorem dX4_leastCost_32 : decode cX4_leastCost 32 = .ok (.ireturn, 1) := by decide +kernel
theorem dX4_findFirst_0 : decode cX4_findFirst 0 = .ok (.aload_n 0, 1) := by decide +kernel
theorem dX4_findFirst_1 : decode cX4_findFirst 1 = .ok (.iconst 0, 1) := by decide +kernel
theorem dX4_findFirst_2 : decode cX4_findFirst 2 = .ok (.iload_n 1, 1) := by decide +kernel
theorem dX4_findFirst_3 : decode cX4_findFirst 3 = .ok (.invokestatic 77, 3) := by decide +kernel
theorem dX4_findFirst_6 : decode cX4_findFirst 6 = .ok (.ireturn, 1) := by decide +kernel
theorem dX4_goCheapest_0 : decode cX4_goCheapest 0 = .ok (.iload_n 1, 1) := by decide +kernel
theorem dX4_goCheapest_1 : decode cX4_goCheapest 1 = .ok (.aload_n 0, 1) := by decide +kernel
theorem dX4_goCheapest_2 : decode cX4_goCheapest 2 = .ok (.getfield 9, 3) := by decide +kernel
theorem dX4_goCheapest_5 : decode cX4_goCheapest 5 = .ok (.if_icmp .lt 16, 3) := by decide +kernel
theorem dX4_goCheapest_8 : decode cX4_goCheapest 8 = .ok (.aload_n 0, 1) := by decide +kernel
theorem dX4_goCheapest_9 : decode cX4_goCheapest 9 = .ok (.aload_n 0, 1) := by decide +kernel
theorem dX4_goCheapest_10 : decode cX4_goCheapest 10 = .ok (.getfield 18, 3) := by decide +kernel
theorem dX4_goCheapest_13 : decode cX4_goCheapest 13 = .ok (.iload_n 2, 1) := by decide +kernel
theorem dX4_goCheapest_14 : decode cX4_goCheapest 14 = .ok (.invokestatic 81, 3) := by decide +kernel
theorem dX4_goCheapest_17 : decode cX4_goCheapest 17 = .ok (.putfield 18, 3) := by decide +kernel
theorem dX4_goCheapest_20 : decode cX4_goCheapest 20 = .ok (.return_, 1) := by decide +kernel
theorem dX4_goCheapest_21 : decode cX4_goCheapest 21 = .ok (.aload_n 0, 1) := by decide +kernel
theorem dX4_goCheapest_22 : decode cX4_goCheapest 22 = .ok (.iload_n 1, 1) := by decide +kernel
theorem dX4_goCheapest_23 : decode cX4_goCheapest 23 = .ok (.invokevirtual 87, 3) := by decide +kernel
theorem dX4_goCheapest_26 : decode cX4_goCheapest 26 = .ok (.istore_n 3, 1) := by decide +kernel
theorem dX4_goCheapest_27 : decode cX4_goCheapest 27 = .ok (.aload_n 0, 1) := by decide +kernel
theorem dX4_goCheapest_28 : decode cX4_goCheapest 28 = .ok (.iload_n 1, 1) := by decide +kernel
theorem dX4_goCheapest_29 : decode cX4_goCheapest 29 = .ok (.invokevirtual 90, 3) := by decide +kernel
theorem dX4_goCheapest_32 : decode cX4_goCheapest 32 = .ok (.istore 4, 2) := by decide +kernel
theorem dX4_goCheapest_34 : decode cX4_goCheapest 34 = .ok (.iconst 0, 1) := by decide +kernel
theorem dX4_goCheapest_35 : decode cX4_goCheapest 35 = .ok (.istore 5, 2) := by decide +kernel
theorem dX4_goCheapest_37 : decode cX4_goCheapest 37 = .ok (.iload 5, 2) := by decide +kernel
theorem dX4_goCheapest_39 : decode cX4_goCheapest 39 = .ok (.iconst 5, 1) := by decide +kernel
theorem dX4_goCheapest_40 : decode cX4_goCheapest 40 = .ok (.if_icmp .ge 125, 3) := by decide +kernel
theorem dX4_goCheapest_43 : decode cX4_goCheapest 43 = .ok (.iload_n 2, 1) := by decide +kernel
theorem dX4_goCheapest_44 : decode cX4_goCheapest 44 = .ok (.iload 5, 2) := by decide +kernel
theorem dX4_goCheapest_46 : decode cX4_goCheapest 46 = .ok (.aload_n 0, 1) := by decide +kernel
theorem dX4_goCheapest_47 : decode cX4_goCheapest 47 = .ok (.getfield 36, 3) := by decide +kernel
theorem dX4_goCheapest_50 : decode cX4_goCheapest 50 = .ok (.iload_n 1, 1) := by decide +kernel
theorem dX4_goCheapest_51 : decode cX4_goCheapest 51 = .ok (.iaload, 1) := by decide +kernel
theorem dX4_goCheapest_52 : decode cX4_goCheapest 52 = .ok (.imul, 1) := by decide +kernel
theorem dX4_goCheapest_53 : decode cX4_goCheapest 53 = .ok (.iadd, 1) := by decide +kernel
theorem dX4_goCheapest_54 : decode cX4_goCheapest 54 = .ok (.istore 6, 2) := by decide +kernel
theorem dX4_goCheapest_56 : decode cX4_goCheapest 56 = .ok (.aload_n 0, 1) := by decide +kernel
theorem dX4_goCheapest_57 : decode cX4_goCheapest 57 = .ok (.getfield 33, 3) := by decide +kernel
theorem dX4_goCheapest_60 : decode cX4_goCheapest 60 = .ok (.iload_n 1, 1) := by decide +kernel
theorem dX4_goCheapest_61 : decode cX4_goCheapest 61 = .ok (.iaload, 1) := by decide +kernel
theorem dX4_goCheapest_62 : decode cX4_goCheapest 62 = .ok (.iload 5, 2) := by decide +kernel
theorem dX4_goCheapest_64 : decode cX4_goCheapest 64 = .ok (.isub, 1) := by decide +kernel
theorem dX4_goCheapest_65 : decode cX4_goCheapest 65 = .ok (.istore 7, 2) := by decide +kernel
theorem dX4_goCheapest_67 : decode cX4_goCheapest 67 = .ok (.aload_n 0, 1) := by decide +kernel
theorem dX4_goCheapest_68 : decode cX4_goCheapest 68 = .ok (.getfield 33, 3) := by decide +kernel
theorem dX4_goCheapest_71 : decode cX4_goCheapest 71 = .ok (.iload_n 1, 1) := by decide +kernel
theorem dX4_goCheapest_72 : decode cX4_goCheapest 72 = .ok (.iaload, 1) := by decide +kernel
theorem dX4_goCheapest_73 : decode cX4_goCheapest 73 = .ok (.iload 5, 2) := by decide +kernel
theorem dX4_goCheapest_75 : decode cX4_goCheapest 75 = .ok (.iadd, 1) := by decide +kernel
theorem dX4_goCheapest_76 : decode cX4_goCheapest 76 = .ok (.istore 8, 2) := by decide +kernel
theorem dX4_goCheapest_78 : decode cX4_goCheapest 78 = .ok (.iload 7, 2) := by decide +kernel
theorem dX4_goCheapest_80 : decode cX4_goCheapest 80 = .ok (.iload_n 3, 1) := by decide +kernel
theorem dX4_goCheapest_81 : decode cX4_goCheapest 81 = .ok (.if_icmp .lt 35, 3) := by decide +kernel
theorem dX4_goCheapest_84 : decode cX4_goCheapest 84 = .ok (.iload 7, 2) := by decide +kernel
theorem dX4_goCheapest_86 : decode cX4_goCheapest 86 = .ok (.iload 4, 2) := by decide +kernel
theorem dX4_goCheapest_88 : decode cX4_goCheapest 88 = .ok (.if_icmp .gt 28, 3) := by decide +kernel
theorem dX4_goCheapest_91 : decode cX4_goCheapest 91 = .ok (.iload 6, 2) := by decide +kernel
theorem dX4_goCheapest_93 : decode cX4_goCheapest 93 = .ok (.aload_n 0, 1) := by decide +kernel
theorem dX4_goCheapest_94 : decode cX4_goCheapest 94 = .ok (.getfield 18, 3) := by decide +kernel
theorem dX4_goCheapest_97 : decode cX4_goCheapest 97 = .ok (.if_icmp .ge 19, 3) := by decide +kernel
theorem dX4_goCheapest_100 : decode cX4_goCheapest 100 = .ok (.aload_n 0, 1) := by decide +kernel
theorem dX4_goCheapest_101 : decode cX4_goCheapest 101 = .ok (.iload_n 1, 1) := by decide +kernel
theorem dX4_goCheapest_102 : decode cX4_goCheapest 102 = .ok (.iload 7, 2) := by decide +kernel
theorem dX4_goCheapest_104 : decode cX4_goCheapest 104 = .ok (.invokevirtual 93, 3) := by decide +kernel
theorem dX4_goCheapest_107 : decode cX4_goCheapest 107 = .ok (.aload_n 0, 1) := by decide +kernel
theorem dX4_goCheapest_108 : decode cX4_goCheapest 108 = .ok (.iload_n 1, 1) := by decide +kernel
theorem dX4_goCheapest_109 : decode cX4_goCheapest 109 = .ok (.iconst 1, 1) := by decide +kernel
theorem dX4_goCheapest_110 : decode cX4_goCheapest 110 = .ok (.iadd, 1) := by decide +kernel
theorem dX4_goCheapest_111 : decode cX4_goCheapest 111 = .ok (.iload 6, 2) := by decide +kernel
theorem dX4_goCheapest_113 : decode cX4_goCheapest 113 = .ok (.invokestatic 73, 3) := by decide +kernel
theorem dX4_goCheapest_116 : decode cX4_goCheapest 116 = .ok (.iload 5, 2) := by decide +kernel
theorem dX4_goCheapest_118 : decode cX4_goCheapest 118 = .ok (.ifCond .le 41, 3) := by decide +kernel
theorem dX4_goCheapest_121 : decode cX4_goCheapest 121 = .ok (.iload 8, 2) := by decide +kernel
theorem dX4_goCheapest_123 : decode cX4_goCheapest 123 = .ok (.iload_n 3, 1) := by decide +kernel
theorem dX4_goCheapest_124 : decode cX4_goCheapest 124 = .ok (.if_icmp .lt 35, 3) := by decide +kernel
theorem dX4_goCheapest_127 : decode cX4_goCheapest 127 = .ok (.iload 8, 2) := by decide +kernel
theorem dX4_goCheapest_129 : decode cX4_goCheapest 129 = .ok (.iload 4, 2) := by decide +kernel
theorem dX4_goCheapest_131 : decode cX4_goCheapest 131 = .ok (.if_icmp .gt 28, 3) := by decide +kernel
theorem dX4_goCheapest_134 : decode cX4_goCheapest 134 = .ok (.iload 6, 2) := by decide +kernel
theorem dX4_goCheapest_136 : decode cX4_goCheapest 136 = .ok (.aload_n 0, 1) := by decide +kernel
theorem dX4_goCheapest_137 : decode cX4_goCheapest 137 = .ok (.getfield 18, 3) := by decide +kernel
theorem dX4_goCheapest_140 : decode cX4_goCheapest 140 = .ok (.if_icmp .ge 19, 3) := by decide +kernel
theorem dX4_goCheapest_143 : decode cX4_goCheapest 143 = .ok (.aload_n 0, 1) := by decide +kernel
theorem dX4_goCheapest_144 : decode cX4_goCheapest 144 = .ok (.iload_n 1, 1) := by decide +kernel
theorem dX4_goCheapest_145 : decode cX4_goCheapest 145 = .ok (.iload 8, 2) := by decide +kernel
theorem dX4_goCheapest_147 : decode cX4_goCheapest 147 = .ok (.invokevirtual 93, 3) := by decide +kernel
theorem dX4_goCheapest_150 : decode cX4_goCheapest 150 = .ok (.aload_n 0, 1) := by decide +kernel
theorem dX4_goCheapest_151 : decode cX4_goCheapest 151 = .ok (.iload_n 1, 1) := by decide +kernel
theorem dX4_goCheapest_152 : decode cX4_goCheapest 152 = .ok (.iconst 1, 1) := by decide +kernel
theorem dX4_goCheapest_153 : decode cX4_goCheapest 153 = .ok (.iadd, 1) := by decide +kernel
theorem dX4_goCheapest_154 : decode cX4_goCheapest 154 = .ok (.iload 6, 2) := by decide +kernel
theorem dX4_goCheapest_156 : decode cX4_goCheapest 156 = .ok (.invokestatic 73, 3) := by decide +kernel
theorem dX4_goCheapest_159 : decode cX4_goCheapest 159 = .ok (.iinc 5 1, 3) := by decide +kernel
theorem dX4_goCheapest_162 : decode cX4_goCheapest 162 = .ok (.goto (-125), 3) := by decide +kernel
theorem dX4_goCheapest_165 : decode cX4_goCheapest 165 = .ok (.return_, 1) := by decide +kernel
theorem dX4_goFirst_0 : decode cX4_goFirst 0 = .ok (.iload_n 1, 1) := by decide +kernel
theorem dX4_goFirst_1 : decode cX4_goFirst 1 = .ok (.aload_n 0, 1) := by decide +kernel
theorem dX4_goFirst_2 : decode cX4_goFirst 2 = .ok (.getfield 9, 3) := by decide +kernel
theorem dX4_goFirst_5 : decode cX4_goFirst 5 = .ok (.if_icmp .lt 5, 3) := by decide +kernel
theorem dX4_goFirst_8 : decode cX4_goFirst 8 = .ok (.iconst 1, 1) := by decide +kernel
theorem dX4_goFirst_9 : decode cX4_goFirst 9 = .ok (.ireturn, 1) := by decide +kernel
theorem dX4_goFirst_10 : decode cX4_goFirst 10 = .ok (.aload_n 0, 1) := by decide +kernel
theorem dX4_goFirst_11 : decode cX4_goFirst 11 = .ok (.iload_n 1, 1) := by decide +kernel
theorem dX4_goFirst_12 : decode cX4_goFirst 12 = .ok (.invokevirtual 90, 3) := by decide +kernel
theorem dX4_goFirst_15 : decode cX4_goFirst 15 = .ok (.istore_n 3, 1) := by decide +kernel
theorem dX4_goFirst_16 : decode cX4_goFirst 16 = .ok (.aload_n 0, 1) := by decide +kernel
theorem dX4_goFirst_17 : decode cX4_goFirst 17 = .ok (.iload_n 1, 1) := by decide +kernel
theorem dX4_goFirst_18 : decode cX4_goFirst 18 = .ok (.invokevirtual 87, 3) := by decide +kernel
theorem dX4_goFirst_21 : decode cX4_goFirst 21 = .ok (.istore 4, 2) := by decide +kernel
theorem dX4_goFirst_23 : decode cX4_goFirst 23 = .ok (.iload 4, 2) := by decide +kernel
theorem dX4_goFirst_25 : decode cX4_goFirst 25 = .ok (.iload_n 3, 1) := by decide +kernel
theorem dX4_goFirst_26 : decode cX4_goFirst 26 = .ok (.if_icmp .gt 58, 3) := by decide +kernel
theorem dX4_goFirst_29 : decode cX4_goFirst 29 = .ok (.iload_n 2, 1) := by decide +kernel
theorem dX4_goFirst_30 : decode cX4_goFirst 30 = .ok (.aload_n 0, 1) := by decide +kernel
theorem dX4_goFirst_31 : decode cX4_goFirst 31 = .ok (.getfield 36, 3) := by decide +kernel
theorem dX4_goFirst_34 : decode cX4_goFirst 34 = .ok (.iload_n 1, 1) := by decide +kernel
theorem dX4_goFirst_35 : decode cX4_goFirst 35 = .ok (.iaload, 1) := by decide +kernel
theorem dX4_goFirst_36 : decode cX4_goFirst 36 = .ok (.iload 4, 2) := by decide +kernel
theorem dX4_goFirst_38 : decode cX4_goFirst 38 = .ok (.aload_n 0, 1) := by decide +kernel
theorem dX4_goFirst_39 : decode cX4_goFirst 39 = .ok (.getfield 33, 3) := by decide +kernel
theorem dX4_goFirst_42 : decode cX4_goFirst 42 = .ok (.iload_n 1, 1) := by decide +kernel
theorem dX4_goFirst_43 : decode cX4_goFirst 43 = .ok (.iaload, 1) := by decide +kernel
theorem dX4_goFirst_44 : decode cX4_goFirst 44 = .ok (.isub, 1) := by decide +kernel
theorem dX4_goFirst_45 : decode cX4_goFirst 45 = .ok (.invokestatic 97, 3) := by decide +kernel
theorem dX4_goFirst_48 : decode cX4_goFirst 48 = .ok (.imul, 1) := by decide +kernel
theorem dX4_goFirst_49 : decode cX4_goFirst 49 = .ok (.isub, 1) := by decide +kernel
theorem dX4_goFirst_50 : decode cX4_goFirst 50 = .ok (.istore 5, 2) := by decide +kernel
theorem dX4_goFirst_52 : decode cX4_goFirst 52 = .ok (.iload 5, 2) := by decide +kernel
theorem dX4_goFirst_54 : decode cX4_goFirst 54 = .ok (.ifCond .lt 24, 3) := by decide +kernel
theorem dX4_goFirst_57 : decode cX4_goFirst 57 = .ok (.aload_n 0, 1) := by decide +kernel
theorem dX4_goFirst_58 : decode cX4_goFirst 58 = .ok (.iload_n 1, 1) := by decide +kernel
theorem dX4_goFirst_59 : decode cX4_goFirst 59 = .ok (.iload 4, 2) := by decide +kernel
theorem dX4_goFirst_61 : decode cX4_goFirst 61 = .ok (.invokevirtual 93, 3) := by decide +kernel
theorem dX4_goFirst_64 : decode cX4_goFirst 64 = .ok (.aload_n 0, 1) := by decide +kernel
theorem dX4_goFirst_65 : decode cX4_goFirst 65 = .ok (.iload_n 1, 1) := by decide +kernel
theorem dX4_goFirst_66 : decode cX4_goFirst 66 = .ok (.iconst 1, 1) := by decide +kernel
theorem dX4_goFirst_67 : decode cX4_goFirst 67 = .ok (.iadd, 1) := by decide +kernel
theorem dX4_goFirst_68 : decode cX4_goFirst 68 = .ok (.iload 5, 2) := by decide +kernel
theorem dX4_goFirst_70 : decode cX4_goFirst 70 = .ok (.invokestatic 77, 3) := by decide +kernel
theorem dX4_goFirst_73 : decode cX4_goFirst 73 = .ok (.ifCond .eq 5, 3) := by decide +kernel
theorem dX4_goFirst_76 : decode cX4_goFirst 76 = .ok (.iconst 1, 1) := by decide +kernel
theorem dX4_goFirst_77 : decode cX4_goFirst 77 = .ok (.ireturn, 1) := by decide +kernel
theorem dX4_goFirst_78 : decode cX4_goFirst 78 = .ok (.iinc 4 1, 3) := by decide +kernel
theorem dX4_goFirst_81 : decode cX4_goFirst 81 = .ok (.goto (-58), 3) := by decide +kernel
theorem dX4_goFirst_84 : decode cX4_goFirst 84 = .ok (.iconst 0, 1) := by decide +kernel
theorem dX4_goFirst_85 : decode cX4_goFirst 85 = .ok (.ireturn, 1) := by decide +kernel
theorem dX4_lowest_0 : decode cX4_lowest 0 = .ok (.iconst 1, 1) := by decide +kernel
theorem dX4_lowest_1 : decode cX4_lowest 1 = .ok (.istore_n 2, 1) := by decide +kernel
theorem dX4_lowest_2 : decode cX4_lowest 2 = .ok (.iconst 0, 1) := by decide +kernel
theorem dX4_lowest_3 : decode cX4_lowest 3 = .ok (.istore_n 3, 1) := by decide +kernel
theorem dX4_lowest_4 : decode cX4_lowest 4 = .ok (.iload_n 3, 1) := by decide +kernel
theorem dX4_lowest_5 : decode cX4_lowest 5 = .ok (.aload_n 0, 1) := by decide +kernel
theorem dX4_lowest_6 : decode cX4_lowest 6 = .ok (.getfield 15, 3) := by decide +kernel
theorem dX4_lowest_9 : decode cX4_lowest 9 = .ok (.if_icmp .ge 38, 3) := by decide +kernel
theorem dX4_lowest_12 : decode cX4_lowest 12 = .ok (.aload_n 0, 1) := by decide +kernel
theorem dX4_lowest_13 : decode cX4_lowest 13 = .ok (.getfield 25, 3) := by decide +kernel
theorem dX4_lowest_16 : decode cX4_lowest 16 = .ok (.iload_n 3, 1) := by decide +kernel
theorem dX4_lowest_17 : decode cX4_lowest 17 = .ok (.iaload, 1) := by decide +kernel
theorem dX4_lowest_18 : decode cX4_lowest 18 = .ok (.iload_n 1, 1) := by decide +kernel
theorem dX4_lowest_19 : decode cX4_lowest 19 = .ok (.ishr, 1) := by decide +kernel
theorem dX4_lowest_20 : decode cX4_lowest 20 = .ok (.iconst 1, 1) := by decide +kernel
theorem dX4_lowest_21 : decode cX4_lowest 21 = .ok (.iand, 1) := by decide +kernel
theorem dX4_lowest_22 : decode cX4_lowest 22 = .ok (.iconst 1, 1) := by decide +kernel
theorem dX4_lowest_23 : decode cX4_lowest 23 = .ok (.if_icmp .ne 18, 3) := by decide +kernel
theorem dX4_lowest_26 : decode cX4_lowest 26 = .ok (.iload_n 2, 1) := by decide +kernel
theorem dX4_lowest_27 : decode cX4_lowest 27 = .ok (.iconst 5, 1) := by decide +kernel
theorem dX4_lowest_28 : decode cX4_lowest 28 = .ok (.aload_n 0, 1) := by decide +kernel
theorem dX4_lowest_29 : decode cX4_lowest 29 = .ok (.getfield 30, 3) := by decide +kernel
theorem dX4_lowest_32 : decode cX4_lowest 32 = .ok (.iload_n 1, 1) := by decide +kernel
theorem dX4_lowest_33 : decode cX4_lowest 33 = .ok (.aaload, 1) := by decide +kernel
theorem dX4_lowest_34 : decode cX4_lowest 34 = .ok (.iload_n 3, 1) := by decide +kernel
theorem dX4_lowest_35 : decode cX4_lowest 35 = .ok (.iaload, 1) := by decide +kernel
theorem dX4_lowest_36 : decode cX4_lowest 36 = .ok (.iadd, 1) := by decide +kernel
theorem dX4_lowest_37 : decode cX4_lowest 37 = .ok (.invokestatic 100, 3) := by decide +kernel
theorem dX4_lowest_40 : decode cX4_lowest 40 = .ok (.istore_n 2, 1) := by decide +kernel
theorem dX4_lowest_41 : decode cX4_lowest 41 = .ok (.iinc 3 1, 3) := by decide +kernel
theorem dX4_lowest_44 : decode cX4_lowest 44 = .ok (.goto (-40), 3) := by decide +kernel
theorem dX4_lowest_47 : decode cX4_lowest 47 = .ok (.iload_n 2, 1) := by decide +kernel
theorem dX4_lowest_48 : decode cX4_lowest 48 = .ok (.ireturn, 1) := by decide +kernel
theorem dX4_highest_0 : decode cX4_highest 0 = .ok (.iconst 5, 1) := by decide +kernel
theorem dX4_highest_1 : decode cX4_highest 1 = .ok (.istore_n 2, 1) := by decide +kernel
theorem dX4_highest_2 : decode cX4_highest 2 = .ok (.iconst 0, 1) := by decide +kernel
theorem dX4_highest_3 : decode cX4_highest 3 = .ok (.istore_n 3, 1) := by decide +kernel
theorem dX4_highest_4 : decode cX4_highest 4 = .ok (.iload_n 3, 1) := by decide +kernel
theorem dX4_highest_5 : decode cX4_highest 5 = .ok (.aload_n 0, 1) := by decide +kernel
theorem dX4_highest_6 : decode cX4_highest 6 = .ok (.getfield 15, 3) := by decide +kernel
theorem dX4_highest_9 : decode cX4_highest 9 = .ok (.if_icmp .ge 38, 3) := by decide +kernel
theorem dX4_highest_12 : decode cX4_highest 12 = .ok (.aload_n 0, 1) := by decide +kernel
theorem dX4_highest_13 : decode cX4_highest 13 = .ok (.getfield 21, 3) := by decide +kernel
theorem dX4_highest_16 : decode cX4_highest 16 = .ok (.iload_n 3, 1) := by decide +kernel
theorem dX4_highest_17 : decode cX4_highest 17 = .ok (.iaload, 1) := by decide +kernel
theorem dX4_highest_18 : decode cX4_highest 18 = .ok (.iload_n 1, 1) := by decide +kernel
theorem dX4_highest_19 : decode cX4_highest 19 = .ok (.ishr, 1) := by decide +kernel
theorem dX4_highest_20 : decode cX4_highest 20 = .ok (.iconst 1, 1) := by decide +kernel
theorem dX4_highest_21 : decode cX4_highest 21 = .ok (.iand, 1) := by decide +kernel
theorem dX4_highest_22 : decode cX4_highest 22 = .ok (.iconst 1, 1) := by decide +kernel
theorem dX4_highest_23 : decode cX4_highest 23 = .ok (.if_icmp .ne 18, 3) := by decide +kernel
theorem dX4_highest_26 : decode cX4_highest 26 = .ok (.iload_n 2, 1) := by decide +kernel
theorem dX4_highest_27 : decode cX4_highest 27 = .ok (.iconst 1, 1) := by decide +kernel
theorem dX4_highest_28 : decode cX4_highest 28 = .ok (.aload_n 0, 1) := by decide +kernel
theorem dX4_highest_29 : decode cX4_highest 29 = .ok (.getfield 30, 3) := by decide +kernel
theorem dX4_highest_32 : decode cX4_highest 32 = .ok (.iload_n 1, 1) := by decide +kernel
theorem dX4_highest_33 : decode cX4_highest 33 = .ok (.aaload, 1) := by decide +kernel
theorem dX4_highest_34 : decode cX4_highest 34 = .ok (.iload_n 3, 1) := by decide +kernel
theorem dX4_highest_35 : decode cX4_highest 35 = .ok (.iaload, 1) := by decide +kernel
theorem dX4_highest_36 : decode cX4_highest 36 = .ok (.isub, 1) := by decide +kernel
theorem dX4_highest_37 : decode cX4_highest 37 = .ok (.invokestatic 81, 3) := by decide +kernel
theorem dX4_highest_40 : decode cX4_highest 40 = .ok (.istore_n 2, 1) := by decide +kernel
theorem dX4_highest_41 : decode cX4_highest 41 = .ok (.iinc 3 1, 3) := by decide +kernel
theorem dX4_highest_44 : decode cX4_highest 44 = .ok (.goto (-40), 3) := by decide +kernel
theorem dX4_highest_47 : decode cX4_highest 47 = .ok (.iload_n 2, 1) := by decide +kernel
theorem dX4_highest_48 : decode cX4_highest 48 = .ok (.ireturn, 1) := by decide +kernel
theorem dX4_choose_0 : decode cX4_choose 0 = .ok (.aload_n 0, 1) := by decide +kernel
theorem dX4_choose_1 : decode cX4_choose 1 = .ok (.getfield 39, 3) := by decide +kernel
theorem dX4_choose_4 : decode cX4_choose 4 = .ok (.iload_n 1, 1) := by decide +kernel
theorem dX4_choose_5 : decode cX4_choose 5 = .ok (.iload_n 2, 1) := by decide +kernel
theorem dX4_choose_6 : decode cX4_choose 6 = .ok (.iastore, 1) := by decide +kernel
theorem dX4_choose_7 : decode cX4_choose 7 = .ok (.iconst 0, 1) := by decide +kernel
theorem dX4_choose_8 : decode cX4_choose 8 = .ok (.istore_n 3, 1) := by decide +kernel
theorem dX4_choose_9 : decode cX4_choose 9 = .ok (.iload_n 3, 1) := by decide +kernel
theorem dX4_choose_10 : decode cX4_choose 10 = .ok (.aload_n 0, 1) := by decide +kernel
theorem dX4_choose_11 : decode cX4_choose 11 = .ok (.getfield 15, 3) := by decide +kernel
theorem dX4_choose_14 : decode cX4_choose 14 = .ok (.if_icmp .ge 74, 3) := by decide +kernel
theorem dX4_choose_17 : decode cX4_choose 17 = .ok (.iconst 0, 1) := by decide +kernel
theorem dX4_choose_18 : decode cX4_choose 18 = .ok (.istore 4, 2) := by decide +kernel
theorem dX4_choose_20 : decode cX4_choose 20 = .ok (.aload_n 0, 1) := by decide +kernel
theorem dX4_choose_21 : decode cX4_choose 21 = .ok (.getfield 21, 3) := by decide +kernel
theorem dX4_choose_24 : decode cX4_choose 24 = .ok (.iload_n 3, 1) := by decide +kernel
theorem dX4_choose_25 : decode cX4_choose 25 = .ok (.iaload, 1) := by decide +kernel
theorem dX4_choose_26 : decode cX4_choose 26 = .ok (.iload_n 1, 1) := by decide +kernel
theorem dX4_choose_27 : decode cX4_choose 27 = .ok (.ishr, 1) := by decide +kernel
theorem dX4_choose_28 : decode cX4_choose 28 = .ok (.iconst 1, 1) := by decide +kernel
theorem dX4_choose_29 : decode cX4_choose 29 = .ok (.iand, 1) := by decide +kernel
theorem dX4_choose_30 : decode cX4_choose 30 = .ok (.iconst 1, 1) := by decide +kernel
theorem dX4_choose_31 : decode cX4_choose 31 = .ok (.if_icmp .ne 11, 3) := by decide +kernel
theorem dX4_choose_34 : decode cX4_choose 34 = .ok (.iload_n 2, 1) := by decide +kernel
theorem dX4_choose_35 : decode cX4_choose 35 = .ok (.iconst 1, 1) := by decide +kernel
theorem dX4_choose_36 : decode cX4_choose 36 = .ok (.isub, 1) := by decide +kernel
theorem dX4_choose_37 : decode cX4_choose 37 = .ok (.istore 4, 2) := by decide +kernel
theorem dX4_choose_39 : decode cX4_choose 39 = .ok (.goto 22, 3) := by decide +kernel
theorem dX4_choose_42 : decode cX4_choose 42 = .ok (.aload_n 0, 1) := by decide +kernel
theorem dX4_choose_43 : decode cX4_choose 43 = .ok (.getfield 25, 3) := by decide +kernel
theorem dX4_choose_46 : decode cX4_choose 46 = .ok (.iload_n 3, 1) := by decide +kernel
theorem dX4_choose_47 : decode cX4_choose 47 = .ok (.iaload, 1) := by decide +kernel
theorem dX4_choose_48 : decode cX4_choose 48 = .ok (.iload_n 1, 1) := by decide +kernel
theorem dX4_choose_49 : decode cX4_choose 49 = .ok (.ishr, 1) := by decide +kernel
theorem dX4_choose_50 : decode cX4_choose 50 = .ok (.iconst 1, 1) := by decide +kernel
theorem dX4_choose_51 : decode cX4_choose 51 = .ok (.iand, 1) := by decide +kernel
theorem dX4_choose_52 : decode cX4_choose 52 = .ok (.iconst 1, 1) := by decide +kernel
theorem dX4_choose_53 : decode cX4_choose 53 = .ok (.if_icmp .ne 8, 3) := by decide +kernel
theorem dX4_choose_56 : decode cX4_choose 56 = .ok (.iconst 5, 1) := by decide +kernel
theorem dX4_choose_57 : decode cX4_choose 57 = .ok (.iload_n 2, 1) := by decide +kernel
theorem dX4_choose_58 : decode cX4_choose 58 = .ok (.isub, 1) := by decide +kernel
theorem dX4_choose_59 : decode cX4_choose 59 = .ok (.istore 4, 2) := by decide +kernel
theorem dX4_choose_61 : decode cX4_choose 61 = .ok (.aload_n 0, 1) := by decide +kernel
theorem dX4_choose_62 : decode cX4_choose 62 = .ok (.getfield 30, 3) := by decide +kernel
theorem dX4_choose_65 : decode cX4_choose 65 = .ok (.iload_n 1, 1) := by decide +kernel
theorem dX4_choose_66 : decode cX4_choose 66 = .ok (.iconst 1, 1) := by decide +kernel
theorem dX4_choose_67 : decode cX4_choose 67 = .ok (.iadd, 1) := by decide +kernel
theorem dX4_choose_68 : decode cX4_choose 68 = .ok (.aaload, 1) := by decide +kernel
theorem dX4_choose_69 : decode cX4_choose 69 = .ok (.iload_n 3, 1) := by decide +kernel
theorem dX4_choose_70 : decode cX4_choose 70 = .ok (.aload_n 0, 1) := by decide +kernel
theorem dX4_choose_71 : decode cX4_choose 71 = .ok (.getfield 30, 3) := by decide +kernel
theorem dX4_choose_74 : decode cX4_choose 74 = .ok (.iload_n 1, 1) := by decide +kernel
theorem dX4_choose_75 : decode cX4_choose 75 = .ok (.aaload, 1) := by decide +kernel
theorem dX4_choose_76 : decode cX4_choose 76 = .ok (.iload_n 3, 1) := by decide +kernel
theorem dX4_choose_77 : decode cX4_choose 77 = .ok (.iaload, 1) := by decide +kernel
theorem dX4_choose_78 : decode cX4_choose 78 = .ok (.iload 4, 2) := by decide +kernel
theorem dX4_choose_80 : decode cX4_choose 80 = .ok (.iadd, 1) := by decide +kernel
theorem dX4_choose_81 : decode cX4_choose 81 = .ok (.iastore, 1) := by decide +kernel
theorem dX4_choose_82 : decode cX4_choose 82 = .ok (.iinc 3 1, 3) := by decide +kernel
theorem dX4_choose_85 : decode cX4_choose 85 = .ok (.goto (-76), 3) := by decide +kernel
theorem dX4_choose_88 : decode cX4_choose 88 = .ok (.return_, 1) := by decide +kernel
theorem dX5_init_0 : decode cX5_init 0 = .ok (.aload_n 0, 1) := by decide +kernel
theorem dX5_init_1 : decode cX5_init 1 = .ok (.invokespecial 3, 3) := by decide +kernel
theorem dX5_init_4 : decode cX5_init 4 = .ok (.aload_n 0, 1) := by decide +kernel
theorem dX5_init_5 : decode cX5_init 5 = .ok (.iconst 0, 1) := by decide +kernel
theorem dX5_init_6 : decode cX5_init 6 = .ok (.putfield 9, 3) := by decide +kernel
theorem dX5_init_9 : decode cX5_init 9 = .ok (.aload_n 0, 1) := by decide +kernel
theorem dX5_init_10 : decode cX5_init 10 = .ok (.bipush (-9), 2) := by decide +kernel
theorem dX5_init_12 : decode cX5_init 12 = .ok (.putfield 15, 3) := by decide +kernel
theorem dX5_init_15 : decode cX5_init 15 = .ok (.aload_n 0, 1) := by decide +kernel
theorem dX5_init_16 : decode cX5_init 16 = .ok (.bipush (-9), 2) := by decide +kernel
theorem dX5_init_18 : decode cX5_init 18 = .ok (.putfield 19, 3) := by decide +kernel
theorem dX5_init_21 : decode cX5_init 21 = .ok (.aload_n 0, 1) := by decide +kernel
theorem dX5_init_22 : decode cX5_init 22 = .ok (.iconst 0, 1) := by decide +kernel
theorem dX5_init_23 : decode cX5_init 23 = .ok (.putfield 22, 3) := by decide +kernel
theorem dX5_init_26 : decode cX5_init 26 = .ok (.return_, 1) := by decide +kernel
theorem dX5_empty_0 : decode cX5_empty 0 = .ok (.aload_n 0, 1) := by decide +kernel
theorem dX5_empty_1 : decode cX5_empty 1 = .ok (.bipush (-9), 2) := by decide +kernel
theorem dX5_empty_3 : decode cX5_empty 3 = .ok (.putfield 15, 3) := by decide +kernel
theorem dX5_empty_6 : decode cX5_empty 6 = .ok (.aload_n 0, 1) := by decide +kernel
theorem dX5_empty_7 : decode cX5_empty 7 = .ok (.bipush (-9), 2) := by decide +kernel
theorem dX5_empty_9 : decode cX5_empty 9 = .ok (.putfield 19, 3) := by decide +kernel
theorem dX5_empty_12 : decode cX5_empty 12 = .ok (.aload_n 0, 1) := by decide +kernel
theorem dX5_empty_13 : decode cX5_empty 13 = .ok (.iconst 0, 1) := by decide +kernel
theorem dX5_empty_14 : decode cX5_empty 14 = .ok (.putfield 22, 3) := by decide +kernel
theorem dX5_empty_17 : decode cX5_empty 17 = .ok (.return_, 1) := by decide +kernel
theorem dX5_see_0 : decode cX5_see 0 = .ok (.iload_n 2, 1) := by decide +kernel
theorem dX5_see_1 : decode cX5_see 1 = .ok (.bipush (-9), 2) := by decide +kernel
theorem dX5_see_3 : decode cX5_see 3 = .ok (.if_icmp .ne 16, 3) := by decide +kernel
theorem dX5_see_6 : decode cX5_see 6 = .ok (.aload_n 0, 1) := by decide +kernel
theorem dX5_see_7 : decode cX5_see 7 = .ok (.dup, 1) := by decide +kernel
theorem dX5_see_8 : decode cX5_see 8 = .ok (.getfield 22, 3) := by decide +kernel
theorem dX5_see_11 : decode cX5_see 11 = .ok (.iconst 1, 1) := by decide +kernel
theorem dX5_see_12 : decode cX5_see 12 = .ok (.iadd, 1) := by decide +kernel
theorem dX5_see_13 : decode cX5_see 13 = .ok (.putfield 22, 3) := by decide +kernel
theorem dX5_see_16 : decode cX5_see 16 = .ok (.goto 30, 3) := by decide +kernel
theorem dX5_see_19 : decode cX5_see 19 = .ok (.aload_n 0, 1) := by decide +kernel
theorem dX5_see_20 : decode cX5_see 20 = .ok (.getfield 19, 3) := by decide +kernel
theorem dX5_see_23 : decode cX5_see 23 = .ok (.bipush (-9), 2) := by decide +kernel
theorem dX5_see_25 : decode cX5_see 25 = .ok (.if_icmp .eq 11, 3) := by decide +kernel
theorem dX5_see_28 : decode cX5_see 28 = .ok (.iload_n 2, 1) := by decide +kernel
theorem dX5_see_29 : decode cX5_see 29 = .ok (.aload_n 0, 1) := by decide +kernel
theorem dX5_see_30 : decode cX5_see 30 = .ok (.getfield 15, 3) := by decide +kernel
theorem dX5_see_33 : decode cX5_see 33 = .ok (.if_icmp .le 13, 3) := by decide +kernel
theorem dX5_see_36 : decode cX5_see 36 = .ok (.aload_n 0, 1) := by decide +kernel
theorem dX5_see_37 : decode cX5_see 37 = .ok (.iload_n 1, 1) := by decide +kernel
theorem dX5_see_38 : decode cX5_see 38 = .ok (.putfield 19, 3) := by decide +kernel
theorem dX5_see_41 : decode cX5_see 41 = .ok (.aload_n 0, 1) := by decide +kernel
theorem dX5_see_42 : decode cX5_see 42 = .ok (.iload_n 2, 1) := by decide +kernel
theorem dX5_see_43 : decode cX5_see 43 = .ok (.putfield 15, 3) := by decide +kernel
theorem dX5_see_46 : decode cX5_see 46 = .ok (.return_, 1) := by decide +kernel
theorem dX6_init_0 : decode cX6_init 0 = .ok (.aload_n 0, 1) := by decide +kernel
theorem dX6_init_1 : decode cX6_init 1 = .ok (.invokespecial 3, 3) := by decide +kernel
theorem dX6_init_4 : decode cX6_init 4 = .ok (.aload_n 0, 1) := by decide +kernel
theorem dX6_init_5 : decode cX6_init 5 = .ok (.iconst 0, 1) := by decide +kernel
theorem dX6_init_6 : decode cX6_init 6 = .ok (.putfield 9, 3) := by decide +kernel
theorem dX6_init_9 : decode cX6_init 9 = .ok (.aload_n 0, 1) := by decide +kernel
theorem dX6_init_10 : decode cX6_init 10 = .ok (.iconst 0, 1) := by decide +kernel
theorem dX6_init_11 : decode cX6_init 11 = .ok (.putfield 15, 3) := by decide +kernel
theorem dX6_init_14 : decode cX6_init 14 = .ok (.aload_n 0, 1) := by decide +kernel
theorem dX6_init_15 : decode cX6_init 15 = .ok (.iconst 0, 1) := by decide +kernel
theorem dX6_init_16 : decode cX6_init 16 = .ok (.putfield 18, 3) := by decide +kernel
theorem dX6_init_19 : decode cX6_init 19 = .ok (.aload_n 0, 1) := by decide +kernel
theorem dX6_init_20 : decode cX6_init 20 = .ok (.iconst 0, 1) := by decide +kernel
theorem dX6_init_21 : decode cX6_init 21 = .ok (.putfield 21, 3) := by decide +kernel
theorem dX6_init_24 : decode cX6_init 24 = .ok (.aload_n 0, 1) := by decide +kernel
theorem dX6_init_25 : decode cX6_init 25 = .ok (.iconst 0, 1) := by decide +kernel
theorem dX6_init_26 : decode cX6_init 26 = .ok (.putfield 24, 3) := by decide +kernel
theorem dX6_init_29 : decode cX6_init 29 = .ok (.aload_n 0, 1) := by decide +kernel
theorem dX6_init_30 : decode cX6_init 30 = .ok (.iconst 0, 1) := by decide +kernel
theorem dX6_init_31 : decode cX6_init 31 = .ok (.putfield 27, 3) := by decide +kernel
theorem dX6_init_34 : decode cX6_init 34 = .ok (.aload_n 0, 1) := by decide +kernel
theorem dX6_init_35 : decode cX6_init 35 = .ok (.bipush 6, 2) := by decide +kernel
theorem dX6_init_37 : decode cX6_init 37 = .ok (.newarray .int, 2) := by decide +kernel
theorem dX6_init_39 : decode cX6_init 39 = .ok (.putfield 30, 3) := by decide +kernel
theorem dX6_init_42 : decode cX6_init 42 = .ok (.return_, 1) := by decide +kernel
theorem dX6_empty_0 : decode cX6_empty 0 = .ok (.aload_n 0, 1) := by decide +kernel
theorem dX6_empty_1 : decode cX6_empty 1 = .ok (.getfield 9, 3) := by decide +kernel
theorem dX6_empty_4 : decode cX6_empty 4 = .ok (.istore_n 1, 1) := by decide +kernel
theorem dX6_empty_5 : decode cX6_empty 5 = .ok (.aload_n 0, 1) := by decide +kernel
theorem dX6_empty_6 : decode cX6_empty 6 = .ok (.iconst 0, 1) := by decide +kernel
theorem dX6_empty_7 : decode cX6_empty 7 = .ok (.putfield 9, 3) := by decide +kernel
theorem dX6_empty_10 : decode cX6_empty 10 = .ok (.aload_n 0, 1) := by decide +kernel
theorem dX6_empty_11 : decode cX6_empty 11 = .ok (.iconst 0, 1) := by decide +kernel
theorem dX6_empty_12 : decode cX6_empty 12 = .ok (.putfield 15, 3) := by decide +kernel
theorem dX6_empty_15 : decode cX6_empty 15 = .ok (.aload_n 0, 1) := by decide +kernel
theorem dX6_empty_16 : decode cX6_empty 16 = .ok (.iconst 0, 1) := by decide +kernel
theorem dX6_empty_17 : decode cX6_empty 17 = .ok (.putfield 18, 3) := by decide +kernel
theorem dX6_empty_20 : decode cX6_empty 20 = .ok (.iload_n 1, 1) := by decide +kernel
theorem dX6_empty_21 : decode cX6_empty 21 = .ok (.ireturn, 1) := by decide +kernel
theorem dX6_add_0 : decode cX6_add 0 = .ok (.aload_n 0, 1) := by decide +kernel
theorem dX6_add_1 : decode cX6_add 1 = .ok (.getfield 9, 3) := by decide +kernel
theorem dX6_add_4 : decode cX6_add 4 = .ok (.bipush 6, 2) := by decide +kernel
theorem dX6_add_6 : decode cX6_add 6 = .ok (.if_icmp .lt 5, 3) := by decide +kernel
theorem dX6_add_9 : decode cX6_add 9 = .ok (.iconst 0, 1) := by decide +kernel
theorem dX6_add_10 : decode cX6_add 10 = .ok (.ireturn, 1) := by decide +kernel
theorem dX6_add_11 : decode cX6_add 11 = .ok (.iload_n 2, 1) := by decide +kernel
theorem dX6_add_12 : decode cX6_add 12 = .ok (.iconst 1, 1) := by decide +kernel
theorem dX6_add_13 : decode cX6_add 13 = .ok (.if_icmp .ne 18, 3) := by decide +kernel
theorem dX6_add_16 : decode cX6_add 16 = .ok (.aload_n 0, 1) := by decide +kernel
theorem dX6_add_17 : decode cX6_add 17 = .ok (.dup, 1) := by decide +kernel
theorem dX6_add_18 : decode cX6_add 18 = .ok (.getfield 15, 3) := by decide +kernel
theorem dX6_add_21 : decode cX6_add 21 = .ok (.iconst 1, 1) := by decide +kernel
theorem dX6_add_22 : decode cX6_add 22 = .ok (.iload_n 1, 1) := by decide +kernel
theorem dX6_add_23 : decode cX6_add 23 = .ok (.ishl, 1) := by decide +kernel
theorem dX6_add_24 : decode cX6_add 24 = .ok (.ior, 1) := by decide +kernel
theorem dX6_add_25 : decode cX6_add 25 = .ok (.putfield 15, 3) := by decide +kernel
theorem dX6_add_28 : decode cX6_add 28 = .ok (.goto 15, 3) := by decide +kernel
theorem dX6_add_31 : decode cX6_add 31 = .ok (.aload_n 0, 1) := by decide +kernel
theorem dX6_add_32 : decode cX6_add 32 = .ok (.dup, 1) := by decide +kernel
theorem dX6_add_33 : decode cX6_add 33 = .ok (.getfield 18, 3) := by decide +kernel
theorem dX6_add_36 : decode cX6_add 36 = .ok (.iconst 1, 1) := by decide +kernel
theorem dX6_add_37 : decode cX6_add 37 = .ok (.iload_n 1, 1) := by decide +kernel
theorem dX6_add_38 : decode cX6_add 38 = .ok (.ishl, 1) := by decide +kernel
theorem dX6_add_39 : decode cX6_add 39 = .ok (.ior, 1) := by decide +kernel
theorem dX6_add_40 : decode cX6_add 40 = .ok (.putfield 18, 3) := by decide +kernel
theorem dX6_add_43 : decode cX6_add 43 = .ok (.aload_n 0, 1) := by decide +kernel
theorem dX6_add_44 : decode cX6_add 44 = .ok (.dup, 1) := by decide +kernel
theorem dX6_add_45 : decode cX6_add 45 = .ok (.getfield 9, 3) := by decide +kernel
theorem dX6_add_48 : decode cX6_add 48 = .ok (.iconst 1, 1) := by decide +kernel
theorem dX6_add_49 : decode cX6_add 49 = .ok (.iadd, 1) := by decide +kernel
theorem dX6_add_50 : decode cX6_add 50 = .ok (.putfield 9, 3) := by decide +kernel
theorem dX6_add_53 : decode cX6_add 53 = .ok (.iconst 1, 1) := by decide +kernel
theorem dX6_add_54 : decode cX6_add 54 = .ok (.ireturn, 1) := by decide +kernel
theorem dX6_guess_0 : decode cX6_guess 0 = .ok (.aload_n 0, 1) := by decide +kernel
theorem dX6_guess_1 : decode cX6_guess 1 = .ok (.iconst 0, 1) := by decide +kernel
theorem dX6_guess_2 : decode cX6_guess 2 = .ok (.putfield 21, 3) := by decide +kernel
theorem dX6_guess_5 : decode cX6_guess 5 = .ok (.aload_n 0, 1) := by decide +kernel
theorem dX6_guess_6 : decode cX6_guess 6 = .ok (.bipush 63, 2) := by decide +kernel
theorem dX6_guess_8 : decode cX6_guess 8 = .ok (.putfield 24, 3) := by decide +kernel
theorem dX6_guess_11 : decode cX6_guess 11 = .ok (.aload_n 0, 1) := by decide +kernel
theorem dX6_guess_12 : decode cX6_guess 12 = .ok (.iconst 0, 1) := by decide +kernel
theorem dX6_guess_13 : decode cX6_guess 13 = .ok (.putfield 27, 3) := by decide +kernel
theorem dX6_guess_16 : decode cX6_guess 16 = .ok (.iconst 0, 1) := by decide +kernel
theorem dX6_guess_17 : decode cX6_guess 17 = .ok (.istore_n 2, 1) := by decide +kernel
theorem dX6_guess_18 : decode cX6_guess 18 = .ok (.iload_n 2, 1) := by decide +kernel
theorem dX6_guess_19 : decode cX6_guess 19 = .ok (.bipush 6, 2) := by decide +kernel
theorem dX6_guess_21 : decode cX6_guess 21 = .ok (.if_icmp .ge 16, 3) := by decide +kernel
theorem dX6_guess_24 : decode cX6_guess 24 = .ok (.aload_n 0, 1) := by decide +kernel
theorem dX6_guess_25 : decode cX6_guess 25 = .ok (.getfield 30, 3) := by decide +kernel
theorem dX6_guess_28 : decode cX6_guess 28 = .ok (.iload_n 2, 1) := by decide +kernel
theorem dX6_guess_29 : decode cX6_guess 29 = .ok (.iconst 0, 1) := by decide +kernel
theorem dX6_guess_30 : decode cX6_guess 30 = .ok (.iastore, 1) := by decide +kernel
theorem dX6_guess_31 : decode cX6_guess 31 = .ok (.iinc 2 1, 3) := by decide +kernel
theorem dX6_guess_34 : decode cX6_guess 34 = .ok (.goto (-16), 3) := by decide +kernel
theorem dX6_guess_37 : decode cX6_guess 37 = .ok (.iconst 0, 1) := by decide +kernel
theorem dX6_guess_38 : decode cX6_guess 38 = .ok (.istore_n 2, 1) := by decide +kernel
theorem dX6_guess_39 : decode cX6_guess 39 = .ok (.iload_n 2, 1) := by decide +kernel
theorem dX6_guess_40 : decode cX6_guess 40 = .ok (.aload_n 1, 1) := by decide +kernel
theorem dX6_guess_41 : decode cX6_guess 41 = .ok (.getfield 34, 3) := by decide +kernel
theorem dX6_guess_44 : decode cX6_guess 44 = .ok (.if_icmp .ge 63, 3) := by decide +kernel
theorem dX6_guess_47 : decode cX6_guess 47 = .ok (.aload_n 1, 1) := by decide +kernel
theorem dX6_guess_48 : decode cX6_guess 48 = .ok (.getfield 37, 3) := by decide +kernel
theorem dX6_guess_51 : decode cX6_guess 51 = .ok (.iload_n 2, 1) := by decide +kernel
theorem dX6_guess_52 : decode cX6_guess 52 = .ok (.iaload, 1) := by decide +kernel
theorem dX6_guess_53 : decode cX6_guess 53 = .ok (.istore_n 3, 1) := by decide +kernel
theorem dX6_guess_54 : decode cX6_guess 54 = .ok (.iload_n 3, 1) := by decide +kernel
theorem dX6_guess_55 : decode cX6_guess 55 = .ok (.aload_n 0, 1) := by decide +kernel
theorem dX6_guess_56 : decode cX6_guess 56 = .ok (.getfield 15, 3) := by decide +kernel
theorem dX6_guess_59 : decode cX6_guess 59 = .ok (.iand, 1) := by decide +kernel
theorem dX6_guess_60 : decode cX6_guess 60 = .ok (.aload_n 0, 1) := by decide +kernel
theorem dX6_guess_61 : decode cX6_guess 61 = .ok (.getfield 15, 3) := by decide +kernel
theorem dX6_guess_64 : decode cX6_guess 64 = .ok (.if_icmp .ne 16, 3) := by decide +kernel
theorem dX6_guess_67 : decode cX6_guess 67 = .ok (.iload_n 3, 1) := by decide +kernel
theorem dX6_guess_68 : decode cX6_guess 68 = .ok (.aload_n 0, 1) := by decide +kernel
theorem dX6_guess_69 : decode cX6_guess 69 = .ok (.getfield 18, 3) := by decide +kernel
theorem dX6_guess_72 : decode cX6_guess 72 = .ok (.iand, 1) := by decide +kernel
theorem dX6_guess_73 : decode cX6_guess 73 = .ok (.ifCond .ne 7, 3) := by decide +kernel
theorem dX6_guess_76 : decode cX6_guess 76 = .ok (.iconst 1, 1) := by decide +kernel
theorem dX6_guess_77 : decode cX6_guess 77 = .ok (.goto 4, 3) := by decide +kernel
theorem dX6_guess_80 : decode cX6_guess 80 = .ok (.iconst 0, 1) := by decide +kernel
theorem dX6_guess_81 : decode cX6_guess 81 = .ok (.istore 4, 2) := by decide +kernel
theorem dX6_guess_83 : decode cX6_guess 83 = .ok (.iload 4, 2) := by decide +kernel
theorem dX6_guess_85 : decode cX6_guess 85 = .ok (.ifCond .eq 16, 3) := by decide +kernel
theorem dX6_guess_88 : decode cX6_guess 88 = .ok (.aload_n 1, 1) := by decide +kernel
theorem dX6_guess_89 : decode cX6_guess 89 = .ok (.iload_n 2, 1) := by decide +kernel
theorem dX6_guess_90 : decode cX6_guess 90 = .ok (.invokevirtual 40, 3) := by decide +kernel
theorem dX6_guess_93 : decode cX6_guess 93 = .ok (.ifCond .eq 8, 3) := by decide +kernel
theorem dX6_guess_96 : decode cX6_guess 96 = .ok (.aload_n 0, 1) := by decide +kernel
theorem dX6_guess_97 : decode cX6_guess 97 = .ok (.iload_n 3, 1) := by decide +kernel
theorem dX6_guess_98 : decode cX6_guess 98 = .ok (.invokevirtual 44, 3) := by decide +kernel
theorem dX6_guess_101 : decode cX6_guess 101 = .ok (.iinc 2 1, 3) := by decide +kernel
theorem dX6_guess_104 : decode cX6_guess 104 = .ok (.goto (-65), 3) := by decide +kernel
theorem dX6_guess_107 : decode cX6_guess 107 = .ok (.return_, 1) := by decide +kernel
theorem dX6_addFitting_0 : decode cX6_addFitting 0 = .ok (.aload_n 0, 1) := by decide +kernel
theorem dX6_addFitting_1 : decode cX6_addFitting 1 = .ok (.dup, 1) := by decide +kernel
theorem dX6_addFitting_2 : decode cX6_addFitting 2 = .ok (.getfield 21, 3) := by decide +kernel
theorem dX6_addFitting_5 : decode cX6_addFitting 5 = .ok (.iconst 1, 1) := by decide +kernel
theorem dX6_addFitting_6 : decode cX6_addFitting 6 = .ok (.iadd, 1) := by decide +kernel
theorem dX6_addFitting_7 : decode cX6_addFitting 7 = .ok (.putfield 21, 3) := by decide +kernel
theorem dX6_addFitting_10 : decode cX6_addFitting 10 = .ok (.aload_n 0, 1) := by decide +kernel
theorem dX6_addFitting_11 : decode cX6_addFitting 11 = .ok (.dup, 1) := by decide +kernel
theorem dX6_addFitting_12 : decode cX6_addFitting 12 = .ok (.getfield 24, 3) := by decide +kernel
theorem dX6_addFitting_15 : decode cX6_addFitting 15 = .ok (.iload_n 1, 1) := by decide +kernel
theorem dX6_addFitting_16 : decode cX6_addFitting 16 = .ok (.iand, 1) := by decide +kernel
theorem dX6_addFitting_17 : decode cX6_addFitting 17 = .ok (.putfield 24, 3) := by decide +kernel
theorem dX6_addFitting_20 : decode cX6_addFitting 20 = .ok (.aload_n 0, 1) := by decide +kernel
theorem dX6_addFitting_21 : decode cX6_addFitting 21 = .ok (.dup, 1) := by decide +kernel
theorem dX6_addFitting_22 : decode cX6_addFitting 22 = .ok (.getfield 27, 3) := by decide +kernel
theorem dX6_addFitting_25 : decode cX6_addFitting 25 = .ok (.iload_n 1, 1) := by decide +kernel
theorem dX6_addFitting_26 : decode cX6_addFitting 26 = .ok (.ior, 1) := by decide +kernel
theorem dX6_addFitting_27 : decode cX6_addFitting 27 = .ok (.putfield 27, 3) := by decide +kernel
theorem dX6_addFitting_30 : decode cX6_addFitting 30 = .ok (.iconst 0, 1) := by decide +kernel
theorem dX6_addFitting_31 : decode cX6_addFitting 31 = .ok (.istore_n 2, 1) := by decide +kernel
theorem dX6_addFitting_32 : decode cX6_addFitting 32 = .ok (.iload_n 2, 1) := by decide +kernel
theorem dX6_addFitting_33 : decode cX6_addFitting 33 = .ok (.bipush 6, 2) := by decide +kernel
theorem dX6_addFitting_35 : decode cX6_addFitting 35 = .ok (.if_icmp .ge 23, 3) := by decide +kernel
theorem dX6_addFitting_38 : decode cX6_addFitting 38 = .ok (.aload_n 0, 1) := by decide +kernel
theorem dX6_addFitting_39 : decode cX6_addFitting 39 = .ok (.getfield 30, 3) := by decide +kernel
theorem dX6_addFitting_42 : decode cX6_addFitting 42 = .ok (.iload_n 2, 1) := by decide +kernel
theorem dX6_addFitting_43 : decode cX6_addFitting 43 = .ok (.dup2, 1) := by decide +kernel
theorem dX6_addFitting_44 : decode cX6_addFitting 44 = .ok (.iaload, 1) := by decide +kernel
theorem dX6_addFitting_45 : decode cX6_addFitting 45 = .ok (.iload_n 1, 1) := by decide +kernel
theorem dX6_addFitting_46 : decode cX6_addFitting 46 = .ok (.iload_n 2, 1) := by decide +kernel
theorem dX6_addFitting_47 : decode cX6_addFitting 47 = .ok (.ishr, 1) := by decide +kernel
theorem dX6_addFitting_48 : decode cX6_addFitting 48 = .ok (.iconst 1, 1) := by decide +kernel
theorem dX6_addFitting_49 : decode cX6_addFitting 49 = .ok (.iand, 1) := by decide +kernel
theorem dX6_addFitting_50 : decode cX6_addFitting 50 = .ok (.iadd, 1) := by decide +kernel
theorem dX6_addFitting_51 : decode cX6_addFitting 51 = .ok (.iastore, 1) := by decide +kernel
theorem dX6_addFitting_52 : decode cX6_addFitting 52 = .ok (.iinc 2 1, 3) := by decide +kernel
theorem dX6_addFitting_55 : decode cX6_addFitting 55 = .ok (.goto (-23), 3) := by decide +kernel
theorem dX6_addFitting_58 : decode cX6_addFitting 58 = .ok (.return_, 1) := by decide +kernel
theorem dX7_init_0 : decode cX7_init 0 = .ok (.aload_n 0, 1) := by decide +kernel
theorem dX7_init_1 : decode cX7_init 1 = .ok (.invokespecial 3, 3) := by decide +kernel
theorem dX7_init_4 : decode cX7_init 4 = .ok (.aload_n 0, 1) := by decide +kernel
theorem dX7_init_5 : decode cX7_init 5 = .ok (.iconst 0, 1) := by decide +kernel
theorem dX7_init_6 : decode cX7_init 6 = .ok (.putfield 9, 3) := by decide +kernel
theorem dX7_init_9 : decode cX7_init 9 = .ok (.aload_n 0, 1) := by decide +kernel
theorem dX7_init_10 : decode cX7_init 10 = .ok (.bipush 120, 2) := by decide +kernel
theorem dX7_init_12 : decode cX7_init 12 = .ok (.newarray .int, 2) := by decide +kernel
theorem dX7_init_14 : decode cX7_init 14 = .ok (.putfield 15, 3) := by decide +kernel
theorem dX7_init_17 : decode cX7_init 17 = .ok (.aload_n 0, 1) := by decide +kernel
theorem dX7_init_18 : decode cX7_init 18 = .ok (.iconst 0, 1) := by decide +kernel
theorem dX7_init_19 : decode cX7_init 19 = .ok (.putfield 19, 3) := by decide +kernel
theorem dX7_init_22 : decode cX7_init 22 = .ok (.aload_n 0, 1) := by decide +kernel
theorem dX7_init_23 : decode cX7_init 23 = .ok (.iconst 0, 1) := by decide +kernel
theorem dX7_init_24 : decode cX7_init 24 = .ok (.putfield 22, 3) := by decide +kernel
theorem dX7_init_27 : decode cX7_init 27 = .ok (.aload_n 0, 1) := by decide +kernel
theorem dX7_init_28 : decode cX7_init 28 = .ok (.iconst 0, 1) := by decide +kernel
theorem dX7_init_29 : decode cX7_init 29 = .ok (.putfield 25, 3) := by decide +kernel
theorem dX7_init_32 : decode cX7_init 32 = .ok (.aload_n 0, 1) := by decide +kernel
theorem dX7_init_33 : decode cX7_init 33 = .ok (.iconst 0, 1) := by decide +kernel
theorem dX7_init_34 : decode cX7_init 34 = .ok (.putfield 28, 3) := by decide +kernel
theorem dX7_init_37 : decode cX7_init 37 = .ok (.return_, 1) := by decide +kernel
theorem dX7_add_0 : decode cX7_add 0 = .ok (.aload_n 0, 1) := by decide +kernel
theorem dX7_add_1 : decode cX7_add 1 = .ok (.getfield 9, 3) := by decide +kernel
theorem dX7_add_4 : decode cX7_add 4 = .ok (.bipush 120, 2) := by decide +kernel
theorem dX7_add_6 : decode cX7_add 6 = .ok (.if_icmp .lt 5, 3) := by decide +kernel
theorem dX7_add_9 : decode cX7_add 9 = .ok (.iconst 0, 1) := by decide +kernel
theorem dX7_add_10 : decode cX7_add 10 = .ok (.ireturn, 1) := by decide +kernel
theorem dX7_add_11 : decode cX7_add 11 = .ok (.aload_n 0, 1) := by decide +kernel
theorem dX7_add_12 : decode cX7_add 12 = .ok (.getfield 15, 3) := by decide +kernel
theorem dX7_add_15 : decode cX7_add 15 = .ok (.aload_n 0, 1) := by decide +kernel
theorem dX7_add_16 : decode cX7_add 16 = .ok (.getfield 9, 3) := by decide +kernel
theorem dX7_add_19 : decode cX7_add 19 = .ok (.iload_n 1, 1) := by decide +kernel
theorem dX7_add_20 : decode cX7_add 20 = .ok (.iastore, 1) := by decide +kernel
theorem dX7_add_21 : decode cX7_add 21 = .ok (.aload_n 0, 1) := by decide +kernel
theorem dX7_add_22 : decode cX7_add 22 = .ok (.dup, 1) := by decide +kernel
theorem dX7_add_23 : decode cX7_add 23 = .ok (.getfield 9, 3) := by decide +kernel
theorem dX7_add_26 : decode cX7_add 26 = .ok (.iconst 1, 1) := by decide +kernel
theorem dX7_add_27 : decode cX7_add 27 = .ok (.iadd, 1) := by decide +kernel
theorem dX7_add_28 : decode cX7_add 28 = .ok (.putfield 9, 3) := by decide +kernel
theorem dX7_add_31 : decode cX7_add 31 = .ok (.iconst 1, 1) := by decide +kernel
theorem dX7_add_32 : decode cX7_add 32 = .ok (.ireturn, 1) := by decide +kernel
theorem dX7_empty_0 : decode cX7_empty 0 = .ok (.aload_n 0, 1) := by decide +kernel
theorem dX7_empty_1 : decode cX7_empty 1 = .ok (.getfield 9, 3) := by decide +kernel
theorem dX7_empty_4 : decode cX7_empty 4 = .ok (.istore_n 1, 1) := by decide +kernel
theorem dX7_empty_5 : decode cX7_empty 5 = .ok (.aload_n 0, 1) := by decide +kernel
theorem dX7_empty_6 : decode cX7_empty 6 = .ok (.iconst 0, 1) := by decide +kernel
theorem dX7_empty_7 : decode cX7_empty 7 = .ok (.putfield 9, 3) := by decide +kernel
theorem dX7_empty_10 : decode cX7_empty 10 = .ok (.iload_n 1, 1) := by decide +kernel
theorem dX7_empty_11 : decode cX7_empty 11 = .ok (.ireturn, 1) := by decide +kernel
theorem dX7_read_0 : decode cX7_read 0 = .ok (.aload_n 0, 1) := by decide +kernel
theorem dX7_read_1 : decode cX7_read 1 = .ok (.iconst 0, 1) := by decide +kernel
theorem dX7_read_2 : decode cX7_read 2 = .ok (.putfield 22, 3) := by decide +kernel
theorem dX7_read_5 : decode cX7_read 5 = .ok (.aload_n 0, 1) := by decide +kernel
theorem dX7_read_6 : decode cX7_read 6 = .ok (.invokevirtual 31, 3) := by decide +kernel
theorem dX7_read_9 : decode cX7_read 9 = .ok (.iconst 0, 1) := by decide +kernel
theorem dX7_read_10 : decode cX7_read 10 = .ok (.istore_n 3, 1) := by decide +kernel
theorem dX7_read_11 : decode cX7_read 11 = .ok (.iload_n 3, 1) := by decide +kernel
theorem dX7_read_12 : decode cX7_read 12 = .ok (.bipush 120, 2) := by decide +kernel
theorem dX7_read_14 : decode cX7_read 14 = .ok (.if_icmp .ge 38, 3) := by decide +kernel
theorem dX7_read_17 : decode cX7_read 17 = .ok (.aload_n 0, 1) := by decide +kernel
theorem dX7_read_18 : decode cX7_read 18 = .ok (.getfield 25, 3) := by decide +kernel
theorem dX7_read_21 : decode cX7_read 21 = .ok (.ifCond .eq 31, 3) := by decide +kernel
theorem dX7_read_24 : decode cX7_read 24 = .ok (.aload_n 0, 1) := by decide +kernel
theorem dX7_read_25 : decode cX7_read 25 = .ok (.aload_n 1, 1) := by decide +kernel
theorem dX7_read_26 : decode cX7_read 26 = .ok (.aload_n 2, 1) := by decide +kernel
theorem dX7_read_27 : decode cX7_read 27 = .ok (.iload_n 3, 1) := by decide +kernel
theorem dX7_read_28 : decode cX7_read 28 = .ok (.invokevirtual 34, 3) := by decide +kernel
theorem dX7_read_31 : decode cX7_read 31 = .ok (.ifCond .ne 11, 3) := by decide +kernel
theorem dX7_read_34 : decode cX7_read 34 = .ok (.bipush (-10), 2) := by decide +kernel
theorem dX7_read_36 : decode cX7_read 36 = .ok (.aload_n 0, 1) := by decide +kernel
theorem dX7_read_37 : decode cX7_read 37 = .ok (.getfield 19, 3) := by decide +kernel
theorem dX7_read_40 : decode cX7_read 40 = .ok (.isub, 1) := by decide +kernel
theorem dX7_read_41 : decode cX7_read 41 = .ok (.ireturn, 1) := by decide +kernel
theorem dX7_read_42 : decode cX7_read 42 = .ok (.iinc 3 1, 3) := by decide +kernel
theorem dX7_read_45 : decode cX7_read 45 = .ok (.aload_n 0, 1) := by decide +kernel
theorem dX7_read_46 : decode cX7_read 46 = .ok (.invokevirtual 31, 3) := by decide +kernel
theorem dX7_read_49 : decode cX7_read 49 = .ok (.goto (-38), 3) := by decide +kernel
theorem dX7_read_52 : decode cX7_read 52 = .ok (.iload_n 3, 1) := by decide +kernel
theorem dX7_read_53 : decode cX7_read 53 = .ok (.ireturn, 1) := by decide +kernel
theorem dX7_readItem_0 : decode cX7_readItem 0 = .ok (.aload_n 0, 1) := by decide +kernel
theorem dX7_readItem_1 : decode cX7_readItem 1 = .ok (.getfield 25, 3) := by decide +kernel
theorem dX7_readItem_4 : decode cX7_readItem 4 = .ok (.tableswitch 93 108 110 #[46, 70, 28], 28) := by decide +kernel
theorem dX7_readItem_32 : decode cX7_readItem 32 = .ok (.iload_n 3, 1) := by decide +kernel
theorem dX7_readItem_33 : decode cX7_readItem 33 = .ok (.ifCond .ne 15, 3) := by decide +kernel
theorem dX7_readItem_36 : decode cX7_readItem 36 = .ok (.aload_n 0, 1) := by decide +kernel
theorem dX7_readItem_37 : decode cX7_readItem 37 = .ok (.aload_n 1, 1) := by decide +kernel
theorem dX7_readItem_38 : decode cX7_readItem 38 = .ok (.invokevirtual 38, 3) := by decide +kernel
theorem dX7_readItem_41 : decode cX7_readItem 41 = .ok (.ifCond .eq 7, 3) := by decide +kernel
theorem dX7_readItem_44 : decode cX7_readItem 44 = .ok (.iconst 1, 1) := by decide +kernel
theorem dX7_readItem_45 : decode cX7_readItem 45 = .ok (.goto 4, 3) := by decide +kernel
theorem dX7_readItem_48 : decode cX7_readItem 48 = .ok (.iconst 0, 1) := by decide +kernel
theorem dX7_readItem_49 : decode cX7_readItem 49 = .ok (.ireturn, 1) := by decide +kernel
theorem dX7_readItem_50 : decode cX7_readItem 50 = .ok (.aload_n 1, 1) := by decide +kernel
theorem dX7_readItem_51 : decode cX7_readItem 51 = .ok (.getfield 42, 3) := by decide +kernel
theorem dX7_readItem_54 : decode cX7_readItem 54 = .ok (.bipush 6, 2) := by decide +kernel
theorem dX7_readItem_56 : decode cX7_readItem 56 = .ok (.if_icmp .ge 16, 3) := by decide +kernel
theorem dX7_readItem_59 : decode cX7_readItem 59 = .ok (.aload_n 0, 1) := by decide +kernel
theorem dX7_readItem_60 : decode cX7_readItem 60 = .ok (.aload_n 1, 1) := by decide +kernel
theorem dX7_readItem_61 : decode cX7_readItem 61 = .ok (.aload_n 2, 1) := by decide +kernel
theorem dX7_readItem_62 : decode cX7_readItem 62 = .ok (.invokevirtual 47, 3) := by decide +kernel
theorem dX7_readItem_65 : decode cX7_readItem 65 = .ok (.ifCond .eq 7, 3) := by decide +kernel
theorem dX7_readItem_68 : decode cX7_readItem 68 = .ok (.iconst 1, 1) := by decide +kernel
theorem dX7_readItem_69 : decode cX7_readItem 69 = .ok (.goto 4, 3) := by decide +kernel
theorem dX7_readItem_72 : decode cX7_readItem 72 = .ok (.iconst 0, 1) := by decide +kernel
theorem dX7_readItem_73 : decode cX7_readItem 73 = .ok (.ireturn, 1) := by decide +kernel
theorem dX7_readItem_74 : decode cX7_readItem 74 = .ok (.aload_n 2, 1) := by decide +kernel
theorem dX7_readItem_75 : decode cX7_readItem 75 = .ok (.getfield 51, 3) := by decide +kernel
theorem dX7_readItem_78 : decode cX7_readItem 78 = .ok (.iconst 4, 1) := by decide +kernel
theorem dX7_readItem_79 : decode cX7_readItem 79 = .ok (.if_icmp .ge 16, 3) := by decide +kernel
theorem dX7_readItem_82 : decode cX7_readItem 82 = .ok (.aload_n 0, 1) := by decide +kernel
end
section
theorem dX7_readItem_83 : decode cX7_readItem 83 = .ok (.aload_n 1, 1) := by decide +kernel
theorem dX7_readItem_84 : decode cX7_readItem 84 = .ok (.aload_n 2, 1) := by decide +kernel
theorem dX7_readItem_85 : decode cX7_readItem 85 = .ok (.invokevirtual 56, 3) := by decide +kernel
theorem dX7_readItem_88 : decode cX7_readItem 88 = .ok (.ifCond .eq 7, 3) := by decide +kernel
theorem dX7_readItem_91 : decode cX7_readItem 91 = .ok (.iconst 1, 1) := by decide +kernel
theorem dX7_readItem_92 : decode cX7_readItem 92 = .ok (.goto 4, 3) := by decide +kernel
theorem dX7_readItem_95 : decode cX7_readItem 95 = .ok (.iconst 0, 1) := by decide +kernel
theorem dX7_readItem_96 : decode cX7_readItem 96 = .ok (.ireturn, 1) := by decide +kernel
theorem dX7_readItem_97 : decode cX7_readItem 97 = .ok (.iconst 0, 1) := by decide +kernel
theorem dX7_readItem_98 : decode cX7_readItem 98 = .ok (.ireturn, 1) := by decide +kernel
theorem dX7_readPlaces_0 : decode cX7_readPlaces 0 = .ok (.aload_n 0, 1) := by decide +kernel
theorem dX7_readPlaces_1 : decode cX7_readPlaces 1 = .ok (.iconst 2, 1) := by decide +kernel
theorem dX7_readPlaces_2 : decode cX7_readPlaces 2 = .ok (.iconst 5, 1) := by decide +kernel
theorem dX7_readPlaces_3 : decode cX7_readPlaces 3 = .ok (.invokevirtual 59, 3) := by decide +kernel
theorem dX7_readPlaces_6 : decode cX7_readPlaces 6 = .ok (.ifCond .ne 5, 3) := by decide +kernel
theorem dX7_readPlaces_9 : decode cX7_readPlaces 9 = .ok (.iconst 0, 1) := by decide +kernel
theorem dX7_readPlaces_10 : decode cX7_readPlaces 10 = .ok (.ireturn, 1) := by decide +kernel
theorem dX7_readPlaces_11 : decode cX7_readPlaces 11 = .ok (.aload_n 1, 1) := by decide +kernel
theorem dX7_readPlaces_12 : decode cX7_readPlaces 12 = .ok (.aload_n 0, 1) := by decide +kernel
theorem dX7_readPlaces_13 : decode cX7_readPlaces 13 = .ok (.getfield 28, 3) := by decide +kernel
theorem dX7_readPlaces_16 : decode cX7_readPlaces 16 = .ok (.putfield 63, 3) := by decide +kernel
theorem dX7_readPlaces_19 : decode cX7_readPlaces 19 = .ok (.aload_n 0, 1) := by decide +kernel
theorem dX7_readPlaces_20 : decode cX7_readPlaces 20 = .ok (.invokevirtual 66, 3) := by decide +kernel
theorem dX7_readPlaces_23 : decode cX7_readPlaces 23 = .ok (.ireturn, 1) := by decide +kernel
theorem dX7_readLane_0 : decode cX7_readLane 0 = .ok (.aload_n 0, 1) := by decide +kernel
theorem dX7_readLane_1 : decode cX7_readLane 1 = .ok (.iconst 0, 1) := by decide +kernel
theorem dX7_readLane_2 : decode cX7_readLane 2 = .ok (.aload_n 1, 1) := by decide +kernel
theorem dX7_readLane_3 : decode cX7_readLane 3 = .ok (.getfield 63, 3) := by decide +kernel
theorem dX7_readLane_6 : decode cX7_readLane 6 = .ok (.iconst 1, 1) := by decide +kernel
theorem dX7_readLane_7 : decode cX7_readLane 7 = .ok (.isub, 1) := by decide +kernel
theorem dX7_readLane_8 : decode cX7_readLane 8 = .ok (.invokevirtual 59, 3) := by decide +kernel
theorem dX7_readLane_11 : decode cX7_readLane 11 = .ok (.ifCond .ne 5, 3) := by decide +kernel
theorem dX7_readLane_14 : decode cX7_readLane 14 = .ok (.iconst 0, 1) := by decide +kernel
theorem dX7_readLane_15 : decode cX7_readLane 15 = .ok (.ireturn, 1) := by decide +kernel
theorem dX7_readLane_16 : decode cX7_readLane 16 = .ok (.aload_n 0, 1) := by decide +kernel
theorem dX7_readLane_17 : decode cX7_readLane 17 = .ok (.getfield 28, 3) := by decide +kernel
theorem dX7_readLane_20 : decode cX7_readLane 20 = .ok (.istore_n 3, 1) := by decide +kernel
theorem dX7_readLane_21 : decode cX7_readLane 21 = .ok (.aload_n 0, 1) := by decide +kernel
theorem dX7_readLane_22 : decode cX7_readLane 22 = .ok (.iconst 0, 1) := by decide +kernel
theorem dX7_readLane_23 : decode cX7_readLane 23 = .ok (.aload_n 1, 1) := by decide +kernel
theorem dX7_readLane_24 : decode cX7_readLane 24 = .ok (.getfield 63, 3) := by decide +kernel
theorem dX7_readLane_27 : decode cX7_readLane 27 = .ok (.iconst 1, 1) := by decide +kernel
theorem dX7_readLane_28 : decode cX7_readLane 28 = .ok (.isub, 1) := by decide +kernel
theorem dX7_readLane_29 : decode cX7_readLane 29 = .ok (.invokevirtual 59, 3) := by decide +kernel
theorem dX7_readLane_32 : decode cX7_readLane 32 = .ok (.ifCond .eq 25, 3) := by decide +kernel
theorem dX7_readLane_35 : decode cX7_readLane 35 = .ok (.aload_n 0, 1) := by decide +kernel
theorem dX7_readLane_36 : decode cX7_readLane 36 = .ok (.getfield 28, 3) := by decide +kernel
theorem dX7_readLane_39 : decode cX7_readLane 39 = .ok (.iload_n 3, 1) := by decide +kernel
theorem dX7_readLane_40 : decode cX7_readLane 40 = .ok (.if_icmp .eq 17, 3) := by decide +kernel
theorem dX7_readLane_43 : decode cX7_readLane 43 = .ok (.aload_n 1, 1) := by decide +kernel
theorem dX7_readLane_44 : decode cX7_readLane 44 = .ok (.iload_n 3, 1) := by decide +kernel
theorem dX7_readLane_45 : decode cX7_readLane 45 = .ok (.aload_n 0, 1) := by decide +kernel
theorem dX7_readLane_46 : decode cX7_readLane 46 = .ok (.getfield 28, 3) := by decide +kernel
theorem dX7_readLane_49 : decode cX7_readLane 49 = .ok (.invokevirtual 70, 3) := by decide +kernel
theorem dX7_readLane_52 : decode cX7_readLane 52 = .ok (.bipush (-9), 2) := by decide +kernel
theorem dX7_readLane_54 : decode cX7_readLane 54 = .ok (.if_icmp .eq 5, 3) := by decide +kernel
theorem dX7_readLane_57 : decode cX7_readLane 57 = .ok (.iconst 0, 1) := by decide +kernel
theorem dX7_readLane_58 : decode cX7_readLane 58 = .ok (.ireturn, 1) := by decide +kernel
theorem dX7_readLane_59 : decode cX7_readLane 59 = .ok (.aload_n 0, 1) := by decide +kernel
theorem dX7_readLane_60 : decode cX7_readLane 60 = .ok (.getfield 28, 3) := by decide +kernel
theorem dX7_readLane_63 : decode cX7_readLane 63 = .ok (.istore 4, 2) := by decide +kernel
theorem dX7_readLane_65 : decode cX7_readLane 65 = .ok (.aload_n 0, 1) := by decide +kernel
theorem dX7_readLane_66 : decode cX7_readLane 66 = .ok (.iconst 1, 1) := by decide +kernel
theorem dX7_readLane_67 : decode cX7_readLane 67 = .ok (.iconst 5, 1) := by decide +kernel
theorem dX7_readLane_68 : decode cX7_readLane 68 = .ok (.invokevirtual 59, 3) := by decide +kernel
theorem dX7_readLane_71 : decode cX7_readLane 71 = .ok (.ifCond .ne 5, 3) := by decide +kernel
theorem dX7_readLane_74 : decode cX7_readLane 74 = .ok (.iconst 0, 1) := by decide +kernel
theorem dX7_readLane_75 : decode cX7_readLane 75 = .ok (.ireturn, 1) := by decide +kernel
theorem dX7_readLane_76 : decode cX7_readLane 76 = .ok (.aload_n 2, 1) := by decide +kernel
theorem dX7_readLane_77 : decode cX7_readLane 77 = .ok (.getfield 74, 3) := by decide +kernel
theorem dX7_readLane_80 : decode cX7_readLane 80 = .ok (.aload_n 1, 1) := by decide +kernel
theorem dX7_readLane_81 : decode cX7_readLane 81 = .ok (.getfield 42, 3) := by decide +kernel
theorem dX7_readLane_84 : decode cX7_readLane 84 = .ok (.aload_n 0, 1) := by decide +kernel
theorem dX7_readLane_85 : decode cX7_readLane 85 = .ok (.getfield 28, 3) := by decide +kernel
theorem dX7_readLane_88 : decode cX7_readLane 88 = .ok (.iastore, 1) := by decide +kernel
theorem dX7_readLane_89 : decode cX7_readLane 89 = .ok (.aload_n 0, 1) := by decide +kernel
theorem dX7_readLane_90 : decode cX7_readLane 90 = .ok (.iconst 1, 1) := by decide +kernel
theorem dX7_readLane_91 : decode cX7_readLane 91 = .ok (.bipush 9, 2) := by decide +kernel
theorem dX7_readLane_93 : decode cX7_readLane 93 = .ok (.invokevirtual 59, 3) := by decide +kernel
theorem dX7_readLane_96 : decode cX7_readLane 96 = .ok (.ifCond .ne 5, 3) := by decide +kernel
theorem dX7_readLane_99 : decode cX7_readLane 99 = .ok (.iconst 0, 1) := by decide +kernel
theorem dX7_readLane_100 : decode cX7_readLane 100 = .ok (.ireturn, 1) := by decide +kernel
theorem dX7_readLane_101 : decode cX7_readLane 101 = .ok (.aload_n 1, 1) := by decide +kernel
theorem dX7_readLane_102 : decode cX7_readLane 102 = .ok (.iload_n 3, 1) := by decide +kernel
theorem dX7_readLane_103 : decode cX7_readLane 103 = .ok (.iload 4, 2) := by decide +kernel
theorem dX7_readLane_105 : decode cX7_readLane 105 = .ok (.aload_n 0, 1) := by decide +kernel
theorem dX7_readLane_106 : decode cX7_readLane 106 = .ok (.getfield 28, 3) := by decide +kernel
theorem dX7_readLane_109 : decode cX7_readLane 109 = .ok (.invokevirtual 77, 3) := by decide +kernel
theorem dX7_readLane_112 : decode cX7_readLane 112 = .ok (.aload_n 0, 1) := by decide +kernel
theorem dX7_readLane_113 : decode cX7_readLane 113 = .ok (.invokevirtual 66, 3) := by decide +kernel
theorem dX7_readLane_116 : decode cX7_readLane 116 = .ok (.ireturn, 1) := by decide +kernel
theorem dX7_readMap_0 : decode cX7_readMap 0 = .ok (.aload_n 2, 1) := by decide +kernel
theorem dX7_readMap_1 : decode cX7_readMap 1 = .ok (.getfield 51, 3) := by decide +kernel
theorem dX7_readMap_4 : decode cX7_readMap 4 = .ok (.istore_n 3, 1) := by decide +kernel
theorem dX7_readMap_5 : decode cX7_readMap 5 = .ok (.aload_n 2, 1) := by decide +kernel
theorem dX7_readMap_6 : decode cX7_readMap 6 = .ok (.getfield 81, 3) := by decide +kernel
theorem dX7_readMap_9 : decode cX7_readMap 9 = .ok (.iload_n 3, 1) := by decide +kernel
theorem dX7_readMap_10 : decode cX7_readMap 10 = .ok (.iconst 0, 1) := by decide +kernel
theorem dX7_readMap_11 : decode cX7_readMap 11 = .ok (.iastore, 1) := by decide +kernel
theorem dX7_readMap_12 : decode cX7_readMap 12 = .ok (.iconst 0, 1) := by decide +kernel
theorem dX7_readMap_13 : decode cX7_readMap 13 = .ok (.istore 4, 2) := by decide +kernel
theorem dX7_readMap_15 : decode cX7_readMap 15 = .ok (.iload 4, 2) := by decide +kernel
theorem dX7_readMap_17 : decode cX7_readMap 17 = .ok (.iconst 5, 1) := by decide +kernel
theorem dX7_readMap_18 : decode cX7_readMap 18 = .ok (.if_icmp .ge 83, 3) := by decide +kernel
theorem dX7_readMap_21 : decode cX7_readMap 21 = .ok (.aload_n 0, 1) := by decide +kernel
theorem dX7_readMap_22 : decode cX7_readMap 22 = .ok (.iconst 0, 1) := by decide +kernel
theorem dX7_readMap_23 : decode cX7_readMap 23 = .ok (.aload_n 1, 1) := by decide +kernel
theorem dX7_readMap_24 : decode cX7_readMap 24 = .ok (.getfield 63, 3) := by decide +kernel
theorem dX7_readMap_27 : decode cX7_readMap 27 = .ok (.iconst 1, 1) := by decide +kernel
theorem dX7_readMap_28 : decode cX7_readMap 28 = .ok (.isub, 1) := by decide +kernel
theorem dX7_readMap_29 : decode cX7_readMap 29 = .ok (.invokevirtual 59, 3) := by decide +kernel
theorem dX7_readMap_32 : decode cX7_readMap 32 = .ok (.istore 5, 2) := by decide +kernel
theorem dX7_readMap_34 : decode cX7_readMap 34 = .ok (.iload 5, 2) := by decide +kernel
theorem dX7_readMap_36 : decode cX7_readMap 36 = .ok (.ifCond .ne 30, 3) := by decide +kernel
theorem dX7_readMap_39 : decode cX7_readMap 39 = .ok (.aload_n 0, 1) := by decide +kernel
theorem dX7_readMap_40 : decode cX7_readMap 40 = .ok (.getfield 25, 3) := by decide +kernel
theorem dX7_readMap_43 : decode cX7_readMap 43 = .ok (.bipush 59, 2) := by decide +kernel
theorem dX7_readMap_45 : decode cX7_readMap 45 = .ok (.if_icmp .ne 21, 3) := by decide +kernel
theorem dX7_readMap_48 : decode cX7_readMap 48 = .ok (.iload 4, 2) := by decide +kernel
theorem dX7_readMap_50 : decode cX7_readMap 50 = .ok (.iconst 2, 1) := by decide +kernel
theorem dX7_readMap_51 : decode cX7_readMap 51 = .ok (.if_icmp .lt 15, 3) := by decide +kernel
theorem dX7_readMap_54 : decode cX7_readMap 54 = .ok (.aload_n 2, 1) := by decide +kernel
theorem dX7_readMap_55 : decode cX7_readMap 55 = .ok (.dup, 1) := by decide +kernel
theorem dX7_readMap_56 : decode cX7_readMap 56 = .ok (.getfield 51, 3) := by decide +kernel
theorem dX7_readMap_59 : decode cX7_readMap 59 = .ok (.iconst 1, 1) := by decide +kernel
theorem dX7_readMap_60 : decode cX7_readMap 60 = .ok (.iadd, 1) := by decide +kernel
theorem dX7_readMap_61 : decode cX7_readMap 61 = .ok (.putfield 51, 3) := by decide +kernel
theorem dX7_readMap_64 : decode cX7_readMap 64 = .ok (.iconst 1, 1) := by decide +kernel
theorem dX7_readMap_65 : decode cX7_readMap 65 = .ok (.ireturn, 1) := by decide +kernel
theorem dX7_readMap_66 : decode cX7_readMap 66 = .ok (.iload 5, 2) := by decide +kernel
theorem dX7_readMap_68 : decode cX7_readMap 68 = .ok (.ifCond .eq 16, 3) := by decide +kernel
theorem dX7_readMap_71 : decode cX7_readMap 71 = .ok (.aload_n 2, 1) := by decide +kernel
theorem dX7_readMap_72 : decode cX7_readMap 72 = .ok (.aload_n 1, 1) := by decide +kernel
theorem dX7_readMap_73 : decode cX7_readMap 73 = .ok (.iload_n 3, 1) := by decide +kernel
theorem dX7_readMap_74 : decode cX7_readMap 74 = .ok (.aload_n 0, 1) := by decide +kernel
theorem dX7_readMap_75 : decode cX7_readMap 75 = .ok (.getfield 28, 3) := by decide +kernel
theorem dX7_readMap_78 : decode cX7_readMap 78 = .ok (.invokevirtual 84, 3) := by decide +kernel
theorem dX7_readMap_81 : decode cX7_readMap 81 = .ok (.ifCond .ne 5, 3) := by decide +kernel
theorem dX7_readMap_84 : decode cX7_readMap 84 = .ok (.iconst 0, 1) := by decide +kernel
theorem dX7_readMap_85 : decode cX7_readMap 85 = .ok (.ireturn, 1) := by decide +kernel
theorem dX7_readMap_86 : decode cX7_readMap 86 = .ok (.aload_n 2, 1) := by decide +kernel
theorem dX7_readMap_87 : decode cX7_readMap 87 = .ok (.iload_n 3, 1) := by decide +kernel
theorem dX7_readMap_88 : decode cX7_readMap 88 = .ok (.aload_n 0, 1) := by decide +kernel
theorem dX7_readMap_89 : decode cX7_readMap 89 = .ok (.getfield 28, 3) := by decide +kernel
theorem dX7_readMap_92 : decode cX7_readMap 92 = .ok (.invokevirtual 88, 3) := by decide +kernel
theorem dX7_readMap_95 : decode cX7_readMap 95 = .ok (.iinc 4 1, 3) := by decide +kernel
theorem dX7_readMap_98 : decode cX7_readMap 98 = .ok (.goto (-83), 3) := by decide +kernel
theorem dX7_readMap_101 : decode cX7_readMap 101 = .ok (.aload_n 2, 1) := by decide +kernel
theorem dX7_readMap_102 : decode cX7_readMap 102 = .ok (.dup, 1) := by decide +kernel
theorem dX7_readMap_103 : decode cX7_readMap 103 = .ok (.getfield 51, 3) := by decide +kernel
theorem dX7_readMap_106 : decode cX7_readMap 106 = .ok (.iconst 1, 1) := by decide +kernel
theorem dX7_readMap_107 : decode cX7_readMap 107 = .ok (.iadd, 1) := by decide +kernel
theorem dX7_readMap_108 : decode cX7_readMap 108 = .ok (.putfield 51, 3) := by decide +kernel
theorem dX7_readMap_111 : decode cX7_readMap 111 = .ok (.aload_n 0, 1) := by decide +kernel
theorem dX7_readMap_112 : decode cX7_readMap 112 = .ok (.invokevirtual 66, 3) := by decide +kernel
theorem dX7_readMap_115 : decode cX7_readMap 115 = .ok (.ireturn, 1) := by decide +kernel
theorem dX7_stepTo_0 : decode cX7_stepTo 0 = .ok (.aload_n 0, 1) := by decide +kernel
theorem dX7_stepTo_1 : decode cX7_stepTo 1 = .ok (.invokevirtual 31, 3) := by decide +kernel
theorem dX7_stepTo_4 : decode cX7_stepTo 4 = .ok (.aload_n 0, 1) := by decide +kernel
theorem dX7_stepTo_5 : decode cX7_stepTo 5 = .ok (.getfield 25, 3) := by decide +kernel
theorem dX7_stepTo_8 : decode cX7_stepTo 8 = .ok (.iconst 1, 1) := by decide +kernel
theorem dX7_stepTo_9 : decode cX7_stepTo 9 = .ok (.if_icmp .ne 23, 3) := by decide +kernel
theorem dX7_stepTo_12 : decode cX7_stepTo 12 = .ok (.aload_n 0, 1) := by decide +kernel
theorem dX7_stepTo_13 : decode cX7_stepTo 13 = .ok (.getfield 28, 3) := by decide +kernel
theorem dX7_stepTo_16 : decode cX7_stepTo 16 = .ok (.iload_n 1, 1) := by decide +kernel
theorem dX7_stepTo_17 : decode cX7_stepTo 17 = .ok (.if_icmp .lt 15, 3) := by decide +kernel
theorem dX7_stepTo_20 : decode cX7_stepTo 20 = .ok (.aload_n 0, 1) := by decide +kernel
theorem dX7_stepTo_21 : decode cX7_stepTo 21 = .ok (.getfield 28, 3) := by decide +kernel
theorem dX7_stepTo_24 : decode cX7_stepTo 24 = .ok (.iload_n 2, 1) := by decide +kernel
theorem dX7_stepTo_25 : decode cX7_stepTo 25 = .ok (.if_icmp .gt 7, 3) := by decide +kernel
theorem dX7_stepTo_28 : decode cX7_stepTo 28 = .ok (.iconst 1, 1) := by decide +kernel
theorem dX7_stepTo_29 : decode cX7_stepTo 29 = .ok (.goto 4, 3) := by decide +kernel
theorem dX7_stepTo_32 : decode cX7_stepTo 32 = .ok (.iconst 0, 1) := by decide +kernel
theorem dX7_stepTo_33 : decode cX7_stepTo 33 = .ok (.ireturn, 1) := by decide +kernel
theorem dX7_stepToEnd_0 : decode cX7_stepToEnd 0 = .ok (.aload_n 0, 1) := by decide +kernel
theorem dX7_stepToEnd_1 : decode cX7_stepToEnd 1 = .ok (.invokevirtual 31, 3) := by decide +kernel
theorem dX7_stepToEnd_4 : decode cX7_stepToEnd 4 = .ok (.aload_n 0, 1) := by decide +kernel
theorem dX7_stepToEnd_5 : decode cX7_stepToEnd 5 = .ok (.getfield 25, 3) := by decide +kernel
theorem dX7_stepToEnd_8 : decode cX7_stepToEnd 8 = .ok (.bipush 59, 2) := by decide +kernel
theorem dX7_stepToEnd_10 : decode cX7_stepToEnd 10 = .ok (.if_icmp .ne 7, 3) := by decide +kernel
theorem dX7_stepToEnd_13 : decode cX7_stepToEnd 13 = .ok (.iconst 1, 1) := by decide +kernel
theorem dX7_stepToEnd_14 : decode cX7_stepToEnd 14 = .ok (.goto 4, 3) := by decide +kernel
theorem dX7_stepToEnd_17 : decode cX7_stepToEnd 17 = .ok (.iconst 0, 1) := by decide +kernel
theorem dX7_stepToEnd_18 : decode cX7_stepToEnd 18 = .ok (.ireturn, 1) := by decide +kernel
theorem dX7_step_0 : decode cX7_step 0 = .ok (.aload_n 0, 1) := by decide +kernel
theorem dX7_step_1 : decode cX7_step 1 = .ok (.getfield 22, 3) := by decide +kernel
theorem dX7_step_4 : decode cX7_step 4 = .ok (.aload_n 0, 1) := by decide +kernel
theorem dX7_step_5 : decode cX7_step 5 = .ok (.getfield 9, 3) := by decide +kernel
theorem dX7_step_8 : decode cX7_step 8 = .ok (.if_icmp .ge 30, 3) := by decide +kernel
theorem dX7_step_11 : decode cX7_step 11 = .ok (.aload_n 0, 1) := by decide +kernel
theorem dX7_step_12 : decode cX7_step 12 = .ok (.getfield 15, 3) := by decide +kernel
theorem dX7_step_15 : decode cX7_step 15 = .ok (.aload_n 0, 1) := by decide +kernel
theorem dX7_step_16 : decode cX7_step 16 = .ok (.getfield 22, 3) := by decide +kernel
theorem dX7_step_19 : decode cX7_step 19 = .ok (.iaload, 1) := by decide +kernel
theorem dX7_step_20 : decode cX7_step 20 = .ok (.bipush 32, 2) := by decide +kernel
theorem dX7_step_22 : decode cX7_step 22 = .ok (.if_icmp .ne 16, 3) := by decide +kernel
theorem dX7_step_25 : decode cX7_step 25 = .ok (.aload_n 0, 1) := by decide +kernel
theorem dX7_step_26 : decode cX7_step 26 = .ok (.dup, 1) := by decide +kernel
theorem dX7_step_27 : decode cX7_step 27 = .ok (.getfield 22, 3) := by decide +kernel
theorem dX7_step_30 : decode cX7_step 30 = .ok (.iconst 1, 1) := by decide +kernel
theorem dX7_step_31 : decode cX7_step 31 = .ok (.iadd, 1) := by decide +kernel
theorem dX7_step_32 : decode cX7_step 32 = .ok (.putfield 22, 3) := by decide +kernel
theorem dX7_step_35 : decode cX7_step 35 = .ok (.goto (-35), 3) := by decide +kernel
theorem dX7_step_38 : decode cX7_step 38 = .ok (.aload_n 0, 1) := by decide +kernel
theorem dX7_step_39 : decode cX7_step 39 = .ok (.aload_n 0, 1) := by decide +kernel
theorem dX7_step_40 : decode cX7_step 40 = .ok (.getfield 22, 3) := by decide +kernel
theorem dX7_step_43 : decode cX7_step 43 = .ok (.putfield 19, 3) := by decide +kernel
theorem dX7_step_46 : decode cX7_step 46 = .ok (.aload_n 0, 1) := by decide +kernel
theorem dX7_step_47 : decode cX7_step 47 = .ok (.iconst 0, 1) := by decide +kernel
theorem dX7_step_48 : decode cX7_step 48 = .ok (.putfield 28, 3) := by decide +kernel
theorem dX7_step_51 : decode cX7_step 51 = .ok (.aload_n 0, 1) := by decide +kernel
theorem dX7_step_52 : decode cX7_step 52 = .ok (.getfield 22, 3) := by decide +kernel
theorem dX7_step_55 : decode cX7_step 55 = .ok (.aload_n 0, 1) := by decide +kernel
theorem dX7_step_56 : decode cX7_step 56 = .ok (.getfield 9, 3) := by decide +kernel
theorem dX7_step_59 : decode cX7_step 59 = .ok (.if_icmp .ge 71, 3) := by decide +kernel
theorem dX7_step_62 : decode cX7_step 62 = .ok (.aload_n 0, 1) := by decide +kernel
theorem dX7_step_63 : decode cX7_step 63 = .ok (.getfield 15, 3) := by decide +kernel
theorem dX7_step_66 : decode cX7_step 66 = .ok (.aload_n 0, 1) := by decide +kernel
theorem dX7_step_67 : decode cX7_step 67 = .ok (.getfield 22, 3) := by decide +kernel
theorem dX7_step_70 : decode cX7_step 70 = .ok (.iaload, 1) := by decide +kernel
theorem dX7_step_71 : decode cX7_step 71 = .ok (.invokestatic 92, 3) := by decide +kernel
theorem dX7_step_74 : decode cX7_step 74 = .ok (.ifCond .eq 56, 3) := by decide +kernel
theorem dX7_step_77 : decode cX7_step 77 = .ok (.aload_n 0, 1) := by decide +kernel
theorem dX7_step_78 : decode cX7_step 78 = .ok (.aload_n 0, 1) := by decide +kernel
theorem dX7_step_79 : decode cX7_step 79 = .ok (.getfield 28, 3) := by decide +kernel
theorem dX7_step_82 : decode cX7_step 82 = .ok (.bipush 99, 2) := by decide +kernel
theorem dX7_step_84 : decode cX7_step 84 = .ok (.if_icmp .le 10, 3) := by decide +kernel
theorem dX7_step_87 : decode cX7_step 87 = .ok (.aload_n 0, 1) := by decide +kernel
theorem dX7_step_88 : decode cX7_step 88 = .ok (.getfield 28, 3) := by decide +kernel
theorem dX7_step_91 : decode cX7_step 91 = .ok (.goto 23, 3) := by decide +kernel
theorem dX7_step_94 : decode cX7_step 94 = .ok (.aload_n 0, 1) := by decide +kernel
theorem dX7_step_95 : decode cX7_step 95 = .ok (.getfield 28, 3) := by decide +kernel
theorem dX7_step_98 : decode cX7_step 98 = .ok (.bipush 10, 2) := by decide +kernel
theorem dX7_step_100 : decode cX7_step 100 = .ok (.imul, 1) := by decide +kernel
theorem dX7_step_101 : decode cX7_step 101 = .ok (.aload_n 0, 1) := by decide +kernel
theorem dX7_step_102 : decode cX7_step 102 = .ok (.getfield 15, 3) := by decide +kernel
theorem dX7_step_105 : decode cX7_step 105 = .ok (.aload_n 0, 1) := by decide +kernel
theorem dX7_step_106 : decode cX7_step 106 = .ok (.getfield 22, 3) := by decide +kernel
theorem dX7_step_109 : decode cX7_step 109 = .ok (.iaload, 1) := by decide +kernel
theorem dX7_step_110 : decode cX7_step 110 = .ok (.iadd, 1) := by decide +kernel
theorem dX7_step_111 : decode cX7_step 111 = .ok (.bipush 48, 2) := by decide +kernel
theorem dX7_step_113 : decode cX7_step 113 = .ok (.isub, 1) := by decide +kernel
theorem dX7_step_114 : decode cX7_step 114 = .ok (.putfield 28, 3) := by decide +kernel
theorem dX7_step_117 : decode cX7_step 117 = .ok (.aload_n 0, 1) := by decide +kernel
theorem dX7_step_118 : decode cX7_step 118 = .ok (.dup, 1) := by decide +kernel
theorem dX7_step_119 : decode cX7_step 119 = .ok (.getfield 22, 3) := by decide +kernel
theorem dX7_step_122 : decode cX7_step 122 = .ok (.iconst 1, 1) := by decide +kernel
theorem dX7_step_123 : decode cX7_step 123 = .ok (.iadd, 1) := by decide +kernel
theorem dX7_step_124 : decode cX7_step 124 = .ok (.putfield 22, 3) := by decide +kernel
theorem dX7_step_127 : decode cX7_step 127 = .ok (.goto (-76), 3) := by decide +kernel
theorem dX7_step_130 : decode cX7_step 130 = .ok (.aload_n 0, 1) := by decide +kernel
theorem dX7_step_131 : decode cX7_step 131 = .ok (.aload_n 0, 1) := by decide +kernel
theorem dX7_step_132 : decode cX7_step 132 = .ok (.getfield 22, 3) := by decide +kernel
theorem dX7_step_135 : decode cX7_step 135 = .ok (.aload_n 0, 1) := by decide +kernel
theorem dX7_step_136 : decode cX7_step 136 = .ok (.getfield 19, 3) := by decide +kernel
theorem dX7_step_139 : decode cX7_step 139 = .ok (.if_icmp .le 10, 3) := by decide +kernel
theorem dX7_step_142 : decode cX7_step 142 = .ok (.aload_n 0, 1) := by decide +kernel
theorem dX7_step_143 : decode cX7_step 143 = .ok (.invokevirtual 96, 3) := by decide +kernel
theorem dX7_step_146 : decode cX7_step 146 = .ok (.goto 7, 3) := by decide +kernel
theorem dX7_step_149 : decode cX7_step 149 = .ok (.aload_n 0, 1) := by decide +kernel
theorem dX7_step_150 : decode cX7_step 150 = .ok (.invokevirtual 100, 3) := by decide +kernel
theorem dX7_step_153 : decode cX7_step 153 = .ok (.putfield 25, 3) := by decide +kernel
theorem dX7_step_156 : decode cX7_step 156 = .ok (.return_, 1) := by decide +kernel
theorem dX7_numberToken_0 : decode cX7_numberToken 0 = .ok (.aload_n 0, 1) := by decide +kernel
theorem dX7_numberToken_1 : decode cX7_numberToken 1 = .ok (.getfield 22, 3) := by decide +kernel
theorem dX7_numberToken_4 : decode cX7_numberToken 4 = .ok (.aload_n 0, 1) := by decide +kernel
theorem dX7_numberToken_5 : decode cX7_numberToken 5 = .ok (.getfield 19, 3) := by decide +kernel
theorem dX7_numberToken_8 : decode cX7_numberToken 8 = .ok (.isub, 1) := by decide +kernel
theorem dX7_numberToken_9 : decode cX7_numberToken 9 = .ok (.iconst 1, 1) := by decide +kernel
theorem dX7_numberToken_10 : decode cX7_numberToken 10 = .ok (.if_icmp .le 21, 3) := by decide +kernel
theorem dX7_numberToken_13 : decode cX7_numberToken 13 = .ok (.aload_n 0, 1) := by decide +kernel
theorem dX7_numberToken_14 : decode cX7_numberToken 14 = .ok (.getfield 15, 3) := by decide +kernel
theorem dX7_numberToken_17 : decode cX7_numberToken 17 = .ok (.aload_n 0, 1) := by decide +kernel
theorem dX7_numberToken_18 : decode cX7_numberToken 18 = .ok (.getfield 19, 3) := by decide +kernel
theorem dX7_numberToken_21 : decode cX7_numberToken 21 = .ok (.iaload, 1) := by decide +kernel
theorem dX7_numberToken_22 : decode cX7_numberToken 22 = .ok (.bipush 48, 2) := by decide +kernel
theorem dX7_numberToken_24 : decode cX7_numberToken 24 = .ok (.if_icmp .ne 7, 3) := by decide +kernel
theorem dX7_numberToken_27 : decode cX7_numberToken 27 = .ok (.iconst 1, 1) := by decide +kernel
theorem dX7_numberToken_28 : decode cX7_numberToken 28 = .ok (.goto 4, 3) := by decide +kernel
theorem dX7_numberToken_31 : decode cX7_numberToken 31 = .ok (.iconst 0, 1) := by decide +kernel
theorem dX7_numberToken_32 : decode cX7_numberToken 32 = .ok (.istore_n 1, 1) := by decide +kernel
theorem dX7_numberToken_33 : decode cX7_numberToken 33 = .ok (.iload_n 1, 1) := by decide +kernel
theorem dX7_numberToken_34 : decode cX7_numberToken 34 = .ok (.ifCond .ne 12, 3) := by decide +kernel
theorem dX7_numberToken_37 : decode cX7_numberToken 37 = .ok (.aload_n 0, 1) := by decide +kernel
theorem dX7_numberToken_38 : decode cX7_numberToken 38 = .ok (.getfield 28, 3) := by decide +kernel
theorem dX7_numberToken_41 : decode cX7_numberToken 41 = .ok (.bipush 99, 2) := by decide +kernel
theorem dX7_numberToken_43 : decode cX7_numberToken 43 = .ok (.if_icmp .le 7, 3) := by decide +kernel
theorem dX7_numberToken_46 : decode cX7_numberToken 46 = .ok (.iconst 2, 1) := by decide +kernel
theorem dX7_numberToken_47 : decode cX7_numberToken 47 = .ok (.goto 4, 3) := by decide +kernel
theorem dX7_numberToken_50 : decode cX7_numberToken 50 = .ok (.iconst 1, 1) := by decide +kernel
theorem dX7_numberToken_51 : decode cX7_numberToken 51 = .ok (.ireturn, 1) := by decide +kernel
theorem dX7_letterToken_0 : decode cX7_letterToken 0 = .ok (.aload_n 0, 1) := by decide +kernel
theorem dX7_letterToken_1 : decode cX7_letterToken 1 = .ok (.getfield 22, 3) := by decide +kernel
theorem dX7_letterToken_4 : decode cX7_letterToken 4 = .ok (.aload_n 0, 1) := by decide +kernel
theorem dX7_letterToken_5 : decode cX7_letterToken 5 = .ok (.getfield 9, 3) := by decide +kernel
theorem dX7_letterToken_8 : decode cX7_letterToken 8 = .ok (.if_icmp .lt 5, 3) := by decide +kernel
theorem dX7_letterToken_11 : decode cX7_letterToken 11 = .ok (.iconst 0, 1) := by decide +kernel
theorem dX7_letterToken_12 : decode cX7_letterToken 12 = .ok (.ireturn, 1) := by decide +kernel
theorem dX7_letterToken_13 : decode cX7_letterToken 13 = .ok (.aload_n 0, 1) := by decide +kernel
theorem dX7_letterToken_14 : decode cX7_letterToken 14 = .ok (.getfield 15, 3) := by decide +kernel
theorem dX7_letterToken_17 : decode cX7_letterToken 17 = .ok (.aload_n 0, 1) := by decide +kernel
theorem dX7_letterToken_18 : decode cX7_letterToken 18 = .ok (.getfield 22, 3) := by decide +kernel
theorem dX7_letterToken_21 : decode cX7_letterToken 21 = .ok (.iaload, 1) := by decide +kernel
theorem dX7_letterToken_22 : decode cX7_letterToken 22 = .ok (.istore_n 1, 1) := by decide +kernel
theorem dX7_letterToken_23 : decode cX7_letterToken 23 = .ok (.aload_n 0, 1) := by decide +kernel
theorem dX7_letterToken_24 : decode cX7_letterToken 24 = .ok (.dup, 1) := by decide +kernel
theorem dX7_letterToken_25 : decode cX7_letterToken 25 = .ok (.getfield 22, 3) := by decide +kernel
theorem dX7_letterToken_28 : decode cX7_letterToken 28 = .ok (.iconst 1, 1) := by decide +kernel
theorem dX7_letterToken_29 : decode cX7_letterToken 29 = .ok (.iadd, 1) := by decide +kernel
theorem dX7_letterToken_30 : decode cX7_letterToken 30 = .ok (.putfield 22, 3) := by decide +kernel
theorem dX7_letterToken_33 : decode cX7_letterToken 33 = .ok (.iload_n 1, 1) := by decide +kernel
theorem dX7_letterToken_34 : decode cX7_letterToken 34 = .ok (.bipush 110, 2) := by decide +kernel
theorem dX7_letterToken_36 : decode cX7_letterToken 36 = .ok (.if_icmp .eq 21, 3) := by decide +kernel
theorem dX7_letterToken_39 : decode cX7_letterToken 39 = .ok (.iload_n 1, 1) := by decide +kernel
theorem dX7_letterToken_40 : decode cX7_letterToken 40 = .ok (.bipush 108, 2) := by decide +kernel
theorem dX7_letterToken_42 : decode cX7_letterToken 42 = .ok (.if_icmp .eq 15, 3) := by decide +kernel
theorem dX7_letterToken_45 : decode cX7_letterToken 45 = .ok (.iload_n 1, 1) := by decide +kernel
theorem dX7_letterToken_46 : decode cX7_letterToken 46 = .ok (.bipush 109, 2) := by decide +kernel
theorem dX7_letterToken_48 : decode cX7_letterToken 48 = .ok (.if_icmp .eq 9, 3) := by decide +kernel
theorem dX7_letterToken_51 : decode cX7_letterToken 51 = .ok (.iload_n 1, 1) := by decide +kernel
theorem dX7_letterToken_52 : decode cX7_letterToken 52 = .ok (.bipush 59, 2) := by decide +kernel
theorem dX7_letterToken_54 : decode cX7_letterToken 54 = .ok (.if_icmp .ne 7, 3) := by decide +kernel
theorem dX7_letterToken_57 : decode cX7_letterToken 57 = .ok (.iconst 1, 1) := by decide +kernel
theorem dX7_letterToken_58 : decode cX7_letterToken 58 = .ok (.goto 4, 3) := by decide +kernel
theorem dX7_letterToken_61 : decode cX7_letterToken 61 = .ok (.iconst 0, 1) := by decide +kernel
theorem dX7_letterToken_62 : decode cX7_letterToken 62 = .ok (.istore_n 2, 1) := by decide +kernel
theorem dX7_letterToken_63 : decode cX7_letterToken 63 = .ok (.iload_n 2, 1) := by decide +kernel
theorem dX7_letterToken_64 : decode cX7_letterToken 64 = .ok (.ifCond .eq 7, 3) := by decide +kernel
theorem dX7_letterToken_67 : decode cX7_letterToken 67 = .ok (.iload_n 1, 1) := by decide +kernel
theorem dX7_letterToken_68 : decode cX7_letterToken 68 = .ok (.goto 4, 3) := by decide +kernel
theorem dX7_letterToken_71 : decode cX7_letterToken 71 = .ok (.iconst 2, 1) := by decide +kernel
theorem dX7_letterToken_72 : decode cX7_letterToken 72 = .ok (.ireturn, 1) := by decide +kernel
theorem dX7_isDigit_0 : decode cX7_isDigit 0 = .ok (.iload_n 0, 1) := by decide +kernel
theorem dX7_isDigit_1 : decode cX7_isDigit 1 = .ok (.bipush 48, 2) := by decide +kernel
theorem dX7_isDigit_3 : decode cX7_isDigit 3 = .ok (.if_icmp .lt 13, 3) := by decide +kernel
theorem dX7_isDigit_6 : decode cX7_isDigit 6 = .ok (.iload_n 0, 1) := by decide +kernel
theorem dX7_isDigit_7 : decode cX7_isDigit 7 = .ok (.bipush 57, 2) := by decide +kernel
theorem dX7_isDigit_9 : decode cX7_isDigit 9 = .ok (.if_icmp .gt 7, 3) := by decide +kernel
theorem dX7_isDigit_12 : decode cX7_isDigit 12 = .ok (.iconst 1, 1) := by decide +kernel
theorem dX7_isDigit_13 : decode cX7_isDigit 13 = .ok (.goto 4, 3) := by decide +kernel
theorem dX7_isDigit_16 : decode cX7_isDigit 16 = .ok (.iconst 0, 1) := by decide +kernel
theorem dX7_isDigit_17 : decode cX7_isDigit 17 = .ok (.ireturn, 1) := by decide +kernel
theorem dX8_init_0 : decode cX8_init 0 = .ok (.aload_n 0, 1) := by decide +kernel
theorem dX8_init_1 : decode cX8_init 1 = .ok (.invokespecial 3, 3) := by decide +kernel
theorem dX8_init_4 : decode cX8_init 4 = .ok (.aload_n 0, 1) := by decide +kernel
theorem dX8_init_5 : decode cX8_init 5 = .ok (.iconst 0, 1) := by decide +kernel
theorem dX8_init_6 : decode cX8_init 6 = .ok (.putfield 9, 3) := by decide +kernel
theorem dX8_init_9 : decode cX8_init 9 = .ok (.aload_n 0, 1) := by decide +kernel
theorem dX8_init_10 : decode cX8_init 10 = .ok (.sipush 165, 3) := by decide +kernel
theorem dX8_init_13 : decode cX8_init 13 = .ok (.newarray .int, 2) := by decide +kernel
theorem dX8_init_15 : decode cX8_init 15 = .ok (.putfield 15, 3) := by decide +kernel
theorem dX8_init_18 : decode cX8_init 18 = .ok (.aload_n 0, 1) := by decide +kernel
theorem dX8_init_19 : decode cX8_init 19 = .ok (.bipush 33, 2) := by decide +kernel
theorem dX8_init_21 : decode cX8_init 21 = .ok (.newarray .int, 2) := by decide +kernel
theorem dX8_init_23 : decode cX8_init 23 = .ok (.putfield 19, 3) := by decide +kernel
theorem dX8_init_26 : decode cX8_init 26 = .ok (.aload_n 0, 1) := by decide +kernel
theorem dX8_init_27 : decode cX8_init 27 = .ok (.bipush 33, 2) := by decide +kernel
theorem dX8_init_29 : decode cX8_init 29 = .ok (.newarray .int, 2) := by decide +kernel
theorem dX8_init_31 : decode cX8_init 31 = .ok (.putfield 22, 3) := by decide +kernel
theorem dX8_init_34 : decode cX8_init 34 = .ok (.aload_n 0, 1) := by decide +kernel
theorem dX8_init_35 : decode cX8_init 35 = .ok (.bipush 33, 2) := by decide +kernel
theorem dX8_init_37 : decode cX8_init 37 = .ok (.newarray .int, 2) := by decide +kernel
theorem dX8_init_39 : decode cX8_init 39 = .ok (.putfield 25, 3) := by decide +kernel
theorem dX8_init_42 : decode cX8_init 42 = .ok (.aload_n 0, 1) := by decide +kernel
theorem dX8_init_43 : decode cX8_init 43 = .ok (.bipush 33, 2) := by decide +kernel
theorem dX8_init_45 : decode cX8_init 45 = .ok (.newarray .int, 2) := by decide +kernel
theorem dX8_init_47 : decode cX8_init 47 = .ok (.putfield 28, 3) := by decide +kernel
theorem dX8_init_50 : decode cX8_init 50 = .ok (.aload_n 0, 1) := by decide +kernel
theorem dX8_init_51 : decode cX8_init 51 = .ok (.bipush 25, 2) := by decide +kernel
theorem dX8_init_53 : decode cX8_init 53 = .ok (.newarray .int, 2) := by decide +kernel
theorem dX8_init_55 : decode cX8_init 55 = .ok (.putfield 31, 3) := by decide +kernel
theorem dX8_init_58 : decode cX8_init 58 = .ok (.aload_n 0, 1) := by decide +kernel
theorem dX8_init_59 : decode cX8_init 59 = .ok (.iconst 5, 1) := by decide +kernel
theorem dX8_init_60 : decode cX8_init 60 = .ok (.newarray .int, 2) := by decide +kernel
theorem dX8_init_62 : decode cX8_init 62 = .ok (.putfield 34, 3) := by decide +kernel
theorem dX8_init_65 : decode cX8_init 65 = .ok (.return_, 1) := by decide +kernel
theorem dX8_find_0 : decode cX8_find 0 = .ok (.aload_n 0, 1) := by decide +kernel
theorem dX8_find_1 : decode cX8_find 1 = .ok (.iconst 0, 1) := by decide +kernel
theorem dX8_find_2 : decode cX8_find 2 = .ok (.putfield 9, 3) := by decide +kernel
theorem dX8_find_5 : decode cX8_find 5 = .ok (.iconst 0, 1) := by decide +kernel
theorem dX8_find_6 : decode cX8_find 6 = .ok (.istore_n 2, 1) := by decide +kernel
theorem dX8_find_7 : decode cX8_find 7 = .ok (.iload_n 2, 1) := by decide +kernel
theorem dX8_find_8 : decode cX8_find 8 = .ok (.aload_n 1, 1) := by decide +kernel
theorem dX8_find_9 : decode cX8_find 9 = .ok (.getfield 37, 3) := by decide +kernel
theorem dX8_find_12 : decode cX8_find 12 = .ok (.if_icmp .ge 23, 3) := by decide +kernel
theorem dX8_find_15 : decode cX8_find 15 = .ok (.aload_n 0, 1) := by decide +kernel
theorem dX8_find_16 : decode cX8_find 16 = .ok (.getfield 34, 3) := by decide +kernel
theorem dX8_find_19 : decode cX8_find 19 = .ok (.iconst 0, 1) := by decide +kernel
theorem dX8_find_20 : decode cX8_find 20 = .ok (.iload_n 2, 1) := by decide +kernel
theorem dX8_find_21 : decode cX8_find 21 = .ok (.iastore, 1) := by decide +kernel
theorem dX8_find_22 : decode cX8_find 22 = .ok (.aload_n 0, 1) := by decide +kernel
theorem dX8_find_23 : decode cX8_find 23 = .ok (.aload_n 1, 1) := by decide +kernel
theorem dX8_find_24 : decode cX8_find 24 = .ok (.iconst 1, 1) := by decide +kernel
theorem dX8_find_25 : decode cX8_find 25 = .ok (.iconst 0, 1) := by decide +kernel
theorem dX8_find_26 : decode cX8_find 26 = .ok (.invokestatic 42, 3) := by decide +kernel
theorem dX8_find_29 : decode cX8_find 29 = .ok (.iinc 2 1, 3) := by decide +kernel
theorem dX8_find_32 : decode cX8_find 32 = .ok (.goto (-25), 3) := by decide +kernel
theorem dX8_find_35 : decode cX8_find 35 = .ok (.return_, 1) := by decide +kernel
theorem dX8_walk_0 : decode cX8_walk 0 = .ok (.aload_n 0, 1) := by decide +kernel
theorem dX8_walk_1 : decode cX8_walk 1 = .ok (.getfield 34, 3) := by decide +kernel
theorem dX8_walk_4 : decode cX8_walk 4 = .ok (.iload_n 2, 1) := by decide +kernel
theorem dX8_walk_5 : decode cX8_walk 5 = .ok (.iconst 1, 1) := by decide +kernel
theorem dX8_walk_6 : decode cX8_walk 6 = .ok (.isub, 1) := by decide +kernel
theorem dX8_walk_7 : decode cX8_walk 7 = .ok (.iaload, 1) := by decide +kernel
theorem dX8_walk_8 : decode cX8_walk 8 = .ok (.istore 4, 2) := by decide +kernel
theorem dX8_walk_10 : decode cX8_walk 10 = .ok (.iload 4, 2) := by decide +kernel
theorem dX8_walk_12 : decode cX8_walk 12 = .ok (.aload_n 0, 1) := by decide +kernel
theorem dX8_walk_13 : decode cX8_walk 13 = .ok (.getfield 34, 3) := by decide +kernel
theorem dX8_walk_16 : decode cX8_walk 16 = .ok (.iconst 0, 1) := by decide +kernel
theorem dX8_walk_17 : decode cX8_walk 17 = .ok (.iaload, 1) := by decide +kernel
theorem dX8_walk_18 : decode cX8_walk 18 = .ok (.if_icmp .le 9, 3) := by decide +kernel
theorem dX8_walk_21 : decode cX8_walk 21 = .ok (.aload_n 0, 1) := by decide +kernel
theorem dX8_walk_22 : decode cX8_walk 22 = .ok (.iload_n 2, 1) := by decide +kernel
theorem dX8_walk_23 : decode cX8_walk 23 = .ok (.iload_n 3, 1) := by decide +kernel
theorem dX8_walk_24 : decode cX8_walk 24 = .ok (.invokevirtual 46, 3) := by decide +kernel
theorem dX8_walk_27 : decode cX8_walk 27 = .ok (.iconst 0, 1) := by decide +kernel
theorem dX8_walk_28 : decode cX8_walk 28 = .ok (.istore 5, 2) := by decide +kernel
theorem dX8_walk_30 : decode cX8_walk 30 = .ok (.iload 5, 2) := by decide +kernel
theorem dX8_walk_32 : decode cX8_walk 32 = .ok (.aload_n 1, 1) := by decide +kernel
theorem dX8_walk_33 : decode cX8_walk 33 = .ok (.getfield 37, 3) := by decide +kernel
theorem dX8_walk_36 : decode cX8_walk 36 = .ok (.if_icmp .ge 63, 3) := by decide +kernel
theorem dX8_walk_39 : decode cX8_walk 39 = .ok (.iload_n 2, 1) := by decide +kernel
theorem dX8_walk_40 : decode cX8_walk 40 = .ok (.iconst 5, 1) := by decide +kernel
theorem dX8_walk_41 : decode cX8_walk 41 = .ok (.if_icmp .ge 58, 3) := by decide +kernel
theorem dX8_walk_44 : decode cX8_walk 44 = .ok (.aload_n 1, 1) := by decide +kernel
theorem dX8_walk_45 : decode cX8_walk 45 = .ok (.iload 4, 2) := by decide +kernel
theorem dX8_walk_47 : decode cX8_walk 47 = .ok (.iload 5, 2) := by decide +kernel
theorem dX8_walk_49 : decode cX8_walk 49 = .ok (.invokevirtual 50, 3) := by decide +kernel
theorem dX8_walk_52 : decode cX8_walk 52 = .ok (.istore 6, 2) := by decide +kernel
theorem dX8_walk_54 : decode cX8_walk 54 = .ok (.iload 6, 2) := by decide +kernel
theorem dX8_walk_56 : decode cX8_walk 56 = .ok (.bipush (-9), 2) := by decide +kernel
theorem dX8_walk_58 : decode cX8_walk 58 = .ok (.if_icmp .eq 35, 3) := by decide +kernel
theorem dX8_walk_61 : decode cX8_walk 61 = .ok (.aload_n 0, 1) := by decide +kernel
theorem dX8_walk_62 : decode cX8_walk 62 = .ok (.iload 5, 2) := by decide +kernel
theorem dX8_walk_64 : decode cX8_walk 64 = .ok (.iload_n 2, 1) := by decide +kernel
theorem dX8_walk_65 : decode cX8_walk 65 = .ok (.invokevirtual 54, 3) := by decide +kernel
theorem dX8_walk_68 : decode cX8_walk 68 = .ok (.ifCond .ne 25, 3) := by decide +kernel
theorem dX8_walk_71 : decode cX8_walk 71 = .ok (.aload_n 0, 1) := by decide +kernel
theorem dX8_walk_72 : decode cX8_walk 72 = .ok (.getfield 34, 3) := by decide +kernel
theorem dX8_walk_75 : decode cX8_walk 75 = .ok (.iload_n 2, 1) := by decide +kernel
theorem dX8_walk_76 : decode cX8_walk 76 = .ok (.iload 5, 2) := by decide +kernel
theorem dX8_walk_78 : decode cX8_walk 78 = .ok (.iastore, 1) := by decide +kernel
theorem dX8_walk_79 : decode cX8_walk 79 = .ok (.aload_n 0, 1) := by decide +kernel
theorem dX8_walk_80 : decode cX8_walk 80 = .ok (.aload_n 1, 1) := by decide +kernel
theorem dX8_walk_81 : decode cX8_walk 81 = .ok (.iload_n 2, 1) := by decide +kernel
theorem dX8_walk_82 : decode cX8_walk 82 = .ok (.iconst 1, 1) := by decide +kernel
theorem dX8_walk_83 : decode cX8_walk 83 = .ok (.iadd, 1) := by decide +kernel
theorem dX8_walk_84 : decode cX8_walk 84 = .ok (.iload_n 3, 1) := by decide +kernel
theorem dX8_walk_85 : decode cX8_walk 85 = .ok (.iconst 1, 1) := by decide +kernel
theorem dX8_walk_86 : decode cX8_walk 86 = .ok (.iload 6, 2) := by decide +kernel
theorem dX8_walk_88 : decode cX8_walk 88 = .ok (.ishl, 1) := by decide +kernel
theorem dX8_walk_89 : decode cX8_walk 89 = .ok (.ior, 1) := by decide +kernel
theorem dX8_walk_90 : decode cX8_walk 90 = .ok (.invokestatic 42, 3) := by decide +kernel
theorem dX8_walk_93 : decode cX8_walk 93 = .ok (.iinc 5 1, 3) := by decide +kernel
theorem dX8_walk_96 : decode cX8_walk 96 = .ok (.goto (-66), 3) := by decide +kernel
theorem dX8_walk_99 : decode cX8_walk 99 = .ok (.return_, 1) := by decide +kernel
theorem dX8_onTrail_0 : decode cX8_onTrail 0 = .ok (.iconst 0, 1) := by decide +kernel
theorem dX8_onTrail_1 : decode cX8_onTrail 1 = .ok (.istore_n 3, 1) := by decide +kernel
theorem dX8_onTrail_2 : decode cX8_onTrail 2 = .ok (.iload_n 3, 1) := by decide +kernel
theorem dX8_onTrail_3 : decode cX8_onTrail 3 = .ok (.iload_n 2, 1) := by decide +kernel
theorem dX8_onTrail_4 : decode cX8_onTrail 4 = .ok (.if_icmp .ge 21, 3) := by decide +kernel
theorem dX8_onTrail_7 : decode cX8_onTrail 7 = .ok (.aload_n 0, 1) := by decide +kernel
theorem dX8_onTrail_8 : decode cX8_onTrail 8 = .ok (.getfield 34, 3) := by decide +kernel
theorem dX8_onTrail_11 : decode cX8_onTrail 11 = .ok (.iload_n 3, 1) := by decide +kernel
theorem dX8_onTrail_12 : decode cX8_onTrail 12 = .ok (.iaload, 1) := by decide +kernel
theorem dX8_onTrail_13 : decode cX8_onTrail 13 = .ok (.iload_n 1, 1) := by decide +kernel
theorem dX8_onTrail_14 : decode cX8_onTrail 14 = .ok (.if_icmp .ne 5, 3) := by decide +kernel
theorem dX8_onTrail_17 : decode cX8_onTrail 17 = .ok (.iconst 1, 1) := by decide +kernel
theorem dX8_onTrail_18 : decode cX8_onTrail 18 = .ok (.ireturn, 1) := by decide +kernel
theorem dX8_onTrail_19 : decode cX8_onTrail 19 = .ok (.iinc 3 1, 3) := by decide +kernel
theorem dX8_onTrail_22 : decode cX8_onTrail 22 = .ok (.goto (-20), 3) := by decide +kernel
theorem dX8_onTrail_25 : decode cX8_onTrail 25 = .ok (.iconst 0, 1) := by decide +kernel
theorem dX8_onTrail_26 : decode cX8_onTrail 26 = .ok (.ireturn, 1) := by decide +kernel
theorem dX8_addTrail_0 : decode cX8_addTrail 0 = .ok (.aload_n 0, 1) := by decide +kernel
theorem dX8_addTrail_1 : decode cX8_addTrail 1 = .ok (.getfield 9, 3) := by decide +kernel
theorem dX8_addTrail_4 : decode cX8_addTrail 4 = .ok (.bipush 33, 2) := by decide +kernel
theorem dX8_addTrail_6 : decode cX8_addTrail 6 = .ok (.if_icmp .lt 4, 3) := by decide +kernel
theorem dX8_addTrail_9 : decode cX8_addTrail 9 = .ok (.return_, 1) := by decide +kernel
theorem dX8_addTrail_10 : decode cX8_addTrail 10 = .ok (.aload_n 0, 1) := by decide +kernel
theorem dX8_addTrail_11 : decode cX8_addTrail 11 = .ok (.getfield 34, 3) := by decide +kernel
theorem dX8_addTrail_14 : decode cX8_addTrail 14 = .ok (.iconst 0, 1) := by decide +kernel
theorem dX8_addTrail_15 : decode cX8_addTrail 15 = .ok (.aload_n 0, 1) := by decide +kernel
theorem dX8_addTrail_16 : decode cX8_addTrail 16 = .ok (.getfield 15, 3) := by decide +kernel
theorem dX8_addTrail_19 : decode cX8_addTrail 19 = .ok (.aload_n 0, 1) := by decide +kernel
theorem dX8_addTrail_20 : decode cX8_addTrail 20 = .ok (.getfield 9, 3) := by decide +kernel
theorem dX8_addTrail_23 : decode cX8_addTrail 23 = .ok (.iconst 5, 1) := by decide +kernel
theorem dX8_addTrail_24 : decode cX8_addTrail 24 = .ok (.imul, 1) := by decide +kernel
theorem dX8_addTrail_25 : decode cX8_addTrail 25 = .ok (.iload_n 1, 1) := by decide +kernel
theorem dX8_addTrail_26 : decode cX8_addTrail 26 = .ok (.invokestatic 58, 3) := by decide +kernel
theorem dX8_addTrail_29 : decode cX8_addTrail 29 = .ok (.aload_n 0, 1) := by decide +kernel
theorem dX8_addTrail_30 : decode cX8_addTrail 30 = .ok (.getfield 19, 3) := by decide +kernel
theorem dX8_addTrail_33 : decode cX8_addTrail 33 = .ok (.aload_n 0, 1) := by decide +kernel
theorem dX8_addTrail_34 : decode cX8_addTrail 34 = .ok (.getfield 9, 3) := by decide +kernel
theorem dX8_addTrail_37 : decode cX8_addTrail 37 = .ok (.iload_n 1, 1) := by decide +kernel
theorem dX8_addTrail_38 : decode cX8_addTrail 38 = .ok (.iastore, 1) := by decide +kernel
theorem dX8_addTrail_39 : decode cX8_addTrail 39 = .ok (.aload_n 0, 1) := by decide +kernel
theorem dX8_addTrail_40 : decode cX8_addTrail 40 = .ok (.getfield 22, 3) := by decide +kernel
theorem dX8_addTrail_43 : decode cX8_addTrail 43 = .ok (.aload_n 0, 1) := by decide +kernel
theorem dX8_addTrail_44 : decode cX8_addTrail 44 = .ok (.getfield 9, 3) := by decide +kernel
theorem dX8_addTrail_47 : decode cX8_addTrail 47 = .ok (.aload_n 0, 1) := by decide +kernel
theorem dX8_addTrail_48 : decode cX8_addTrail 48 = .ok (.getfield 34, 3) := by decide +kernel
theorem dX8_addTrail_51 : decode cX8_addTrail 51 = .ok (.iconst 0, 1) := by decide +kernel
theorem dX8_addTrail_52 : decode cX8_addTrail 52 = .ok (.iaload, 1) := by decide +kernel
theorem dX8_addTrail_53 : decode cX8_addTrail 53 = .ok (.iconst 5, 1) := by decide +kernel
theorem dX8_addTrail_54 : decode cX8_addTrail 54 = .ok (.imul, 1) := by decide +kernel
theorem dX8_addTrail_55 : decode cX8_addTrail 55 = .ok (.aload_n 0, 1) := by decide +kernel
theorem dX8_addTrail_56 : decode cX8_addTrail 56 = .ok (.getfield 34, 3) := by decide +kernel
theorem dX8_addTrail_59 : decode cX8_addTrail 59 = .ok (.iload_n 1, 1) := by decide +kernel
theorem dX8_addTrail_60 : decode cX8_addTrail 60 = .ok (.iconst 1, 1) := by decide +kernel
theorem dX8_addTrail_61 : decode cX8_addTrail 61 = .ok (.isub, 1) := by decide +kernel
theorem dX8_addTrail_62 : decode cX8_addTrail 62 = .ok (.iaload, 1) := by decide +kernel
theorem dX8_addTrail_63 : decode cX8_addTrail 63 = .ok (.iadd, 1) := by decide +kernel
theorem dX8_addTrail_64 : decode cX8_addTrail 64 = .ok (.iastore, 1) := by decide +kernel
theorem dX8_addTrail_65 : decode cX8_addTrail 65 = .ok (.aload_n 0, 1) := by decide +kernel
theorem dX8_addTrail_66 : decode cX8_addTrail 66 = .ok (.getfield 25, 3) := by decide +kernel
theorem dX8_addTrail_69 : decode cX8_addTrail 69 = .ok (.aload_n 0, 1) := by decide +kernel
theorem dX8_addTrail_70 : decode cX8_addTrail 70 = .ok (.getfield 9, 3) := by decide +kernel
theorem dX8_addTrail_73 : decode cX8_addTrail 73 = .ok (.iload_n 2, 1) := by decide +kernel
theorem dX8_addTrail_74 : decode cX8_addTrail 74 = .ok (.iastore, 1) := by decide +kernel
theorem dX8_addTrail_75 : decode cX8_addTrail 75 = .ok (.aload_n 0, 1) := by decide +kernel
theorem dX8_addTrail_76 : decode cX8_addTrail 76 = .ok (.dup, 1) := by decide +kernel
theorem dX8_addTrail_77 : decode cX8_addTrail 77 = .ok (.getfield 9, 3) := by decide +kernel
theorem dX8_addTrail_80 : decode cX8_addTrail 80 = .ok (.iconst 1, 1) := by decide +kernel
theorem dX8_addTrail_81 : decode cX8_addTrail 81 = .ok (.iadd, 1) := by decide +kernel
theorem dX8_addTrail_82 : decode cX8_addTrail 82 = .ok (.putfield 9, 3) := by decide +kernel
theorem dX8_addTrail_85 : decode cX8_addTrail 85 = .ok (.return_, 1) := by decide +kernel
theorem dX8_measure_0 : decode cX8_measure 0 = .ok (.iconst 0, 1) := by decide +kernel
theorem dX8_measure_1 : decode cX8_measure 1 = .ok (.istore_n 3, 1) := by decide +kernel
theorem dX8_measure_2 : decode cX8_measure 2 = .ok (.iload_n 3, 1) := by decide +kernel
theorem dX8_measure_3 : decode cX8_measure 3 = .ok (.aload_n 0, 1) := by decide +kernel
theorem dX8_measure_4 : decode cX8_measure 4 = .ok (.getfield 31, 3) := by decide +kernel
theorem dX8_measure_7 : decode cX8_measure 7 = .ok (.arraylength, 1) := by decide +kernel
theorem dX8_measure_8 : decode cX8_measure 8 = .ok (.if_icmp .ge 17, 3) := by decide +kernel
theorem dX8_measure_11 : decode cX8_measure 11 = .ok (.aload_n 0, 1) := by decide +kernel
theorem dX8_measure_12 : decode cX8_measure 12 = .ok (.getfield 31, 3) := by decide +kernel
theorem dX8_measure_15 : decode cX8_measure 15 = .ok (.iload_n 3, 1) := by decide +kernel
theorem dX8_measure_16 : decode cX8_measure 16 = .ok (.bipush (-9), 2) := by decide +kernel
theorem dX8_measure_18 : decode cX8_measure 18 = .ok (.iastore, 1) := by decide +kernel
theorem dX8_measure_19 : decode cX8_measure 19 = .ok (.iinc 3 1, 3) := by decide +kernel
theorem dX8_measure_22 : decode cX8_measure 22 = .ok (.goto (-20), 3) := by decide +kernel
theorem dX8_measure_25 : decode cX8_measure 25 = .ok (.iconst 0, 1) := by decide +kernel
theorem dX8_measure_26 : decode cX8_measure 26 = .ok (.istore_n 3, 1) := by decide +kernel
theorem dX8_measure_27 : decode cX8_measure 27 = .ok (.iload_n 3, 1) := by decide +kernel
theorem dX8_measure_28 : decode cX8_measure 28 = .ok (.aload_n 0, 1) := by decide +kernel
theorem dX8_measure_29 : decode cX8_measure 29 = .ok (.getfield 9, 3) := by decide +kernel
theorem dX8_measure_32 : decode cX8_measure 32 = .ok (.if_icmp .ge 77, 3) := by decide +kernel
theorem dX8_measure_35 : decode cX8_measure 35 = .ok (.aload_n 0, 1) := by decide +kernel
theorem dX8_measure_36 : decode cX8_measure 36 = .ok (.getfield 28, 3) := by decide +kernel
theorem dX8_measure_39 : decode cX8_measure 39 = .ok (.iload_n 3, 1) := by decide +kernel
theorem dX8_measure_40 : decode cX8_measure 40 = .ok (.aload_n 1, 1) := by decide +kernel
theorem dX8_measure_41 : decode cX8_measure 41 = .ok (.aload_n 0, 1) := by decide +kernel
theorem dX8_measure_42 : decode cX8_measure 42 = .ok (.getfield 25, 3) := by decide +kernel
theorem dX8_measure_45 : decode cX8_measure 45 = .ok (.iload_n 3, 1) := by decide +kernel
theorem dX8_measure_46 : decode cX8_measure 46 = .ok (.iaload, 1) := by decide +kernel
theorem dX8_measure_47 : decode cX8_measure 47 = .ok (.aload_n 2, 1) := by decide +kernel
theorem dX8_measure_48 : decode cX8_measure 48 = .ok (.invokevirtual 64, 3) := by decide +kernel
theorem dX8_measure_51 : decode cX8_measure 51 = .ok (.iastore, 1) := by decide +kernel
theorem dX8_measure_52 : decode cX8_measure 52 = .ok (.aload_n 0, 1) := by decide +kernel
theorem dX8_measure_53 : decode cX8_measure 53 = .ok (.getfield 31, 3) := by decide +kernel
theorem dX8_measure_56 : decode cX8_measure 56 = .ok (.aload_n 0, 1) := by decide +kernel
theorem dX8_measure_57 : decode cX8_measure 57 = .ok (.getfield 22, 3) := by decide +kernel
theorem dX8_measure_60 : decode cX8_measure 60 = .ok (.iload_n 3, 1) := by decide +kernel
theorem dX8_measure_61 : decode cX8_measure 61 = .ok (.iaload, 1) := by decide +kernel
theorem dX8_measure_62 : decode cX8_measure 62 = .ok (.iaload, 1) := by decide +kernel
theorem dX8_measure_63 : decode cX8_measure 63 = .ok (.istore 4, 2) := by decide +kernel
theorem dX8_measure_65 : decode cX8_measure 65 = .ok (.aload_n 0, 1) := by decide +kernel
theorem dX8_measure_66 : decode cX8_measure 66 = .ok (.getfield 31, 3) := by decide +kernel
theorem dX8_measure_69 : decode cX8_measure 69 = .ok (.aload_n 0, 1) := by decide +kernel
theorem dX8_measure_70 : decode cX8_measure 70 = .ok (.getfield 22, 3) := by decide +kernel
theorem dX8_measure_73 : decode cX8_measure 73 = .ok (.iload_n 3, 1) := by decide +kernel
theorem dX8_measure_74 : decode cX8_measure 74 = .ok (.iaload, 1) := by decide +kernel
theorem dX8_measure_75 : decode cX8_measure 75 = .ok (.iload 4, 2) := by decide +kernel
theorem dX8_measure_77 : decode cX8_measure 77 = .ok (.bipush (-9), 2) := by decide +kernel
theorem dX8_measure_79 : decode cX8_measure 79 = .ok (.if_icmp .ne 12, 3) := by decide +kernel
theorem dX8_measure_82 : decode cX8_measure 82 = .ok (.aload_n 0, 1) := by decide +kernel
theorem dX8_measure_83 : decode cX8_measure 83 = .ok (.getfield 28, 3) := by decide +kernel
theorem dX8_measure_86 : decode cX8_measure 86 = .ok (.iload_n 3, 1) := by decide +kernel
theorem dX8_measure_87 : decode cX8_measure 87 = .ok (.iaload, 1) := by decide +kernel
theorem dX8_measure_88 : decode cX8_measure 88 = .ok (.goto 14, 3) := by decide +kernel
theorem dX8_measure_91 : decode cX8_measure 91 = .ok (.iload 4, 2) := by decide +kernel
theorem dX8_measure_93 : decode cX8_measure 93 = .ok (.aload_n 0, 1) := by decide +kernel
theorem dX8_measure_94 : decode cX8_measure 94 = .ok (.getfield 28, 3) := by decide +kernel
theorem dX8_measure_97 : decode cX8_measure 97 = .ok (.iload_n 3, 1) := by decide +kernel
theorem dX8_measure_98 : decode cX8_measure 98 = .ok (.iaload, 1) := by decide +kernel
theorem dX8_measure_99 : decode cX8_measure 99 = .ok (.invokestatic 68, 3) := by decide +kernel
theorem dX8_measure_102 : decode cX8_measure 102 = .ok (.iastore, 1) := by decide +kernel
theorem dX8_measure_103 : decode cX8_measure 103 = .ok (.iinc 3 1, 3) := by decide +kernel
theorem dX8_measure_106 : decode cX8_measure 106 = .ok (.goto (-79), 3) := by decide +kernel
theorem dX8_measure_109 : decode cX8_measure 109 = .ok (.return_, 1) := by decide +kernel
theorem dX8_isShortest_0 : decode cX8_isShortest 0 = .ok (.iload_n 1, 1) := by decide +kernel
theorem dX8_isShortest_1 : decode cX8_isShortest 1 = .ok (.ifCond .lt 35, 3) := by decide +kernel
theorem dX8_isShortest_4 : decode cX8_isShortest 4 = .ok (.iload_n 1, 1) := by decide +kernel
theorem dX8_isShortest_5 : decode cX8_isShortest 5 = .ok (.aload_n 0, 1) := by decide +kernel
theorem dX8_isShortest_6 : decode cX8_isShortest 6 = .ok (.getfield 9, 3) := by decide +kernel
theorem dX8_isShortest_9 : decode cX8_isShortest 9 = .ok (.if_icmp .ge 27, 3) := by decide +kernel
theorem dX8_isShortest_12 : decode cX8_isShortest 12 = .ok (.aload_n 0, 1) := by decide +kernel
theorem dX8_isShortest_13 : decode cX8_isShortest 13 = .ok (.getfield 28, 3) := by decide +kernel
theorem dX8_isShortest_16 : decode cX8_isShortest 16 = .ok (.iload_n 1, 1) := by decide +kernel
theorem dX8_isShortest_17 : decode cX8_isShortest 17 = .ok (.iaload, 1) := by decide +kernel
theorem dX8_isShortest_18 : decode cX8_isShortest 18 = .ok (.aload_n 0, 1) := by decide +kernel
theorem dX8_isShortest_19 : decode cX8_isShortest 19 = .ok (.getfield 31, 3) := by decide +kernel
theorem dX8_isShortest_22 : decode cX8_isShortest 22 = .ok (.aload_n 0, 1) := by decide +kernel
theorem dX8_isShortest_23 : decode cX8_isShortest 23 = .ok (.getfield 22, 3) := by decide +kernel
theorem dX8_isShortest_26 : decode cX8_isShortest 26 = .ok (.iload_n 1, 1) := by decide +kernel
theorem dX8_isShortest_27 : decode cX8_isShortest 27 = .ok (.iaload, 1) := by decide +kernel
theorem dX8_isShortest_28 : decode cX8_isShortest 28 = .ok (.iaload, 1) := by decide +kernel
theorem dX8_isShortest_29 : decode cX8_isShortest 29 = .ok (.if_icmp .ne 7, 3) := by decide +kernel
theorem dX8_isShortest_32 : decode cX8_isShortest 32 = .ok (.iconst 1, 1) := by decide +kernel
theorem dX8_isShortest_33 : decode cX8_isShortest 33 = .ok (.goto 4, 3) := by decide +kernel
theorem dX8_isShortest_36 : decode cX8_isShortest 36 = .ok (.iconst 0, 1) := by decide +kernel
theorem dX8_isShortest_37 : decode cX8_isShortest 37 = .ok (.ireturn, 1) := by decide +kernel
theorem dX8_leastBetween_0 : decode cX8_leastBetween 0 = .ok (.aload_n 0, 1) := by decide +kernel
theorem dX8_leastBetween_1 : decode cX8_leastBetween 1 = .ok (.getfield 31, 3) := by decide +kernel
theorem dX8_leastBetween_4 : decode cX8_leastBetween 4 = .ok (.iload_n 1, 1) := by decide +kernel
theorem dX8_leastBetween_5 : decode cX8_leastBetween 5 = .ok (.iload_n 2, 1) := by decide +kernel
theorem dX8_leastBetween_6 : decode cX8_leastBetween 6 = .ok (.invokestatic 68, 3) := by decide +kernel
theorem dX8_leastBetween_9 : decode cX8_leastBetween 9 = .ok (.iconst 5, 1) := by decide +kernel
theorem dX8_leastBetween_10 : decode cX8_leastBetween 10 = .ok (.imul, 1) := by decide +kernel
theorem dX8_leastBetween_11 : decode cX8_leastBetween 11 = .ok (.iload_n 1, 1) := by decide +kernel
theorem dX8_leastBetween_12 : decode cX8_leastBetween 12 = .ok (.iload_n 2, 1) := by decide +kernel
theorem dX8_leastBetween_13 : decode cX8_leastBetween 13 = .ok (.invokestatic 73, 3) := by decide +kernel
theorem dX8_leastBetween_16 : decode cX8_leastBetween 16 = .ok (.iadd, 1) := by decide +kernel
theorem dX8_leastBetween_17 : decode cX8_leastBetween 17 = .ok (.iaload, 1) := by decide +kernel
theorem dX8_leastBetween_18 : decode cX8_leastBetween 18 = .ok (.ireturn, 1) := by decide +kernel
theorem dX8_shortestBetween_0 : decode cX8_shortestBetween 0 = .ok (.iload_n 1, 1) := by decide +kernel
theorem dX8_shortestBetween_1 : decode cX8_shortestBetween 1 = .ok (.iload_n 2, 1) := by decide +kernel
theorem dX8_shortestBetween_2 : decode cX8_shortestBetween 2 = .ok (.invokestatic 68, 3) := by decide +kernel
theorem dX8_shortestBetween_5 : decode cX8_shortestBetween 5 = .ok (.iconst 5, 1) := by decide +kernel
theorem dX8_shortestBetween_6 : decode cX8_shortestBetween 6 = .ok (.imul, 1) := by decide +kernel
theorem dX8_shortestBetween_7 : decode cX8_shortestBetween 7 = .ok (.iload_n 1, 1) := by decide +kernel
theorem dX8_shortestBetween_8 : decode cX8_shortestBetween 8 = .ok (.iload_n 2, 1) := by decide +kernel
theorem dX8_shortestBetween_9 : decode cX8_shortestBetween 9 = .ok (.invokestatic 73, 3) := by decide +kernel
theorem dX8_shortestBetween_12 : decode cX8_shortestBetween 12 = .ok (.iadd, 1) := by decide +kernel
theorem dX8_shortestBetween_13 : decode cX8_shortestBetween 13 = .ok (.istore_n 3, 1) := by decide +kernel
theorem dX8_shortestBetween_14 : decode cX8_shortestBetween 14 = .ok (.iconst 0, 1) := by decide +kernel
theorem dX8_shortestBetween_15 : decode cX8_shortestBetween 15 = .ok (.istore 4, 2) := by decide +kernel
theorem dX8_shortestBetween_17 : decode cX8_shortestBetween 17 = .ok (.iconst 0, 1) := by decide +kernel
theorem dX8_shortestBetween_18 : decode cX8_shortestBetween 18 = .ok (.istore 5, 2) := by decide +kernel
theorem dX8_shortestBetween_20 : decode cX8_shortestBetween 20 = .ok (.iload 5, 2) := by decide +kernel
theorem dX8_shortestBetween_22 : decode cX8_shortestBetween 22 = .ok (.aload_n 0, 1) := by decide +kernel
theorem dX8_shortestBetween_23 : decode cX8_shortestBetween 23 = .ok (.getfield 9, 3) := by decide +kernel
theorem dX8_shortestBetween_26 : decode cX8_shortestBetween 26 = .ok (.if_icmp .ge 32, 3) := by decide +kernel
theorem dX8_shortestBetween_29 : decode cX8_shortestBetween 29 = .ok (.aload_n 0, 1) := by decide +kernel
theorem dX8_shortestBetween_30 : decode cX8_shortestBetween 30 = .ok (.getfield 22, 3) := by decide +kernel
theorem dX8_shortestBetween_33 : decode cX8_shortestBetween 33 = .ok (.iload 5, 2) := by decide +kernel
theorem dX8_shortestBetween_35 : decode cX8_shortestBetween 35 = .ok (.iaload, 1) := by decide +kernel
theorem dX8_shortestBetween_36 : decode cX8_shortestBetween 36 = .ok (.iload_n 3, 1) := by decide +kernel
theorem dX8_shortestBetween_37 : decode cX8_shortestBetween 37 = .ok (.if_icmp .ne 15, 3) := by decide +kernel
theorem dX8_shortestBetween_40 : decode cX8_shortestBetween 40 = .ok (.aload_n 0, 1) := by decide +kernel
theorem dX8_shortestBetween_41 : decode cX8_shortestBetween 41 = .ok (.iload 5, 2) := by decide +kernel
end
section
theorem dX8_shortestBetween_43 : decode cX8_shortestBetween 43 = .ok (.invokevirtual 76, 3) := by decide +kernel
theorem dX8_shortestBetween_46 : decode cX8_shortestBetween 46 = .ok (.ifCond .eq 6, 3) := by decide +kernel
theorem dX8_shortestBetween_49 : decode cX8_shortestBetween 49 = .ok (.iinc 4 1, 3) := by decide +kernel
theorem dX8_shortestBetween_52 : decode cX8_shortestBetween 52 = .ok (.iinc 5 1, 3) := by decide +kernel
theorem dX8_shortestBetween_55 : decode cX8_shortestBetween 55 = .ok (.goto (-35), 3) := by decide +kernel
theorem dX8_shortestBetween_58 : decode cX8_shortestBetween 58 = .ok (.iload 4, 2) := by decide +kernel
theorem dX8_shortestBetween_60 : decode cX8_shortestBetween 60 = .ok (.ireturn, 1) := by decide +kernel
theorem dX8_placeAt_0 : decode cX8_placeAt 0 = .ok (.iload_n 1, 1) := by decide +kernel
theorem dX8_placeAt_1 : decode cX8_placeAt 1 = .ok (.ifCond .lt 38, 3) := by decide +kernel
theorem dX8_placeAt_4 : decode cX8_placeAt 4 = .ok (.iload_n 1, 1) := by decide +kernel
theorem dX8_placeAt_5 : decode cX8_placeAt 5 = .ok (.aload_n 0, 1) := by decide +kernel
theorem dX8_placeAt_6 : decode cX8_placeAt 6 = .ok (.getfield 9, 3) := by decide +kernel
theorem dX8_placeAt_9 : decode cX8_placeAt 9 = .ok (.if_icmp .ge 30, 3) := by decide +kernel
theorem dX8_placeAt_12 : decode cX8_placeAt 12 = .ok (.iload_n 2, 1) := by decide +kernel
theorem dX8_placeAt_13 : decode cX8_placeAt 13 = .ok (.ifCond .lt 26, 3) := by decide +kernel
theorem dX8_placeAt_16 : decode cX8_placeAt 16 = .ok (.iload_n 2, 1) := by decide +kernel
theorem dX8_placeAt_17 : decode cX8_placeAt 17 = .ok (.aload_n 0, 1) := by decide +kernel
theorem dX8_placeAt_18 : decode cX8_placeAt 18 = .ok (.getfield 19, 3) := by decide +kernel
theorem dX8_placeAt_21 : decode cX8_placeAt 21 = .ok (.iload_n 1, 1) := by decide +kernel
theorem dX8_placeAt_22 : decode cX8_placeAt 22 = .ok (.iaload, 1) := by decide +kernel
theorem dX8_placeAt_23 : decode cX8_placeAt 23 = .ok (.if_icmp .ge 16, 3) := by decide +kernel
theorem dX8_placeAt_26 : decode cX8_placeAt 26 = .ok (.aload_n 0, 1) := by decide +kernel
theorem dX8_placeAt_27 : decode cX8_placeAt 27 = .ok (.getfield 15, 3) := by decide +kernel
theorem dX8_placeAt_30 : decode cX8_placeAt 30 = .ok (.iload_n 1, 1) := by decide +kernel
theorem dX8_placeAt_31 : decode cX8_placeAt 31 = .ok (.iconst 5, 1) := by decide +kernel
theorem dX8_placeAt_32 : decode cX8_placeAt 32 = .ok (.imul, 1) := by decide +kernel
theorem dX8_placeAt_33 : decode cX8_placeAt 33 = .ok (.iload_n 2, 1) := by decide +kernel
theorem dX8_placeAt_34 : decode cX8_placeAt 34 = .ok (.iadd, 1) := by decide +kernel
theorem dX8_placeAt_35 : decode cX8_placeAt 35 = .ok (.iaload, 1) := by decide +kernel
theorem dX8_placeAt_36 : decode cX8_placeAt 36 = .ok (.goto 5, 3) := by decide +kernel
theorem dX8_placeAt_39 : decode cX8_placeAt 39 = .ok (.bipush (-9), 2) := by decide +kernel
theorem dX8_placeAt_41 : decode cX8_placeAt 41 = .ok (.ireturn, 1) := by decide +kernel
theorem dX8_wayBy_0 : decode cX8_wayBy 0 = .ok (.iconst 0, 1) := by decide +kernel
theorem dX8_wayBy_1 : decode cX8_wayBy 1 = .ok (.istore_n 2, 1) := by decide +kernel
theorem dX8_wayBy_2 : decode cX8_wayBy 2 = .ok (.iload_n 2, 1) := by decide +kernel
theorem dX8_wayBy_3 : decode cX8_wayBy 3 = .ok (.aload_n 0, 1) := by decide +kernel
theorem dX8_wayBy_4 : decode cX8_wayBy 4 = .ok (.getfield 9, 3) := by decide +kernel
theorem dX8_wayBy_7 : decode cX8_wayBy 7 = .ok (.if_icmp .ge 21, 3) := by decide +kernel
theorem dX8_wayBy_10 : decode cX8_wayBy 10 = .ok (.aload_n 0, 1) := by decide +kernel
theorem dX8_wayBy_11 : decode cX8_wayBy 11 = .ok (.getfield 25, 3) := by decide +kernel
theorem dX8_wayBy_14 : decode cX8_wayBy 14 = .ok (.iload_n 2, 1) := by decide +kernel
theorem dX8_wayBy_15 : decode cX8_wayBy 15 = .ok (.iaload, 1) := by decide +kernel
theorem dX8_wayBy_16 : decode cX8_wayBy 16 = .ok (.iload_n 1, 1) := by decide +kernel
theorem dX8_wayBy_17 : decode cX8_wayBy 17 = .ok (.if_icmp .ne 5, 3) := by decide +kernel
theorem dX8_wayBy_20 : decode cX8_wayBy 20 = .ok (.iload_n 2, 1) := by decide +kernel
theorem dX8_wayBy_21 : decode cX8_wayBy 21 = .ok (.ireturn, 1) := by decide +kernel
theorem dX8_wayBy_22 : decode cX8_wayBy 22 = .ok (.iinc 2 1, 3) := by decide +kernel
theorem dX8_wayBy_25 : decode cX8_wayBy 25 = .ok (.goto (-23), 3) := by decide +kernel
theorem dX8_wayBy_28 : decode cX8_wayBy 28 = .ok (.bipush (-9), 2) := by decide +kernel
theorem dX8_wayBy_30 : decode cX8_wayBy 30 = .ok (.ireturn, 1) := by decide +kernel
theorem dX8_bitBy_0 : decode cX8_bitBy 0 = .ok (.aload_n 0, 1) := by decide +kernel
theorem dX8_bitBy_1 : decode cX8_bitBy 1 = .ok (.iload_n 1, 1) := by decide +kernel
theorem dX8_bitBy_2 : decode cX8_bitBy 2 = .ok (.invokevirtual 80, 3) := by decide +kernel
theorem dX8_bitBy_5 : decode cX8_bitBy 5 = .ok (.istore_n 2, 1) := by decide +kernel
theorem dX8_bitBy_6 : decode cX8_bitBy 6 = .ok (.iload_n 2, 1) := by decide +kernel
theorem dX8_bitBy_7 : decode cX8_bitBy 7 = .ok (.bipush (-9), 2) := by decide +kernel
theorem dX8_bitBy_9 : decode cX8_bitBy 9 = .ok (.if_icmp .ne 7, 3) := by decide +kernel
theorem dX8_bitBy_12 : decode cX8_bitBy 12 = .ok (.lconst 0, 1) := by decide +kernel
theorem dX8_bitBy_13 : decode cX8_bitBy 13 = .ok (.goto 6, 3) := by decide +kernel
theorem dX8_bitBy_16 : decode cX8_bitBy 16 = .ok (.lconst 1, 1) := by decide +kernel
theorem dX8_bitBy_17 : decode cX8_bitBy 17 = .ok (.iload_n 2, 1) := by decide +kernel
theorem dX8_bitBy_18 : decode cX8_bitBy 18 = .ok (.lshl, 1) := by decide +kernel
theorem dX8_bitBy_19 : decode cX8_bitBy 19 = .ok (.lreturn, 1) := by decide +kernel
theorem dX9_init_0 : decode cX9_init 0 = .ok (.aload_n 0, 1) := by decide +kernel
theorem dX9_init_1 : decode cX9_init 1 = .ok (.invokespecial 3, 3) := by decide +kernel
theorem dX9_init_4 : decode cX9_init 4 = .ok (.aload_n 0, 1) := by decide +kernel
theorem dX9_init_5 : decode cX9_init 5 = .ok (.new 9, 3) := by decide +kernel
theorem dX9_init_8 : decode cX9_init 8 = .ok (.dup, 1) := by decide +kernel
theorem dX9_init_9 : decode cX9_init 9 = .ok (.invokespecial 11, 3) := by decide +kernel
theorem dX9_init_12 : decode cX9_init 12 = .ok (.putfield 12, 3) := by decide +kernel
theorem dX9_init_15 : decode cX9_init 15 = .ok (.aload_n 0, 1) := by decide +kernel
theorem dX9_init_16 : decode cX9_init 16 = .ok (.new 16, 3) := by decide +kernel
theorem dX9_init_19 : decode cX9_init 19 = .ok (.dup, 1) := by decide +kernel
theorem dX9_init_20 : decode cX9_init 20 = .ok (.invokespecial 18, 3) := by decide +kernel
theorem dX9_init_23 : decode cX9_init 23 = .ok (.putfield 19, 3) := by decide +kernel
theorem dX9_init_26 : decode cX9_init 26 = .ok (.aload_n 0, 1) := by decide +kernel
theorem dX9_init_27 : decode cX9_init 27 = .ok (.new 16, 3) := by decide +kernel
theorem dX9_init_30 : decode cX9_init 30 = .ok (.dup, 1) := by decide +kernel
theorem dX9_init_31 : decode cX9_init 31 = .ok (.invokespecial 18, 3) := by decide +kernel
theorem dX9_init_34 : decode cX9_init 34 = .ok (.putfield 23, 3) := by decide +kernel
theorem dX9_init_37 : decode cX9_init 37 = .ok (.aload_n 0, 1) := by decide +kernel
theorem dX9_init_38 : decode cX9_init 38 = .ok (.new 26, 3) := by decide +kernel
theorem dX9_init_41 : decode cX9_init 41 = .ok (.dup, 1) := by decide +kernel
theorem dX9_init_42 : decode cX9_init 42 = .ok (.invokespecial 28, 3) := by decide +kernel
theorem dX9_init_45 : decode cX9_init 45 = .ok (.putfield 29, 3) := by decide +kernel
theorem dX9_init_48 : decode cX9_init 48 = .ok (.aload_n 0, 1) := by decide +kernel
theorem dX9_init_49 : decode cX9_init 49 = .ok (.new 26, 3) := by decide +kernel
theorem dX9_init_52 : decode cX9_init 52 = .ok (.dup, 1) := by decide +kernel
theorem dX9_init_53 : decode cX9_init 53 = .ok (.invokespecial 28, 3) := by decide +kernel
theorem dX9_init_56 : decode cX9_init 56 = .ok (.putfield 33, 3) := by decide +kernel
theorem dX9_init_59 : decode cX9_init 59 = .ok (.aload_n 0, 1) := by decide +kernel
theorem dX9_init_60 : decode cX9_init 60 = .ok (.new 36, 3) := by decide +kernel
theorem dX9_init_63 : decode cX9_init 63 = .ok (.dup, 1) := by decide +kernel
theorem dX9_init_64 : decode cX9_init 64 = .ok (.invokespecial 38, 3) := by decide +kernel
theorem dX9_init_67 : decode cX9_init 67 = .ok (.putfield 39, 3) := by decide +kernel
theorem dX9_init_70 : decode cX9_init 70 = .ok (.aload_n 0, 1) := by decide +kernel
theorem dX9_init_71 : decode cX9_init 71 = .ok (.new 43, 3) := by decide +kernel
theorem dX9_init_74 : decode cX9_init 74 = .ok (.dup, 1) := by decide +kernel
theorem dX9_init_75 : decode cX9_init 75 = .ok (.invokespecial 45, 3) := by decide +kernel
theorem dX9_init_78 : decode cX9_init 78 = .ok (.putfield 46, 3) := by decide +kernel
theorem dX9_init_81 : decode cX9_init 81 = .ok (.aload_n 0, 1) := by decide +kernel
theorem dX9_init_82 : decode cX9_init 82 = .ok (.iconst 2, 1) := by decide +kernel
theorem dX9_init_83 : decode cX9_init 83 = .ok (.anewarray 26, 3) := by decide +kernel
theorem dX9_init_86 : decode cX9_init 86 = .ok (.putfield 50, 3) := by decide +kernel
theorem dX9_init_89 : decode cX9_init 89 = .ok (.aload_n 0, 1) := by decide +kernel
theorem dX9_init_90 : decode cX9_init 90 = .ok (.iconst 0, 1) := by decide +kernel
theorem dX9_init_91 : decode cX9_init 91 = .ok (.putfield 54, 3) := by decide +kernel
theorem dX9_init_94 : decode cX9_init 94 = .ok (.aload_n 0, 1) := by decide +kernel
theorem dX9_init_95 : decode cX9_init 95 = .ok (.new 58, 3) := by decide +kernel
theorem dX9_init_98 : decode cX9_init 98 = .ok (.dup, 1) := by decide +kernel
theorem dX9_init_99 : decode cX9_init 99 = .ok (.invokespecial 60, 3) := by decide +kernel
theorem dX9_init_102 : decode cX9_init 102 = .ok (.putfield 61, 3) := by decide +kernel
theorem dX9_init_105 : decode cX9_init 105 = .ok (.aload_n 0, 1) := by decide +kernel
theorem dX9_init_106 : decode cX9_init 106 = .ok (.new 65, 3) := by decide +kernel
theorem dX9_init_109 : decode cX9_init 109 = .ok (.dup, 1) := by decide +kernel
theorem dX9_init_110 : decode cX9_init 110 = .ok (.invokespecial 67, 3) := by decide +kernel
theorem dX9_init_113 : decode cX9_init 113 = .ok (.putfield 68, 3) := by decide +kernel
theorem dX9_init_116 : decode cX9_init 116 = .ok (.aload_n 0, 1) := by decide +kernel
theorem dX9_init_117 : decode cX9_init 117 = .ok (.new 72, 3) := by decide +kernel
theorem dX9_init_120 : decode cX9_init 120 = .ok (.dup, 1) := by decide +kernel
theorem dX9_init_121 : decode cX9_init 121 = .ok (.invokespecial 74, 3) := by decide +kernel
theorem dX9_init_124 : decode cX9_init 124 = .ok (.putfield 75, 3) := by decide +kernel
theorem dX9_init_127 : decode cX9_init 127 = .ok (.aload_n 0, 1) := by decide +kernel
theorem dX9_init_128 : decode cX9_init 128 = .ok (.new 79, 3) := by decide +kernel
theorem dX9_init_131 : decode cX9_init 131 = .ok (.dup, 1) := by decide +kernel
theorem dX9_init_132 : decode cX9_init 132 = .ok (.invokespecial 81, 3) := by decide +kernel
theorem dX9_init_135 : decode cX9_init 135 = .ok (.putfield 82, 3) := by decide +kernel
theorem dX9_init_138 : decode cX9_init 138 = .ok (.aload_n 0, 1) := by decide +kernel
theorem dX9_init_139 : decode cX9_init 139 = .ok (.lconst 0, 1) := by decide +kernel
theorem dX9_init_140 : decode cX9_init 140 = .ok (.putfield 86, 3) := by decide +kernel
theorem dX9_init_143 : decode cX9_init 143 = .ok (.iconst 0, 1) := by decide +kernel
theorem dX9_init_144 : decode cX9_init 144 = .ok (.istore_n 1, 1) := by decide +kernel
theorem dX9_init_145 : decode cX9_init 145 = .ok (.iload_n 1, 1) := by decide +kernel
theorem dX9_init_146 : decode cX9_init 146 = .ok (.iconst 2, 1) := by decide +kernel
theorem dX9_init_147 : decode cX9_init 147 = .ok (.if_icmp .ge 22, 3) := by decide +kernel
theorem dX9_init_150 : decode cX9_init 150 = .ok (.aload_n 0, 1) := by decide +kernel
theorem dX9_init_151 : decode cX9_init 151 = .ok (.getfield 50, 3) := by decide +kernel
theorem dX9_init_154 : decode cX9_init 154 = .ok (.iload_n 1, 1) := by decide +kernel
theorem dX9_init_155 : decode cX9_init 155 = .ok (.new 26, 3) := by decide +kernel
theorem dX9_init_158 : decode cX9_init 158 = .ok (.dup, 1) := by decide +kernel
theorem dX9_init_159 : decode cX9_init 159 = .ok (.invokespecial 28, 3) := by decide +kernel
theorem dX9_init_162 : decode cX9_init 162 = .ok (.aastore, 1) := by decide +kernel
theorem dX9_init_163 : decode cX9_init 163 = .ok (.iinc 1 1, 3) := by decide +kernel
theorem dX9_init_166 : decode cX9_init 166 = .ok (.goto (-21), 3) := by decide +kernel
theorem dX9_init_169 : decode cX9_init 169 = .ok (.return_, 1) := by decide +kernel
theorem dX9_type_0 : decode cX9_type 0 = .ok (.iload_n 1, 1) := by decide +kernel
theorem dX9_type_1 : decode cX9_type 1 = .ok (.ifCond .lt 10, 3) := by decide +kernel
theorem dX9_type_4 : decode cX9_type 4 = .ok (.iload_n 1, 1) := by decide +kernel
theorem dX9_type_5 : decode cX9_type 5 = .ok (.sipush 255, 3) := by decide +kernel
theorem dX9_type_8 : decode cX9_type 8 = .ok (.if_icmp .le 5, 3) := by decide +kernel
theorem dX9_type_11 : decode cX9_type 11 = .ok (.iconst (-1), 1) := by decide +kernel
theorem dX9_type_12 : decode cX9_type 12 = .ok (.ireturn, 1) := by decide +kernel
theorem dX9_type_13 : decode cX9_type 13 = .ok (.aload_n 0, 1) := by decide +kernel
theorem dX9_type_14 : decode cX9_type 14 = .ok (.getfield 12, 3) := by decide +kernel
theorem dX9_type_17 : decode cX9_type 17 = .ok (.iload_n 1, 1) := by decide +kernel
theorem dX9_type_18 : decode cX9_type 18 = .ok (.invokevirtual 90, 3) := by decide +kernel
theorem dX9_type_21 : decode cX9_type 21 = .ok (.ifCond .eq 13, 3) := by decide +kernel
theorem dX9_type_24 : decode cX9_type 24 = .ok (.aload_n 0, 1) := by decide +kernel
theorem dX9_type_25 : decode cX9_type 25 = .ok (.getfield 12, 3) := by decide +kernel
theorem dX9_type_28 : decode cX9_type 28 = .ok (.getfield 94, 3) := by decide +kernel
theorem dX9_type_31 : decode cX9_type 31 = .ok (.goto 5, 3) := by decide +kernel
theorem dX9_type_34 : decode cX9_type 34 = .ok (.bipush (-3), 2) := by decide +kernel
theorem dX9_type_36 : decode cX9_type 36 = .ok (.ireturn, 1) := by decide +kernel
theorem dX9_clear_0 : decode cX9_clear 0 = .ok (.aload_n 0, 1) := by decide +kernel
theorem dX9_clear_1 : decode cX9_clear 1 = .ok (.getfield 12, 3) := by decide +kernel
theorem dX9_clear_4 : decode cX9_clear 4 = .ok (.invokevirtual 97, 3) := by decide +kernel
theorem dX9_clear_7 : decode cX9_clear 7 = .ok (.ireturn, 1) := by decide +kernel
theorem dX9_land_0 : decode cX9_land 0 = .ok (.aload_n 0, 1) := by decide +kernel
theorem dX9_land_1 : decode cX9_land 1 = .ok (.getfield 23, 3) := by decide +kernel
theorem dX9_land_4 : decode cX9_land 4 = .ok (.invokevirtual 101, 3) := by decide +kernel
theorem dX9_land_7 : decode cX9_land 7 = .ok (.aload_n 0, 1) := by decide +kernel
theorem dX9_land_8 : decode cX9_land 8 = .ok (.getfield 33, 3) := by decide +kernel
theorem dX9_land_11 : decode cX9_land 11 = .ok (.invokevirtual 103, 3) := by decide +kernel
theorem dX9_land_14 : decode cX9_land 14 = .ok (.aload_n 0, 1) := by decide +kernel
theorem dX9_land_15 : decode cX9_land 15 = .ok (.getfield 12, 3) := by decide +kernel
theorem dX9_land_18 : decode cX9_land 18 = .ok (.aload_n 0, 1) := by decide +kernel
theorem dX9_land_19 : decode cX9_land 19 = .ok (.getfield 23, 3) := by decide +kernel
theorem dX9_land_22 : decode cX9_land 22 = .ok (.aload_n 0, 1) := by decide +kernel
theorem dX9_land_23 : decode cX9_land 23 = .ok (.getfield 33, 3) := by decide +kernel
theorem dX9_land_26 : decode cX9_land 26 = .ok (.invokevirtual 104, 3) := by decide +kernel
theorem dX9_land_29 : decode cX9_land 29 = .ok (.istore_n 1, 1) := by decide +kernel
theorem dX9_land_30 : decode cX9_land 30 = .ok (.iload_n 1, 1) := by decide +kernel
theorem dX9_land_31 : decode cX9_land 31 = .ok (.ifCond .ge 5, 3) := by decide +kernel
theorem dX9_land_34 : decode cX9_land 34 = .ok (.iload_n 1, 1) := by decide +kernel
theorem dX9_land_35 : decode cX9_land 35 = .ok (.ireturn, 1) := by decide +kernel
theorem dX9_land_36 : decode cX9_land 36 = .ok (.aload_n 0, 1) := by decide +kernel
theorem dX9_land_37 : decode cX9_land 37 = .ok (.getfield 12, 3) := by decide +kernel
theorem dX9_land_40 : decode cX9_land 40 = .ok (.invokevirtual 97, 3) := by decide +kernel
theorem dX9_land_43 : decode cX9_land 43 = .ok (.pop, 1) := by decide +kernel
theorem dX9_land_44 : decode cX9_land 44 = .ok (.aload_n 0, 1) := by decide +kernel
theorem dX9_land_45 : decode cX9_land 45 = .ok (.getfield 19, 3) := by decide +kernel
theorem dX9_land_48 : decode cX9_land 48 = .ok (.astore_n 2, 1) := by decide +kernel
theorem dX9_land_49 : decode cX9_land 49 = .ok (.aload_n 0, 1) := by decide +kernel
theorem dX9_land_50 : decode cX9_land 50 = .ok (.aload_n 0, 1) := by decide +kernel
theorem dX9_land_51 : decode cX9_land 51 = .ok (.getfield 23, 3) := by decide +kernel
theorem dX9_land_54 : decode cX9_land 54 = .ok (.putfield 19, 3) := by decide +kernel
theorem dX9_land_57 : decode cX9_land 57 = .ok (.aload_n 0, 1) := by decide +kernel
theorem dX9_land_58 : decode cX9_land 58 = .ok (.aload_n 2, 1) := by decide +kernel
theorem dX9_land_59 : decode cX9_land 59 = .ok (.putfield 23, 3) := by decide +kernel
theorem dX9_land_62 : decode cX9_land 62 = .ok (.aload_n 0, 1) := by decide +kernel
theorem dX9_land_63 : decode cX9_land 63 = .ok (.getfield 39, 3) := by decide +kernel
theorem dX9_land_66 : decode cX9_land 66 = .ok (.aload_n 0, 1) := by decide +kernel
theorem dX9_land_67 : decode cX9_land 67 = .ok (.getfield 19, 3) := by decide +kernel
theorem dX9_land_70 : decode cX9_land 70 = .ok (.invokevirtual 108, 3) := by decide +kernel
theorem dX9_land_73 : decode cX9_land 73 = .ok (.aload_n 0, 1) := by decide +kernel
theorem dX9_land_74 : decode cX9_land 74 = .ok (.getfield 29, 3) := by decide +kernel
theorem dX9_land_77 : decode cX9_land 77 = .ok (.aload_n 0, 1) := by decide +kernel
theorem dX9_land_78 : decode cX9_land 78 = .ok (.getfield 33, 3) := by decide +kernel
theorem dX9_land_81 : decode cX9_land 81 = .ok (.invokevirtual 112, 3) := by decide +kernel
theorem dX9_land_84 : decode cX9_land 84 = .ok (.aload_n 0, 1) := by decide +kernel
theorem dX9_land_85 : decode cX9_land 85 = .ok (.getfield 46, 3) := by decide +kernel
theorem dX9_land_88 : decode cX9_land 88 = .ok (.invokevirtual 116, 3) := by decide +kernel
theorem dX9_land_91 : decode cX9_land 91 = .ok (.aload_n 0, 1) := by decide +kernel
theorem dX9_land_92 : decode cX9_land 92 = .ok (.iconst 0, 1) := by decide +kernel
theorem dX9_land_93 : decode cX9_land 93 = .ok (.putfield 54, 3) := by decide +kernel
theorem dX9_land_96 : decode cX9_land 96 = .ok (.aload_n 0, 1) := by decide +kernel
theorem dX9_land_97 : decode cX9_land 97 = .ok (.getfield 82, 3) := by decide +kernel
theorem dX9_land_100 : decode cX9_land 100 = .ok (.invokevirtual 117, 3) := by decide +kernel
theorem dX9_land_103 : decode cX9_land 103 = .ok (.pop, 1) := by decide +kernel
theorem dX9_land_104 : decode cX9_land 104 = .ok (.aload_n 0, 1) := by decide +kernel
theorem dX9_land_105 : decode cX9_land 105 = .ok (.invokevirtual 118, 3) := by decide +kernel
theorem dX9_land_108 : decode cX9_land 108 = .ok (.iload_n 1, 1) := by decide +kernel
theorem dX9_land_109 : decode cX9_land 109 = .ok (.ireturn, 1) := by decide +kernel
theorem dX9_lane_0 : decode cX9_lane 0 = .ok (.aload_n 0, 1) := by decide +kernel
theorem dX9_lane_1 : decode cX9_lane 1 = .ok (.iload_n 1, 1) := by decide +kernel
theorem dX9_lane_2 : decode cX9_lane 2 = .ok (.invokevirtual 121, 3) := by decide +kernel
theorem dX9_lane_5 : decode cX9_lane 5 = .ok (.ifCond .ne 5, 3) := by decide +kernel
theorem dX9_lane_8 : decode cX9_lane 8 = .ok (.iconst (-1), 1) := by decide +kernel
theorem dX9_lane_9 : decode cX9_lane 9 = .ok (.ireturn, 1) := by decide +kernel
theorem dX9_lane_10 : decode cX9_lane 10 = .ok (.iload_n 2, 1) := by decide +kernel
theorem dX9_lane_11 : decode cX9_lane 11 = .ok (.tableswitch 79 0 4 #[33, 43, 53, 63, 73], 33) := by decide +kernel
theorem dX9_lane_44 : decode cX9_lane 44 = .ok (.aload_n 0, 1) := by decide +kernel
theorem dX9_lane_45 : decode cX9_lane 45 = .ok (.getfield 19, 3) := by decide +kernel
theorem dX9_lane_48 : decode cX9_lane 48 = .ok (.getfield 124, 3) := by decide +kernel
theorem dX9_lane_51 : decode cX9_lane 51 = .ok (.iload_n 1, 1) := by decide +kernel
theorem dX9_lane_52 : decode cX9_lane 52 = .ok (.iaload, 1) := by decide +kernel
theorem dX9_lane_53 : decode cX9_lane 53 = .ok (.ireturn, 1) := by decide +kernel
theorem dX9_lane_54 : decode cX9_lane 54 = .ok (.aload_n 0, 1) := by decide +kernel
theorem dX9_lane_55 : decode cX9_lane 55 = .ok (.getfield 19, 3) := by decide +kernel
theorem dX9_lane_58 : decode cX9_lane 58 = .ok (.getfield 128, 3) := by decide +kernel
theorem dX9_lane_61 : decode cX9_lane 61 = .ok (.iload_n 1, 1) := by decide +kernel
theorem dX9_lane_62 : decode cX9_lane 62 = .ok (.iaload, 1) := by decide +kernel
theorem dX9_lane_63 : decode cX9_lane 63 = .ok (.ireturn, 1) := by decide +kernel
theorem dX9_lane_64 : decode cX9_lane 64 = .ok (.aload_n 0, 1) := by decide +kernel
theorem dX9_lane_65 : decode cX9_lane 65 = .ok (.getfield 29, 3) := by decide +kernel
theorem dX9_lane_68 : decode cX9_lane 68 = .ok (.getfield 131, 3) := by decide +kernel
theorem dX9_lane_71 : decode cX9_lane 71 = .ok (.iload_n 1, 1) := by decide +kernel
theorem dX9_lane_72 : decode cX9_lane 72 = .ok (.iaload, 1) := by decide +kernel
theorem dX9_lane_73 : decode cX9_lane 73 = .ok (.ireturn, 1) := by decide +kernel
theorem dX9_lane_74 : decode cX9_lane 74 = .ok (.aload_n 0, 1) := by decide +kernel
theorem dX9_lane_75 : decode cX9_lane 75 = .ok (.getfield 19, 3) := by decide +kernel
theorem dX9_lane_78 : decode cX9_lane 78 = .ok (.getfield 134, 3) := by decide +kernel
theorem dX9_lane_81 : decode cX9_lane 81 = .ok (.iload_n 1, 1) := by decide +kernel
theorem dX9_lane_82 : decode cX9_lane 82 = .ok (.iaload, 1) := by decide +kernel
theorem dX9_lane_83 : decode cX9_lane 83 = .ok (.ireturn, 1) := by decide +kernel
theorem dX9_lane_84 : decode cX9_lane 84 = .ok (.aload_n 0, 1) := by decide +kernel
theorem dX9_lane_85 : decode cX9_lane 85 = .ok (.iload_n 1, 1) := by decide +kernel
theorem dX9_lane_86 : decode cX9_lane 86 = .ok (.invokevirtual 137, 3) := by decide +kernel
theorem dX9_lane_89 : decode cX9_lane 89 = .ok (.ireturn, 1) := by decide +kernel
theorem dX9_lane_90 : decode cX9_lane 90 = .ok (.iconst (-1), 1) := by decide +kernel
theorem dX9_lane_91 : decode cX9_lane 91 = .ok (.ireturn, 1) := by decide +kernel
theorem dX9_map_0 : decode cX9_map 0 = .ok (.aload_n 0, 1) := by decide +kernel
theorem dX9_map_1 : decode cX9_map 1 = .ok (.iload_n 1, 1) := by decide +kernel
theorem dX9_map_2 : decode cX9_map 2 = .ok (.invokevirtual 141, 3) := by decide +kernel
theorem dX9_map_5 : decode cX9_map 5 = .ok (.ifCond .ne 5, 3) := by decide +kernel
theorem dX9_map_8 : decode cX9_map 8 = .ok (.iconst (-1), 1) := by decide +kernel
theorem dX9_map_9 : decode cX9_map 9 = .ok (.ireturn, 1) := by decide +kernel
theorem dX9_map_10 : decode cX9_map 10 = .ok (.iload_n 2, 1) := by decide +kernel
theorem dX9_map_11 : decode cX9_map 11 = .ok (.tableswitch 71 0 2 #[25, 35, 62], 25) := by decide +kernel
theorem dX9_map_36 : decode cX9_map 36 = .ok (.aload_n 0, 1) := by decide +kernel
theorem dX9_map_37 : decode cX9_map 37 = .ok (.getfield 29, 3) := by decide +kernel
theorem dX9_map_40 : decode cX9_map 40 = .ok (.getfield 144, 3) := by decide +kernel
theorem dX9_map_43 : decode cX9_map 43 = .ok (.iload_n 1, 1) := by decide +kernel
theorem dX9_map_44 : decode cX9_map 44 = .ok (.iaload, 1) := by decide +kernel
theorem dX9_map_45 : decode cX9_map 45 = .ok (.ireturn, 1) := by decide +kernel
theorem dX9_map_46 : decode cX9_map 46 = .ok (.aload_n 0, 1) := by decide +kernel
theorem dX9_map_47 : decode cX9_map 47 = .ok (.getfield 19, 3) := by decide +kernel
theorem dX9_map_50 : decode cX9_map 50 = .ok (.aload_n 0, 1) := by decide +kernel
theorem dX9_map_51 : decode cX9_map 51 = .ok (.getfield 29, 3) := by decide +kernel
theorem dX9_map_54 : decode cX9_map 54 = .ok (.aload_n 0, 1) := by decide +kernel
theorem dX9_map_55 : decode cX9_map 55 = .ok (.getfield 19, 3) := by decide +kernel
theorem dX9_map_58 : decode cX9_map 58 = .ok (.iload_n 1, 1) := by decide +kernel
theorem dX9_map_59 : decode cX9_map 59 = .ok (.invokevirtual 147, 3) := by decide +kernel
theorem dX9_map_62 : decode cX9_map 62 = .ok (.aload_n 0, 1) := by decide +kernel
theorem dX9_map_63 : decode cX9_map 63 = .ok (.getfield 29, 3) := by decide +kernel
theorem dX9_map_66 : decode cX9_map 66 = .ok (.getfield 131, 3) := by decide +kernel
theorem dX9_map_69 : decode cX9_map 69 = .ok (.invokevirtual 151, 3) := by decide +kernel
theorem dX9_map_72 : decode cX9_map 72 = .ok (.ireturn, 1) := by decide +kernel
theorem dX9_map_73 : decode cX9_map 73 = .ok (.aload_n 0, 1) := by decide +kernel
theorem dX9_map_74 : decode cX9_map 74 = .ok (.invokevirtual 155, 3) := by decide +kernel
theorem dX9_map_77 : decode cX9_map 77 = .ok (.iload_n 1, 1) := by decide +kernel
theorem dX9_map_78 : decode cX9_map 78 = .ok (.ishr, 1) := by decide +kernel
theorem dX9_map_79 : decode cX9_map 79 = .ok (.iconst 1, 1) := by decide +kernel
theorem dX9_map_80 : decode cX9_map 80 = .ok (.iand, 1) := by decide +kernel
theorem dX9_map_81 : decode cX9_map 81 = .ok (.ireturn, 1) := by decide +kernel
theorem dX9_map_82 : decode cX9_map 82 = .ok (.iconst (-1), 1) := by decide +kernel
theorem dX9_map_83 : decode cX9_map 83 = .ok (.ireturn, 1) := by decide +kernel
theorem dX9_place_0 : decode cX9_place 0 = .ok (.iload_n 1, 1) := by decide +kernel
theorem dX9_place_1 : decode cX9_place 1 = .ok (.iconst (-1), 1) := by decide +kernel
theorem dX9_place_2 : decode cX9_place 2 = .ok (.if_icmp .eq 11, 3) := by decide +kernel
theorem dX9_place_5 : decode cX9_place 5 = .ok (.aload_n 0, 1) := by decide +kernel
theorem dX9_place_6 : decode cX9_place 6 = .ok (.iload_n 1, 1) := by decide +kernel
theorem dX9_place_7 : decode cX9_place 7 = .ok (.invokevirtual 141, 3) := by decide +kernel
theorem dX9_place_10 : decode cX9_place 10 = .ok (.ifCond .eq 12, 3) := by decide +kernel
theorem dX9_place_13 : decode cX9_place 13 = .ok (.iload_n 2, 1) := by decide +kernel
theorem dX9_place_14 : decode cX9_place 14 = .ok (.ifCond .lt 8, 3) := by decide +kernel
theorem dX9_place_17 : decode cX9_place 17 = .ok (.iload_n 2, 1) := by decide +kernel
theorem dX9_place_18 : decode cX9_place 18 = .ok (.iconst 5, 1) := by decide +kernel
theorem dX9_place_19 : decode cX9_place 19 = .ok (.if_icmp .lt 5, 3) := by decide +kernel
theorem dX9_place_22 : decode cX9_place 22 = .ok (.iconst (-1), 1) := by decide +kernel
theorem dX9_place_23 : decode cX9_place 23 = .ok (.ireturn, 1) := by decide +kernel
theorem dX9_place_24 : decode cX9_place 24 = .ok (.aload_n 0, 1) := by decide +kernel
theorem dX9_place_25 : decode cX9_place 25 = .ok (.getfield 29, 3) := by decide +kernel
theorem dX9_place_28 : decode cX9_place 28 = .ok (.iload_n 1, 1) := by decide +kernel
theorem dX9_place_29 : decode cX9_place 29 = .ok (.iconst (-1), 1) := by decide +kernel
theorem dX9_place_30 : decode cX9_place 30 = .ok (.if_icmp .ne 7, 3) := by decide +kernel
theorem dX9_place_33 : decode cX9_place 33 = .ok (.iconst 4, 1) := by decide +kernel
theorem dX9_place_34 : decode cX9_place 34 = .ok (.goto 4, 3) := by decide +kernel
theorem dX9_place_37 : decode cX9_place 37 = .ok (.iload_n 1, 1) := by decide +kernel
theorem dX9_place_38 : decode cX9_place 38 = .ok (.iload_n 2, 1) := by decide +kernel
theorem dX9_place_39 : decode cX9_place 39 = .ok (.invokevirtual 158, 3) := by decide +kernel
theorem dX9_place_42 : decode cX9_place 42 = .ok (.ireturn, 1) := by decide +kernel
theorem dX9_now_0 : decode cX9_now 0 = .ok (.iload_n 1, 1) := by decide +kernel
theorem dX9_now_1 : decode cX9_now 1 = .ok (.tableswitch 62 0 3 #[31, 36, 46, 54], 31) := by decide +kernel
theorem dX9_now_32 : decode cX9_now 32 = .ok (.aload_n 0, 1) := by decide +kernel
theorem dX9_now_33 : decode cX9_now 33 = .ok (.invokevirtual 155, 3) := by decide +kernel
theorem dX9_now_36 : decode cX9_now 36 = .ok (.ireturn, 1) := by decide +kernel
theorem dX9_now_37 : decode cX9_now 37 = .ok (.aload_n 0, 1) := by decide +kernel
theorem dX9_now_38 : decode cX9_now 38 = .ok (.getfield 29, 3) := by decide +kernel
theorem dX9_now_41 : decode cX9_now 41 = .ok (.getfield 144, 3) := by decide +kernel
theorem dX9_now_44 : decode cX9_now 44 = .ok (.iconst 4, 1) := by decide +kernel
theorem dX9_now_45 : decode cX9_now 45 = .ok (.iaload, 1) := by decide +kernel
theorem dX9_now_46 : decode cX9_now 46 = .ok (.ireturn, 1) := by decide +kernel
theorem dX9_now_47 : decode cX9_now 47 = .ok (.aload_n 0, 1) := by decide +kernel
theorem dX9_now_48 : decode cX9_now 48 = .ok (.getfield 29, 3) := by decide +kernel
theorem dX9_now_51 : decode cX9_now 51 = .ok (.getfield 162, 3) := by decide +kernel
theorem dX9_now_54 : decode cX9_now 54 = .ok (.ireturn, 1) := by decide +kernel
theorem dX9_now_55 : decode cX9_now 55 = .ok (.aload_n 0, 1) := by decide +kernel
theorem dX9_now_56 : decode cX9_now 56 = .ok (.getfield 46, 3) := by decide +kernel
theorem dX9_now_59 : decode cX9_now 59 = .ok (.getfield 165, 3) := by decide +kernel
theorem dX9_now_62 : decode cX9_now 62 = .ok (.ireturn, 1) := by decide +kernel
theorem dX9_now_63 : decode cX9_now 63 = .ok (.iconst (-1), 1) := by decide +kernel
theorem dX9_now_64 : decode cX9_now 64 = .ok (.ireturn, 1) := by decide +kernel
theorem dX9_isPlace_0 : decode cX9_isPlace 0 = .ok (.iload_n 1, 1) := by decide +kernel
theorem dX9_isPlace_1 : decode cX9_isPlace 1 = .ok (.ifCond .lt 18, 3) := by decide +kernel
theorem dX9_isPlace_4 : decode cX9_isPlace 4 = .ok (.iload_n 1, 1) := by decide +kernel
theorem dX9_isPlace_5 : decode cX9_isPlace 5 = .ok (.aload_n 0, 1) := by decide +kernel
theorem dX9_isPlace_6 : decode cX9_isPlace 6 = .ok (.getfield 19, 3) := by decide +kernel
theorem dX9_isPlace_9 : decode cX9_isPlace 9 = .ok (.getfield 168, 3) := by decide +kernel
theorem dX9_isPlace_12 : decode cX9_isPlace 12 = .ok (.if_icmp .ge 7, 3) := by decide +kernel
theorem dX9_isPlace_15 : decode cX9_isPlace 15 = .ok (.iconst 1, 1) := by decide +kernel
theorem dX9_isPlace_16 : decode cX9_isPlace 16 = .ok (.goto 4, 3) := by decide +kernel
theorem dX9_isPlace_19 : decode cX9_isPlace 19 = .ok (.iconst 0, 1) := by decide +kernel
theorem dX9_isPlace_20 : decode cX9_isPlace 20 = .ok (.ireturn, 1) := by decide +kernel
theorem dX9_isLane_0 : decode cX9_isLane 0 = .ok (.iload_n 1, 1) := by decide +kernel
theorem dX9_isLane_1 : decode cX9_isLane 1 = .ok (.ifCond .lt 18, 3) := by decide +kernel
theorem dX9_isLane_4 : decode cX9_isLane 4 = .ok (.iload_n 1, 1) := by decide +kernel
theorem dX9_isLane_5 : decode cX9_isLane 5 = .ok (.aload_n 0, 1) := by decide +kernel
theorem dX9_isLane_6 : decode cX9_isLane 6 = .ok (.getfield 19, 3) := by decide +kernel
theorem dX9_isLane_9 : decode cX9_isLane 9 = .ok (.getfield 171, 3) := by decide +kernel
theorem dX9_isLane_12 : decode cX9_isLane 12 = .ok (.if_icmp .ge 7, 3) := by decide +kernel
theorem dX9_isLane_15 : decode cX9_isLane 15 = .ok (.iconst 1, 1) := by decide +kernel
theorem dX9_isLane_16 : decode cX9_isLane 16 = .ok (.goto 4, 3) := by decide +kernel
theorem dX9_isLane_19 : decode cX9_isLane 19 = .ok (.iconst 0, 1) := by decide +kernel
theorem dX9_isLane_20 : decode cX9_isLane 20 = .ok (.ireturn, 1) := by decide +kernel
theorem dX9_isMap_0 : decode cX9_isMap 0 = .ok (.iload_n 1, 1) := by decide +kernel
theorem dX9_isMap_1 : decode cX9_isMap 1 = .ok (.ifCond .lt 18, 3) := by decide +kernel
theorem dX9_isMap_4 : decode cX9_isMap 4 = .ok (.iload_n 1, 1) := by decide +kernel
theorem dX9_isMap_5 : decode cX9_isMap 5 = .ok (.aload_n 0, 1) := by decide +kernel
theorem dX9_isMap_6 : decode cX9_isMap 6 = .ok (.getfield 29, 3) := by decide +kernel
theorem dX9_isMap_9 : decode cX9_isMap 9 = .ok (.getfield 174, 3) := by decide +kernel
theorem dX9_isMap_12 : decode cX9_isMap 12 = .ok (.if_icmp .ge 7, 3) := by decide +kernel
theorem dX9_isMap_15 : decode cX9_isMap 15 = .ok (.iconst 1, 1) := by decide +kernel
theorem dX9_isMap_16 : decode cX9_isMap 16 = .ok (.goto 4, 3) := by decide +kernel
theorem dX9_isMap_19 : decode cX9_isMap 19 = .ok (.iconst 0, 1) := by decide +kernel
theorem dX9_isMap_20 : decode cX9_isMap 20 = .ok (.ireturn, 1) := by decide +kernel
theorem dX9_mapsBy_0 : decode cX9_mapsBy 0 = .ok (.iconst 0, 1) := by decide +kernel
theorem dX9_mapsBy_1 : decode cX9_mapsBy 1 = .ok (.istore_n 2, 1) := by decide +kernel
theorem dX9_mapsBy_2 : decode cX9_mapsBy 2 = .ok (.iconst 0, 1) := by decide +kernel
theorem dX9_mapsBy_3 : decode cX9_mapsBy 3 = .ok (.istore_n 3, 1) := by decide +kernel
theorem dX9_mapsBy_4 : decode cX9_mapsBy 4 = .ok (.iload_n 3, 1) := by decide +kernel
theorem dX9_mapsBy_5 : decode cX9_mapsBy 5 = .ok (.aload_n 0, 1) := by decide +kernel
theorem dX9_mapsBy_6 : decode cX9_mapsBy 6 = .ok (.getfield 29, 3) := by decide +kernel
theorem dX9_mapsBy_9 : decode cX9_mapsBy 9 = .ok (.getfield 174, 3) := by decide +kernel
theorem dX9_mapsBy_12 : decode cX9_mapsBy 12 = .ok (.if_icmp .ge 28, 3) := by decide +kernel
theorem dX9_mapsBy_15 : decode cX9_mapsBy 15 = .ok (.iload_n 2, 1) := by decide +kernel
theorem dX9_mapsBy_16 : decode cX9_mapsBy 16 = .ok (.aload_n 0, 1) := by decide +kernel
theorem dX9_mapsBy_17 : decode cX9_mapsBy 17 = .ok (.getfield 29, 3) := by decide +kernel
theorem dX9_mapsBy_20 : decode cX9_mapsBy 20 = .ok (.aload_n 0, 1) := by decide +kernel
theorem dX9_mapsBy_21 : decode cX9_mapsBy 21 = .ok (.getfield 19, 3) := by decide +kernel
theorem dX9_mapsBy_24 : decode cX9_mapsBy 24 = .ok (.iload_n 3, 1) := by decide +kernel
theorem dX9_mapsBy_25 : decode cX9_mapsBy 25 = .ok (.invokevirtual 147, 3) := by decide +kernel
theorem dX9_mapsBy_28 : decode cX9_mapsBy 28 = .ok (.iload_n 1, 1) := by decide +kernel
theorem dX9_mapsBy_29 : decode cX9_mapsBy 29 = .ok (.ishr, 1) := by decide +kernel
theorem dX9_mapsBy_30 : decode cX9_mapsBy 30 = .ok (.iconst 1, 1) := by decide +kernel
theorem dX9_mapsBy_31 : decode cX9_mapsBy 31 = .ok (.iand, 1) := by decide +kernel
theorem dX9_mapsBy_32 : decode cX9_mapsBy 32 = .ok (.iadd, 1) := by decide +kernel
theorem dX9_mapsBy_33 : decode cX9_mapsBy 33 = .ok (.istore_n 2, 1) := by decide +kernel
theorem dX9_mapsBy_34 : decode cX9_mapsBy 34 = .ok (.iinc 3 1, 3) := by decide +kernel
theorem dX9_mapsBy_37 : decode cX9_mapsBy 37 = .ok (.goto (-33), 3) := by decide +kernel
theorem dX9_mapsBy_40 : decode cX9_mapsBy 40 = .ok (.iload_n 2, 1) := by decide +kernel
theorem dX9_mapsBy_41 : decode cX9_mapsBy 41 = .ok (.ireturn, 1) := by decide +kernel
theorem dX9_heldMaps_0 : decode cX9_heldMaps 0 = .ok (.aload_n 0, 1) := by decide +kernel
theorem dX9_heldMaps_1 : decode cX9_heldMaps 1 = .ok (.getfield 39, 3) := by decide +kernel
theorem dX9_heldMaps_4 : decode cX9_heldMaps 4 = .ok (.aload_n 0, 1) := by decide +kernel
theorem dX9_heldMaps_5 : decode cX9_heldMaps 5 = .ok (.getfield 19, 3) := by decide +kernel
theorem dX9_heldMaps_8 : decode cX9_heldMaps 8 = .ok (.aload_n 0, 1) := by decide +kernel
theorem dX9_heldMaps_9 : decode cX9_heldMaps 9 = .ok (.getfield 29, 3) := by decide +kernel
theorem dX9_heldMaps_12 : decode cX9_heldMaps 12 = .ok (.getfield 131, 3) := by decide +kernel
theorem dX9_heldMaps_15 : decode cX9_heldMaps 15 = .ok (.invokevirtual 177, 3) := by decide +kernel
theorem dX9_heldMaps_18 : decode cX9_heldMaps 18 = .ok (.iconst 0, 1) := by decide +kernel
theorem dX9_heldMaps_19 : decode cX9_heldMaps 19 = .ok (.istore_n 1, 1) := by decide +kernel
theorem dX9_heldMaps_20 : decode cX9_heldMaps 20 = .ok (.iconst 0, 1) := by decide +kernel
theorem dX9_heldMaps_21 : decode cX9_heldMaps 21 = .ok (.istore_n 2, 1) := by decide +kernel
theorem dX9_heldMaps_22 : decode cX9_heldMaps 22 = .ok (.iload_n 2, 1) := by decide +kernel
theorem dX9_heldMaps_23 : decode cX9_heldMaps 23 = .ok (.aload_n 0, 1) := by decide +kernel
theorem dX9_heldMaps_24 : decode cX9_heldMaps 24 = .ok (.getfield 29, 3) := by decide +kernel
theorem dX9_heldMaps_27 : decode cX9_heldMaps 27 = .ok (.getfield 174, 3) := by decide +kernel
theorem dX9_heldMaps_30 : decode cX9_heldMaps 30 = .ok (.if_icmp .ge 44, 3) := by decide +kernel
theorem dX9_heldMaps_33 : decode cX9_heldMaps 33 = .ok (.aload_n 0, 1) := by decide +kernel
theorem dX9_heldMaps_34 : decode cX9_heldMaps 34 = .ok (.getfield 39, 3) := by decide +kernel
theorem dX9_heldMaps_37 : decode cX9_heldMaps 37 = .ok (.aload_n 0, 1) := by decide +kernel
theorem dX9_heldMaps_38 : decode cX9_heldMaps 38 = .ok (.getfield 39, 3) := by decide +kernel
theorem dX9_heldMaps_41 : decode cX9_heldMaps 41 = .ok (.aload_n 0, 1) := by decide +kernel
theorem dX9_heldMaps_42 : decode cX9_heldMaps 42 = .ok (.getfield 29, 3) := by decide +kernel
theorem dX9_heldMaps_45 : decode cX9_heldMaps 45 = .ok (.aload_n 0, 1) := by decide +kernel
theorem dX9_heldMaps_46 : decode cX9_heldMaps 46 = .ok (.getfield 19, 3) := by decide +kernel
theorem dX9_heldMaps_49 : decode cX9_heldMaps 49 = .ok (.iload_n 2, 1) := by decide +kernel
theorem dX9_heldMaps_50 : decode cX9_heldMaps 50 = .ok (.invokevirtual 147, 3) := by decide +kernel
theorem dX9_heldMaps_53 : decode cX9_heldMaps 53 = .ok (.invokevirtual 181, 3) := by decide +kernel
theorem dX9_heldMaps_56 : decode cX9_heldMaps 56 = .ok (.invokevirtual 184, 3) := by decide +kernel
theorem dX9_heldMaps_59 : decode cX9_heldMaps 59 = .ok (.ifCond .eq 9, 3) := by decide +kernel
theorem dX9_heldMaps_62 : decode cX9_heldMaps 62 = .ok (.iload_n 1, 1) := by decide +kernel
theorem dX9_heldMaps_63 : decode cX9_heldMaps 63 = .ok (.iconst 1, 1) := by decide +kernel
theorem dX9_heldMaps_64 : decode cX9_heldMaps 64 = .ok (.iload_n 2, 1) := by decide +kernel
theorem dX9_heldMaps_65 : decode cX9_heldMaps 65 = .ok (.ishl, 1) := by decide +kernel
theorem dX9_heldMaps_66 : decode cX9_heldMaps 66 = .ok (.ior, 1) := by decide +kernel
theorem dX9_heldMaps_67 : decode cX9_heldMaps 67 = .ok (.istore_n 1, 1) := by decide +kernel
theorem dX9_heldMaps_68 : decode cX9_heldMaps 68 = .ok (.iinc 2 1, 3) := by decide +kernel
theorem dX9_heldMaps_71 : decode cX9_heldMaps 71 = .ok (.goto (-49), 3) := by decide +kernel
theorem dX9_heldMaps_74 : decode cX9_heldMaps 74 = .ok (.iload_n 1, 1) := by decide +kernel
theorem dX9_heldMaps_75 : decode cX9_heldMaps 75 = .ok (.ireturn, 1) := by decide +kernel
theorem dX9_names_0 : decode cX9_names 0 = .ok (.aload_n 0, 1) := by decide +kernel
theorem dX9_names_1 : decode cX9_names 1 = .ok (.iload_n 1, 1) := by decide +kernel
theorem dX9_names_2 : decode cX9_names 2 = .ok (.invokevirtual 187, 3) := by decide +kernel
theorem dX9_names_5 : decode cX9_names 5 = .ok (.ifCond .ne 5, 3) := by decide +kernel
theorem dX9_names_8 : decode cX9_names 8 = .ok (.iconst (-1), 1) := by decide +kernel
theorem dX9_names_9 : decode cX9_names 9 = .ok (.ireturn, 1) := by decide +kernel
theorem dX9_names_10 : decode cX9_names 10 = .ok (.aload_n 0, 1) := by decide +kernel
theorem dX9_names_11 : decode cX9_names 11 = .ok (.getfield 29, 3) := by decide +kernel
theorem dX9_names_14 : decode cX9_names 14 = .ok (.aload_n 0, 1) := by decide +kernel
theorem dX9_names_15 : decode cX9_names 15 = .ok (.getfield 19, 3) := by decide +kernel
theorem dX9_names_18 : decode cX9_names 18 = .ok (.iconst 4, 1) := by decide +kernel
theorem dX9_names_19 : decode cX9_names 19 = .ok (.iload_n 1, 1) := by decide +kernel
theorem dX9_names_20 : decode cX9_names 20 = .ok (.invokevirtual 190, 3) := by decide +kernel
theorem dX9_names_23 : decode cX9_names 23 = .ok (.ifCond .ne 6, 3) := by decide +kernel
theorem dX9_names_26 : decode cX9_names 26 = .ok (.bipush (-2), 2) := by decide +kernel
theorem dX9_names_28 : decode cX9_names 28 = .ok (.ireturn, 1) := by decide +kernel
theorem dX9_names_29 : decode cX9_names 29 = .ok (.aload_n 0, 1) := by decide +kernel
theorem dX9_names_30 : decode cX9_names 30 = .ok (.invokevirtual 194, 3) := by decide +kernel
theorem dX9_names_33 : decode cX9_names 33 = .ok (.aload_n 0, 1) := by decide +kernel
theorem dX9_names_34 : decode cX9_names 34 = .ok (.getfield 29, 3) := by decide +kernel
theorem dX9_names_37 : decode cX9_names 37 = .ok (.iconst 4, 1) := by decide +kernel
theorem dX9_names_38 : decode cX9_names 38 = .ok (.iload_n 1, 1) := by decide +kernel
theorem dX9_names_39 : decode cX9_names 39 = .ok (.invokevirtual 197, 3) := by decide +kernel
theorem dX9_names_42 : decode cX9_names 42 = .ok (.aload_n 0, 1) := by decide +kernel
theorem dX9_names_43 : decode cX9_names 43 = .ok (.getfield 29, 3) := by decide +kernel
theorem dX9_names_46 : decode cX9_names 46 = .ok (.getfield 144, 3) := by decide +kernel
theorem dX9_names_49 : decode cX9_names 49 = .ok (.iconst 4, 1) := by decide +kernel
theorem dX9_names_50 : decode cX9_names 50 = .ok (.iaload, 1) := by decide +kernel
theorem dX9_names_51 : decode cX9_names 51 = .ok (.ireturn, 1) := by decide +kernel
theorem dX9_asks_0 : decode cX9_asks 0 = .ok (.aload_n 0, 1) := by decide +kernel
theorem dX9_asks_1 : decode cX9_asks 1 = .ok (.invokevirtual 201, 3) := by decide +kernel
theorem dX9_asks_4 : decode cX9_asks 4 = .ok (.ifCond .eq 23, 3) := by decide +kernel
theorem dX9_asks_7 : decode cX9_asks 7 = .ok (.aload_n 0, 1) := by decide +kernel
theorem dX9_asks_8 : decode cX9_asks 8 = .ok (.getfield 29, 3) := by decide +kernel
theorem dX9_asks_11 : decode cX9_asks 11 = .ok (.getfield 174, 3) := by decide +kernel
theorem dX9_asks_14 : decode cX9_asks 14 = .ok (.iconst 4, 1) := by decide +kernel
theorem dX9_asks_15 : decode cX9_asks 15 = .ok (.if_icmp .ge 12, 3) := by decide +kernel
theorem dX9_asks_18 : decode cX9_asks 18 = .ok (.aload_n 0, 1) := by decide +kernel
theorem dX9_asks_19 : decode cX9_asks 19 = .ok (.invokevirtual 205, 3) := by decide +kernel
theorem dX9_asks_22 : decode cX9_asks 22 = .ok (.bipush (-9), 2) := by decide +kernel
theorem dX9_asks_24 : decode cX9_asks 24 = .ok (.if_icmp .ne 6, 3) := by decide +kernel
theorem dX9_asks_27 : decode cX9_asks 27 = .ok (.bipush (-2), 2) := by decide +kernel
theorem dX9_asks_29 : decode cX9_asks 29 = .ok (.ireturn, 1) := by decide +kernel
theorem dX9_asks_30 : decode cX9_asks 30 = .ok (.aload_n 0, 1) := by decide +kernel
theorem dX9_asks_31 : decode cX9_asks 31 = .ok (.invokevirtual 205, 3) := by decide +kernel
theorem dX9_asks_34 : decode cX9_asks 34 = .ok (.istore_n 1, 1) := by decide +kernel
theorem dX9_asks_35 : decode cX9_asks 35 = .ok (.aload_n 0, 1) := by decide +kernel
theorem dX9_asks_36 : decode cX9_asks 36 = .ok (.invokevirtual 194, 3) := by decide +kernel
theorem dX9_asks_39 : decode cX9_asks 39 = .ok (.aload_n 0, 1) := by decide +kernel
theorem dX9_asks_40 : decode cX9_asks 40 = .ok (.getfield 68, 3) := by decide +kernel
theorem dX9_asks_43 : decode cX9_asks 43 = .ok (.getfield 208, 3) := by decide +kernel
theorem dX9_asks_46 : decode cX9_asks 46 = .ok (.iconst 0, 1) := by decide +kernel
theorem dX9_asks_47 : decode cX9_asks 47 = .ok (.aload_n 0, 1) := by decide +kernel
theorem dX9_asks_48 : decode cX9_asks 48 = .ok (.getfield 29, 3) := by decide +kernel
theorem dX9_asks_51 : decode cX9_asks 51 = .ok (.getfield 131, 3) := by decide +kernel
theorem dX9_asks_54 : decode cX9_asks 54 = .ok (.iconst 0, 1) := by decide +kernel
theorem dX9_asks_55 : decode cX9_asks 55 = .ok (.aload_n 0, 1) := by decide +kernel
theorem dX9_asks_56 : decode cX9_asks 56 = .ok (.getfield 19, 3) := by decide +kernel
theorem dX9_asks_59 : decode cX9_asks 59 = .ok (.getfield 171, 3) := by decide +kernel
theorem dX9_asks_62 : decode cX9_asks 62 = .ok (.invokestatic 209, 3) := by decide +kernel
theorem dX9_asks_65 : decode cX9_asks 65 = .ok (.aload_n 0, 1) := by decide +kernel
theorem dX9_asks_66 : decode cX9_asks 66 = .ok (.iload_n 1, 1) := by decide +kernel
theorem dX9_asks_67 : decode cX9_asks 67 = .ok (.invokevirtual 215, 3) := by decide +kernel
theorem dX9_asks_70 : decode cX9_asks 70 = .ok (.aload_n 0, 1) := by decide +kernel
theorem dX9_asks_71 : decode cX9_asks 71 = .ok (.getfield 29, 3) := by decide +kernel
theorem dX9_asks_74 : decode cX9_asks 74 = .ok (.invokevirtual 219, 3) := by decide +kernel
theorem dX9_asks_77 : decode cX9_asks 77 = .ok (.iload_n 1, 1) := by decide +kernel
theorem dX9_asks_78 : decode cX9_asks 78 = .ok (.ireturn, 1) := by decide +kernel
theorem dX9_digs_0 : decode cX9_digs 0 = .ok (.aload_n 0, 1) := by decide +kernel
theorem dX9_digs_1 : decode cX9_digs 1 = .ok (.iload_n 1, 1) := by decide +kernel
theorem dX9_digs_2 : decode cX9_digs 2 = .ok (.invokevirtual 121, 3) := by decide +kernel
theorem dX9_digs_5 : decode cX9_digs 5 = .ok (.ifCond .eq 13, 3) := by decide +kernel
theorem dX9_digs_8 : decode cX9_digs 8 = .ok (.iload_n 2, 1) := by decide +kernel
theorem dX9_digs_9 : decode cX9_digs 9 = .ok (.iconst 1, 1) := by decide +kernel
theorem dX9_digs_10 : decode cX9_digs 10 = .ok (.if_icmp .lt 8, 3) := by decide +kernel
theorem dX9_digs_13 : decode cX9_digs 13 = .ok (.iload_n 2, 1) := by decide +kernel
theorem dX9_digs_14 : decode cX9_digs 14 = .ok (.iconst 5, 1) := by decide +kernel
theorem dX9_digs_15 : decode cX9_digs 15 = .ok (.if_icmp .le 5, 3) := by decide +kernel
theorem dX9_digs_18 : decode cX9_digs 18 = .ok (.iconst (-1), 1) := by decide +kernel
theorem dX9_digs_19 : decode cX9_digs 19 = .ok (.ireturn, 1) := by decide +kernel
theorem dX9_digs_20 : decode cX9_digs 20 = .ok (.aload_n 0, 1) := by decide +kernel
theorem dX9_digs_21 : decode cX9_digs 21 = .ok (.getfield 29, 3) := by decide +kernel
theorem dX9_digs_24 : decode cX9_digs 24 = .ok (.getfield 131, 3) := by decide +kernel
theorem dX9_digs_27 : decode cX9_digs 27 = .ok (.iload_n 1, 1) := by decide +kernel
theorem dX9_digs_28 : decode cX9_digs 28 = .ok (.iaload, 1) := by decide +kernel
theorem dX9_digs_29 : decode cX9_digs 29 = .ok (.istore_n 3, 1) := by decide +kernel
theorem dX9_digs_30 : decode cX9_digs 30 = .ok (.iload_n 3, 1) := by decide +kernel
theorem dX9_digs_31 : decode cX9_digs 31 = .ok (.iload_n 2, 1) := by decide +kernel
theorem dX9_digs_32 : decode cX9_digs 32 = .ok (.if_icmp .ne 6, 3) := by decide +kernel
theorem dX9_digs_35 : decode cX9_digs 35 = .ok (.bipush (-2), 2) := by decide +kernel
theorem dX9_digs_37 : decode cX9_digs 37 = .ok (.ireturn, 1) := by decide +kernel
theorem dX9_digs_38 : decode cX9_digs 38 = .ok (.aload_n 0, 1) := by decide +kernel
theorem dX9_digs_39 : decode cX9_digs 39 = .ok (.invokevirtual 194, 3) := by decide +kernel
theorem dX9_digs_42 : decode cX9_digs 42 = .ok (.aload_n 0, 1) := by decide +kernel
theorem dX9_digs_43 : decode cX9_digs 43 = .ok (.getfield 29, 3) := by decide +kernel
theorem dX9_digs_46 : decode cX9_digs 46 = .ok (.getfield 131, 3) := by decide +kernel
theorem dX9_digs_49 : decode cX9_digs 49 = .ok (.iload_n 1, 1) := by decide +kernel
theorem dX9_digs_50 : decode cX9_digs 50 = .ok (.iload_n 2, 1) := by decide +kernel
theorem dX9_digs_51 : decode cX9_digs 51 = .ok (.iastore, 1) := by decide +kernel
theorem dX9_digs_52 : decode cX9_digs 52 = .ok (.aload_n 0, 1) := by decide +kernel
theorem dX9_digs_53 : decode cX9_digs 53 = .ok (.aload_n 0, 1) := by decide +kernel
theorem dX9_digs_54 : decode cX9_digs 54 = .ok (.getfield 19, 3) := by decide +kernel
theorem dX9_digs_57 : decode cX9_digs 57 = .ok (.getfield 134, 3) := by decide +kernel
theorem dX9_digs_60 : decode cX9_digs 60 = .ok (.iload_n 1, 1) := by decide +kernel
theorem dX9_digs_61 : decode cX9_digs 61 = .ok (.iaload, 1) := by decide +kernel
theorem dX9_digs_62 : decode cX9_digs 62 = .ok (.iload_n 2, 1) := by decide +kernel
theorem dX9_digs_63 : decode cX9_digs 63 = .ok (.iload_n 3, 1) := by decide +kernel
theorem dX9_digs_64 : decode cX9_digs 64 = .ok (.isub, 1) := by decide +kernel
theorem dX9_digs_65 : decode cX9_digs 65 = .ok (.invokestatic 222, 3) := by decide +kernel
theorem dX9_digs_68 : decode cX9_digs 68 = .ok (.imul, 1) := by decide +kernel
theorem dX9_digs_69 : decode cX9_digs 69 = .ok (.invokevirtual 215, 3) := by decide +kernel
theorem dX9_digs_72 : decode cX9_digs 72 = .ok (.iload_n 3, 1) := by decide +kernel
theorem dX9_digs_73 : decode cX9_digs 73 = .ok (.ireturn, 1) := by decide +kernel
theorem dX9_burns_0 : decode cX9_burns 0 = .ok (.aload_n 0, 1) := by decide +kernel
theorem dX9_burns_1 : decode cX9_burns 1 = .ok (.iload_n 1, 1) := by decide +kernel
theorem dX9_burns_2 : decode cX9_burns 2 = .ok (.invokevirtual 141, 3) := by decide +kernel
theorem dX9_burns_5 : decode cX9_burns 5 = .ok (.ifCond .ne 5, 3) := by decide +kernel
theorem dX9_burns_8 : decode cX9_burns 8 = .ok (.iconst (-1), 1) := by decide +kernel
theorem dX9_burns_9 : decode cX9_burns 9 = .ok (.ireturn, 1) := by decide +kernel
theorem dX9_burns_10 : decode cX9_burns 10 = .ok (.aload_n 0, 1) := by decide +kernel
theorem dX9_burns_11 : decode cX9_burns 11 = .ok (.invokevirtual 194, 3) := by decide +kernel
theorem dX9_burns_14 : decode cX9_burns 14 = .ok (.aload_n 0, 1) := by decide +kernel
theorem dX9_burns_15 : decode cX9_burns 15 = .ok (.getfield 29, 3) := by decide +kernel
theorem dX9_burns_18 : decode cX9_burns 18 = .ok (.iload_n 1, 1) := by decide +kernel
theorem dX9_burns_19 : decode cX9_burns 19 = .ok (.invokevirtual 227, 3) := by decide +kernel
theorem dX9_burns_22 : decode cX9_burns 22 = .ok (.aload_n 0, 1) := by decide +kernel
theorem dX9_burns_23 : decode cX9_burns 23 = .ok (.getfield 29, 3) := by decide +kernel
theorem dX9_burns_26 : decode cX9_burns 26 = .ok (.getfield 174, 3) := by decide +kernel
theorem dX9_burns_29 : decode cX9_burns 29 = .ok (.ireturn, 1) := by decide +kernel
theorem dX9_wipes_0 : decode cX9_wipes 0 = .ok (.aload_n 0, 1) := by decide +kernel
theorem dX9_wipes_1 : decode cX9_wipes 1 = .ok (.getfield 29, 3) := by decide +kernel
theorem dX9_wipes_4 : decode cX9_wipes 4 = .ok (.getfield 144, 3) := by decide +kernel
theorem dX9_wipes_7 : decode cX9_wipes 7 = .ok (.iconst 4, 1) := by decide +kernel
theorem dX9_wipes_8 : decode cX9_wipes 8 = .ok (.iaload, 1) := by decide +kernel
theorem dX9_wipes_9 : decode cX9_wipes 9 = .ok (.istore_n 1, 1) := by decide +kernel
theorem dX9_wipes_10 : decode cX9_wipes 10 = .ok (.iload_n 1, 1) := by decide +kernel
theorem dX9_wipes_11 : decode cX9_wipes 11 = .ok (.ifCond .ne 6, 3) := by decide +kernel
theorem dX9_wipes_14 : decode cX9_wipes 14 = .ok (.bipush (-2), 2) := by decide +kernel
theorem dX9_wipes_16 : decode cX9_wipes 16 = .ok (.ireturn, 1) := by decide +kernel
theorem dX9_wipes_17 : decode cX9_wipes 17 = .ok (.aload_n 0, 1) := by decide +kernel
theorem dX9_wipes_18 : decode cX9_wipes 18 = .ok (.invokevirtual 194, 3) := by decide +kernel
theorem dX9_wipes_21 : decode cX9_wipes 21 = .ok (.aload_n 0, 1) := by decide +kernel
theorem dX9_wipes_22 : decode cX9_wipes 22 = .ok (.getfield 29, 3) := by decide +kernel
theorem dX9_wipes_25 : decode cX9_wipes 25 = .ok (.getfield 144, 3) := by decide +kernel
theorem dX9_wipes_28 : decode cX9_wipes 28 = .ok (.iconst 4, 1) := by decide +kernel
theorem dX9_wipes_29 : decode cX9_wipes 29 = .ok (.iconst 0, 1) := by decide +kernel
theorem dX9_wipes_30 : decode cX9_wipes 30 = .ok (.iastore, 1) := by decide +kernel
theorem dX9_wipes_31 : decode cX9_wipes 31 = .ok (.iload_n 1, 1) := by decide +kernel
theorem dX9_wipes_32 : decode cX9_wipes 32 = .ok (.ireturn, 1) := by decide +kernel
theorem dX9_undo_0 : decode cX9_undo 0 = .ok (.aload_n 0, 1) := by decide +kernel
theorem dX9_undo_1 : decode cX9_undo 1 = .ok (.getfield 46, 3) := by decide +kernel
theorem dX9_undo_4 : decode cX9_undo 4 = .ok (.getfield 165, 3) := by decide +kernel
theorem dX9_undo_7 : decode cX9_undo 7 = .ok (.ifCond .ne 6, 3) := by decide +kernel
theorem dX9_undo_10 : decode cX9_undo 10 = .ok (.bipush (-2), 2) := by decide +kernel
theorem dX9_undo_12 : decode cX9_undo 12 = .ok (.ireturn, 1) := by decide +kernel
theorem dX9_undo_13 : decode cX9_undo 13 = .ok (.aload_n 0, 1) := by decide +kernel
theorem dX9_undo_14 : decode cX9_undo 14 = .ok (.getfield 46, 3) := by decide +kernel
theorem dX9_undo_17 : decode cX9_undo 17 = .ok (.aload_n 0, 1) := by decide +kernel
theorem dX9_undo_18 : decode cX9_undo 18 = .ok (.getfield 29, 3) := by decide +kernel
theorem dX9_undo_21 : decode cX9_undo 21 = .ok (.invokevirtual 230, 3) := by decide +kernel
theorem dX9_undo_24 : decode cX9_undo 24 = .ok (.aload_n 0, 1) := by decide +kernel
theorem dX9_undo_25 : decode cX9_undo 25 = .ok (.invokevirtual 118, 3) := by decide +kernel
theorem dX9_undo_28 : decode cX9_undo 28 = .ok (.aload_n 0, 1) := by decide +kernel
theorem dX9_undo_29 : decode cX9_undo 29 = .ok (.getfield 46, 3) := by decide +kernel
theorem dX9_undo_32 : decode cX9_undo 32 = .ok (.getfield 165, 3) := by decide +kernel
theorem dX9_undo_35 : decode cX9_undo 35 = .ok (.ireturn, 1) := by decide +kernel
theorem dX9_draftIsWay_0 : decode cX9_draftIsWay 0 = .ok (.aload_n 0, 1) := by decide +kernel
theorem dX9_draftIsWay_1 : decode cX9_draftIsWay 1 = .ok (.getfield 29, 3) := by decide +kernel
theorem dX9_draftIsWay_4 : decode cX9_draftIsWay 4 = .ok (.getfield 144, 3) := by decide +kernel
theorem dX9_draftIsWay_7 : decode cX9_draftIsWay 7 = .ok (.iconst 4, 1) := by decide +kernel
theorem dX9_draftIsWay_8 : decode cX9_draftIsWay 8 = .ok (.iaload, 1) := by decide +kernel
theorem dX9_draftIsWay_9 : decode cX9_draftIsWay 9 = .ok (.iconst 2, 1) := by decide +kernel
theorem dX9_draftIsWay_10 : decode cX9_draftIsWay 10 = .ok (.if_icmp .lt 7, 3) := by decide +kernel
theorem dX9_draftIsWay_13 : decode cX9_draftIsWay 13 = .ok (.iconst 1, 1) := by decide +kernel
theorem dX9_draftIsWay_14 : decode cX9_draftIsWay 14 = .ok (.goto 4, 3) := by decide +kernel
theorem dX9_draftIsWay_17 : decode cX9_draftIsWay 17 = .ok (.iconst 0, 1) := by decide +kernel
theorem dX9_draftIsWay_18 : decode cX9_draftIsWay 18 = .ok (.ireturn, 1) := by decide +kernel
theorem dX9_addDug_0 : decode cX9_addDug 0 = .ok (.aload_n 0, 1) := by decide +kernel
theorem dX9_addDug_1 : decode cX9_addDug 1 = .ok (.getfield 29, 3) := by decide +kernel
theorem dX9_addDug_4 : decode cX9_addDug 4 = .ok (.ldc 233, 2) := by decide +kernel
theorem dX9_addDug_6 : decode cX9_addDug 6 = .ok (.aload_n 0, 1) := by decide +kernel
theorem dX9_addDug_7 : decode cX9_addDug 7 = .ok (.getfield 29, 3) := by decide +kernel
theorem dX9_addDug_10 : decode cX9_addDug 10 = .ok (.getfield 162, 3) := by decide +kernel
theorem dX9_addDug_13 : decode cX9_addDug 13 = .ok (.iload_n 1, 1) := by decide +kernel
theorem dX9_addDug_14 : decode cX9_addDug 14 = .ok (.iadd, 1) := by decide +kernel
theorem dX9_addDug_15 : decode cX9_addDug 15 = .ok (.invokestatic 234, 3) := by decide +kernel
theorem dX9_addDug_18 : decode cX9_addDug 18 = .ok (.putfield 162, 3) := by decide +kernel
theorem dX9_addDug_21 : decode cX9_addDug 21 = .ok (.return_, 1) := by decide +kernel
theorem dX9_beforeChange_0 : decode cX9_beforeChange 0 = .ok (.aload_n 0, 1) := by decide +kernel
theorem dX9_beforeChange_1 : decode cX9_beforeChange 1 = .ok (.getfield 46, 3) := by decide +kernel
theorem dX9_beforeChange_4 : decode cX9_beforeChange 4 = .ok (.aload_n 0, 1) := by decide +kernel
theorem dX9_beforeChange_5 : decode cX9_beforeChange 5 = .ok (.getfield 29, 3) := by decide +kernel
theorem dX9_beforeChange_8 : decode cX9_beforeChange 8 = .ok (.invokevirtual 237, 3) := by decide +kernel
theorem dX9_beforeChange_11 : decode cX9_beforeChange 11 = .ok (.aload_n 0, 1) := by decide +kernel
theorem dX9_beforeChange_12 : decode cX9_beforeChange 12 = .ok (.invokevirtual 118, 3) := by decide +kernel
theorem dX9_beforeChange_15 : decode cX9_beforeChange 15 = .ok (.return_, 1) := by decide +kernel
theorem dX9_forgetAnswers_0 : decode cX9_forgetAnswers 0 = .ok (.aload_n 0, 1) := by decide +kernel
theorem dX9_forgetAnswers_1 : decode cX9_forgetAnswers 1 = .ok (.getfield 68, 3) := by decide +kernel
theorem dX9_forgetAnswers_4 : decode cX9_forgetAnswers 4 = .ok (.iconst 0, 1) := by decide +kernel
theorem dX9_forgetAnswers_5 : decode cX9_forgetAnswers 5 = .ok (.putfield 240, 3) := by decide +kernel
theorem dX9_forgetAnswers_8 : decode cX9_forgetAnswers 8 = .ok (.aload_n 0, 1) := by decide +kernel
theorem dX9_forgetAnswers_9 : decode cX9_forgetAnswers 9 = .ok (.getfield 75, 3) := by decide +kernel
theorem dX9_forgetAnswers_12 : decode cX9_forgetAnswers 12 = .ok (.iconst 0, 1) := by decide +kernel
theorem dX9_forgetAnswers_13 : decode cX9_forgetAnswers 13 = .ok (.putfield 243, 3) := by decide +kernel
theorem dX9_forgetAnswers_16 : decode cX9_forgetAnswers 16 = .ok (.return_, 1) := by decide +kernel
theorem dX9_far_0 : decode cX9_far 0 = .ok (.aload_n 0, 1) := by decide +kernel
theorem dX9_far_1 : decode cX9_far 1 = .ok (.iload_n 1, 1) := by decide +kernel
theorem dX9_far_2 : decode cX9_far 2 = .ok (.invokevirtual 187, 3) := by decide +kernel
end
section
theorem dX9_far_5 : decode cX9_far 5 = .ok (.ifCond .eq 11, 3) := by decide +kernel
theorem dX9_far_8 : decode cX9_far 8 = .ok (.aload_n 0, 1) := by decide +kernel
theorem dX9_far_9 : decode cX9_far 9 = .ok (.iload_n 2, 1) := by decide +kernel
theorem dX9_far_10 : decode cX9_far 10 = .ok (.invokevirtual 187, 3) := by decide +kernel
theorem dX9_far_13 : decode cX9_far 13 = .ok (.ifCond .ne 5, 3) := by decide +kernel
theorem dX9_far_16 : decode cX9_far 16 = .ok (.iconst (-1), 1) := by decide +kernel
theorem dX9_far_17 : decode cX9_far 17 = .ok (.ireturn, 1) := by decide +kernel
theorem dX9_far_18 : decode cX9_far 18 = .ok (.iload_n 1, 1) := by decide +kernel
theorem dX9_far_19 : decode cX9_far 19 = .ok (.iload_n 2, 1) := by decide +kernel
theorem dX9_far_20 : decode cX9_far 20 = .ok (.if_icmp .ne 5, 3) := by decide +kernel
theorem dX9_far_23 : decode cX9_far 23 = .ok (.iconst 0, 1) := by decide +kernel
theorem dX9_far_24 : decode cX9_far 24 = .ok (.ireturn, 1) := by decide +kernel
theorem dX9_far_25 : decode cX9_far 25 = .ok (.aload_n 0, 1) := by decide +kernel
theorem dX9_far_26 : decode cX9_far 26 = .ok (.getfield 39, 3) := by decide +kernel
theorem dX9_far_29 : decode cX9_far 29 = .ok (.aload_n 0, 1) := by decide +kernel
theorem dX9_far_30 : decode cX9_far 30 = .ok (.getfield 19, 3) := by decide +kernel
theorem dX9_far_33 : decode cX9_far 33 = .ok (.aload_n 0, 1) := by decide +kernel
theorem dX9_far_34 : decode cX9_far 34 = .ok (.getfield 29, 3) := by decide +kernel
theorem dX9_far_37 : decode cX9_far 37 = .ok (.getfield 131, 3) := by decide +kernel
theorem dX9_far_40 : decode cX9_far 40 = .ok (.invokevirtual 177, 3) := by decide +kernel
theorem dX9_far_43 : decode cX9_far 43 = .ok (.aload_n 0, 1) := by decide +kernel
theorem dX9_far_44 : decode cX9_far 44 = .ok (.getfield 39, 3) := by decide +kernel
theorem dX9_far_47 : decode cX9_far 47 = .ok (.iload_n 1, 1) := by decide +kernel
theorem dX9_far_48 : decode cX9_far 48 = .ok (.iload_n 2, 1) := by decide +kernel
theorem dX9_far_49 : decode cX9_far 49 = .ok (.invokevirtual 244, 3) := by decide +kernel
theorem dX9_far_52 : decode cX9_far 52 = .ok (.ireturn, 1) := by decide +kernel
theorem dX9_by_0 : decode cX9_by 0 = .ok (.aload_n 0, 1) := by decide +kernel
theorem dX9_by_1 : decode cX9_by 1 = .ok (.iload_n 1, 1) := by decide +kernel
theorem dX9_by_2 : decode cX9_by 2 = .ok (.invokevirtual 187, 3) := by decide +kernel
theorem dX9_by_5 : decode cX9_by 5 = .ok (.ifCond .eq 16, 3) := by decide +kernel
theorem dX9_by_8 : decode cX9_by 8 = .ok (.aload_n 0, 1) := by decide +kernel
theorem dX9_by_9 : decode cX9_by 9 = .ok (.iload_n 2, 1) := by decide +kernel
theorem dX9_by_10 : decode cX9_by 10 = .ok (.invokevirtual 187, 3) := by decide +kernel
theorem dX9_by_13 : decode cX9_by 13 = .ok (.ifCond .eq 8, 3) := by decide +kernel
theorem dX9_by_16 : decode cX9_by 16 = .ok (.iload_n 1, 1) := by decide +kernel
theorem dX9_by_17 : decode cX9_by 17 = .ok (.iload_n 2, 1) := by decide +kernel
theorem dX9_by_18 : decode cX9_by 18 = .ok (.if_icmp .ne 5, 3) := by decide +kernel
theorem dX9_by_21 : decode cX9_by 21 = .ok (.iconst (-1), 1) := by decide +kernel
theorem dX9_by_22 : decode cX9_by 22 = .ok (.ireturn, 1) := by decide +kernel
theorem dX9_by_23 : decode cX9_by 23 = .ok (.aload_n 0, 1) := by decide +kernel
theorem dX9_by_24 : decode cX9_by 24 = .ok (.getfield 39, 3) := by decide +kernel
theorem dX9_by_27 : decode cX9_by 27 = .ok (.aload_n 0, 1) := by decide +kernel
theorem dX9_by_28 : decode cX9_by 28 = .ok (.getfield 19, 3) := by decide +kernel
theorem dX9_by_31 : decode cX9_by 31 = .ok (.aload_n 0, 1) := by decide +kernel
theorem dX9_by_32 : decode cX9_by 32 = .ok (.getfield 29, 3) := by decide +kernel
theorem dX9_by_35 : decode cX9_by 35 = .ok (.getfield 131, 3) := by decide +kernel
theorem dX9_by_38 : decode cX9_by 38 = .ok (.invokevirtual 177, 3) := by decide +kernel
theorem dX9_by_41 : decode cX9_by 41 = .ok (.aload_n 0, 1) := by decide +kernel
theorem dX9_by_42 : decode cX9_by 42 = .ok (.getfield 39, 3) := by decide +kernel
theorem dX9_by_45 : decode cX9_by 45 = .ok (.iload_n 1, 1) := by decide +kernel
theorem dX9_by_46 : decode cX9_by 46 = .ok (.iload_n 2, 1) := by decide +kernel
theorem dX9_by_47 : decode cX9_by 47 = .ok (.invokevirtual 247, 3) := by decide +kernel
theorem dX9_by_50 : decode cX9_by 50 = .ok (.ireturn, 1) := by decide +kernel
theorem dX9_knot_0 : decode cX9_knot 0 = .ok (.aload_n 0, 1) := by decide +kernel
theorem dX9_knot_1 : decode cX9_knot 1 = .ok (.iload_n 1, 1) := by decide +kernel
theorem dX9_knot_2 : decode cX9_knot 2 = .ok (.invokevirtual 187, 3) := by decide +kernel
theorem dX9_knot_5 : decode cX9_knot 5 = .ok (.ifCond .ne 5, 3) := by decide +kernel
theorem dX9_knot_8 : decode cX9_knot 8 = .ok (.iconst (-1), 1) := by decide +kernel
theorem dX9_knot_9 : decode cX9_knot 9 = .ok (.ireturn, 1) := by decide +kernel
theorem dX9_knot_10 : decode cX9_knot 10 = .ok (.iconst 0, 1) := by decide +kernel
theorem dX9_knot_11 : decode cX9_knot 11 = .ok (.istore_n 2, 1) := by decide +kernel
theorem dX9_knot_12 : decode cX9_knot 12 = .ok (.iconst 0, 1) := by decide +kernel
theorem dX9_knot_13 : decode cX9_knot 13 = .ok (.istore_n 3, 1) := by decide +kernel
theorem dX9_knot_14 : decode cX9_knot 14 = .ok (.iload_n 3, 1) := by decide +kernel
theorem dX9_knot_15 : decode cX9_knot 15 = .ok (.aload_n 0, 1) := by decide +kernel
theorem dX9_knot_16 : decode cX9_knot 16 = .ok (.getfield 19, 3) := by decide +kernel
theorem dX9_knot_19 : decode cX9_knot 19 = .ok (.getfield 171, 3) := by decide +kernel
theorem dX9_knot_22 : decode cX9_knot 22 = .ok (.if_icmp .ge 57, 3) := by decide +kernel
theorem dX9_knot_25 : decode cX9_knot 25 = .ok (.aload_n 0, 1) := by decide +kernel
theorem dX9_knot_26 : decode cX9_knot 26 = .ok (.getfield 19, 3) := by decide +kernel
theorem dX9_knot_29 : decode cX9_knot 29 = .ok (.getfield 124, 3) := by decide +kernel
theorem dX9_knot_32 : decode cX9_knot 32 = .ok (.iload_n 3, 1) := by decide +kernel
theorem dX9_knot_33 : decode cX9_knot 33 = .ok (.iaload, 1) := by decide +kernel
theorem dX9_knot_34 : decode cX9_knot 34 = .ok (.iload_n 1, 1) := by decide +kernel
theorem dX9_knot_35 : decode cX9_knot 35 = .ok (.if_icmp .eq 16, 3) := by decide +kernel
theorem dX9_knot_38 : decode cX9_knot 38 = .ok (.aload_n 0, 1) := by decide +kernel
theorem dX9_knot_39 : decode cX9_knot 39 = .ok (.getfield 19, 3) := by decide +kernel
theorem dX9_knot_42 : decode cX9_knot 42 = .ok (.getfield 128, 3) := by decide +kernel
theorem dX9_knot_45 : decode cX9_knot 45 = .ok (.iload_n 3, 1) := by decide +kernel
theorem dX9_knot_46 : decode cX9_knot 46 = .ok (.iaload, 1) := by decide +kernel
theorem dX9_knot_47 : decode cX9_knot 47 = .ok (.iload_n 1, 1) := by decide +kernel
theorem dX9_knot_48 : decode cX9_knot 48 = .ok (.if_icmp .ne 25, 3) := by decide +kernel
theorem dX9_knot_51 : decode cX9_knot 51 = .ok (.iload_n 2, 1) := by decide +kernel
theorem dX9_knot_52 : decode cX9_knot 52 = .ok (.aload_n 0, 1) := by decide +kernel
theorem dX9_knot_53 : decode cX9_knot 53 = .ok (.getfield 19, 3) := by decide +kernel
theorem dX9_knot_56 : decode cX9_knot 56 = .ok (.getfield 134, 3) := by decide +kernel
theorem dX9_knot_59 : decode cX9_knot 59 = .ok (.iload_n 3, 1) := by decide +kernel
theorem dX9_knot_60 : decode cX9_knot 60 = .ok (.iaload, 1) := by decide +kernel
theorem dX9_knot_61 : decode cX9_knot 61 = .ok (.aload_n 0, 1) := by decide +kernel
theorem dX9_knot_62 : decode cX9_knot 62 = .ok (.getfield 29, 3) := by decide +kernel
theorem dX9_knot_65 : decode cX9_knot 65 = .ok (.getfield 131, 3) := by decide +kernel
theorem dX9_knot_68 : decode cX9_knot 68 = .ok (.iload_n 3, 1) := by decide +kernel
theorem dX9_knot_69 : decode cX9_knot 69 = .ok (.iaload, 1) := by decide +kernel
theorem dX9_knot_70 : decode cX9_knot 70 = .ok (.imul, 1) := by decide +kernel
theorem dX9_knot_71 : decode cX9_knot 71 = .ok (.iadd, 1) := by decide +kernel
theorem dX9_knot_72 : decode cX9_knot 72 = .ok (.istore_n 2, 1) := by decide +kernel
theorem dX9_knot_73 : decode cX9_knot 73 = .ok (.iinc 3 1, 3) := by decide +kernel
theorem dX9_knot_76 : decode cX9_knot 76 = .ok (.goto (-62), 3) := by decide +kernel
theorem dX9_knot_79 : decode cX9_knot 79 = .ok (.iload_n 2, 1) := by decide +kernel
theorem dX9_knot_80 : decode cX9_knot 80 = .ok (.ireturn, 1) := by decide +kernel
theorem dX9_asking_0 : decode cX9_asking 0 = .ok (.iload_n 1, 1) := by decide +kernel
theorem dX9_asking_1 : decode cX9_asking 1 = .ok (.iconst (-1), 1) := by decide +kernel
theorem dX9_asking_2 : decode cX9_asking 2 = .ok (.if_icmp .eq 13, 3) := by decide +kernel
theorem dX9_asking_5 : decode cX9_asking 5 = .ok (.aload_n 0, 1) := by decide +kernel
theorem dX9_asking_6 : decode cX9_asking 6 = .ok (.iload_n 1, 1) := by decide +kernel
theorem dX9_asking_7 : decode cX9_asking 7 = .ok (.invokevirtual 121, 3) := by decide +kernel
theorem dX9_asking_10 : decode cX9_asking 10 = .ok (.ifCond .ne 5, 3) := by decide +kernel
theorem dX9_asking_13 : decode cX9_asking 13 = .ok (.iconst (-1), 1) := by decide +kernel
theorem dX9_asking_14 : decode cX9_asking 14 = .ok (.ireturn, 1) := by decide +kernel
theorem dX9_asking_15 : decode cX9_asking 15 = .ok (.aload_n 0, 1) := by decide +kernel
theorem dX9_asking_16 : decode cX9_asking 16 = .ok (.invokevirtual 205, 3) := by decide +kernel
theorem dX9_asking_19 : decode cX9_asking 19 = .ok (.istore_n 2, 1) := by decide +kernel
theorem dX9_asking_20 : decode cX9_asking 20 = .ok (.iload_n 1, 1) := by decide +kernel
theorem dX9_asking_21 : decode cX9_asking 21 = .ok (.iconst (-1), 1) := by decide +kernel
theorem dX9_asking_22 : decode cX9_asking 22 = .ok (.if_icmp .eq 9, 3) := by decide +kernel
theorem dX9_asking_25 : decode cX9_asking 25 = .ok (.iload_n 2, 1) := by decide +kernel
theorem dX9_asking_26 : decode cX9_asking 26 = .ok (.bipush (-9), 2) := by decide +kernel
theorem dX9_asking_28 : decode cX9_asking 28 = .ok (.if_icmp .ne 7, 3) := by decide +kernel
theorem dX9_asking_31 : decode cX9_asking 31 = .ok (.iload_n 2, 1) := by decide +kernel
theorem dX9_asking_32 : decode cX9_asking 32 = .ok (.goto 12, 3) := by decide +kernel
theorem dX9_asking_35 : decode cX9_asking 35 = .ok (.aload_n 0, 1) := by decide +kernel
theorem dX9_asking_36 : decode cX9_asking 36 = .ok (.getfield 68, 3) := by decide +kernel
theorem dX9_asking_39 : decode cX9_asking 39 = .ok (.getfield 208, 3) := by decide +kernel
theorem dX9_asking_42 : decode cX9_asking 42 = .ok (.iload_n 1, 1) := by decide +kernel
theorem dX9_asking_43 : decode cX9_asking 43 = .ok (.iaload, 1) := by decide +kernel
theorem dX9_asking_44 : decode cX9_asking 44 = .ok (.ireturn, 1) := by decide +kernel
theorem dX9_clash_0 : decode cX9_clash 0 = .ok (.aload_n 0, 1) := by decide +kernel
theorem dX9_clash_1 : decode cX9_clash 1 = .ok (.invokevirtual 250, 3) := by decide +kernel
theorem dX9_clash_4 : decode cX9_clash 4 = .ok (.istore_n 1, 1) := by decide +kernel
theorem dX9_clash_5 : decode cX9_clash 5 = .ok (.iconst 0, 1) := by decide +kernel
theorem dX9_clash_6 : decode cX9_clash 6 = .ok (.istore_n 2, 1) := by decide +kernel
theorem dX9_clash_7 : decode cX9_clash 7 = .ok (.iconst 1, 1) := by decide +kernel
theorem dX9_clash_8 : decode cX9_clash 8 = .ok (.istore_n 3, 1) := by decide +kernel
theorem dX9_clash_9 : decode cX9_clash 9 = .ok (.iload_n 3, 1) := by decide +kernel
theorem dX9_clash_10 : decode cX9_clash 10 = .ok (.iconst 1, 1) := by decide +kernel
theorem dX9_clash_11 : decode cX9_clash 11 = .ok (.aload_n 0, 1) := by decide +kernel
theorem dX9_clash_12 : decode cX9_clash 12 = .ok (.getfield 29, 3) := by decide +kernel
theorem dX9_clash_15 : decode cX9_clash 15 = .ok (.getfield 174, 3) := by decide +kernel
theorem dX9_clash_18 : decode cX9_clash 18 = .ok (.ishl, 1) := by decide +kernel
theorem dX9_clash_19 : decode cX9_clash 19 = .ok (.if_icmp .ge 46, 3) := by decide +kernel
theorem dX9_clash_22 : decode cX9_clash 22 = .ok (.iload_n 2, 1) := by decide +kernel
theorem dX9_clash_23 : decode cX9_clash 23 = .ok (.ifCond .eq 14, 3) := by decide +kernel
theorem dX9_clash_26 : decode cX9_clash 26 = .ok (.iload_n 3, 1) := by decide +kernel
theorem dX9_clash_27 : decode cX9_clash 27 = .ok (.invokestatic 253, 3) := by decide +kernel
theorem dX9_clash_30 : decode cX9_clash 30 = .ok (.iload_n 2, 1) := by decide +kernel
theorem dX9_clash_31 : decode cX9_clash 31 = .ok (.invokestatic 253, 3) := by decide +kernel
theorem dX9_clash_34 : decode cX9_clash 34 = .ok (.if_icmp .ge 7, 3) := by decide +kernel
theorem dX9_clash_37 : decode cX9_clash 37 = .ok (.iconst 1, 1) := by decide +kernel
theorem dX9_clash_38 : decode cX9_clash 38 = .ok (.goto 4, 3) := by decide +kernel
theorem dX9_clash_41 : decode cX9_clash 41 = .ok (.iconst 0, 1) := by decide +kernel
theorem dX9_clash_42 : decode cX9_clash 42 = .ok (.istore 4, 2) := by decide +kernel
theorem dX9_clash_44 : decode cX9_clash 44 = .ok (.iload_n 1, 1) := by decide +kernel
theorem dX9_clash_45 : decode cX9_clash 45 = .ok (.iload_n 3, 1) := by decide +kernel
theorem dX9_clash_46 : decode cX9_clash 46 = .ok (.ishr, 1) := by decide +kernel
theorem dX9_clash_47 : decode cX9_clash 47 = .ok (.iconst 1, 1) := by decide +kernel
theorem dX9_clash_48 : decode cX9_clash 48 = .ok (.iand, 1) := by decide +kernel
theorem dX9_clash_49 : decode cX9_clash 49 = .ok (.ifCond .ne 10, 3) := by decide +kernel
theorem dX9_clash_52 : decode cX9_clash 52 = .ok (.iload 4, 2) := by decide +kernel
theorem dX9_clash_54 : decode cX9_clash 54 = .ok (.ifCond .eq 5, 3) := by decide +kernel
theorem dX9_clash_57 : decode cX9_clash 57 = .ok (.iload_n 3, 1) := by decide +kernel
theorem dX9_clash_58 : decode cX9_clash 58 = .ok (.istore_n 2, 1) := by decide +kernel
theorem dX9_clash_59 : decode cX9_clash 59 = .ok (.iinc 3 1, 3) := by decide +kernel
theorem dX9_clash_62 : decode cX9_clash 62 = .ok (.goto (-53), 3) := by decide +kernel
theorem dX9_clash_65 : decode cX9_clash 65 = .ok (.iload_n 2, 1) := by decide +kernel
theorem dX9_clash_66 : decode cX9_clash 66 = .ok (.ireturn, 1) := by decide +kernel
theorem dX9_fire_0 : decode cX9_fire 0 = .ok (.iload_n 1, 1) := by decide +kernel
theorem dX9_fire_1 : decode cX9_fire 1 = .ok (.ifCond .eq 10, 3) := by decide +kernel
theorem dX9_fire_4 : decode cX9_fire 4 = .ok (.iload_n 1, 1) := by decide +kernel
theorem dX9_fire_5 : decode cX9_fire 5 = .ok (.iconst 1, 1) := by decide +kernel
theorem dX9_fire_6 : decode cX9_fire 6 = .ok (.if_icmp .eq 5, 3) := by decide +kernel
theorem dX9_fire_9 : decode cX9_fire 9 = .ok (.iconst (-1), 1) := by decide +kernel
theorem dX9_fire_10 : decode cX9_fire 10 = .ok (.ireturn, 1) := by decide +kernel
theorem dX9_fire_11 : decode cX9_fire 11 = .ok (.bipush (-9), 2) := by decide +kernel
theorem dX9_fire_13 : decode cX9_fire 13 = .ok (.istore_n 2, 1) := by decide +kernel
theorem dX9_fire_14 : decode cX9_fire 14 = .ok (.bipush (-9), 2) := by decide +kernel
theorem dX9_fire_16 : decode cX9_fire 16 = .ok (.istore_n 3, 1) := by decide +kernel
theorem dX9_fire_17 : decode cX9_fire 17 = .ok (.iconst 0, 1) := by decide +kernel
theorem dX9_fire_18 : decode cX9_fire 18 = .ok (.istore 4, 2) := by decide +kernel
theorem dX9_fire_20 : decode cX9_fire 20 = .ok (.iload 4, 2) := by decide +kernel
theorem dX9_fire_22 : decode cX9_fire 22 = .ok (.aload_n 0, 1) := by decide +kernel
theorem dX9_fire_23 : decode cX9_fire 23 = .ok (.getfield 29, 3) := by decide +kernel
theorem dX9_fire_26 : decode cX9_fire 26 = .ok (.getfield 174, 3) := by decide +kernel
theorem dX9_fire_29 : decode cX9_fire 29 = .ok (.if_icmp .ge 61, 3) := by decide +kernel
theorem dX9_fire_32 : decode cX9_fire 32 = .ok (.aload_n 0, 1) := by decide +kernel
theorem dX9_fire_33 : decode cX9_fire 33 = .ok (.aload_n 0, 1) := by decide +kernel
theorem dX9_fire_34 : decode cX9_fire 34 = .ok (.aload_n 0, 1) := by decide +kernel
theorem dX9_fire_35 : decode cX9_fire 35 = .ok (.invokevirtual 258, 3) := by decide +kernel
theorem dX9_fire_38 : decode cX9_fire 38 = .ok (.iconst 1, 1) := by decide +kernel
theorem dX9_fire_39 : decode cX9_fire 39 = .ok (.iload 4, 2) := by decide +kernel
theorem dX9_fire_41 : decode cX9_fire 41 = .ok (.ishl, 1) := by decide +kernel
theorem dX9_fire_42 : decode cX9_fire 42 = .ok (.iconst (-1), 1) := by decide +kernel
theorem dX9_fire_43 : decode cX9_fire 43 = .ok (.ixor, 1) := by decide +kernel
theorem dX9_fire_44 : decode cX9_fire 44 = .ok (.iand, 1) := by decide +kernel
theorem dX9_fire_45 : decode cX9_fire 45 = .ok (.invokevirtual 261, 3) := by decide +kernel
theorem dX9_fire_48 : decode cX9_fire 48 = .ok (.invokevirtual 265, 3) := by decide +kernel
theorem dX9_fire_51 : decode cX9_fire 51 = .ok (.istore 5, 2) := by decide +kernel
theorem dX9_fire_53 : decode cX9_fire 53 = .ok (.iload_n 2, 1) := by decide +kernel
theorem dX9_fire_54 : decode cX9_fire 54 = .ok (.bipush (-9), 2) := by decide +kernel
theorem dX9_fire_56 : decode cX9_fire 56 = .ok (.if_icmp .eq 22, 3) := by decide +kernel
theorem dX9_fire_59 : decode cX9_fire 59 = .ok (.iload 5, 2) := by decide +kernel
theorem dX9_fire_61 : decode cX9_fire 61 = .ok (.bipush (-9), 2) := by decide +kernel
theorem dX9_fire_63 : decode cX9_fire 63 = .ok (.if_icmp .eq 21, 3) := by decide +kernel
theorem dX9_fire_66 : decode cX9_fire 66 = .ok (.iload_n 3, 1) := by decide +kernel
theorem dX9_fire_67 : decode cX9_fire 67 = .ok (.bipush (-9), 2) := by decide +kernel
theorem dX9_fire_69 : decode cX9_fire 69 = .ok (.if_icmp .eq 9, 3) := by decide +kernel
theorem dX9_fire_72 : decode cX9_fire 72 = .ok (.iload 5, 2) := by decide +kernel
theorem dX9_fire_74 : decode cX9_fire 74 = .ok (.iload_n 3, 1) := by decide +kernel
theorem dX9_fire_75 : decode cX9_fire 75 = .ok (.if_icmp .ge 9, 3) := by decide +kernel
theorem dX9_fire_78 : decode cX9_fire 78 = .ok (.iload 4, 2) := by decide +kernel
theorem dX9_fire_80 : decode cX9_fire 80 = .ok (.istore_n 2, 1) := by decide +kernel
theorem dX9_fire_81 : decode cX9_fire 81 = .ok (.iload 5, 2) := by decide +kernel
theorem dX9_fire_83 : decode cX9_fire 83 = .ok (.istore_n 3, 1) := by decide +kernel
theorem dX9_fire_84 : decode cX9_fire 84 = .ok (.iinc 4 1, 3) := by decide +kernel
theorem dX9_fire_87 : decode cX9_fire 87 = .ok (.goto (-67), 3) := by decide +kernel
theorem dX9_fire_90 : decode cX9_fire 90 = .ok (.iload_n 1, 1) := by decide +kernel
theorem dX9_fire_91 : decode cX9_fire 91 = .ok (.ifCond .ne 7, 3) := by decide +kernel
theorem dX9_fire_94 : decode cX9_fire 94 = .ok (.iload_n 2, 1) := by decide +kernel
theorem dX9_fire_95 : decode cX9_fire 95 = .ok (.goto 4, 3) := by decide +kernel
theorem dX9_fire_98 : decode cX9_fire 98 = .ok (.iload_n 3, 1) := by decide +kernel
theorem dX9_fire_99 : decode cX9_fire 99 = .ok (.ireturn, 1) := by decide +kernel
theorem dX9_spite_0 : decode cX9_spite 0 = .ok (.iload_n 1, 1) := by decide +kernel
theorem dX9_spite_1 : decode cX9_spite 1 = .ok (.ifCond .lt 8, 3) := by decide +kernel
theorem dX9_spite_4 : decode cX9_spite 4 = .ok (.iload_n 1, 1) := by decide +kernel
theorem dX9_spite_5 : decode cX9_spite 5 = .ok (.iconst 2, 1) := by decide +kernel
theorem dX9_spite_6 : decode cX9_spite 6 = .ok (.if_icmp .le 5, 3) := by decide +kernel
theorem dX9_spite_9 : decode cX9_spite 9 = .ok (.iconst (-1), 1) := by decide +kernel
theorem dX9_spite_10 : decode cX9_spite 10 = .ok (.ireturn, 1) := by decide +kernel
theorem dX9_spite_11 : decode cX9_spite 11 = .ok (.aload_n 0, 1) := by decide +kernel
theorem dX9_spite_12 : decode cX9_spite 12 = .ok (.getfield 29, 3) := by decide +kernel
theorem dX9_spite_15 : decode cX9_spite 15 = .ok (.getfield 144, 3) := by decide +kernel
theorem dX9_spite_18 : decode cX9_spite 18 = .ok (.iconst 4, 1) := by decide +kernel
theorem dX9_spite_19 : decode cX9_spite 19 = .ok (.iaload, 1) := by decide +kernel
theorem dX9_spite_20 : decode cX9_spite 20 = .ok (.ifCond .eq 6, 3) := by decide +kernel
theorem dX9_spite_23 : decode cX9_spite 23 = .ok (.bipush (-2), 2) := by decide +kernel
theorem dX9_spite_25 : decode cX9_spite 25 = .ok (.ireturn, 1) := by decide +kernel
theorem dX9_spite_26 : decode cX9_spite 26 = .ok (.iload_n 1, 1) := by decide +kernel
theorem dX9_spite_27 : decode cX9_spite 27 = .ok (.iconst 2, 1) := by decide +kernel
theorem dX9_spite_28 : decode cX9_spite 28 = .ok (.if_icmp .ne 11, 3) := by decide +kernel
theorem dX9_spite_31 : decode cX9_spite 31 = .ok (.aload_n 0, 1) := by decide +kernel
theorem dX9_spite_32 : decode cX9_spite 32 = .ok (.getfield 39, 3) := by decide +kernel
theorem dX9_spite_35 : decode cX9_spite 35 = .ok (.getfield 269, 3) := by decide +kernel
theorem dX9_spite_38 : decode cX9_spite 38 = .ok (.ireturn, 1) := by decide +kernel
theorem dX9_spite_39 : decode cX9_spite 39 = .ok (.aload_n 0, 1) := by decide +kernel
theorem dX9_spite_40 : decode cX9_spite 40 = .ok (.invokevirtual 272, 3) := by decide +kernel
theorem dX9_spite_43 : decode cX9_spite 43 = .ok (.iload_n 1, 1) := by decide +kernel
theorem dX9_spite_44 : decode cX9_spite 44 = .ok (.ifCond .ne 13, 3) := by decide +kernel
theorem dX9_spite_47 : decode cX9_spite 47 = .ok (.aload_n 0, 1) := by decide +kernel
theorem dX9_spite_48 : decode cX9_spite 48 = .ok (.getfield 75, 3) := by decide +kernel
theorem dX9_spite_51 : decode cX9_spite 51 = .ok (.getfield 275, 3) := by decide +kernel
theorem dX9_spite_54 : decode cX9_spite 54 = .ok (.goto 10, 3) := by decide +kernel
theorem dX9_spite_57 : decode cX9_spite 57 = .ok (.aload_n 0, 1) := by decide +kernel
theorem dX9_spite_58 : decode cX9_spite 58 = .ok (.getfield 75, 3) := by decide +kernel
theorem dX9_spite_61 : decode cX9_spite 61 = .ok (.getfield 278, 3) := by decide +kernel
theorem dX9_spite_64 : decode cX9_spite 64 = .ok (.ireturn, 1) := by decide +kernel
theorem dX9_spiteful_0 : decode cX9_spiteful 0 = .ok (.iload_n 1, 1) := by decide +kernel
theorem dX9_spiteful_1 : decode cX9_spiteful 1 = .ok (.ifCond .lt 8, 3) := by decide +kernel
theorem dX9_spiteful_4 : decode cX9_spiteful 4 = .ok (.iload_n 1, 1) := by decide +kernel
theorem dX9_spiteful_5 : decode cX9_spiteful 5 = .ok (.iconst 5, 1) := by decide +kernel
theorem dX9_spiteful_6 : decode cX9_spiteful 6 = .ok (.if_icmp .lt 5, 3) := by decide +kernel
theorem dX9_spiteful_9 : decode cX9_spiteful 9 = .ok (.iconst (-1), 1) := by decide +kernel
theorem dX9_spiteful_10 : decode cX9_spiteful 10 = .ok (.ireturn, 1) := by decide +kernel
theorem dX9_spiteful_11 : decode cX9_spiteful 11 = .ok (.aload_n 0, 1) := by decide +kernel
theorem dX9_spiteful_12 : decode cX9_spiteful 12 = .ok (.getfield 29, 3) := by decide +kernel
theorem dX9_spiteful_15 : decode cX9_spiteful 15 = .ok (.getfield 144, 3) := by decide +kernel
theorem dX9_spiteful_18 : decode cX9_spiteful 18 = .ok (.iconst 4, 1) := by decide +kernel
theorem dX9_spiteful_19 : decode cX9_spiteful 19 = .ok (.iaload, 1) := by decide +kernel
theorem dX9_spiteful_20 : decode cX9_spiteful 20 = .ok (.ifCond .eq 6, 3) := by decide +kernel
theorem dX9_spiteful_23 : decode cX9_spiteful 23 = .ok (.bipush (-2), 2) := by decide +kernel
theorem dX9_spiteful_25 : decode cX9_spiteful 25 = .ok (.ireturn, 1) := by decide +kernel
theorem dX9_spiteful_26 : decode cX9_spiteful 26 = .ok (.aload_n 0, 1) := by decide +kernel
theorem dX9_spiteful_27 : decode cX9_spiteful 27 = .ok (.invokevirtual 272, 3) := by decide +kernel
theorem dX9_spiteful_30 : decode cX9_spiteful 30 = .ok (.aload_n 0, 1) := by decide +kernel
theorem dX9_spiteful_31 : decode cX9_spiteful 31 = .ok (.getfield 39, 3) := by decide +kernel
theorem dX9_spiteful_34 : decode cX9_spiteful 34 = .ok (.aload_n 0, 1) := by decide +kernel
theorem dX9_spiteful_35 : decode cX9_spiteful 35 = .ok (.getfield 75, 3) := by decide +kernel
theorem dX9_spiteful_38 : decode cX9_spiteful 38 = .ok (.getfield 281, 3) := by decide +kernel
theorem dX9_spiteful_41 : decode cX9_spiteful 41 = .ok (.iload_n 1, 1) := by decide +kernel
theorem dX9_spiteful_42 : decode cX9_spiteful 42 = .ok (.invokevirtual 284, 3) := by decide +kernel
theorem dX9_spiteful_45 : decode cX9_spiteful 45 = .ok (.ireturn, 1) := by decide +kernel
theorem dX9_odds_0 : decode cX9_odds 0 = .ok (.iload_n 1, 1) := by decide +kernel
theorem dX9_odds_1 : decode cX9_odds 1 = .ok (.ifCond .lt 18, 3) := by decide +kernel
theorem dX9_odds_4 : decode cX9_odds 4 = .ok (.iload_n 1, 1) := by decide +kernel
theorem dX9_odds_5 : decode cX9_odds 5 = .ok (.bipush 10, 2) := by decide +kernel
theorem dX9_odds_7 : decode cX9_odds 7 = .ok (.if_icmp .gt 12, 3) := by decide +kernel
theorem dX9_odds_10 : decode cX9_odds 10 = .ok (.iload_n 2, 1) := by decide +kernel
theorem dX9_odds_11 : decode cX9_odds 11 = .ok (.ifCond .eq 10, 3) := by decide +kernel
theorem dX9_odds_14 : decode cX9_odds 14 = .ok (.iload_n 2, 1) := by decide +kernel
theorem dX9_odds_15 : decode cX9_odds 15 = .ok (.iconst 1, 1) := by decide +kernel
theorem dX9_odds_16 : decode cX9_odds 16 = .ok (.if_icmp .eq 5, 3) := by decide +kernel
theorem dX9_odds_19 : decode cX9_odds 19 = .ok (.iconst (-1), 1) := by decide +kernel
theorem dX9_odds_20 : decode cX9_odds 20 = .ok (.ireturn, 1) := by decide +kernel
theorem dX9_odds_21 : decode cX9_odds 21 = .ok (.aload_n 0, 1) := by decide +kernel
theorem dX9_odds_22 : decode cX9_odds 22 = .ok (.invokevirtual 250, 3) := by decide +kernel
theorem dX9_odds_25 : decode cX9_odds 25 = .ok (.istore_n 3, 1) := by decide +kernel
theorem dX9_odds_26 : decode cX9_odds 26 = .ok (.iconst 0, 1) := by decide +kernel
theorem dX9_odds_27 : decode cX9_odds 27 = .ok (.istore 4, 2) := by decide +kernel
theorem dX9_odds_29 : decode cX9_odds 29 = .ok (.iconst 1, 1) := by decide +kernel
theorem dX9_odds_30 : decode cX9_odds 30 = .ok (.istore 5, 2) := by decide +kernel
theorem dX9_odds_32 : decode cX9_odds 32 = .ok (.iconst 0, 1) := by decide +kernel
theorem dX9_odds_33 : decode cX9_odds 33 = .ok (.istore 6, 2) := by decide +kernel
theorem dX9_odds_35 : decode cX9_odds 35 = .ok (.iload 6, 2) := by decide +kernel
theorem dX9_odds_37 : decode cX9_odds 37 = .ok (.iconst 1, 1) := by decide +kernel
theorem dX9_odds_38 : decode cX9_odds 38 = .ok (.aload_n 0, 1) := by decide +kernel
theorem dX9_odds_39 : decode cX9_odds 39 = .ok (.getfield 29, 3) := by decide +kernel
theorem dX9_odds_42 : decode cX9_odds 42 = .ok (.getfield 174, 3) := by decide +kernel
theorem dX9_odds_45 : decode cX9_odds 45 = .ok (.ishl, 1) := by decide +kernel
theorem dX9_odds_46 : decode cX9_odds 46 = .ok (.if_icmp .ge 31, 3) := by decide +kernel
theorem dX9_odds_49 : decode cX9_odds 49 = .ok (.iload_n 3, 1) := by decide +kernel
theorem dX9_odds_50 : decode cX9_odds 50 = .ok (.iload 6, 2) := by decide +kernel
theorem dX9_odds_52 : decode cX9_odds 52 = .ok (.ishr, 1) := by decide +kernel
theorem dX9_odds_53 : decode cX9_odds 53 = .ok (.iconst 1, 1) := by decide +kernel
theorem dX9_odds_54 : decode cX9_odds 54 = .ok (.iand, 1) := by decide +kernel
theorem dX9_odds_55 : decode cX9_odds 55 = .ok (.iconst 1, 1) := by decide +kernel
theorem dX9_odds_56 : decode cX9_odds 56 = .ok (.if_icmp .ne 15, 3) := by decide +kernel
theorem dX9_odds_59 : decode cX9_odds 59 = .ok (.iload 4, 2) := by decide +kernel
theorem dX9_odds_61 : decode cX9_odds 61 = .ok (.aload_n 0, 1) := by decide +kernel
theorem dX9_odds_62 : decode cX9_odds 62 = .ok (.iload 6, 2) := by decide +kernel
theorem dX9_odds_64 : decode cX9_odds 64 = .ok (.iload_n 1, 1) := by decide +kernel
theorem dX9_odds_65 : decode cX9_odds 65 = .ok (.invokevirtual 285, 3) := by decide +kernel
theorem dX9_odds_68 : decode cX9_odds 68 = .ok (.iadd, 1) := by decide +kernel
theorem dX9_odds_69 : decode cX9_odds 69 = .ok (.istore 4, 2) := by decide +kernel
theorem dX9_odds_71 : decode cX9_odds 71 = .ok (.iinc 6 1, 3) := by decide +kernel
theorem dX9_odds_74 : decode cX9_odds 74 = .ok (.goto (-39), 3) := by decide +kernel
theorem dX9_odds_77 : decode cX9_odds 77 = .ok (.iconst 0, 1) := by decide +kernel
theorem dX9_odds_78 : decode cX9_odds 78 = .ok (.istore 6, 2) := by decide +kernel
theorem dX9_odds_80 : decode cX9_odds 80 = .ok (.iload 6, 2) := by decide +kernel
theorem dX9_odds_82 : decode cX9_odds 82 = .ok (.aload_n 0, 1) := by decide +kernel
theorem dX9_odds_83 : decode cX9_odds 83 = .ok (.getfield 29, 3) := by decide +kernel
theorem dX9_odds_86 : decode cX9_odds 86 = .ok (.getfield 174, 3) := by decide +kernel
theorem dX9_odds_89 : decode cX9_odds 89 = .ok (.if_icmp .ge 16, 3) := by decide +kernel
theorem dX9_odds_92 : decode cX9_odds 92 = .ok (.iload 5, 2) := by decide +kernel
theorem dX9_odds_94 : decode cX9_odds 94 = .ok (.bipush 10, 2) := by decide +kernel
theorem dX9_odds_96 : decode cX9_odds 96 = .ok (.imul, 1) := by decide +kernel
theorem dX9_odds_97 : decode cX9_odds 97 = .ok (.istore 5, 2) := by decide +kernel
theorem dX9_odds_99 : decode cX9_odds 99 = .ok (.iinc 6 1, 3) := by decide +kernel
theorem dX9_odds_102 : decode cX9_odds 102 = .ok (.goto (-22), 3) := by decide +kernel
theorem dX9_odds_105 : decode cX9_odds 105 = .ok (.iload 4, 2) := by decide +kernel
theorem dX9_odds_107 : decode cX9_odds 107 = .ok (.iload 5, 2) := by decide +kernel
theorem dX9_odds_109 : decode cX9_odds 109 = .ok (.invokestatic 288, 3) := by decide +kernel
theorem dX9_odds_112 : decode cX9_odds 112 = .ok (.istore 6, 2) := by decide +kernel
theorem dX9_odds_114 : decode cX9_odds 114 = .ok (.iload_n 2, 1) := by decide +kernel
theorem dX9_odds_115 : decode cX9_odds 115 = .ok (.ifCond .ne 8, 3) := by decide +kernel
theorem dX9_odds_118 : decode cX9_odds 118 = .ok (.iload 4, 2) := by decide +kernel
theorem dX9_odds_120 : decode cX9_odds 120 = .ok (.goto 5, 3) := by decide +kernel
theorem dX9_odds_123 : decode cX9_odds 123 = .ok (.iload 5, 2) := by decide +kernel
theorem dX9_odds_125 : decode cX9_odds 125 = .ok (.istore 7, 2) := by decide +kernel
theorem dX9_odds_127 : decode cX9_odds 127 = .ok (.iload 6, 2) := by decide +kernel
theorem dX9_odds_129 : decode cX9_odds 129 = .ok (.ifCond .ne 8, 3) := by decide +kernel
theorem dX9_odds_132 : decode cX9_odds 132 = .ok (.iload 7, 2) := by decide +kernel
theorem dX9_odds_134 : decode cX9_odds 134 = .ok (.goto 8, 3) := by decide +kernel
theorem dX9_odds_137 : decode cX9_odds 137 = .ok (.iload 7, 2) := by decide +kernel
theorem dX9_odds_139 : decode cX9_odds 139 = .ok (.iload 6, 2) := by decide +kernel
theorem dX9_odds_141 : decode cX9_odds 141 = .ok (.idiv, 1) := by decide +kernel
theorem dX9_odds_142 : decode cX9_odds 142 = .ok (.ireturn, 1) := by decide +kernel
theorem dX9_allMaps_0 : decode cX9_allMaps 0 = .ok (.iconst 1, 1) := by decide +kernel
theorem dX9_allMaps_1 : decode cX9_allMaps 1 = .ok (.aload_n 0, 1) := by decide +kernel
theorem dX9_allMaps_2 : decode cX9_allMaps 2 = .ok (.getfield 29, 3) := by decide +kernel
theorem dX9_allMaps_5 : decode cX9_allMaps 5 = .ok (.getfield 174, 3) := by decide +kernel
theorem dX9_allMaps_8 : decode cX9_allMaps 8 = .ok (.ishl, 1) := by decide +kernel
theorem dX9_allMaps_9 : decode cX9_allMaps 9 = .ok (.iconst 1, 1) := by decide +kernel
theorem dX9_allMaps_10 : decode cX9_allMaps 10 = .ok (.isub, 1) := by decide +kernel
theorem dX9_allMaps_11 : decode cX9_allMaps 11 = .ok (.ireturn, 1) := by decide +kernel
theorem dX9_waysOf_0 : decode cX9_waysOf 0 = .ok (.lconst 0, 1) := by decide +kernel
theorem dX9_waysOf_1 : decode cX9_waysOf 1 = .ok (.lstore_n 2, 1) := by decide +kernel
theorem dX9_waysOf_2 : decode cX9_waysOf 2 = .ok (.iconst 0, 1) := by decide +kernel
theorem dX9_waysOf_3 : decode cX9_waysOf 3 = .ok (.istore 4, 2) := by decide +kernel
theorem dX9_waysOf_5 : decode cX9_waysOf 5 = .ok (.iload 4, 2) := by decide +kernel
theorem dX9_waysOf_7 : decode cX9_waysOf 7 = .ok (.aload_n 0, 1) := by decide +kernel
theorem dX9_waysOf_8 : decode cX9_waysOf 8 = .ok (.getfield 29, 3) := by decide +kernel
theorem dX9_waysOf_11 : decode cX9_waysOf 11 = .ok (.getfield 174, 3) := by decide +kernel
theorem dX9_waysOf_14 : decode cX9_waysOf 14 = .ok (.if_icmp .ge 42, 3) := by decide +kernel
theorem dX9_waysOf_17 : decode cX9_waysOf 17 = .ok (.iload_n 1, 1) := by decide +kernel
theorem dX9_waysOf_18 : decode cX9_waysOf 18 = .ok (.iload 4, 2) := by decide +kernel
theorem dX9_waysOf_20 : decode cX9_waysOf 20 = .ok (.ishr, 1) := by decide +kernel
theorem dX9_waysOf_21 : decode cX9_waysOf 21 = .ok (.iconst 1, 1) := by decide +kernel
theorem dX9_waysOf_22 : decode cX9_waysOf 22 = .ok (.iand, 1) := by decide +kernel
theorem dX9_waysOf_23 : decode cX9_waysOf 23 = .ok (.iconst 1, 1) := by decide +kernel
theorem dX9_waysOf_24 : decode cX9_waysOf 24 = .ok (.if_icmp .ne 26, 3) := by decide +kernel
theorem dX9_waysOf_27 : decode cX9_waysOf 27 = .ok (.lload_n 2, 1) := by decide +kernel
theorem dX9_waysOf_28 : decode cX9_waysOf 28 = .ok (.aload_n 0, 1) := by decide +kernel
theorem dX9_waysOf_29 : decode cX9_waysOf 29 = .ok (.getfield 39, 3) := by decide +kernel
theorem dX9_waysOf_32 : decode cX9_waysOf 32 = .ok (.aload_n 0, 1) := by decide +kernel
theorem dX9_waysOf_33 : decode cX9_waysOf 33 = .ok (.getfield 29, 3) := by decide +kernel
theorem dX9_waysOf_36 : decode cX9_waysOf 36 = .ok (.aload_n 0, 1) := by decide +kernel
theorem dX9_waysOf_37 : decode cX9_waysOf 37 = .ok (.getfield 19, 3) := by decide +kernel
theorem dX9_waysOf_40 : decode cX9_waysOf 40 = .ok (.iload 4, 2) := by decide +kernel
theorem dX9_waysOf_42 : decode cX9_waysOf 42 = .ok (.invokevirtual 147, 3) := by decide +kernel
theorem dX9_waysOf_45 : decode cX9_waysOf 45 = .ok (.invokevirtual 291, 3) := by decide +kernel
theorem dX9_waysOf_48 : decode cX9_waysOf 48 = .ok (.lor, 1) := by decide +kernel
theorem dX9_waysOf_49 : decode cX9_waysOf 49 = .ok (.lstore_n 2, 1) := by decide +kernel
theorem dX9_waysOf_50 : decode cX9_waysOf 50 = .ok (.iinc 4 1, 3) := by decide +kernel
theorem dX9_waysOf_53 : decode cX9_waysOf 53 = .ok (.goto (-48), 3) := by decide +kernel
theorem dX9_waysOf_56 : decode cX9_waysOf 56 = .ok (.aload_n 0, 1) := by decide +kernel
theorem dX9_waysOf_57 : decode cX9_waysOf 57 = .ok (.invokevirtual 201, 3) := by decide +kernel
theorem dX9_waysOf_60 : decode cX9_waysOf 60 = .ok (.ifCond .eq 27, 3) := by decide +kernel
theorem dX9_waysOf_63 : decode cX9_waysOf 63 = .ok (.lload_n 2, 1) := by decide +kernel
theorem dX9_waysOf_64 : decode cX9_waysOf 64 = .ok (.aload_n 0, 1) := by decide +kernel
theorem dX9_waysOf_65 : decode cX9_waysOf 65 = .ok (.getfield 39, 3) := by decide +kernel
theorem dX9_waysOf_68 : decode cX9_waysOf 68 = .ok (.aload_n 0, 1) := by decide +kernel
theorem dX9_waysOf_69 : decode cX9_waysOf 69 = .ok (.getfield 29, 3) := by decide +kernel
theorem dX9_waysOf_72 : decode cX9_waysOf 72 = .ok (.aload_n 0, 1) := by decide +kernel
theorem dX9_waysOf_73 : decode cX9_waysOf 73 = .ok (.getfield 19, 3) := by decide +kernel
theorem dX9_waysOf_76 : decode cX9_waysOf 76 = .ok (.iconst 4, 1) := by decide +kernel
theorem dX9_waysOf_77 : decode cX9_waysOf 77 = .ok (.invokevirtual 147, 3) := by decide +kernel
theorem dX9_waysOf_80 : decode cX9_waysOf 80 = .ok (.invokevirtual 291, 3) := by decide +kernel
theorem dX9_waysOf_83 : decode cX9_waysOf 83 = .ok (.lor, 1) := by decide +kernel
theorem dX9_waysOf_84 : decode cX9_waysOf 84 = .ok (.goto 4, 3) := by decide +kernel
theorem dX9_waysOf_87 : decode cX9_waysOf 87 = .ok (.lload_n 2, 1) := by decide +kernel
theorem dX9_waysOf_88 : decode cX9_waysOf 88 = .ok (.lreturn, 1) := by decide +kernel
theorem dX9_costOf_0 : decode cX9_costOf 0 = .ok (.aload_n 0, 1) := by decide +kernel
theorem dX9_costOf_1 : decode cX9_costOf 1 = .ok (.getfield 61, 3) := by decide +kernel
theorem dX9_costOf_4 : decode cX9_costOf 4 = .ok (.aload_n 0, 1) := by decide +kernel
theorem dX9_costOf_5 : decode cX9_costOf 5 = .ok (.getfield 19, 3) := by decide +kernel
theorem dX9_costOf_8 : decode cX9_costOf 8 = .ok (.aload_n 0, 1) := by decide +kernel
theorem dX9_costOf_9 : decode cX9_costOf 9 = .ok (.getfield 39, 3) := by decide +kernel
theorem dX9_costOf_12 : decode cX9_costOf 12 = .ok (.aload_n 0, 1) := by decide +kernel
theorem dX9_costOf_13 : decode cX9_costOf 13 = .ok (.getfield 29, 3) := by decide +kernel
theorem dX9_costOf_16 : decode cX9_costOf 16 = .ok (.getfield 131, 3) := by decide +kernel
theorem dX9_costOf_19 : decode cX9_costOf 19 = .ok (.lload_n 1, 1) := by decide +kernel
theorem dX9_costOf_20 : decode cX9_costOf 20 = .ok (.invokevirtual 294, 3) := by decide +kernel
theorem dX9_costOf_23 : decode cX9_costOf 23 = .ok (.aload_n 0, 1) := by decide +kernel
theorem dX9_costOf_24 : decode cX9_costOf 24 = .ok (.getfield 61, 3) := by decide +kernel
theorem dX9_costOf_27 : decode cX9_costOf 27 = .ok (.invokevirtual 298, 3) := by decide +kernel
theorem dX9_costOf_30 : decode cX9_costOf 30 = .ok (.ireturn, 1) := by decide +kernel
theorem dX9_canHold_0 : decode cX9_canHold 0 = .ok (.aload_n 0, 1) := by decide +kernel
theorem dX9_canHold_1 : decode cX9_canHold 1 = .ok (.getfield 61, 3) := by decide +kernel
theorem dX9_canHold_4 : decode cX9_canHold 4 = .ok (.aload_n 0, 1) := by decide +kernel
theorem dX9_canHold_5 : decode cX9_canHold 5 = .ok (.getfield 19, 3) := by decide +kernel
theorem dX9_canHold_8 : decode cX9_canHold 8 = .ok (.aload_n 0, 1) := by decide +kernel
theorem dX9_canHold_9 : decode cX9_canHold 9 = .ok (.getfield 39, 3) := by decide +kernel
theorem dX9_canHold_12 : decode cX9_canHold 12 = .ok (.aload_n 0, 1) := by decide +kernel
theorem dX9_canHold_13 : decode cX9_canHold 13 = .ok (.getfield 29, 3) := by decide +kernel
theorem dX9_canHold_16 : decode cX9_canHold 16 = .ok (.getfield 131, 3) := by decide +kernel
theorem dX9_canHold_19 : decode cX9_canHold 19 = .ok (.lload_n 1, 1) := by decide +kernel
theorem dX9_canHold_20 : decode cX9_canHold 20 = .ok (.invokevirtual 294, 3) := by decide +kernel
theorem dX9_canHold_23 : decode cX9_canHold 23 = .ok (.aload_n 0, 1) := by decide +kernel
theorem dX9_canHold_24 : decode cX9_canHold 24 = .ok (.getfield 61, 3) := by decide +kernel
theorem dX9_canHold_27 : decode cX9_canHold 27 = .ok (.sipush 1000, 3) := by decide +kernel
theorem dX9_canHold_30 : decode cX9_canHold 30 = .ok (.invokevirtual 301, 3) := by decide +kernel
theorem dX9_canHold_33 : decode cX9_canHold 33 = .ok (.ireturn, 1) := by decide +kernel
theorem dX9_askedCost_0 : decode cX9_askedCost 0 = .ok (.aload_n 0, 1) := by decide +kernel
theorem dX9_askedCost_1 : decode cX9_askedCost 1 = .ok (.getfield 68, 3) := by decide +kernel
theorem dX9_askedCost_4 : decode cX9_askedCost 4 = .ok (.getfield 240, 3) := by decide +kernel
theorem dX9_askedCost_7 : decode cX9_askedCost 7 = .ok (.ifCond .ne 80, 3) := by decide +kernel
theorem dX9_askedCost_10 : decode cX9_askedCost 10 = .ok (.aload_n 0, 1) := by decide +kernel
theorem dX9_askedCost_11 : decode cX9_askedCost 11 = .ok (.getfield 68, 3) := by decide +kernel
theorem dX9_askedCost_14 : decode cX9_askedCost 14 = .ok (.aload_n 0, 1) := by decide +kernel
theorem dX9_askedCost_15 : decode cX9_askedCost 15 = .ok (.aload_n 0, 1) := by decide +kernel
theorem dX9_askedCost_16 : decode cX9_askedCost 16 = .ok (.aload_n 0, 1) := by decide +kernel
theorem dX9_askedCost_17 : decode cX9_askedCost 17 = .ok (.invokevirtual 258, 3) := by decide +kernel
theorem dX9_askedCost_20 : decode cX9_askedCost 20 = .ok (.invokevirtual 261, 3) := by decide +kernel
theorem dX9_askedCost_23 : decode cX9_askedCost 23 = .ok (.invokevirtual 265, 3) := by decide +kernel
theorem dX9_askedCost_26 : decode cX9_askedCost 26 = .ok (.putfield 304, 3) := by decide +kernel
theorem dX9_askedCost_29 : decode cX9_askedCost 29 = .ok (.aload_n 0, 1) := by decide +kernel
theorem dX9_askedCost_30 : decode cX9_askedCost 30 = .ok (.getfield 68, 3) := by decide +kernel
theorem dX9_askedCost_33 : decode cX9_askedCost 33 = .ok (.getfield 304, 3) := by decide +kernel
theorem dX9_askedCost_36 : decode cX9_askedCost 36 = .ok (.bipush (-9), 2) := by decide +kernel
theorem dX9_askedCost_38 : decode cX9_askedCost 38 = .ok (.if_icmp .eq 41, 3) := by decide +kernel
theorem dX9_askedCost_41 : decode cX9_askedCost 41 = .ok (.aload_n 0, 1) := by decide +kernel
theorem dX9_askedCost_42 : decode cX9_askedCost 42 = .ok (.getfield 61, 3) := by decide +kernel
theorem dX9_askedCost_45 : decode cX9_askedCost 45 = .ok (.aload_n 0, 1) := by decide +kernel
theorem dX9_askedCost_46 : decode cX9_askedCost 46 = .ok (.getfield 68, 3) := by decide +kernel
theorem dX9_askedCost_49 : decode cX9_askedCost 49 = .ok (.getfield 304, 3) := by decide +kernel
theorem dX9_askedCost_52 : decode cX9_askedCost 52 = .ok (.invokevirtual 301, 3) := by decide +kernel
theorem dX9_askedCost_55 : decode cX9_askedCost 55 = .ok (.ifCond .eq 24, 3) := by decide +kernel
theorem dX9_askedCost_58 : decode cX9_askedCost 58 = .ok (.aload_n 0, 1) := by decide +kernel
theorem dX9_askedCost_59 : decode cX9_askedCost 59 = .ok (.getfield 61, 3) := by decide +kernel
theorem dX9_askedCost_62 : decode cX9_askedCost 62 = .ok (.getfield 305, 3) := by decide +kernel
theorem dX9_askedCost_65 : decode cX9_askedCost 65 = .ok (.iconst 0, 1) := by decide +kernel
theorem dX9_askedCost_66 : decode cX9_askedCost 66 = .ok (.aload_n 0, 1) := by decide +kernel
theorem dX9_askedCost_67 : decode cX9_askedCost 67 = .ok (.getfield 68, 3) := by decide +kernel
theorem dX9_askedCost_70 : decode cX9_askedCost 70 = .ok (.getfield 208, 3) := by decide +kernel
theorem dX9_askedCost_73 : decode cX9_askedCost 73 = .ok (.iconst 0, 1) := by decide +kernel
theorem dX9_askedCost_74 : decode cX9_askedCost 74 = .ok (.bipush 6, 2) := by decide +kernel
theorem dX9_askedCost_76 : decode cX9_askedCost 76 = .ok (.invokestatic 209, 3) := by decide +kernel
theorem dX9_askedCost_79 : decode cX9_askedCost 79 = .ok (.aload_n 0, 1) := by decide +kernel
theorem dX9_askedCost_80 : decode cX9_askedCost 80 = .ok (.getfield 68, 3) := by decide +kernel
theorem dX9_askedCost_83 : decode cX9_askedCost 83 = .ok (.iconst 1, 1) := by decide +kernel
theorem dX9_askedCost_84 : decode cX9_askedCost 84 = .ok (.putfield 240, 3) := by decide +kernel
theorem dX9_askedCost_87 : decode cX9_askedCost 87 = .ok (.aload_n 0, 1) := by decide +kernel
theorem dX9_askedCost_88 : decode cX9_askedCost 88 = .ok (.getfield 68, 3) := by decide +kernel
theorem dX9_askedCost_91 : decode cX9_askedCost 91 = .ok (.getfield 304, 3) := by decide +kernel
theorem dX9_askedCost_94 : decode cX9_askedCost 94 = .ok (.ireturn, 1) := by decide +kernel
theorem dX9_standing_0 : decode cX9_standing 0 = .ok (.aload_n 0, 1) := by decide +kernel
theorem dX9_standing_1 : decode cX9_standing 1 = .ok (.invokevirtual 258, 3) := by decide +kernel
theorem dX9_standing_4 : decode cX9_standing 4 = .ok (.istore_n 1, 1) := by decide +kernel
theorem dX9_standing_5 : decode cX9_standing 5 = .ok (.aload_n 0, 1) := by decide +kernel
theorem dX9_standing_6 : decode cX9_standing 6 = .ok (.aload_n 0, 1) := by decide +kernel
theorem dX9_standing_7 : decode cX9_standing 7 = .ok (.iload_n 1, 1) := by decide +kernel
theorem dX9_standing_8 : decode cX9_standing 8 = .ok (.invokevirtual 261, 3) := by decide +kernel
theorem dX9_standing_11 : decode cX9_standing 11 = .ok (.invokevirtual 308, 3) := by decide +kernel
theorem dX9_standing_14 : decode cX9_standing 14 = .ok (.ifCond .eq 11, 3) := by decide +kernel
theorem dX9_standing_17 : decode cX9_standing 17 = .ok (.iconst 1, 1) := by decide +kernel
theorem dX9_standing_18 : decode cX9_standing 18 = .ok (.iload_n 1, 1) := by decide +kernel
theorem dX9_standing_19 : decode cX9_standing 19 = .ok (.iconst 1, 1) := by decide +kernel
theorem dX9_standing_20 : decode cX9_standing 20 = .ok (.iadd, 1) := by decide +kernel
theorem dX9_standing_21 : decode cX9_standing 21 = .ok (.ishl, 1) := by decide +kernel
theorem dX9_standing_22 : decode cX9_standing 22 = .ok (.iconst 1, 1) := by decide +kernel
theorem dX9_standing_23 : decode cX9_standing 23 = .ok (.isub, 1) := by decide +kernel
theorem dX9_standing_24 : decode cX9_standing 24 = .ok (.ireturn, 1) := by decide +kernel
theorem dX9_standing_25 : decode cX9_standing 25 = .ok (.iconst 0, 1) := by decide +kernel
theorem dX9_standing_26 : decode cX9_standing 26 = .ok (.istore_n 2, 1) := by decide +kernel
theorem dX9_standing_27 : decode cX9_standing 27 = .ok (.iconst 0, 1) := by decide +kernel
theorem dX9_standing_28 : decode cX9_standing 28 = .ok (.istore_n 3, 1) := by decide +kernel
theorem dX9_standing_29 : decode cX9_standing 29 = .ok (.iload_n 3, 1) := by decide +kernel
theorem dX9_standing_30 : decode cX9_standing 30 = .ok (.iload_n 1, 1) := by decide +kernel
theorem dX9_standing_31 : decode cX9_standing 31 = .ok (.if_icmp .ge 36, 3) := by decide +kernel
theorem dX9_standing_34 : decode cX9_standing 34 = .ok (.aload_n 0, 1) := by decide +kernel
theorem dX9_standing_35 : decode cX9_standing 35 = .ok (.iload_n 2, 1) := by decide +kernel
theorem dX9_standing_36 : decode cX9_standing 36 = .ok (.iload_n 3, 1) := by decide +kernel
theorem dX9_standing_37 : decode cX9_standing 37 = .ok (.invokevirtual 312, 3) := by decide +kernel
theorem dX9_standing_40 : decode cX9_standing 40 = .ok (.ifCond .eq 21, 3) := by decide +kernel
theorem dX9_standing_43 : decode cX9_standing 43 = .ok (.aload_n 0, 1) := by decide +kernel
theorem dX9_standing_44 : decode cX9_standing 44 = .ok (.aload_n 0, 1) := by decide +kernel
theorem dX9_standing_45 : decode cX9_standing 45 = .ok (.iload_n 3, 1) := by decide +kernel
theorem dX9_standing_46 : decode cX9_standing 46 = .ok (.invokevirtual 261, 3) := by decide +kernel
theorem dX9_standing_49 : decode cX9_standing 49 = .ok (.invokevirtual 308, 3) := by decide +kernel
theorem dX9_standing_52 : decode cX9_standing 52 = .ok (.ifCond .eq 9, 3) := by decide +kernel
theorem dX9_standing_55 : decode cX9_standing 55 = .ok (.iload_n 2, 1) := by decide +kernel
theorem dX9_standing_56 : decode cX9_standing 56 = .ok (.iconst 1, 1) := by decide +kernel
theorem dX9_standing_57 : decode cX9_standing 57 = .ok (.iload_n 3, 1) := by decide +kernel
theorem dX9_standing_58 : decode cX9_standing 58 = .ok (.ishl, 1) := by decide +kernel
theorem dX9_standing_59 : decode cX9_standing 59 = .ok (.ior, 1) := by decide +kernel
theorem dX9_standing_60 : decode cX9_standing 60 = .ok (.istore_n 2, 1) := by decide +kernel
theorem dX9_standing_61 : decode cX9_standing 61 = .ok (.iinc 3 1, 3) := by decide +kernel
theorem dX9_standing_64 : decode cX9_standing 64 = .ok (.goto (-35), 3) := by decide +kernel
theorem dX9_standing_67 : decode cX9_standing 67 = .ok (.iload_n 2, 1) := by decide +kernel
theorem dX9_standing_68 : decode cX9_standing 68 = .ok (.ireturn, 1) := by decide +kernel
theorem dX9_partsStand_0 : decode cX9_partsStand 0 = .ok (.iconst 0, 1) := by decide +kernel
theorem dX9_partsStand_1 : decode cX9_partsStand 1 = .ok (.istore_n 3, 1) := by decide +kernel
theorem dX9_partsStand_2 : decode cX9_partsStand 2 = .ok (.iload_n 3, 1) := by decide +kernel
theorem dX9_partsStand_3 : decode cX9_partsStand 3 = .ok (.aload_n 0, 1) := by decide +kernel
theorem dX9_partsStand_4 : decode cX9_partsStand 4 = .ok (.getfield 29, 3) := by decide +kernel
theorem dX9_partsStand_7 : decode cX9_partsStand 7 = .ok (.getfield 174, 3) := by decide +kernel
theorem dX9_partsStand_10 : decode cX9_partsStand 10 = .ok (.if_icmp .ge 34, 3) := by decide +kernel
theorem dX9_partsStand_13 : decode cX9_partsStand 13 = .ok (.iload_n 2, 1) := by decide +kernel
theorem dX9_partsStand_14 : decode cX9_partsStand 14 = .ok (.iload_n 3, 1) := by decide +kernel
theorem dX9_partsStand_15 : decode cX9_partsStand 15 = .ok (.ishr, 1) := by decide +kernel
theorem dX9_partsStand_16 : decode cX9_partsStand 16 = .ok (.iconst 1, 1) := by decide +kernel
theorem dX9_partsStand_17 : decode cX9_partsStand 17 = .ok (.iand, 1) := by decide +kernel
theorem dX9_partsStand_18 : decode cX9_partsStand 18 = .ok (.iconst 1, 1) := by decide +kernel
theorem dX9_partsStand_19 : decode cX9_partsStand 19 = .ok (.if_icmp .ne 19, 3) := by decide +kernel
theorem dX9_partsStand_22 : decode cX9_partsStand 22 = .ok (.iload_n 1, 1) := by decide +kernel
theorem dX9_partsStand_23 : decode cX9_partsStand 23 = .ok (.iload_n 2, 1) := by decide +kernel
theorem dX9_partsStand_24 : decode cX9_partsStand 24 = .ok (.iconst 1, 1) := by decide +kernel
theorem dX9_partsStand_25 : decode cX9_partsStand 25 = .ok (.iload_n 3, 1) := by decide +kernel
theorem dX9_partsStand_26 : decode cX9_partsStand 26 = .ok (.ishl, 1) := by decide +kernel
theorem dX9_partsStand_27 : decode cX9_partsStand 27 = .ok (.iconst (-1), 1) := by decide +kernel
theorem dX9_partsStand_28 : decode cX9_partsStand 28 = .ok (.ixor, 1) := by decide +kernel
theorem dX9_partsStand_29 : decode cX9_partsStand 29 = .ok (.iand, 1) := by decide +kernel
theorem dX9_partsStand_30 : decode cX9_partsStand 30 = .ok (.ishr, 1) := by decide +kernel
theorem dX9_partsStand_31 : decode cX9_partsStand 31 = .ok (.iconst 1, 1) := by decide +kernel
theorem dX9_partsStand_32 : decode cX9_partsStand 32 = .ok (.iand, 1) := by decide +kernel
theorem dX9_partsStand_33 : decode cX9_partsStand 33 = .ok (.ifCond .ne 5, 3) := by decide +kernel
theorem dX9_partsStand_36 : decode cX9_partsStand 36 = .ok (.iconst 0, 1) := by decide +kernel
theorem dX9_partsStand_37 : decode cX9_partsStand 37 = .ok (.ireturn, 1) := by decide +kernel
theorem dX9_partsStand_38 : decode cX9_partsStand 38 = .ok (.iinc 3 1, 3) := by decide +kernel
theorem dX9_partsStand_41 : decode cX9_partsStand 41 = .ok (.goto (-39), 3) := by decide +kernel
theorem dX9_partsStand_44 : decode cX9_partsStand 44 = .ok (.iconst 1, 1) := by decide +kernel
theorem dX9_partsStand_45 : decode cX9_partsStand 45 = .ok (.ireturn, 1) := by decide +kernel
theorem dX9_chances_0 : decode cX9_chances 0 = .ok (.iconst 1, 1) := by decide +kernel
theorem dX9_chances_1 : decode cX9_chances 1 = .ok (.istore_n 3, 1) := by decide +kernel
theorem dX9_chances_2 : decode cX9_chances 2 = .ok (.iconst 0, 1) := by decide +kernel
theorem dX9_chances_3 : decode cX9_chances 3 = .ok (.istore 4, 2) := by decide +kernel
theorem dX9_chances_5 : decode cX9_chances 5 = .ok (.iload 4, 2) := by decide +kernel
theorem dX9_chances_7 : decode cX9_chances 7 = .ok (.aload_n 0, 1) := by decide +kernel
theorem dX9_chances_8 : decode cX9_chances 8 = .ok (.getfield 29, 3) := by decide +kernel
theorem dX9_chances_11 : decode cX9_chances 11 = .ok (.getfield 174, 3) := by decide +kernel
theorem dX9_chances_14 : decode cX9_chances 14 = .ok (.if_icmp .ge 30, 3) := by decide +kernel
theorem dX9_chances_17 : decode cX9_chances 17 = .ok (.iload_n 3, 1) := by decide +kernel
theorem dX9_chances_18 : decode cX9_chances 18 = .ok (.iload_n 1, 1) := by decide +kernel
theorem dX9_chances_19 : decode cX9_chances 19 = .ok (.iload 4, 2) := by decide +kernel
theorem dX9_chances_21 : decode cX9_chances 21 = .ok (.ishr, 1) := by decide +kernel
theorem dX9_chances_22 : decode cX9_chances 22 = .ok (.iconst 1, 1) := by decide +kernel
theorem dX9_chances_23 : decode cX9_chances 23 = .ok (.iand, 1) := by decide +kernel
theorem dX9_chances_24 : decode cX9_chances 24 = .ok (.iconst 1, 1) := by decide +kernel
theorem dX9_chances_25 : decode cX9_chances 25 = .ok (.if_icmp .ne 10, 3) := by decide +kernel
theorem dX9_chances_28 : decode cX9_chances 28 = .ok (.bipush 10, 2) := by decide +kernel
theorem dX9_chances_30 : decode cX9_chances 30 = .ok (.iload_n 2, 1) := by decide +kernel
theorem dX9_chances_31 : decode cX9_chances 31 = .ok (.isub, 1) := by decide +kernel
theorem dX9_chances_32 : decode cX9_chances 32 = .ok (.goto 4, 3) := by decide +kernel
theorem dX9_chances_35 : decode cX9_chances 35 = .ok (.iload_n 2, 1) := by decide +kernel
theorem dX9_chances_36 : decode cX9_chances 36 = .ok (.imul, 1) := by decide +kernel
theorem dX9_chances_37 : decode cX9_chances 37 = .ok (.istore_n 3, 1) := by decide +kernel
theorem dX9_chances_38 : decode cX9_chances 38 = .ok (.iinc 4 1, 3) := by decide +kernel
theorem dX9_chances_41 : decode cX9_chances 41 = .ok (.goto (-36), 3) := by decide +kernel
theorem dX9_chances_44 : decode cX9_chances 44 = .ok (.iload_n 3, 1) := by decide +kernel
theorem dX9_chances_45 : decode cX9_chances 45 = .ok (.ireturn, 1) := by decide +kernel
theorem dX9_commonDivisor_0 : decode cX9_commonDivisor 0 = .ok (.iload_n 0, 1) := by decide +kernel
theorem dX9_commonDivisor_1 : decode cX9_commonDivisor 1 = .ok (.istore_n 2, 1) := by decide +kernel
theorem dX9_commonDivisor_2 : decode cX9_commonDivisor 2 = .ok (.iload_n 1, 1) := by decide +kernel
theorem dX9_commonDivisor_3 : decode cX9_commonDivisor 3 = .ok (.istore_n 3, 1) := by decide +kernel
theorem dX9_commonDivisor_4 : decode cX9_commonDivisor 4 = .ok (.iconst 0, 1) := by decide +kernel
theorem dX9_commonDivisor_5 : decode cX9_commonDivisor 5 = .ok (.istore 4, 2) := by decide +kernel
theorem dX9_commonDivisor_7 : decode cX9_commonDivisor 7 = .ok (.iload 4, 2) := by decide +kernel
theorem dX9_commonDivisor_9 : decode cX9_commonDivisor 9 = .ok (.bipush 64, 2) := by decide +kernel
theorem dX9_commonDivisor_11 : decode cX9_commonDivisor 11 = .ok (.if_icmp .ge 23, 3) := by decide +kernel
theorem dX9_commonDivisor_14 : decode cX9_commonDivisor 14 = .ok (.iload_n 3, 1) := by decide +kernel
theorem dX9_commonDivisor_15 : decode cX9_commonDivisor 15 = .ok (.ifCond .eq 19, 3) := by decide +kernel
theorem dX9_commonDivisor_18 : decode cX9_commonDivisor 18 = .ok (.iload_n 2, 1) := by decide +kernel
theorem dX9_commonDivisor_19 : decode cX9_commonDivisor 19 = .ok (.iload_n 3, 1) := by decide +kernel
theorem dX9_commonDivisor_20 : decode cX9_commonDivisor 20 = .ok (.irem, 1) := by decide +kernel
theorem dX9_commonDivisor_21 : decode cX9_commonDivisor 21 = .ok (.istore 5, 2) := by decide +kernel
theorem dX9_commonDivisor_23 : decode cX9_commonDivisor 23 = .ok (.iload_n 3, 1) := by decide +kernel
theorem dX9_commonDivisor_24 : decode cX9_commonDivisor 24 = .ok (.istore_n 2, 1) := by decide +kernel
theorem dX9_commonDivisor_25 : decode cX9_commonDivisor 25 = .ok (.iload 5, 2) := by decide +kernel
theorem dX9_commonDivisor_27 : decode cX9_commonDivisor 27 = .ok (.istore_n 3, 1) := by decide +kernel
theorem dX9_commonDivisor_28 : decode cX9_commonDivisor 28 = .ok (.iinc 4 1, 3) := by decide +kernel
theorem dX9_commonDivisor_31 : decode cX9_commonDivisor 31 = .ok (.goto (-24), 3) := by decide +kernel
theorem dX9_commonDivisor_34 : decode cX9_commonDivisor 34 = .ok (.iload_n 2, 1) := by decide +kernel
theorem dX9_commonDivisor_35 : decode cX9_commonDivisor 35 = .ok (.ireturn, 1) := by decide +kernel
theorem dX9_findSpite_0 : decode cX9_findSpite 0 = .ok (.aload_n 0, 1) := by decide +kernel
theorem dX9_findSpite_1 : decode cX9_findSpite 1 = .ok (.getfield 75, 3) := by decide +kernel
theorem dX9_findSpite_4 : decode cX9_findSpite 4 = .ok (.getfield 243, 3) := by decide +kernel
theorem dX9_findSpite_7 : decode cX9_findSpite 7 = .ok (.ifCond .eq 4, 3) := by decide +kernel
theorem dX9_findSpite_10 : decode cX9_findSpite 10 = .ok (.return_, 1) := by decide +kernel
theorem dX9_findSpite_11 : decode cX9_findSpite 11 = .ok (.aload_n 0, 1) := by decide +kernel
theorem dX9_findSpite_12 : decode cX9_findSpite 12 = .ok (.getfield 75, 3) := by decide +kernel
theorem dX9_findSpite_15 : decode cX9_findSpite 15 = .ok (.invokevirtual 316, 3) := by decide +kernel
theorem dX9_findSpite_18 : decode cX9_findSpite 18 = .ok (.aload_n 0, 1) := by decide +kernel
theorem dX9_findSpite_19 : decode cX9_findSpite 19 = .ok (.aload_n 0, 1) := by decide +kernel
theorem dX9_findSpite_20 : decode cX9_findSpite 20 = .ok (.invokevirtual 258, 3) := by decide +kernel
theorem dX9_findSpite_23 : decode cX9_findSpite 23 = .ok (.invokevirtual 261, 3) := by decide +kernel
theorem dX9_findSpite_26 : decode cX9_findSpite 26 = .ok (.lstore_n 1, 1) := by decide +kernel
theorem dX9_findSpite_27 : decode cX9_findSpite 27 = .ok (.aload_n 0, 1) := by decide +kernel
theorem dX9_findSpite_28 : decode cX9_findSpite 28 = .ok (.lload_n 1, 1) := by decide +kernel
theorem dX9_findSpite_29 : decode cX9_findSpite 29 = .ok (.invokevirtual 308, 3) := by decide +kernel
theorem dX9_findSpite_32 : decode cX9_findSpite 32 = .ok (.istore_n 3, 1) := by decide +kernel
theorem dX9_findSpite_33 : decode cX9_findSpite 33 = .ok (.iconst 0, 1) := by decide +kernel
theorem dX9_findSpite_34 : decode cX9_findSpite 34 = .ok (.istore 4, 2) := by decide +kernel
theorem dX9_findSpite_36 : decode cX9_findSpite 36 = .ok (.iload 4, 2) := by decide +kernel
theorem dX9_findSpite_38 : decode cX9_findSpite 38 = .ok (.aload_n 0, 1) := by decide +kernel
theorem dX9_findSpite_39 : decode cX9_findSpite 39 = .ok (.getfield 39, 3) := by decide +kernel
theorem dX9_findSpite_42 : decode cX9_findSpite 42 = .ok (.getfield 269, 3) := by decide +kernel
theorem dX9_findSpite_45 : decode cX9_findSpite 45 = .ok (.if_icmp .ge 37, 3) := by decide +kernel
theorem dX9_findSpite_48 : decode cX9_findSpite 48 = .ok (.aload_n 0, 1) := by decide +kernel
theorem dX9_findSpite_49 : decode cX9_findSpite 49 = .ok (.getfield 75, 3) := by decide +kernel
theorem dX9_findSpite_52 : decode cX9_findSpite 52 = .ok (.iload 4, 2) := by decide +kernel
theorem dX9_findSpite_54 : decode cX9_findSpite 54 = .ok (.iload_n 3, 1) := by decide +kernel
theorem dX9_findSpite_55 : decode cX9_findSpite 55 = .ok (.ifCond .eq 16, 3) := by decide +kernel
theorem dX9_findSpite_58 : decode cX9_findSpite 58 = .ok (.aload_n 0, 1) := by decide +kernel
theorem dX9_findSpite_59 : decode cX9_findSpite 59 = .ok (.lload_n 1, 1) := by decide +kernel
theorem dX9_findSpite_60 : decode cX9_findSpite 60 = .ok (.lconst 1, 1) := by decide +kernel
theorem dX9_findSpite_61 : decode cX9_findSpite 61 = .ok (.iload 4, 2) := by decide +kernel
theorem dX9_findSpite_63 : decode cX9_findSpite 63 = .ok (.lshl, 1) := by decide +kernel
theorem dX9_findSpite_64 : decode cX9_findSpite 64 = .ok (.lor, 1) := by decide +kernel
theorem dX9_findSpite_65 : decode cX9_findSpite 65 = .ok (.invokevirtual 265, 3) := by decide +kernel
theorem dX9_findSpite_68 : decode cX9_findSpite 68 = .ok (.goto 5, 3) := by decide +kernel
theorem dX9_findSpite_71 : decode cX9_findSpite 71 = .ok (.bipush (-9), 2) := by decide +kernel
theorem dX9_findSpite_73 : decode cX9_findSpite 73 = .ok (.invokevirtual 317, 3) := by decide +kernel
end
section
theorem dX9_findSpite_76 : decode cX9_findSpite 76 = .ok (.iinc 4 1, 3) := by decide +kernel
theorem dX9_findSpite_79 : decode cX9_findSpite 79 = .ok (.goto (-43), 3) := by decide +kernel
theorem dX9_findSpite_82 : decode cX9_findSpite 82 = .ok (.aload_n 0, 1) := by decide +kernel
theorem dX9_findSpite_83 : decode cX9_findSpite 83 = .ok (.getfield 75, 3) := by decide +kernel
theorem dX9_findSpite_86 : decode cX9_findSpite 86 = .ok (.iconst 1, 1) := by decide +kernel
theorem dX9_findSpite_87 : decode cX9_findSpite 87 = .ok (.putfield 243, 3) := by decide +kernel
theorem dX9_findSpite_90 : decode cX9_findSpite 90 = .ok (.return_, 1) := by decide +kernel
theorem dX9_took_0 : decode cX9_took 0 = .ok (.aload_n 0, 1) := by decide +kernel
theorem dX9_took_1 : decode cX9_took 1 = .ok (.iload_n 1, 1) := by decide +kernel
theorem dX9_took_2 : decode cX9_took 2 = .ok (.invokevirtual 121, 3) := by decide +kernel
theorem dX9_took_5 : decode cX9_took 5 = .ok (.ifCond .eq 12, 3) := by decide +kernel
theorem dX9_took_8 : decode cX9_took 8 = .ok (.iload_n 2, 1) := by decide +kernel
theorem dX9_took_9 : decode cX9_took 9 = .ok (.ifCond .eq 10, 3) := by decide +kernel
theorem dX9_took_12 : decode cX9_took 12 = .ok (.iload_n 2, 1) := by decide +kernel
theorem dX9_took_13 : decode cX9_took 13 = .ok (.iconst 1, 1) := by decide +kernel
theorem dX9_took_14 : decode cX9_took 14 = .ok (.if_icmp .eq 5, 3) := by decide +kernel
theorem dX9_took_17 : decode cX9_took 17 = .ok (.iconst (-1), 1) := by decide +kernel
theorem dX9_took_18 : decode cX9_took 18 = .ok (.ireturn, 1) := by decide +kernel
theorem dX9_took_19 : decode cX9_took 19 = .ok (.aload_n 0, 1) := by decide +kernel
theorem dX9_took_20 : decode cX9_took 20 = .ok (.getfield 82, 3) := by decide +kernel
theorem dX9_took_23 : decode cX9_took 23 = .ok (.iload_n 1, 1) := by decide +kernel
theorem dX9_took_24 : decode cX9_took 24 = .ok (.iload_n 2, 1) := by decide +kernel
theorem dX9_took_25 : decode cX9_took 25 = .ok (.invokevirtual 320, 3) := by decide +kernel
theorem dX9_took_28 : decode cX9_took 28 = .ok (.ifCond .eq 13, 3) := by decide +kernel
theorem dX9_took_31 : decode cX9_took 31 = .ok (.aload_n 0, 1) := by decide +kernel
theorem dX9_took_32 : decode cX9_took 32 = .ok (.getfield 82, 3) := by decide +kernel
theorem dX9_took_35 : decode cX9_took 35 = .ok (.getfield 322, 3) := by decide +kernel
theorem dX9_took_38 : decode cX9_took 38 = .ok (.goto 5, 3) := by decide +kernel
theorem dX9_took_41 : decode cX9_took 41 = .ok (.bipush (-3), 2) := by decide +kernel
theorem dX9_took_43 : decode cX9_took 43 = .ok (.ireturn, 1) := by decide +kernel
theorem dX9_forget_0 : decode cX9_forget 0 = .ok (.aload_n 0, 1) := by decide +kernel
theorem dX9_forget_1 : decode cX9_forget 1 = .ok (.getfield 82, 3) := by decide +kernel
theorem dX9_forget_4 : decode cX9_forget 4 = .ok (.invokevirtual 117, 3) := by decide +kernel
theorem dX9_forget_7 : decode cX9_forget 7 = .ok (.ireturn, 1) := by decide +kernel
theorem dX9_can_0 : decode cX9_can 0 = .ok (.iload_n 1, 1) := by decide +kernel
theorem dX9_can_1 : decode cX9_can 1 = .ok (.ifCond .lt 8, 3) := by decide +kernel
theorem dX9_can_4 : decode cX9_can 4 = .ok (.iload_n 1, 1) := by decide +kernel
theorem dX9_can_5 : decode cX9_can 5 = .ok (.iconst 2, 1) := by decide +kernel
theorem dX9_can_6 : decode cX9_can 6 = .ok (.if_icmp .le 5, 3) := by decide +kernel
theorem dX9_can_9 : decode cX9_can 9 = .ok (.iconst (-1), 1) := by decide +kernel
theorem dX9_can_10 : decode cX9_can 10 = .ok (.ireturn, 1) := by decide +kernel
theorem dX9_can_11 : decode cX9_can 11 = .ok (.aload_n 0, 1) := by decide +kernel
theorem dX9_can_12 : decode cX9_can 12 = .ok (.getfield 39, 3) := by decide +kernel
theorem dX9_can_15 : decode cX9_can 15 = .ok (.aload_n 0, 1) := by decide +kernel
theorem dX9_can_16 : decode cX9_can 16 = .ok (.getfield 19, 3) := by decide +kernel
theorem dX9_can_19 : decode cX9_can 19 = .ok (.aload_n 0, 1) := by decide +kernel
theorem dX9_can_20 : decode cX9_can 20 = .ok (.getfield 29, 3) := by decide +kernel
theorem dX9_can_23 : decode cX9_can 23 = .ok (.getfield 131, 3) := by decide +kernel
theorem dX9_can_26 : decode cX9_can 26 = .ok (.invokevirtual 177, 3) := by decide +kernel
theorem dX9_can_29 : decode cX9_can 29 = .ok (.aload_n 0, 1) := by decide +kernel
theorem dX9_can_30 : decode cX9_can 30 = .ok (.getfield 82, 3) := by decide +kernel
theorem dX9_can_33 : decode cX9_can 33 = .ok (.aload_n 0, 1) := by decide +kernel
theorem dX9_can_34 : decode cX9_can 34 = .ok (.getfield 39, 3) := by decide +kernel
theorem dX9_can_37 : decode cX9_can 37 = .ok (.invokevirtual 323, 3) := by decide +kernel
theorem dX9_can_40 : decode cX9_can 40 = .ok (.iload_n 1, 1) := by decide +kernel
theorem dX9_can_41 : decode cX9_can 41 = .ok (.lookupswitch 58 #[(0, 27), (1, 35)], 27) := by decide +kernel
theorem dX9_can_68 : decode cX9_can 68 = .ok (.aload_n 0, 1) := by decide +kernel
theorem dX9_can_69 : decode cX9_can 69 = .ok (.getfield 82, 3) := by decide +kernel
theorem dX9_can_72 : decode cX9_can 72 = .ok (.getfield 327, 3) := by decide +kernel
theorem dX9_can_75 : decode cX9_can 75 = .ok (.ireturn, 1) := by decide +kernel
theorem dX9_can_76 : decode cX9_can 76 = .ok (.aload_n 0, 1) := by decide +kernel
theorem dX9_can_77 : decode cX9_can 77 = .ok (.getfield 82, 3) := by decide +kernel
theorem dX9_can_80 : decode cX9_can 80 = .ok (.getfield 327, 3) := by decide +kernel
theorem dX9_can_83 : decode cX9_can 83 = .ok (.ifCond .ne 8, 3) := by decide +kernel
theorem dX9_can_86 : decode cX9_can 86 = .ok (.bipush (-9), 2) := by decide +kernel
theorem dX9_can_88 : decode cX9_can 88 = .ok (.goto 10, 3) := by decide +kernel
theorem dX9_can_91 : decode cX9_can 91 = .ok (.aload_n 0, 1) := by decide +kernel
theorem dX9_can_92 : decode cX9_can 92 = .ok (.getfield 82, 3) := by decide +kernel
theorem dX9_can_95 : decode cX9_can 95 = .ok (.getfield 330, 3) := by decide +kernel
theorem dX9_can_98 : decode cX9_can 98 = .ok (.ireturn, 1) := by decide +kernel
theorem dX9_can_99 : decode cX9_can 99 = .ok (.aload_n 0, 1) := by decide +kernel
theorem dX9_can_100 : decode cX9_can 100 = .ok (.getfield 82, 3) := by decide +kernel
theorem dX9_can_103 : decode cX9_can 103 = .ok (.getfield 333, 3) := by decide +kernel
theorem dX9_can_106 : decode cX9_can 106 = .ok (.ireturn, 1) := by decide +kernel
theorem dX9_look_0 : decode cX9_look 0 = .ok (.aload_n 0, 1) := by decide +kernel
theorem dX9_look_1 : decode cX9_look 1 = .ok (.getfield 39, 3) := by decide +kernel
theorem dX9_look_4 : decode cX9_look 4 = .ok (.aload_n 0, 1) := by decide +kernel
theorem dX9_look_5 : decode cX9_look 5 = .ok (.getfield 19, 3) := by decide +kernel
theorem dX9_look_8 : decode cX9_look 8 = .ok (.aload_n 0, 1) := by decide +kernel
theorem dX9_look_9 : decode cX9_look 9 = .ok (.getfield 29, 3) := by decide +kernel
theorem dX9_look_12 : decode cX9_look 12 = .ok (.getfield 131, 3) := by decide +kernel
theorem dX9_look_15 : decode cX9_look 15 = .ok (.invokevirtual 177, 3) := by decide +kernel
theorem dX9_look_18 : decode cX9_look 18 = .ok (.aload_n 0, 1) := by decide +kernel
theorem dX9_look_19 : decode cX9_look 19 = .ok (.getfield 82, 3) := by decide +kernel
theorem dX9_look_22 : decode cX9_look 22 = .ok (.aload_n 0, 1) := by decide +kernel
theorem dX9_look_23 : decode cX9_look 23 = .ok (.getfield 39, 3) := by decide +kernel
theorem dX9_look_26 : decode cX9_look 26 = .ok (.invokevirtual 323, 3) := by decide +kernel
theorem dX9_look_29 : decode cX9_look 29 = .ok (.aload_n 0, 1) := by decide +kernel
theorem dX9_look_30 : decode cX9_look 30 = .ok (.getfield 82, 3) := by decide +kernel
theorem dX9_look_33 : decode cX9_look 33 = .ok (.getfield 327, 3) := by decide +kernel
theorem dX9_look_36 : decode cX9_look 36 = .ok (.iconst 2, 1) := by decide +kernel
theorem dX9_look_37 : decode cX9_look 37 = .ok (.if_icmp .ge 6, 3) := by decide +kernel
theorem dX9_look_40 : decode cX9_look 40 = .ok (.bipush (-9), 2) := by decide +kernel
theorem dX9_look_42 : decode cX9_look 42 = .ok (.ireturn, 1) := by decide +kernel
theorem dX9_look_43 : decode cX9_look 43 = .ok (.bipush (-9), 2) := by decide +kernel
theorem dX9_look_45 : decode cX9_look 45 = .ok (.istore_n 1, 1) := by decide +kernel
theorem dX9_look_46 : decode cX9_look 46 = .ok (.iconst 0, 1) := by decide +kernel
theorem dX9_look_47 : decode cX9_look 47 = .ok (.istore_n 2, 1) := by decide +kernel
theorem dX9_look_48 : decode cX9_look 48 = .ok (.iconst 0, 1) := by decide +kernel
theorem dX9_look_49 : decode cX9_look 49 = .ok (.istore_n 3, 1) := by decide +kernel
theorem dX9_look_50 : decode cX9_look 50 = .ok (.iload_n 3, 1) := by decide +kernel
theorem dX9_look_51 : decode cX9_look 51 = .ok (.aload_n 0, 1) := by decide +kernel
theorem dX9_look_52 : decode cX9_look 52 = .ok (.getfield 19, 3) := by decide +kernel
theorem dX9_look_55 : decode cX9_look 55 = .ok (.getfield 171, 3) := by decide +kernel
theorem dX9_look_58 : decode cX9_look 58 = .ok (.if_icmp .ge 54, 3) := by decide +kernel
theorem dX9_look_61 : decode cX9_look 61 = .ok (.aload_n 0, 1) := by decide +kernel
theorem dX9_look_62 : decode cX9_look 62 = .ok (.getfield 82, 3) := by decide +kernel
theorem dX9_look_65 : decode cX9_look 65 = .ok (.getfield 336, 3) := by decide +kernel
theorem dX9_look_68 : decode cX9_look 68 = .ok (.iload_n 3, 1) := by decide +kernel
theorem dX9_look_69 : decode cX9_look 69 = .ok (.iaload, 1) := by decide +kernel
theorem dX9_look_70 : decode cX9_look 70 = .ok (.istore 4, 2) := by decide +kernel
theorem dX9_look_72 : decode cX9_look 72 = .ok (.iload 4, 2) := by decide +kernel
theorem dX9_look_74 : decode cX9_look 74 = .ok (.aload_n 0, 1) := by decide +kernel
theorem dX9_look_75 : decode cX9_look 75 = .ok (.getfield 82, 3) := by decide +kernel
theorem dX9_look_78 : decode cX9_look 78 = .ok (.getfield 327, 3) := by decide +kernel
theorem dX9_look_81 : decode cX9_look 81 = .ok (.iload 4, 2) := by decide +kernel
theorem dX9_look_83 : decode cX9_look 83 = .ok (.isub, 1) := by decide +kernel
theorem dX9_look_84 : decode cX9_look 84 = .ok (.invokestatic 339, 3) := by decide +kernel
theorem dX9_look_87 : decode cX9_look 87 = .ok (.istore 5, 2) := by decide +kernel
theorem dX9_look_89 : decode cX9_look 89 = .ok (.iload_n 1, 1) := by decide +kernel
theorem dX9_look_90 : decode cX9_look 90 = .ok (.bipush (-9), 2) := by decide +kernel
theorem dX9_look_92 : decode cX9_look 92 = .ok (.if_icmp .eq 9, 3) := by decide +kernel
theorem dX9_look_95 : decode cX9_look 95 = .ok (.iload 5, 2) := by decide +kernel
theorem dX9_look_97 : decode cX9_look 97 = .ok (.iload_n 2, 1) := by decide +kernel
theorem dX9_look_98 : decode cX9_look 98 = .ok (.if_icmp .ge 8, 3) := by decide +kernel
theorem dX9_look_101 : decode cX9_look 101 = .ok (.iload_n 3, 1) := by decide +kernel
theorem dX9_look_102 : decode cX9_look 102 = .ok (.istore_n 1, 1) := by decide +kernel
theorem dX9_look_103 : decode cX9_look 103 = .ok (.iload 5, 2) := by decide +kernel
theorem dX9_look_105 : decode cX9_look 105 = .ok (.istore_n 2, 1) := by decide +kernel
theorem dX9_look_106 : decode cX9_look 106 = .ok (.iinc 3 1, 3) := by decide +kernel
theorem dX9_look_109 : decode cX9_look 109 = .ok (.goto (-59), 3) := by decide +kernel
theorem dX9_look_112 : decode cX9_look 112 = .ok (.iload_n 1, 1) := by decide +kernel
theorem dX9_look_113 : decode cX9_look 113 = .ok (.ireturn, 1) := by decide +kernel
theorem dX9_rate_0 : decode cX9_rate 0 = .ok (.aload_n 0, 1) := by decide +kernel
theorem dX9_rate_1 : decode cX9_rate 1 = .ok (.iload_n 2, 1) := by decide +kernel
theorem dX9_rate_2 : decode cX9_rate 2 = .ok (.invokevirtual 121, 3) := by decide +kernel
theorem dX9_rate_5 : decode cX9_rate 5 = .ok (.ifCond .ne 7, 3) := by decide +kernel
theorem dX9_rate_8 : decode cX9_rate 8 = .ok (.ldc_w 342, 3) := by decide +kernel
theorem dX9_rate_11 : decode cX9_rate 11 = .ok (.ireturn, 1) := by decide +kernel
theorem dX9_rate_12 : decode cX9_rate 12 = .ok (.iload_n 1, 1) := by decide +kernel
theorem dX9_rate_13 : decode cX9_rate 13 = .ok (.tableswitch 75 0 5 #[39, 45, 51, 57, 63, 69], 39) := by decide +kernel
theorem dX9_rate_52 : decode cX9_rate 52 = .ok (.aload_n 0, 1) := by decide +kernel
theorem dX9_rate_53 : decode cX9_rate 53 = .ok (.iload_n 2, 1) := by decide +kernel
theorem dX9_rate_54 : decode cX9_rate 54 = .ok (.invokevirtual 343, 3) := by decide +kernel
theorem dX9_rate_57 : decode cX9_rate 57 = .ok (.ireturn, 1) := by decide +kernel
theorem dX9_rate_58 : decode cX9_rate 58 = .ok (.aload_n 0, 1) := by decide +kernel
theorem dX9_rate_59 : decode cX9_rate 59 = .ok (.iload_n 2, 1) := by decide +kernel
theorem dX9_rate_60 : decode cX9_rate 60 = .ok (.invokevirtual 346, 3) := by decide +kernel
theorem dX9_rate_63 : decode cX9_rate 63 = .ok (.ireturn, 1) := by decide +kernel
theorem dX9_rate_64 : decode cX9_rate 64 = .ok (.aload_n 0, 1) := by decide +kernel
theorem dX9_rate_65 : decode cX9_rate 65 = .ok (.iload_n 2, 1) := by decide +kernel
theorem dX9_rate_66 : decode cX9_rate 66 = .ok (.invokevirtual 349, 3) := by decide +kernel
theorem dX9_rate_69 : decode cX9_rate 69 = .ok (.ireturn, 1) := by decide +kernel
theorem dX9_rate_70 : decode cX9_rate 70 = .ok (.aload_n 0, 1) := by decide +kernel
theorem dX9_rate_71 : decode cX9_rate 71 = .ok (.iload_n 2, 1) := by decide +kernel
theorem dX9_rate_72 : decode cX9_rate 72 = .ok (.invokevirtual 352, 3) := by decide +kernel
theorem dX9_rate_75 : decode cX9_rate 75 = .ok (.ireturn, 1) := by decide +kernel
theorem dX9_rate_76 : decode cX9_rate 76 = .ok (.aload_n 0, 1) := by decide +kernel
theorem dX9_rate_77 : decode cX9_rate 77 = .ok (.iload_n 2, 1) := by decide +kernel
theorem dX9_rate_78 : decode cX9_rate 78 = .ok (.invokevirtual 355, 3) := by decide +kernel
theorem dX9_rate_81 : decode cX9_rate 81 = .ok (.ireturn, 1) := by decide +kernel
theorem dX9_rate_82 : decode cX9_rate 82 = .ok (.aload_n 0, 1) := by decide +kernel
theorem dX9_rate_83 : decode cX9_rate 83 = .ok (.iload_n 2, 1) := by decide +kernel
theorem dX9_rate_84 : decode cX9_rate 84 = .ok (.invokevirtual 358, 3) := by decide +kernel
theorem dX9_rate_87 : decode cX9_rate 87 = .ok (.ireturn, 1) := by decide +kernel
theorem dX9_rate_88 : decode cX9_rate 88 = .ok (.ldc_w 342, 3) := by decide +kernel
theorem dX9_rate_91 : decode cX9_rate 91 = .ok (.ireturn, 1) := by decide +kernel
theorem dX9_keep_0 : decode cX9_keep 0 = .ok (.iload_n 1, 1) := by decide +kernel
theorem dX9_keep_1 : decode cX9_keep 1 = .ok (.ifCond .lt 8, 3) := by decide +kernel
theorem dX9_keep_4 : decode cX9_keep 4 = .ok (.iload_n 1, 1) := by decide +kernel
theorem dX9_keep_5 : decode cX9_keep 5 = .ok (.iconst 2, 1) := by decide +kernel
theorem dX9_keep_6 : decode cX9_keep 6 = .ok (.if_icmp .lt 5, 3) := by decide +kernel
theorem dX9_keep_9 : decode cX9_keep 9 = .ok (.iconst (-1), 1) := by decide +kernel
theorem dX9_keep_10 : decode cX9_keep 10 = .ok (.ireturn, 1) := by decide +kernel
theorem dX9_keep_11 : decode cX9_keep 11 = .ok (.aload_n 0, 1) := by decide +kernel
theorem dX9_keep_12 : decode cX9_keep 12 = .ok (.getfield 50, 3) := by decide +kernel
theorem dX9_keep_15 : decode cX9_keep 15 = .ok (.iload_n 1, 1) := by decide +kernel
theorem dX9_keep_16 : decode cX9_keep 16 = .ok (.aaload, 1) := by decide +kernel
theorem dX9_keep_17 : decode cX9_keep 17 = .ok (.aload_n 0, 1) := by decide +kernel
theorem dX9_keep_18 : decode cX9_keep 18 = .ok (.getfield 29, 3) := by decide +kernel
theorem dX9_keep_21 : decode cX9_keep 21 = .ok (.invokevirtual 112, 3) := by decide +kernel
theorem dX9_keep_24 : decode cX9_keep 24 = .ok (.aload_n 0, 1) := by decide +kernel
theorem dX9_keep_25 : decode cX9_keep 25 = .ok (.dup, 1) := by decide +kernel
theorem dX9_keep_26 : decode cX9_keep 26 = .ok (.getfield 54, 3) := by decide +kernel
theorem dX9_keep_29 : decode cX9_keep 29 = .ok (.iconst 1, 1) := by decide +kernel
theorem dX9_keep_30 : decode cX9_keep 30 = .ok (.iload_n 1, 1) := by decide +kernel
theorem dX9_keep_31 : decode cX9_keep 31 = .ok (.ishl, 1) := by decide +kernel
theorem dX9_keep_32 : decode cX9_keep 32 = .ok (.ior, 1) := by decide +kernel
theorem dX9_keep_33 : decode cX9_keep 33 = .ok (.putfield 54, 3) := by decide +kernel
theorem dX9_keep_36 : decode cX9_keep 36 = .ok (.aload_n 0, 1) := by decide +kernel
theorem dX9_keep_37 : decode cX9_keep 37 = .ok (.getfield 29, 3) := by decide +kernel
theorem dX9_keep_40 : decode cX9_keep 40 = .ok (.getfield 174, 3) := by decide +kernel
theorem dX9_keep_43 : decode cX9_keep 43 = .ok (.ireturn, 1) := by decide +kernel
theorem dX9_back_0 : decode cX9_back 0 = .ok (.iload_n 1, 1) := by decide +kernel
theorem dX9_back_1 : decode cX9_back 1 = .ok (.ifCond .lt 8, 3) := by decide +kernel
theorem dX9_back_4 : decode cX9_back 4 = .ok (.iload_n 1, 1) := by decide +kernel
theorem dX9_back_5 : decode cX9_back 5 = .ok (.iconst 2, 1) := by decide +kernel
theorem dX9_back_6 : decode cX9_back 6 = .ok (.if_icmp .lt 5, 3) := by decide +kernel
theorem dX9_back_9 : decode cX9_back 9 = .ok (.iconst (-1), 1) := by decide +kernel
theorem dX9_back_10 : decode cX9_back 10 = .ok (.ireturn, 1) := by decide +kernel
theorem dX9_back_11 : decode cX9_back 11 = .ok (.aload_n 0, 1) := by decide +kernel
theorem dX9_back_12 : decode cX9_back 12 = .ok (.getfield 54, 3) := by decide +kernel
theorem dX9_back_15 : decode cX9_back 15 = .ok (.iload_n 1, 1) := by decide +kernel
theorem dX9_back_16 : decode cX9_back 16 = .ok (.ishr, 1) := by decide +kernel
theorem dX9_back_17 : decode cX9_back 17 = .ok (.iconst 1, 1) := by decide +kernel
theorem dX9_back_18 : decode cX9_back 18 = .ok (.iand, 1) := by decide +kernel
theorem dX9_back_19 : decode cX9_back 19 = .ok (.ifCond .ne 6, 3) := by decide +kernel
theorem dX9_back_22 : decode cX9_back 22 = .ok (.bipush (-2), 2) := by decide +kernel
theorem dX9_back_24 : decode cX9_back 24 = .ok (.ireturn, 1) := by decide +kernel
theorem dX9_back_25 : decode cX9_back 25 = .ok (.aload_n 0, 1) := by decide +kernel
theorem dX9_back_26 : decode cX9_back 26 = .ok (.getfield 29, 3) := by decide +kernel
theorem dX9_back_29 : decode cX9_back 29 = .ok (.aload_n 0, 1) := by decide +kernel
theorem dX9_back_30 : decode cX9_back 30 = .ok (.getfield 50, 3) := by decide +kernel
theorem dX9_back_33 : decode cX9_back 33 = .ok (.iload_n 1, 1) := by decide +kernel
theorem dX9_back_34 : decode cX9_back 34 = .ok (.aaload, 1) := by decide +kernel
theorem dX9_back_35 : decode cX9_back 35 = .ok (.invokevirtual 112, 3) := by decide +kernel
theorem dX9_back_38 : decode cX9_back 38 = .ok (.aload_n 0, 1) := by decide +kernel
theorem dX9_back_39 : decode cX9_back 39 = .ok (.getfield 46, 3) := by decide +kernel
theorem dX9_back_42 : decode cX9_back 42 = .ok (.invokevirtual 116, 3) := by decide +kernel
theorem dX9_back_45 : decode cX9_back 45 = .ok (.aload_n 0, 1) := by decide +kernel
theorem dX9_back_46 : decode cX9_back 46 = .ok (.invokevirtual 118, 3) := by decide +kernel
theorem dX9_back_49 : decode cX9_back 49 = .ok (.aload_n 0, 1) := by decide +kernel
theorem dX9_back_50 : decode cX9_back 50 = .ok (.getfield 29, 3) := by decide +kernel
theorem dX9_back_53 : decode cX9_back 53 = .ok (.getfield 174, 3) := by decide +kernel
theorem dX9_back_56 : decode cX9_back 56 = .ok (.ireturn, 1) := by decide +kernel
theorem dX9_count_0 : decode cX9_count 0 = .ok (.iload_n 1, 1) := by decide +kernel
theorem dX9_count_1 : decode cX9_count 1 = .ok (.tableswitch 75 0 4 #[35, 43, 51, 59, 67], 35) := by decide +kernel
theorem dX9_count_36 : decode cX9_count 36 = .ok (.aload_n 0, 1) := by decide +kernel
theorem dX9_count_37 : decode cX9_count 37 = .ok (.getfield 19, 3) := by decide +kernel
theorem dX9_count_40 : decode cX9_count 40 = .ok (.getfield 168, 3) := by decide +kernel
theorem dX9_count_43 : decode cX9_count 43 = .ok (.ireturn, 1) := by decide +kernel
theorem dX9_count_44 : decode cX9_count 44 = .ok (.aload_n 0, 1) := by decide +kernel
theorem dX9_count_45 : decode cX9_count 45 = .ok (.getfield 19, 3) := by decide +kernel
theorem dX9_count_48 : decode cX9_count 48 = .ok (.getfield 171, 3) := by decide +kernel
theorem dX9_count_51 : decode cX9_count 51 = .ok (.ireturn, 1) := by decide +kernel
theorem dX9_count_52 : decode cX9_count 52 = .ok (.aload_n 0, 1) := by decide +kernel
theorem dX9_count_53 : decode cX9_count 53 = .ok (.getfield 29, 3) := by decide +kernel
theorem dX9_count_56 : decode cX9_count 56 = .ok (.getfield 174, 3) := by decide +kernel
theorem dX9_count_59 : decode cX9_count 59 = .ok (.ireturn, 1) := by decide +kernel
theorem dX9_count_60 : decode cX9_count 60 = .ok (.aload_n 0, 1) := by decide +kernel
theorem dX9_count_61 : decode cX9_count 61 = .ok (.getfield 82, 3) := by decide +kernel
theorem dX9_count_64 : decode cX9_count 64 = .ok (.getfield 322, 3) := by decide +kernel
theorem dX9_count_67 : decode cX9_count 67 = .ok (.ireturn, 1) := by decide +kernel
theorem dX9_count_68 : decode cX9_count 68 = .ok (.aload_n 0, 1) := by decide +kernel
theorem dX9_count_69 : decode cX9_count 69 = .ok (.getfield 12, 3) := by decide +kernel
theorem dX9_count_72 : decode cX9_count 72 = .ok (.getfield 94, 3) := by decide +kernel
theorem dX9_count_75 : decode cX9_count 75 = .ok (.ireturn, 1) := by decide +kernel
theorem dX9_count_76 : decode cX9_count 76 = .ok (.iconst (-1), 1) := by decide +kernel
theorem dX9_count_77 : decode cX9_count 77 = .ok (.ireturn, 1) := by decide +kernel
theorem dX9_trace_0 : decode cX9_trace 0 = .ok (.aload_n 0, 1) := by decide +kernel
theorem dX9_trace_1 : decode cX9_trace 1 = .ok (.getfield 86, 3) := by decide +kernel
theorem dX9_trace_4 : decode cX9_trace 4 = .ok (.lreturn, 1) := by decide +kernel
theorem dX9_asLane_0 : decode cX9_asLane 0 = .ok (.aload_n 0, 1) := by decide +kernel
theorem dX9_asLane_1 : decode cX9_asLane 1 = .ok (.dup, 1) := by decide +kernel
theorem dX9_asLane_2 : decode cX9_asLane 2 = .ok (.getfield 86, 3) := by decide +kernel
theorem dX9_asLane_5 : decode cX9_asLane 5 = .ok (.lconst 1, 1) := by decide +kernel
theorem dX9_asLane_6 : decode cX9_asLane 6 = .ok (.ladd, 1) := by decide +kernel
theorem dX9_asLane_7 : decode cX9_asLane 7 = .ok (.putfield 86, 3) := by decide +kernel
theorem dX9_asLane_10 : decode cX9_asLane 10 = .ok (.aload_n 0, 1) := by decide +kernel
theorem dX9_asLane_11 : decode cX9_asLane 11 = .ok (.getfield 29, 3) := by decide +kernel
theorem dX9_asLane_14 : decode cX9_asLane 14 = .ok (.getfield 131, 3) := by decide +kernel
theorem dX9_asLane_17 : decode cX9_asLane 17 = .ok (.iload_n 1, 1) := by decide +kernel
theorem dX9_asLane_18 : decode cX9_asLane 18 = .ok (.iaload, 1) := by decide +kernel
theorem dX9_asLane_19 : decode cX9_asLane 19 = .ok (.ireturn, 1) := by decide +kernel
theorem dX9_asBrook_0 : decode cX9_asBrook 0 = .ok (.aload_n 0, 1) := by decide +kernel
theorem dX9_asBrook_1 : decode cX9_asBrook 1 = .ok (.dup, 1) := by decide +kernel
theorem dX9_asBrook_2 : decode cX9_asBrook 2 = .ok (.getfield 86, 3) := by decide +kernel
theorem dX9_asBrook_5 : decode cX9_asBrook 5 = .ok (.ldc2_w 361, 3) := by decide +kernel
theorem dX9_asBrook_8 : decode cX9_asBrook 8 = .ok (.ladd, 1) := by decide +kernel
theorem dX9_asBrook_9 : decode cX9_asBrook 9 = .ok (.putfield 86, 3) := by decide +kernel
theorem dX9_asBrook_12 : decode cX9_asBrook 12 = .ok (.aload_n 0, 1) := by decide +kernel
theorem dX9_asBrook_13 : decode cX9_asBrook 13 = .ok (.iload_n 1, 1) := by decide +kernel
theorem dX9_asBrook_14 : decode cX9_asBrook 14 = .ok (.invokevirtual 343, 3) := by decide +kernel
theorem dX9_asBrook_17 : decode cX9_asBrook 17 = .ok (.aload_n 0, 1) := by decide +kernel
theorem dX9_asBrook_18 : decode cX9_asBrook 18 = .ok (.getfield 19, 3) := by decide +kernel
theorem dX9_asBrook_21 : decode cX9_asBrook 21 = .ok (.getfield 134, 3) := by decide +kernel
theorem dX9_asBrook_24 : decode cX9_asBrook 24 = .ok (.iload_n 1, 1) := by decide +kernel
theorem dX9_asBrook_25 : decode cX9_asBrook 25 = .ok (.iaload, 1) := by decide +kernel
theorem dX9_asBrook_26 : decode cX9_asBrook 26 = .ok (.iadd, 1) := by decide +kernel
theorem dX9_asBrook_27 : decode cX9_asBrook 27 = .ok (.ireturn, 1) := by decide +kernel
theorem dX9_asCart_0 : decode cX9_asCart 0 = .ok (.aload_n 0, 1) := by decide +kernel
theorem dX9_asCart_1 : decode cX9_asCart 1 = .ok (.dup, 1) := by decide +kernel
theorem dX9_asCart_2 : decode cX9_asCart 2 = .ok (.getfield 86, 3) := by decide +kernel
theorem dX9_asCart_5 : decode cX9_asCart 5 = .ok (.ldc2_w 363, 3) := by decide +kernel
theorem dX9_asCart_8 : decode cX9_asCart 8 = .ok (.ladd, 1) := by decide +kernel
theorem dX9_asCart_9 : decode cX9_asCart 9 = .ok (.putfield 86, 3) := by decide +kernel
theorem dX9_asCart_12 : decode cX9_asCart 12 = .ok (.aload_n 0, 1) := by decide +kernel
theorem dX9_asCart_13 : decode cX9_asCart 13 = .ok (.iload_n 1, 1) := by decide +kernel
theorem dX9_asCart_14 : decode cX9_asCart 14 = .ok (.invokevirtual 343, 3) := by decide +kernel
theorem dX9_asCart_17 : decode cX9_asCart 17 = .ok (.aload_n 0, 1) := by decide +kernel
theorem dX9_asCart_18 : decode cX9_asCart 18 = .ok (.iload_n 1, 1) := by decide +kernel
theorem dX9_asCart_19 : decode cX9_asCart 19 = .ok (.invokevirtual 137, 3) := by decide +kernel
theorem dX9_asCart_22 : decode cX9_asCart 22 = .ok (.isub, 1) := by decide +kernel
theorem dX9_asCart_23 : decode cX9_asCart 23 = .ok (.ireturn, 1) := by decide +kernel
theorem dX9_asParlour_0 : decode cX9_asParlour 0 = .ok (.aload_n 0, 1) := by decide +kernel
theorem dX9_asParlour_1 : decode cX9_asParlour 1 = .ok (.dup, 1) := by decide +kernel
theorem dX9_asParlour_2 : decode cX9_asParlour 2 = .ok (.getfield 86, 3) := by decide +kernel
theorem dX9_asParlour_5 : decode cX9_asParlour 5 = .ok (.ldc2_w 365, 3) := by decide +kernel
theorem dX9_asParlour_8 : decode cX9_asParlour 8 = .ok (.ladd, 1) := by decide +kernel
theorem dX9_asParlour_9 : decode cX9_asParlour 9 = .ok (.putfield 86, 3) := by decide +kernel
theorem dX9_asParlour_12 : decode cX9_asParlour 12 = .ok (.iconst 2, 1) := by decide +kernel
theorem dX9_asParlour_13 : decode cX9_asParlour 13 = .ok (.aload_n 0, 1) := by decide +kernel
theorem dX9_asParlour_14 : decode cX9_asParlour 14 = .ok (.iload_n 1, 1) := by decide +kernel
theorem dX9_asParlour_15 : decode cX9_asParlour 15 = .ok (.invokevirtual 346, 3) := by decide +kernel
theorem dX9_asParlour_18 : decode cX9_asParlour 18 = .ok (.imul, 1) := by decide +kernel
theorem dX9_asParlour_19 : decode cX9_asParlour 19 = .ok (.ireturn, 1) := by decide +kernel
theorem dX9_asHome_0 : decode cX9_asHome 0 = .ok (.aload_n 0, 1) := by decide +kernel
theorem dX9_asHome_1 : decode cX9_asHome 1 = .ok (.dup, 1) := by decide +kernel
theorem dX9_asHome_2 : decode cX9_asHome 2 = .ok (.getfield 86, 3) := by decide +kernel
theorem dX9_asHome_5 : decode cX9_asHome 5 = .ok (.ldc2_w 367, 3) := by decide +kernel
theorem dX9_asHome_8 : decode cX9_asHome 8 = .ok (.ladd, 1) := by decide +kernel
theorem dX9_asHome_9 : decode cX9_asHome 9 = .ok (.putfield 86, 3) := by decide +kernel
theorem dX9_asHome_12 : decode cX9_asHome 12 = .ok (.aload_n 0, 1) := by decide +kernel
theorem dX9_asHome_13 : decode cX9_asHome 13 = .ok (.iload_n 1, 1) := by decide +kernel
theorem dX9_asHome_14 : decode cX9_asHome 14 = .ok (.invokevirtual 349, 3) := by decide +kernel
theorem dX9_asHome_17 : decode cX9_asHome 17 = .ok (.iload_n 1, 1) := by decide +kernel
theorem dX9_asHome_18 : decode cX9_asHome 18 = .ok (.iadd, 1) := by decide +kernel
theorem dX9_asHome_19 : decode cX9_asHome 19 = .ok (.ireturn, 1) := by decide +kernel
theorem dX9_asSea_0 : decode cX9_asSea 0 = .ok (.aload_n 0, 1) := by decide +kernel
theorem dX9_asSea_1 : decode cX9_asSea 1 = .ok (.dup, 1) := by decide +kernel
theorem dX9_asSea_2 : decode cX9_asSea 2 = .ok (.getfield 86, 3) := by decide +kernel
theorem dX9_asSea_5 : decode cX9_asSea 5 = .ok (.ldc2_w 369, 3) := by decide +kernel
theorem dX9_asSea_8 : decode cX9_asSea 8 = .ok (.ladd, 1) := by decide +kernel
theorem dX9_asSea_9 : decode cX9_asSea 9 = .ok (.putfield 86, 3) := by decide +kernel
theorem dX9_asSea_12 : decode cX9_asSea 12 = .ok (.aload_n 0, 1) := by decide +kernel
theorem dX9_asSea_13 : decode cX9_asSea 13 = .ok (.iload_n 1, 1) := by decide +kernel
theorem dX9_asSea_14 : decode cX9_asSea 14 = .ok (.invokevirtual 343, 3) := by decide +kernel
theorem dX9_asSea_17 : decode cX9_asSea 17 = .ok (.aload_n 0, 1) := by decide +kernel
theorem dX9_asSea_18 : decode cX9_asSea 18 = .ok (.getfield 29, 3) := by decide +kernel
theorem dX9_asSea_21 : decode cX9_asSea 21 = .ok (.getfield 162, 3) := by decide +kernel
theorem dX9_asSea_24 : decode cX9_asSea 24 = .ok (.iadd, 1) := by decide +kernel
theorem dX9_asSea_25 : decode cX9_asSea 25 = .ok (.ireturn, 1) := by decide +kernel
theorem dX10_init_0 : decode cX10_init 0 = .ok (.aload_n 0, 1) := by decide +kernel
theorem dX10_init_1 : decode cX10_init 1 = .ok (.invokespecial 1, 3) := by decide +kernel
theorem dX10_init_4 : decode cX10_init 4 = .ok (.aload_n 0, 1) := by decide +kernel
theorem dX10_init_5 : decode cX10_init 5 = .ok (.bipush 120, 2) := by decide +kernel
theorem dX10_init_7 : decode cX10_init 7 = .ok (.newarray .int, 2) := by decide +kernel
theorem dX10_init_9 : decode cX10_init 9 = .ok (.putfield 7, 3) := by decide +kernel
theorem dX10_init_12 : decode cX10_init 12 = .ok (.aload_n 0, 1) := by decide +kernel
theorem dX10_init_13 : decode cX10_init 13 = .ok (.iconst 4, 1) := by decide +kernel
theorem dX10_init_14 : decode cX10_init 14 = .ok (.newarray .int, 2) := by decide +kernel
theorem dX10_init_16 : decode cX10_init 16 = .ok (.putfield 13, 3) := by decide +kernel
theorem dX10_init_19 : decode cX10_init 19 = .ok (.aload_n 0, 1) := by decide +kernel
theorem dX10_init_20 : decode cX10_init 20 = .ok (.bipush 12, 2) := by decide +kernel
theorem dX10_init_22 : decode cX10_init 22 = .ok (.newarray .int, 2) := by decide +kernel
theorem dX10_init_24 : decode cX10_init 24 = .ok (.putfield 16, 3) := by decide +kernel
theorem dX10_init_27 : decode cX10_init 27 = .ok (.aload_n 0, 1) := by decide +kernel
theorem dX10_init_28 : decode cX10_init 28 = .ok (.bipush 12, 2) := by decide +kernel
theorem dX10_init_30 : decode cX10_init 30 = .ok (.newarray .int, 2) := by decide +kernel
theorem dX10_init_32 : decode cX10_init 32 = .ok (.putfield 19, 3) := by decide +kernel
theorem dX10_init_35 : decode cX10_init 35 = .ok (.aload_n 0, 1) := by decide +kernel
theorem dX10_init_36 : decode cX10_init 36 = .ok (.bipush 12, 2) := by decide +kernel
theorem dX10_init_38 : decode cX10_init 38 = .ok (.newarray .int, 2) := by decide +kernel
theorem dX10_init_40 : decode cX10_init 40 = .ok (.putfield 22, 3) := by decide +kernel
theorem dX10_init_43 : decode cX10_init 43 = .ok (.aload_n 0, 1) := by decide +kernel
theorem dX10_init_44 : decode cX10_init 44 = .ok (.bipush 38, 2) := by decide +kernel
theorem dX10_init_46 : decode cX10_init 46 = .ok (.newarray .int, 2) := by decide +kernel
theorem dX10_init_48 : decode cX10_init 48 = .ok (.putfield 25, 3) := by decide +kernel
theorem dX10_init_51 : decode cX10_init 51 = .ok (.aload_n 0, 1) := by decide +kernel
theorem dX10_init_52 : decode cX10_init 52 = .ok (.bipush 38, 2) := by decide +kernel
theorem dX10_init_54 : decode cX10_init 54 = .ok (.newarray .int, 2) := by decide +kernel
theorem dX10_init_56 : decode cX10_init 56 = .ok (.putfield 28, 3) := by decide +kernel
theorem dX10_init_59 : decode cX10_init 59 = .ok (.aload_n 0, 1) := by decide +kernel
theorem dX10_init_60 : decode cX10_init 60 = .ok (.bipush 76, 2) := by decide +kernel
theorem dX10_init_62 : decode cX10_init 62 = .ok (.newarray .int, 2) := by decide +kernel
theorem dX10_init_64 : decode cX10_init 64 = .ok (.putfield 31, 3) := by decide +kernel
theorem dX10_init_67 : decode cX10_init 67 = .ok (.aload_n 0, 1) := by decide +kernel
theorem dX10_init_68 : decode cX10_init 68 = .ok (.iconst 2, 1) := by decide +kernel
theorem dX10_init_69 : decode cX10_init 69 = .ok (.newarray .boolean, 2) := by decide +kernel
theorem dX10_init_71 : decode cX10_init 71 = .ok (.putfield 34, 3) := by decide +kernel
theorem dX10_init_74 : decode cX10_init 74 = .ok (.aload_n 0, 1) := by decide +kernel
theorem dX10_init_75 : decode cX10_init 75 = .ok (.sipush 380, 3) := by decide +kernel
theorem dX10_init_78 : decode cX10_init 78 = .ok (.newarray .int, 2) := by decide +kernel
theorem dX10_init_80 : decode cX10_init 80 = .ok (.putfield 38, 3) := by decide +kernel
theorem dX10_init_83 : decode cX10_init 83 = .ok (.aload_n 0, 1) := by decide +kernel
theorem dX10_init_84 : decode cX10_init 84 = .ok (.bipush 6, 2) := by decide +kernel
theorem dX10_init_86 : decode cX10_init 86 = .ok (.newarray .int, 2) := by decide +kernel
theorem dX10_init_88 : decode cX10_init 88 = .ok (.putfield 41, 3) := by decide +kernel
theorem dX10_init_91 : decode cX10_init 91 = .ok (.aload_n 0, 1) := by decide +kernel
theorem dX10_init_92 : decode cX10_init 92 = .ok (.bipush 6, 2) := by decide +kernel
theorem dX10_init_94 : decode cX10_init 94 = .ok (.newarray .int, 2) := by decide +kernel
theorem dX10_init_96 : decode cX10_init 96 = .ok (.putfield 44, 3) := by decide +kernel
theorem dX10_init_99 : decode cX10_init 99 = .ok (.aload_n 0, 1) := by decide +kernel
theorem dX10_init_100 : decode cX10_init 100 = .ok (.bipush 64, 2) := by decide +kernel
theorem dX10_init_102 : decode cX10_init 102 = .ok (.newarray .int, 2) := by decide +kernel
theorem dX10_init_104 : decode cX10_init 104 = .ok (.putfield 47, 3) := by decide +kernel
theorem dX10_init_107 : decode cX10_init 107 = .ok (.aload_n 0, 1) := by decide +kernel
theorem dX10_init_108 : decode cX10_init 108 = .ok (.bipush 64, 2) := by decide +kernel
theorem dX10_init_110 : decode cX10_init 110 = .ok (.newarray .int, 2) := by decide +kernel
theorem dX10_init_112 : decode cX10_init 112 = .ok (.putfield 50, 3) := by decide +kernel
theorem dX10_init_115 : decode cX10_init 115 = .ok (.aload_n 0, 1) := by decide +kernel
theorem dX10_init_116 : decode cX10_init 116 = .ok (.bipush 64, 2) := by decide +kernel
theorem dX10_init_118 : decode cX10_init 118 = .ok (.newarray .int, 2) := by decide +kernel
theorem dX10_init_120 : decode cX10_init 120 = .ok (.putfield 53, 3) := by decide +kernel
theorem dX10_init_123 : decode cX10_init 123 = .ok (.aload_n 0, 1) := by decide +kernel
theorem dX10_init_124 : decode cX10_init 124 = .ok (.bipush 64, 2) := by decide +kernel
theorem dX10_init_126 : decode cX10_init 126 = .ok (.newarray .int, 2) := by decide +kernel
theorem dX10_init_128 : decode cX10_init 128 = .ok (.putfield 56, 3) := by decide +kernel
theorem dX10_init_131 : decode cX10_init 131 = .ok (.aload_n 0, 1) := by decide +kernel
theorem dX10_init_132 : decode cX10_init 132 = .ok (.iconst 4, 1) := by decide +kernel
theorem dX10_init_133 : decode cX10_init 133 = .ok (.newarray .int, 2) := by decide +kernel
theorem dX10_init_135 : decode cX10_init 135 = .ok (.putfield 59, 3) := by decide +kernel
theorem dX10_init_138 : decode cX10_init 138 = .ok (.aload_n 0, 1) := by decide +kernel
theorem dX10_init_139 : decode cX10_init 139 = .ok (.bipush 26, 2) := by decide +kernel
theorem dX10_init_141 : decode cX10_init 141 = .ok (.newarray .int, 2) := by decide +kernel
theorem dX10_init_143 : decode cX10_init 143 = .ok (.putfield 62, 3) := by decide +kernel
theorem dX10_init_146 : decode cX10_init 146 = .ok (.aload_n 0, 1) := by decide +kernel
theorem dX10_init_147 : decode cX10_init 147 = .ok (.bipush 6, 2) := by decide +kernel
theorem dX10_init_149 : decode cX10_init 149 = .ok (.newarray .int, 2) := by decide +kernel
theorem dX10_init_151 : decode cX10_init 151 = .ok (.putfield 65, 3) := by decide +kernel
theorem dX10_init_154 : decode cX10_init 154 = .ok (.aload_n 0, 1) := by decide +kernel
theorem dX10_init_155 : decode cX10_init 155 = .ok (.bipush 16, 2) := by decide +kernel
theorem dX10_init_157 : decode cX10_init 157 = .ok (.newarray .int, 2) := by decide +kernel
theorem dX10_init_159 : decode cX10_init 159 = .ok (.putfield 68, 3) := by decide +kernel
theorem dX10_init_162 : decode cX10_init 162 = .ok (.aload_n 0, 1) := by decide +kernel
theorem dX10_init_163 : decode cX10_init 163 = .ok (.bipush 6, 2) := by decide +kernel
theorem dX10_init_165 : decode cX10_init 165 = .ok (.newarray .int, 2) := by decide +kernel
theorem dX10_init_167 : decode cX10_init 167 = .ok (.putfield 71, 3) := by decide +kernel
theorem dX10_init_170 : decode cX10_init 170 = .ok (.aload_n 0, 1) := by decide +kernel
theorem dX10_init_171 : decode cX10_init 171 = .ok (.bipush 64, 2) := by decide +kernel
theorem dX10_init_173 : decode cX10_init 173 = .ok (.newarray .int, 2) := by decide +kernel
theorem dX10_init_175 : decode cX10_init 175 = .ok (.putfield 74, 3) := by decide +kernel
theorem dX10_init_178 : decode cX10_init 178 = .ok (.aload_n 0, 1) := by decide +kernel
theorem dX10_init_179 : decode cX10_init 179 = .ok (.iconst 5, 1) := by decide +kernel
theorem dX10_init_180 : decode cX10_init 180 = .ok (.newarray .int, 2) := by decide +kernel
theorem dX10_init_182 : decode cX10_init 182 = .ok (.putfield 77, 3) := by decide +kernel
theorem dX10_init_185 : decode cX10_init 185 = .ok (.aload_n 0, 1) := by decide +kernel
theorem dX10_init_186 : decode cX10_init 186 = .ok (.iconst 5, 1) := by decide +kernel
theorem dX10_init_187 : decode cX10_init 187 = .ok (.newarray .int, 2) := by decide +kernel
theorem dX10_init_189 : decode cX10_init 189 = .ok (.putfield 80, 3) := by decide +kernel
theorem dX10_init_192 : decode cX10_init 192 = .ok (.aload_n 0, 1) := by decide +kernel
theorem dX10_init_193 : decode cX10_init 193 = .ok (.invokevirtual 83, 3) := by decide +kernel
theorem dX10_init_196 : decode cX10_init 196 = .ok (.aload_n 0, 1) := by decide +kernel
theorem dX10_init_197 : decode cX10_init 197 = .ok (.invokevirtual 86, 3) := by decide +kernel
theorem dX10_init_200 : decode cX10_init 200 = .ok (.return_, 1) := by decide +kernel
theorem dX10_in_0 : decode cX10_in 0 = .ok (.iload_n 0, 1) := by decide +kernel
theorem dX10_in_1 : decode cX10_in 1 = .ok (.iload_n 1, 1) := by decide +kernel
theorem dX10_in_2 : decode cX10_in 2 = .ok (.if_icmp .lt 12, 3) := by decide +kernel
theorem dX10_in_5 : decode cX10_in 5 = .ok (.iload_n 0, 1) := by decide +kernel
theorem dX10_in_6 : decode cX10_in 6 = .ok (.iload_n 2, 1) := by decide +kernel
theorem dX10_in_7 : decode cX10_in 7 = .ok (.if_icmp .gt 7, 3) := by decide +kernel
theorem dX10_in_10 : decode cX10_in 10 = .ok (.iconst 1, 1) := by decide +kernel
theorem dX10_in_11 : decode cX10_in 11 = .ok (.goto 4, 3) := by decide +kernel
theorem dX10_in_14 : decode cX10_in 14 = .ok (.iconst 0, 1) := by decide +kernel
theorem dX10_in_15 : decode cX10_in 15 = .ok (.ireturn, 1) := by decide +kernel
theorem dX10_ones_0 : decode cX10_ones 0 = .ok (.iconst 0, 1) := by decide +kernel
theorem dX10_ones_1 : decode cX10_ones 1 = .ok (.istore_n 1, 1) := by decide +kernel
theorem dX10_ones_2 : decode cX10_ones 2 = .ok (.iconst 0, 1) := by decide +kernel
theorem dX10_ones_3 : decode cX10_ones 3 = .ok (.istore_n 2, 1) := by decide +kernel
theorem dX10_ones_4 : decode cX10_ones 4 = .ok (.iload_n 2, 1) := by decide +kernel
theorem dX10_ones_5 : decode cX10_ones 5 = .ok (.bipush 6, 2) := by decide +kernel
theorem dX10_ones_7 : decode cX10_ones 7 = .ok (.if_icmp .ge 17, 3) := by decide +kernel
theorem dX10_ones_10 : decode cX10_ones 10 = .ok (.iload_n 1, 1) := by decide +kernel
theorem dX10_ones_11 : decode cX10_ones 11 = .ok (.iload_n 0, 1) := by decide +kernel
theorem dX10_ones_12 : decode cX10_ones 12 = .ok (.iload_n 2, 1) := by decide +kernel
theorem dX10_ones_13 : decode cX10_ones 13 = .ok (.ishr, 1) := by decide +kernel
theorem dX10_ones_14 : decode cX10_ones 14 = .ok (.iconst 1, 1) := by decide +kernel
theorem dX10_ones_15 : decode cX10_ones 15 = .ok (.iand, 1) := by decide +kernel
theorem dX10_ones_16 : decode cX10_ones 16 = .ok (.iadd, 1) := by decide +kernel
theorem dX10_ones_17 : decode cX10_ones 17 = .ok (.istore_n 1, 1) := by decide +kernel
theorem dX10_ones_18 : decode cX10_ones 18 = .ok (.iinc 2 1, 3) := by decide +kernel
theorem dX10_ones_21 : decode cX10_ones 21 = .ok (.goto (-17), 3) := by decide +kernel
theorem dX10_ones_24 : decode cX10_ones 24 = .ok (.iload_n 1, 1) := by decide +kernel
theorem dX10_ones_25 : decode cX10_ones 25 = .ok (.ireturn, 1) := by decide +kernel
theorem dX10_type_0 : decode cX10_type 0 = .ok (.aload_n 0, 1) := by decide +kernel
theorem dX10_type_1 : decode cX10_type 1 = .ok (.iconst 0, 1) := by decide +kernel
theorem dX10_type_2 : decode cX10_type 2 = .ok (.putfield 89, 3) := by decide +kernel
theorem dX10_type_5 : decode cX10_type 5 = .ok (.iload_n 1, 1) := by decide +kernel
theorem dX10_type_6 : decode cX10_type 6 = .ok (.iconst 0, 1) := by decide +kernel
theorem dX10_type_7 : decode cX10_type 7 = .ok (.sipush 255, 3) := by decide +kernel
theorem dX10_type_10 : decode cX10_type 10 = .ok (.invokestatic 93, 3) := by decide +kernel
theorem dX10_type_13 : decode cX10_type 13 = .ok (.ifCond .ne 5, 3) := by decide +kernel
theorem dX10_type_16 : decode cX10_type 16 = .ok (.iconst (-1), 1) := by decide +kernel
theorem dX10_type_17 : decode cX10_type 17 = .ok (.ireturn, 1) := by decide +kernel
theorem dX10_type_18 : decode cX10_type 18 = .ok (.aload_n 0, 1) := by decide +kernel
theorem dX10_type_19 : decode cX10_type 19 = .ok (.getfield 97, 3) := by decide +kernel
theorem dX10_type_22 : decode cX10_type 22 = .ok (.bipush 120, 2) := by decide +kernel
theorem dX10_type_24 : decode cX10_type 24 = .ok (.if_icmp .ne 6, 3) := by decide +kernel
theorem dX10_type_27 : decode cX10_type 27 = .ok (.bipush (-3), 2) := by decide +kernel
theorem dX10_type_29 : decode cX10_type 29 = .ok (.ireturn, 1) := by decide +kernel
theorem dX10_type_30 : decode cX10_type 30 = .ok (.aload_n 0, 1) := by decide +kernel
theorem dX10_type_31 : decode cX10_type 31 = .ok (.getfield 7, 3) := by decide +kernel
theorem dX10_type_34 : decode cX10_type 34 = .ok (.aload_n 0, 1) := by decide +kernel
theorem dX10_type_35 : decode cX10_type 35 = .ok (.getfield 97, 3) := by decide +kernel
theorem dX10_type_38 : decode cX10_type 38 = .ok (.iload_n 1, 1) := by decide +kernel
theorem dX10_type_39 : decode cX10_type 39 = .ok (.iastore, 1) := by decide +kernel
theorem dX10_type_40 : decode cX10_type 40 = .ok (.aload_n 0, 1) := by decide +kernel
theorem dX10_type_41 : decode cX10_type 41 = .ok (.dup, 1) := by decide +kernel
theorem dX10_type_42 : decode cX10_type 42 = .ok (.getfield 97, 3) := by decide +kernel
theorem dX10_type_45 : decode cX10_type 45 = .ok (.iconst 1, 1) := by decide +kernel
theorem dX10_type_46 : decode cX10_type 46 = .ok (.iadd, 1) := by decide +kernel
theorem dX10_type_47 : decode cX10_type 47 = .ok (.putfield 97, 3) := by decide +kernel
theorem dX10_type_50 : decode cX10_type 50 = .ok (.aload_n 0, 1) := by decide +kernel
theorem dX10_type_51 : decode cX10_type 51 = .ok (.getfield 97, 3) := by decide +kernel
theorem dX10_type_54 : decode cX10_type 54 = .ok (.ireturn, 1) := by decide +kernel
theorem dX10_clear_0 : decode cX10_clear 0 = .ok (.aload_n 0, 1) := by decide +kernel
theorem dX10_clear_1 : decode cX10_clear 1 = .ok (.iconst 0, 1) := by decide +kernel
theorem dX10_clear_2 : decode cX10_clear 2 = .ok (.putfield 89, 3) := by decide +kernel
theorem dX10_clear_5 : decode cX10_clear 5 = .ok (.aload_n 0, 1) := by decide +kernel
theorem dX10_clear_6 : decode cX10_clear 6 = .ok (.getfield 97, 3) := by decide +kernel
theorem dX10_clear_9 : decode cX10_clear 9 = .ok (.istore_n 1, 1) := by decide +kernel
theorem dX10_clear_10 : decode cX10_clear 10 = .ok (.aload_n 0, 1) := by decide +kernel
theorem dX10_clear_11 : decode cX10_clear 11 = .ok (.iconst 0, 1) := by decide +kernel
theorem dX10_clear_12 : decode cX10_clear 12 = .ok (.putfield 97, 3) := by decide +kernel
theorem dX10_clear_15 : decode cX10_clear 15 = .ok (.iload_n 1, 1) := by decide +kernel
theorem dX10_clear_16 : decode cX10_clear 16 = .ok (.ireturn, 1) := by decide +kernel
theorem dX10_letterAt_0 : decode cX10_letterAt 0 = .ok (.iload_n 1, 1) := by decide +kernel
theorem dX10_letterAt_1 : decode cX10_letterAt 1 = .ok (.aload_n 0, 1) := by decide +kernel
theorem dX10_letterAt_2 : decode cX10_letterAt 2 = .ok (.getfield 97, 3) := by decide +kernel
theorem dX10_letterAt_5 : decode cX10_letterAt 5 = .ok (.if_icmp .ge 12, 3) := by decide +kernel
theorem dX10_letterAt_8 : decode cX10_letterAt 8 = .ok (.aload_n 0, 1) := by decide +kernel
theorem dX10_letterAt_9 : decode cX10_letterAt 9 = .ok (.getfield 7, 3) := by decide +kernel
theorem dX10_letterAt_12 : decode cX10_letterAt 12 = .ok (.iload_n 1, 1) := by decide +kernel
theorem dX10_letterAt_13 : decode cX10_letterAt 13 = .ok (.iaload, 1) := by decide +kernel
theorem dX10_letterAt_14 : decode cX10_letterAt 14 = .ok (.goto 4, 3) := by decide +kernel
theorem dX10_letterAt_17 : decode cX10_letterAt 17 = .ok (.iconst (-1), 1) := by decide +kernel
theorem dX10_letterAt_18 : decode cX10_letterAt 18 = .ok (.ireturn, 1) := by decide +kernel
theorem dX10_advances_0 : decode cX10_advances 0 = .ok (.aload_n 0, 1) := by decide +kernel
theorem dX10_advances_1 : decode cX10_advances 1 = .ok (.aload_n 0, 1) := by decide +kernel
theorem dX10_advances_2 : decode cX10_advances 2 = .ok (.getfield 100, 3) := by decide +kernel
theorem dX10_advances_5 : decode cX10_advances 5 = .ok (.invokevirtual 103, 3) := by decide +kernel
theorem dX10_advances_8 : decode cX10_advances 8 = .ok (.bipush 32, 2) := by decide +kernel
theorem dX10_advances_10 : decode cX10_advances 10 = .ok (.if_icmp .ne 16, 3) := by decide +kernel
theorem dX10_advances_13 : decode cX10_advances 13 = .ok (.aload_n 0, 1) := by decide +kernel
theorem dX10_advances_14 : decode cX10_advances 14 = .ok (.dup, 1) := by decide +kernel
theorem dX10_advances_15 : decode cX10_advances 15 = .ok (.getfield 100, 3) := by decide +kernel
theorem dX10_advances_18 : decode cX10_advances 18 = .ok (.iconst 1, 1) := by decide +kernel
theorem dX10_advances_19 : decode cX10_advances 19 = .ok (.iadd, 1) := by decide +kernel
theorem dX10_advances_20 : decode cX10_advances 20 = .ok (.putfield 100, 3) := by decide +kernel
theorem dX10_advances_23 : decode cX10_advances 23 = .ok (.goto (-23), 3) := by decide +kernel
theorem dX10_advances_26 : decode cX10_advances 26 = .ok (.aload_n 0, 1) := by decide +kernel
theorem dX10_advances_27 : decode cX10_advances 27 = .ok (.aload_n 0, 1) := by decide +kernel
theorem dX10_advances_28 : decode cX10_advances 28 = .ok (.getfield 100, 3) := by decide +kernel
theorem dX10_advances_31 : decode cX10_advances 31 = .ok (.putfield 107, 3) := by decide +kernel
theorem dX10_advances_34 : decode cX10_advances 34 = .ok (.aload_n 0, 1) := by decide +kernel
theorem dX10_advances_35 : decode cX10_advances 35 = .ok (.aload_n 0, 1) := by decide +kernel
theorem dX10_advances_36 : decode cX10_advances 36 = .ok (.getfield 100, 3) := by decide +kernel
theorem dX10_advances_39 : decode cX10_advances 39 = .ok (.invokevirtual 103, 3) := by decide +kernel
theorem dX10_advances_42 : decode cX10_advances 42 = .ok (.istore_n 1, 1) := by decide +kernel
theorem dX10_advances_43 : decode cX10_advances 43 = .ok (.iload_n 1, 1) := by decide +kernel
theorem dX10_advances_44 : decode cX10_advances 44 = .ok (.ifCond .ge 11, 3) := by decide +kernel
theorem dX10_advances_47 : decode cX10_advances 47 = .ok (.aload_n 0, 1) := by decide +kernel
theorem dX10_advances_48 : decode cX10_advances 48 = .ok (.iconst 0, 1) := by decide +kernel
theorem dX10_advances_49 : decode cX10_advances 49 = .ok (.putfield 110, 3) := by decide +kernel
theorem dX10_advances_52 : decode cX10_advances 52 = .ok (.goto 181, 3) := by decide +kernel
theorem dX10_advances_55 : decode cX10_advances 55 = .ok (.iload_n 1, 1) := by decide +kernel
theorem dX10_advances_56 : decode cX10_advances 56 = .ok (.bipush 48, 2) := by decide +kernel
theorem dX10_advances_58 : decode cX10_advances 58 = .ok (.bipush 57, 2) := by decide +kernel
theorem dX10_advances_60 : decode cX10_advances 60 = .ok (.invokestatic 93, 3) := by decide +kernel
theorem dX10_advances_63 : decode cX10_advances 63 = .ok (.ifCond .eq 118, 3) := by decide +kernel
theorem dX10_advances_66 : decode cX10_advances 66 = .ok (.aload_n 0, 1) := by decide +kernel
theorem dX10_advances_67 : decode cX10_advances 67 = .ok (.iconst 0, 1) := by decide +kernel
theorem dX10_advances_68 : decode cX10_advances 68 = .ok (.putfield 113, 3) := by decide +kernel
theorem dX10_advances_71 : decode cX10_advances 71 = .ok (.aload_n 0, 1) := by decide +kernel
theorem dX10_advances_72 : decode cX10_advances 72 = .ok (.aload_n 0, 1) := by decide +kernel
theorem dX10_advances_73 : decode cX10_advances 73 = .ok (.getfield 100, 3) := by decide +kernel
theorem dX10_advances_76 : decode cX10_advances 76 = .ok (.invokevirtual 103, 3) := by decide +kernel
theorem dX10_advances_79 : decode cX10_advances 79 = .ok (.bipush 48, 2) := by decide +kernel
theorem dX10_advances_81 : decode cX10_advances 81 = .ok (.bipush 57, 2) := by decide +kernel
theorem dX10_advances_83 : decode cX10_advances 83 = .ok (.invokestatic 93, 3) := by decide +kernel
theorem dX10_advances_86 : decode cX10_advances 86 = .ok (.ifCond .eq 55, 3) := by decide +kernel
theorem dX10_advances_89 : decode cX10_advances 89 = .ok (.aload_n 0, 1) := by decide +kernel
theorem dX10_advances_90 : decode cX10_advances 90 = .ok (.aload_n 0, 1) := by decide +kernel
theorem dX10_advances_91 : decode cX10_advances 91 = .ok (.getfield 113, 3) := by decide +kernel
theorem dX10_advances_94 : decode cX10_advances 94 = .ok (.bipush 99, 2) := by decide +kernel
theorem dX10_advances_96 : decode cX10_advances 96 = .ok (.if_icmp .le 10, 3) := by decide +kernel
theorem dX10_advances_99 : decode cX10_advances 99 = .ok (.aload_n 0, 1) := by decide +kernel
theorem dX10_advances_100 : decode cX10_advances 100 = .ok (.getfield 113, 3) := by decide +kernel
theorem dX10_advances_103 : decode cX10_advances 103 = .ok (.goto 22, 3) := by decide +kernel
theorem dX10_advances_106 : decode cX10_advances 106 = .ok (.bipush 10, 2) := by decide +kernel
theorem dX10_advances_108 : decode cX10_advances 108 = .ok (.aload_n 0, 1) := by decide +kernel
theorem dX10_advances_109 : decode cX10_advances 109 = .ok (.getfield 113, 3) := by decide +kernel
theorem dX10_advances_112 : decode cX10_advances 112 = .ok (.imul, 1) := by decide +kernel
theorem dX10_advances_113 : decode cX10_advances 113 = .ok (.aload_n 0, 1) := by decide +kernel
theorem dX10_advances_114 : decode cX10_advances 114 = .ok (.aload_n 0, 1) := by decide +kernel
theorem dX10_advances_115 : decode cX10_advances 115 = .ok (.getfield 100, 3) := by decide +kernel
theorem dX10_advances_118 : decode cX10_advances 118 = .ok (.invokevirtual 103, 3) := by decide +kernel
theorem dX10_advances_121 : decode cX10_advances 121 = .ok (.iadd, 1) := by decide +kernel
theorem dX10_advances_122 : decode cX10_advances 122 = .ok (.bipush 48, 2) := by decide +kernel
theorem dX10_advances_124 : decode cX10_advances 124 = .ok (.isub, 1) := by decide +kernel
theorem dX10_advances_125 : decode cX10_advances 125 = .ok (.putfield 113, 3) := by decide +kernel
theorem dX10_advances_128 : decode cX10_advances 128 = .ok (.aload_n 0, 1) := by decide +kernel
theorem dX10_advances_129 : decode cX10_advances 129 = .ok (.dup, 1) := by decide +kernel
theorem dX10_advances_130 : decode cX10_advances 130 = .ok (.getfield 100, 3) := by decide +kernel
theorem dX10_advances_133 : decode cX10_advances 133 = .ok (.iconst 1, 1) := by decide +kernel
theorem dX10_advances_134 : decode cX10_advances 134 = .ok (.iadd, 1) := by decide +kernel
theorem dX10_advances_135 : decode cX10_advances 135 = .ok (.putfield 100, 3) := by decide +kernel
theorem dX10_advances_138 : decode cX10_advances 138 = .ok (.goto (-67), 3) := by decide +kernel
theorem dX10_advances_141 : decode cX10_advances 141 = .ok (.aload_n 0, 1) := by decide +kernel
theorem dX10_advances_142 : decode cX10_advances 142 = .ok (.aload_n 0, 1) := by decide +kernel
theorem dX10_advances_143 : decode cX10_advances 143 = .ok (.getfield 113, 3) := by decide +kernel
theorem dX10_advances_146 : decode cX10_advances 146 = .ok (.bipush 99, 2) := by decide +kernel
theorem dX10_advances_148 : decode cX10_advances 148 = .ok (.if_icmp .gt 22, 3) := by decide +kernel
theorem dX10_advances_151 : decode cX10_advances 151 = .ok (.iload_n 1, 1) := by decide +kernel
theorem dX10_advances_152 : decode cX10_advances 152 = .ok (.bipush 48, 2) := by decide +kernel
theorem dX10_advances_154 : decode cX10_advances 154 = .ok (.if_icmp .ne 20, 3) := by decide +kernel
theorem dX10_advances_157 : decode cX10_advances 157 = .ok (.aload_n 0, 1) := by decide +kernel
theorem dX10_advances_158 : decode cX10_advances 158 = .ok (.getfield 100, 3) := by decide +kernel
theorem dX10_advances_161 : decode cX10_advances 161 = .ok (.aload_n 0, 1) := by decide +kernel
theorem dX10_advances_162 : decode cX10_advances 162 = .ok (.getfield 107, 3) := by decide +kernel
theorem dX10_advances_165 : decode cX10_advances 165 = .ok (.isub, 1) := by decide +kernel
theorem dX10_advances_166 : decode cX10_advances 166 = .ok (.iconst 1, 1) := by decide +kernel
theorem dX10_advances_167 : decode cX10_advances 167 = .ok (.if_icmp .le 7, 3) := by decide +kernel
theorem dX10_advances_170 : decode cX10_advances 170 = .ok (.iconst 4, 1) := by decide +kernel
theorem dX10_advances_171 : decode cX10_advances 171 = .ok (.goto 4, 3) := by decide +kernel
theorem dX10_advances_174 : decode cX10_advances 174 = .ok (.iconst 2, 1) := by decide +kernel
theorem dX10_advances_175 : decode cX10_advances 175 = .ok (.putfield 110, 3) := by decide +kernel
theorem dX10_advances_178 : decode cX10_advances 178 = .ok (.goto 55, 3) := by decide +kernel
theorem dX10_advances_181 : decode cX10_advances 181 = .ok (.aload_n 0, 1) := by decide +kernel
theorem dX10_advances_182 : decode cX10_advances 182 = .ok (.dup, 1) := by decide +kernel
theorem dX10_advances_183 : decode cX10_advances 183 = .ok (.getfield 100, 3) := by decide +kernel
theorem dX10_advances_186 : decode cX10_advances 186 = .ok (.iconst 1, 1) := by decide +kernel
theorem dX10_advances_187 : decode cX10_advances 187 = .ok (.iadd, 1) := by decide +kernel
theorem dX10_advances_188 : decode cX10_advances 188 = .ok (.putfield 100, 3) := by decide +kernel
theorem dX10_advances_191 : decode cX10_advances 191 = .ok (.aload_n 0, 1) := by decide +kernel
theorem dX10_advances_192 : decode cX10_advances 192 = .ok (.iload_n 1, 1) := by decide +kernel
theorem dX10_advances_193 : decode cX10_advances 193 = .ok (.putfield 113, 3) := by decide +kernel
theorem dX10_advances_196 : decode cX10_advances 196 = .ok (.aload_n 0, 1) := by decide +kernel
theorem dX10_advances_197 : decode cX10_advances 197 = .ok (.iload_n 1, 1) := by decide +kernel
theorem dX10_advances_198 : decode cX10_advances 198 = .ok (.bipush 59, 2) := by decide +kernel
theorem dX10_advances_200 : decode cX10_advances 200 = .ok (.if_icmp .ne 7, 3) := by decide +kernel
theorem dX10_advances_203 : decode cX10_advances 203 = .ok (.iconst 3, 1) := by decide +kernel
theorem dX10_advances_204 : decode cX10_advances 204 = .ok (.goto 26, 3) := by decide +kernel
theorem dX10_advances_207 : decode cX10_advances 207 = .ok (.iload_n 1, 1) := by decide +kernel
theorem dX10_advances_208 : decode cX10_advances 208 = .ok (.bipush 110, 2) := by decide +kernel
theorem dX10_advances_210 : decode cX10_advances 210 = .ok (.if_icmp .eq 15, 3) := by decide +kernel
theorem dX10_advances_213 : decode cX10_advances 213 = .ok (.iload_n 1, 1) := by decide +kernel
theorem dX10_advances_214 : decode cX10_advances 214 = .ok (.bipush 108, 2) := by decide +kernel
theorem dX10_advances_216 : decode cX10_advances 216 = .ok (.if_icmp .eq 9, 3) := by decide +kernel
theorem dX10_advances_219 : decode cX10_advances 219 = .ok (.iload_n 1, 1) := by decide +kernel
theorem dX10_advances_220 : decode cX10_advances 220 = .ok (.bipush 109, 2) := by decide +kernel
theorem dX10_advances_222 : decode cX10_advances 222 = .ok (.if_icmp .ne 7, 3) := by decide +kernel
theorem dX10_advances_225 : decode cX10_advances 225 = .ok (.iconst 1, 1) := by decide +kernel
theorem dX10_advances_226 : decode cX10_advances 226 = .ok (.goto 4, 3) := by decide +kernel
theorem dX10_advances_229 : decode cX10_advances 229 = .ok (.iconst 4, 1) := by decide +kernel
theorem dX10_advances_230 : decode cX10_advances 230 = .ok (.putfield 110, 3) := by decide +kernel
theorem dX10_advances_233 : decode cX10_advances 233 = .ok (.return_, 1) := by decide +kernel
theorem dX10_isWell_0 : decode cX10_isWell 0 = .ok (.aload_n 0, 1) := by decide +kernel
theorem dX10_isWell_1 : decode cX10_isWell 1 = .ok (.getfield 116, 3) := by decide +kernel
theorem dX10_isWell_4 : decode cX10_isWell 4 = .ok (.ifCond .ge 7, 3) := by decide +kernel
theorem dX10_isWell_7 : decode cX10_isWell 7 = .ok (.iconst 1, 1) := by decide +kernel
theorem dX10_isWell_8 : decode cX10_isWell 8 = .ok (.goto 4, 3) := by decide +kernel
theorem dX10_isWell_11 : decode cX10_isWell 11 = .ok (.iconst 0, 1) := by decide +kernel
theorem dX10_isWell_12 : decode cX10_isWell 12 = .ok (.ireturn, 1) := by decide +kernel
theorem dX10_takes_0 : decode cX10_takes 0 = .ok (.aload_n 0, 1) := by decide +kernel
theorem dX10_takes_1 : decode cX10_takes 1 = .ok (.invokevirtual 119, 3) := by decide +kernel
theorem dX10_takes_4 : decode cX10_takes 4 = .ok (.ifCond .ne 5, 3) := by decide +kernel
theorem dX10_takes_7 : decode cX10_takes 7 = .ok (.iconst 0, 1) := by decide +kernel
theorem dX10_takes_8 : decode cX10_takes 8 = .ok (.ireturn, 1) := by decide +kernel
theorem dX10_takes_9 : decode cX10_takes 9 = .ok (.iload_n 1, 1) := by decide +kernel
end
section
theorem dX10_takes_10 : decode cX10_takes 10 = .ok (.ifCond .ne 13, 3) := by decide +kernel
theorem dX10_takes_13 : decode cX10_takes 13 = .ok (.aload_n 0, 1) := by decide +kernel
theorem dX10_takes_14 : decode cX10_takes 14 = .ok (.aload_n 0, 1) := by decide +kernel
theorem dX10_takes_15 : decode cX10_takes 15 = .ok (.getfield 107, 3) := by decide +kernel
theorem dX10_takes_18 : decode cX10_takes 18 = .ok (.putfield 116, 3) := by decide +kernel
theorem dX10_takes_21 : decode cX10_takes 21 = .ok (.iconst 0, 1) := by decide +kernel
theorem dX10_takes_22 : decode cX10_takes 22 = .ok (.ireturn, 1) := by decide +kernel
theorem dX10_takes_23 : decode cX10_takes 23 = .ok (.aload_n 0, 1) := by decide +kernel
theorem dX10_takes_24 : decode cX10_takes 24 = .ok (.getfield 113, 3) := by decide +kernel
theorem dX10_takes_27 : decode cX10_takes 27 = .ok (.istore_n 2, 1) := by decide +kernel
theorem dX10_takes_28 : decode cX10_takes 28 = .ok (.aload_n 0, 1) := by decide +kernel
theorem dX10_takes_29 : decode cX10_takes 29 = .ok (.invokevirtual 123, 3) := by decide +kernel
theorem dX10_takes_32 : decode cX10_takes 32 = .ok (.iload_n 2, 1) := by decide +kernel
theorem dX10_takes_33 : decode cX10_takes 33 = .ok (.ireturn, 1) := by decide +kernel
theorem dX10_number_0 : decode cX10_number 0 = .ok (.aload_n 0, 1) := by decide +kernel
theorem dX10_number_1 : decode cX10_number 1 = .ok (.aload_n 0, 1) := by decide +kernel
theorem dX10_number_2 : decode cX10_number 2 = .ok (.getfield 110, 3) := by decide +kernel
theorem dX10_number_5 : decode cX10_number 5 = .ok (.iconst 2, 1) := by decide +kernel
theorem dX10_number_6 : decode cX10_number 6 = .ok (.if_icmp .ne 19, 3) := by decide +kernel
theorem dX10_number_9 : decode cX10_number 9 = .ok (.aload_n 0, 1) := by decide +kernel
theorem dX10_number_10 : decode cX10_number 10 = .ok (.getfield 113, 3) := by decide +kernel
theorem dX10_number_13 : decode cX10_number 13 = .ok (.iload_n 1, 1) := by decide +kernel
theorem dX10_number_14 : decode cX10_number 14 = .ok (.iload_n 2, 1) := by decide +kernel
theorem dX10_number_15 : decode cX10_number 15 = .ok (.invokestatic 93, 3) := by decide +kernel
theorem dX10_number_18 : decode cX10_number 18 = .ok (.ifCond .eq 7, 3) := by decide +kernel
theorem dX10_number_21 : decode cX10_number 21 = .ok (.iconst 1, 1) := by decide +kernel
theorem dX10_number_22 : decode cX10_number 22 = .ok (.goto 4, 3) := by decide +kernel
theorem dX10_number_25 : decode cX10_number 25 = .ok (.iconst 0, 1) := by decide +kernel
theorem dX10_number_26 : decode cX10_number 26 = .ok (.invokevirtual 126, 3) := by decide +kernel
theorem dX10_number_29 : decode cX10_number 29 = .ok (.ireturn, 1) := by decide +kernel
theorem dX10_begins_0 : decode cX10_begins 0 = .ok (.aload_n 0, 1) := by decide +kernel
theorem dX10_begins_1 : decode cX10_begins 1 = .ok (.getfield 13, 3) := by decide +kernel
theorem dX10_begins_4 : decode cX10_begins 4 = .ok (.iconst 2, 1) := by decide +kernel
theorem dX10_begins_5 : decode cX10_begins 5 = .ok (.iconst 2, 1) := by decide +kernel
theorem dX10_begins_6 : decode cX10_begins 6 = .ok (.iastore, 1) := by decide +kernel
theorem dX10_begins_7 : decode cX10_begins 7 = .ok (.aload_n 0, 1) := by decide +kernel
theorem dX10_begins_8 : decode cX10_begins 8 = .ok (.getfield 13, 3) := by decide +kernel
theorem dX10_begins_11 : decode cX10_begins 11 = .ok (.iconst 3, 1) := by decide +kernel
theorem dX10_begins_12 : decode cX10_begins 12 = .ok (.iconst 0, 1) := by decide +kernel
theorem dX10_begins_13 : decode cX10_begins 13 = .ok (.iastore, 1) := by decide +kernel
theorem dX10_begins_14 : decode cX10_begins 14 = .ok (.iconst 0, 1) := by decide +kernel
theorem dX10_begins_15 : decode cX10_begins 15 = .ok (.istore_n 1, 1) := by decide +kernel
theorem dX10_begins_16 : decode cX10_begins 16 = .ok (.iload_n 1, 1) := by decide +kernel
theorem dX10_begins_17 : decode cX10_begins 17 = .ok (.bipush 38, 2) := by decide +kernel
theorem dX10_begins_19 : decode cX10_begins 19 = .ok (.if_icmp .ge 16, 3) := by decide +kernel
theorem dX10_begins_22 : decode cX10_begins 22 = .ok (.aload_n 0, 1) := by decide +kernel
theorem dX10_begins_23 : decode cX10_begins 23 = .ok (.getfield 25, 3) := by decide +kernel
theorem dX10_begins_26 : decode cX10_begins 26 = .ok (.iload_n 1, 1) := by decide +kernel
theorem dX10_begins_27 : decode cX10_begins 27 = .ok (.iconst 0, 1) := by decide +kernel
theorem dX10_begins_28 : decode cX10_begins 28 = .ok (.iastore, 1) := by decide +kernel
theorem dX10_begins_29 : decode cX10_begins 29 = .ok (.iinc 1 1, 3) := by decide +kernel
theorem dX10_begins_32 : decode cX10_begins 32 = .ok (.goto (-16), 3) := by decide +kernel
theorem dX10_begins_35 : decode cX10_begins 35 = .ok (.return_, 1) := by decide +kernel
theorem dX10_laneOf_0 : decode cX10_laneOf 0 = .ok (.iconst 0, 1) := by decide +kernel
theorem dX10_laneOf_1 : decode cX10_laneOf 1 = .ok (.istore 5, 2) := by decide +kernel
theorem dX10_laneOf_3 : decode cX10_laneOf 3 = .ok (.iload 5, 2) := by decide +kernel
theorem dX10_laneOf_5 : decode cX10_laneOf 5 = .ok (.iload_n 2, 1) := by decide +kernel
theorem dX10_laneOf_6 : decode cX10_laneOf 6 = .ok (.if_icmp .ge 60, 3) := by decide +kernel
theorem dX10_laneOf_9 : decode cX10_laneOf 9 = .ok (.aload_n 0, 1) := by decide +kernel
theorem dX10_laneOf_10 : decode cX10_laneOf 10 = .ok (.getfield 16, 3) := by decide +kernel
theorem dX10_laneOf_13 : decode cX10_laneOf 13 = .ok (.iload_n 1, 1) := by decide +kernel
theorem dX10_laneOf_14 : decode cX10_laneOf 14 = .ok (.iload 5, 2) := by decide +kernel
theorem dX10_laneOf_16 : decode cX10_laneOf 16 = .ok (.iadd, 1) := by decide +kernel
theorem dX10_laneOf_17 : decode cX10_laneOf 17 = .ok (.iaload, 1) := by decide +kernel
theorem dX10_laneOf_18 : decode cX10_laneOf 18 = .ok (.istore 6, 2) := by decide +kernel
theorem dX10_laneOf_20 : decode cX10_laneOf 20 = .ok (.aload_n 0, 1) := by decide +kernel
theorem dX10_laneOf_21 : decode cX10_laneOf 21 = .ok (.getfield 19, 3) := by decide +kernel
theorem dX10_laneOf_24 : decode cX10_laneOf 24 = .ok (.iload_n 1, 1) := by decide +kernel
theorem dX10_laneOf_25 : decode cX10_laneOf 25 = .ok (.iload 5, 2) := by decide +kernel
theorem dX10_laneOf_27 : decode cX10_laneOf 27 = .ok (.iadd, 1) := by decide +kernel
theorem dX10_laneOf_28 : decode cX10_laneOf 28 = .ok (.iaload, 1) := by decide +kernel
theorem dX10_laneOf_29 : decode cX10_laneOf 29 = .ok (.istore 7, 2) := by decide +kernel
theorem dX10_laneOf_31 : decode cX10_laneOf 31 = .ok (.iload 6, 2) := by decide +kernel
theorem dX10_laneOf_33 : decode cX10_laneOf 33 = .ok (.iload_n 3, 1) := by decide +kernel
theorem dX10_laneOf_34 : decode cX10_laneOf 34 = .ok (.if_icmp .ne 10, 3) := by decide +kernel
theorem dX10_laneOf_37 : decode cX10_laneOf 37 = .ok (.iload 7, 2) := by decide +kernel
theorem dX10_laneOf_39 : decode cX10_laneOf 39 = .ok (.iload 4, 2) := by decide +kernel
theorem dX10_laneOf_41 : decode cX10_laneOf 41 = .ok (.if_icmp .eq 16, 3) := by decide +kernel
theorem dX10_laneOf_44 : decode cX10_laneOf 44 = .ok (.iload 6, 2) := by decide +kernel
theorem dX10_laneOf_46 : decode cX10_laneOf 46 = .ok (.iload 4, 2) := by decide +kernel
theorem dX10_laneOf_48 : decode cX10_laneOf 48 = .ok (.if_icmp .ne 12, 3) := by decide +kernel
theorem dX10_laneOf_51 : decode cX10_laneOf 51 = .ok (.iload 7, 2) := by decide +kernel
theorem dX10_laneOf_53 : decode cX10_laneOf 53 = .ok (.iload_n 3, 1) := by decide +kernel
theorem dX10_laneOf_54 : decode cX10_laneOf 54 = .ok (.if_icmp .ne 6, 3) := by decide +kernel
theorem dX10_laneOf_57 : decode cX10_laneOf 57 = .ok (.iload 5, 2) := by decide +kernel
theorem dX10_laneOf_59 : decode cX10_laneOf 59 = .ok (.ireturn, 1) := by decide +kernel
theorem dX10_laneOf_60 : decode cX10_laneOf 60 = .ok (.iinc 5 1, 3) := by decide +kernel
theorem dX10_laneOf_63 : decode cX10_laneOf 63 = .ok (.goto (-60), 3) := by decide +kernel
theorem dX10_laneOf_66 : decode cX10_laneOf 66 = .ok (.bipush (-9), 2) := by decide +kernel
theorem dX10_laneOf_68 : decode cX10_laneOf 68 = .ok (.ireturn, 1) := by decide +kernel
theorem dX10_readsLane_0 : decode cX10_readsLane 0 = .ok (.aload_n 0, 1) := by decide +kernel
theorem dX10_readsLane_1 : decode cX10_readsLane 1 = .ok (.getfield 13, 3) := by decide +kernel
theorem dX10_readsLane_4 : decode cX10_readsLane 4 = .ok (.iconst 3, 1) := by decide +kernel
theorem dX10_readsLane_5 : decode cX10_readsLane 5 = .ok (.iaload, 1) := by decide +kernel
theorem dX10_readsLane_6 : decode cX10_readsLane 6 = .ok (.istore_n 1, 1) := by decide +kernel
theorem dX10_readsLane_7 : decode cX10_readsLane 7 = .ok (.aload_n 0, 1) := by decide +kernel
theorem dX10_readsLane_8 : decode cX10_readsLane 8 = .ok (.iconst 0, 1) := by decide +kernel
theorem dX10_readsLane_9 : decode cX10_readsLane 9 = .ok (.aload_n 0, 1) := by decide +kernel
theorem dX10_readsLane_10 : decode cX10_readsLane 10 = .ok (.getfield 13, 3) := by decide +kernel
theorem dX10_readsLane_13 : decode cX10_readsLane 13 = .ok (.iconst 2, 1) := by decide +kernel
theorem dX10_readsLane_14 : decode cX10_readsLane 14 = .ok (.iaload, 1) := by decide +kernel
theorem dX10_readsLane_15 : decode cX10_readsLane 15 = .ok (.iconst 1, 1) := by decide +kernel
theorem dX10_readsLane_16 : decode cX10_readsLane 16 = .ok (.isub, 1) := by decide +kernel
theorem dX10_readsLane_17 : decode cX10_readsLane 17 = .ok (.invokevirtual 130, 3) := by decide +kernel
theorem dX10_readsLane_20 : decode cX10_readsLane 20 = .ok (.istore_n 2, 1) := by decide +kernel
theorem dX10_readsLane_21 : decode cX10_readsLane 21 = .ok (.aload_n 0, 1) := by decide +kernel
theorem dX10_readsLane_22 : decode cX10_readsLane 22 = .ok (.getfield 110, 3) := by decide +kernel
theorem dX10_readsLane_25 : decode cX10_readsLane 25 = .ok (.iconst 2, 1) := by decide +kernel
theorem dX10_readsLane_26 : decode cX10_readsLane 26 = .ok (.if_icmp .ne 34, 3) := by decide +kernel
theorem dX10_readsLane_29 : decode cX10_readsLane 29 = .ok (.aload_n 0, 1) := by decide +kernel
theorem dX10_readsLane_30 : decode cX10_readsLane 30 = .ok (.getfield 113, 3) := by decide +kernel
theorem dX10_readsLane_33 : decode cX10_readsLane 33 = .ok (.iconst 0, 1) := by decide +kernel
theorem dX10_readsLane_34 : decode cX10_readsLane 34 = .ok (.aload_n 0, 1) := by decide +kernel
theorem dX10_readsLane_35 : decode cX10_readsLane 35 = .ok (.getfield 13, 3) := by decide +kernel
theorem dX10_readsLane_38 : decode cX10_readsLane 38 = .ok (.iconst 2, 1) := by decide +kernel
theorem dX10_readsLane_39 : decode cX10_readsLane 39 = .ok (.iaload, 1) := by decide +kernel
theorem dX10_readsLane_40 : decode cX10_readsLane 40 = .ok (.iconst 1, 1) := by decide +kernel
theorem dX10_readsLane_41 : decode cX10_readsLane 41 = .ok (.isub, 1) := by decide +kernel
theorem dX10_readsLane_42 : decode cX10_readsLane 42 = .ok (.invokestatic 93, 3) := by decide +kernel
theorem dX10_readsLane_45 : decode cX10_readsLane 45 = .ok (.ifCond .eq 15, 3) := by decide +kernel
theorem dX10_readsLane_48 : decode cX10_readsLane 48 = .ok (.aload_n 0, 1) := by decide +kernel
theorem dX10_readsLane_49 : decode cX10_readsLane 49 = .ok (.getfield 113, 3) := by decide +kernel
theorem dX10_readsLane_52 : decode cX10_readsLane 52 = .ok (.iload_n 2, 1) := by decide +kernel
theorem dX10_readsLane_53 : decode cX10_readsLane 53 = .ok (.if_icmp .eq 7, 3) := by decide +kernel
theorem dX10_readsLane_56 : decode cX10_readsLane 56 = .ok (.iconst 1, 1) := by decide +kernel
theorem dX10_readsLane_57 : decode cX10_readsLane 57 = .ok (.goto 4, 3) := by decide +kernel
theorem dX10_readsLane_60 : decode cX10_readsLane 60 = .ok (.iconst 0, 1) := by decide +kernel
theorem dX10_readsLane_61 : decode cX10_readsLane 61 = .ok (.istore_n 3, 1) := by decide +kernel
theorem dX10_readsLane_62 : decode cX10_readsLane 62 = .ok (.aload_n 0, 1) := by decide +kernel
theorem dX10_readsLane_63 : decode cX10_readsLane 63 = .ok (.iload_n 3, 1) := by decide +kernel
theorem dX10_readsLane_64 : decode cX10_readsLane 64 = .ok (.ifCond .eq 24, 3) := by decide +kernel
theorem dX10_readsLane_67 : decode cX10_readsLane 67 = .ok (.aload_n 0, 1) := by decide +kernel
theorem dX10_readsLane_68 : decode cX10_readsLane 68 = .ok (.bipush 6, 2) := by decide +kernel
theorem dX10_readsLane_70 : decode cX10_readsLane 70 = .ok (.iload_n 1, 1) := by decide +kernel
theorem dX10_readsLane_71 : decode cX10_readsLane 71 = .ok (.iload_n 2, 1) := by decide +kernel
theorem dX10_readsLane_72 : decode cX10_readsLane 72 = .ok (.aload_n 0, 1) := by decide +kernel
theorem dX10_readsLane_73 : decode cX10_readsLane 73 = .ok (.getfield 113, 3) := by decide +kernel
theorem dX10_readsLane_76 : decode cX10_readsLane 76 = .ok (.invokevirtual 134, 3) := by decide +kernel
theorem dX10_readsLane_79 : decode cX10_readsLane 79 = .ok (.bipush (-9), 2) := by decide +kernel
theorem dX10_readsLane_81 : decode cX10_readsLane 81 = .ok (.if_icmp .ne 7, 3) := by decide +kernel
theorem dX10_readsLane_84 : decode cX10_readsLane 84 = .ok (.iconst 1, 1) := by decide +kernel
theorem dX10_readsLane_85 : decode cX10_readsLane 85 = .ok (.goto 4, 3) := by decide +kernel
theorem dX10_readsLane_88 : decode cX10_readsLane 88 = .ok (.iconst 0, 1) := by decide +kernel
theorem dX10_readsLane_89 : decode cX10_readsLane 89 = .ok (.invokevirtual 126, 3) := by decide +kernel
theorem dX10_readsLane_92 : decode cX10_readsLane 92 = .ok (.istore 4, 2) := by decide +kernel
theorem dX10_readsLane_94 : decode cX10_readsLane 94 = .ok (.aload_n 0, 1) := by decide +kernel
theorem dX10_readsLane_95 : decode cX10_readsLane 95 = .ok (.getfield 25, 3) := by decide +kernel
theorem dX10_readsLane_98 : decode cX10_readsLane 98 = .ok (.iconst 0, 1) := by decide +kernel
theorem dX10_readsLane_99 : decode cX10_readsLane 99 = .ok (.iload_n 1, 1) := by decide +kernel
theorem dX10_readsLane_100 : decode cX10_readsLane 100 = .ok (.iadd, 1) := by decide +kernel
theorem dX10_readsLane_101 : decode cX10_readsLane 101 = .ok (.aload_n 0, 1) := by decide +kernel
theorem dX10_readsLane_102 : decode cX10_readsLane 102 = .ok (.iconst 1, 1) := by decide +kernel
theorem dX10_readsLane_103 : decode cX10_readsLane 103 = .ok (.iconst 5, 1) := by decide +kernel
theorem dX10_readsLane_104 : decode cX10_readsLane 104 = .ok (.invokevirtual 130, 3) := by decide +kernel
theorem dX10_readsLane_107 : decode cX10_readsLane 107 = .ok (.iastore, 1) := by decide +kernel
theorem dX10_readsLane_108 : decode cX10_readsLane 108 = .ok (.aload_n 0, 1) := by decide +kernel
theorem dX10_readsLane_109 : decode cX10_readsLane 109 = .ok (.getfield 22, 3) := by decide +kernel
theorem dX10_readsLane_112 : decode cX10_readsLane 112 = .ok (.bipush 6, 2) := by decide +kernel
theorem dX10_readsLane_114 : decode cX10_readsLane 114 = .ok (.iload_n 1, 1) := by decide +kernel
theorem dX10_readsLane_115 : decode cX10_readsLane 115 = .ok (.iadd, 1) := by decide +kernel
theorem dX10_readsLane_116 : decode cX10_readsLane 116 = .ok (.aload_n 0, 1) := by decide +kernel
theorem dX10_readsLane_117 : decode cX10_readsLane 117 = .ok (.iconst 1, 1) := by decide +kernel
theorem dX10_readsLane_118 : decode cX10_readsLane 118 = .ok (.bipush 9, 2) := by decide +kernel
theorem dX10_readsLane_120 : decode cX10_readsLane 120 = .ok (.invokevirtual 130, 3) := by decide +kernel
theorem dX10_readsLane_123 : decode cX10_readsLane 123 = .ok (.iastore, 1) := by decide +kernel
theorem dX10_readsLane_124 : decode cX10_readsLane 124 = .ok (.aload_n 0, 1) := by decide +kernel
theorem dX10_readsLane_125 : decode cX10_readsLane 125 = .ok (.getfield 16, 3) := by decide +kernel
theorem dX10_readsLane_128 : decode cX10_readsLane 128 = .ok (.bipush 6, 2) := by decide +kernel
theorem dX10_readsLane_130 : decode cX10_readsLane 130 = .ok (.iload_n 1, 1) := by decide +kernel
theorem dX10_readsLane_131 : decode cX10_readsLane 131 = .ok (.iadd, 1) := by decide +kernel
theorem dX10_readsLane_132 : decode cX10_readsLane 132 = .ok (.iload_n 2, 1) := by decide +kernel
theorem dX10_readsLane_133 : decode cX10_readsLane 133 = .ok (.iastore, 1) := by decide +kernel
theorem dX10_readsLane_134 : decode cX10_readsLane 134 = .ok (.aload_n 0, 1) := by decide +kernel
theorem dX10_readsLane_135 : decode cX10_readsLane 135 = .ok (.getfield 19, 3) := by decide +kernel
theorem dX10_readsLane_138 : decode cX10_readsLane 138 = .ok (.bipush 6, 2) := by decide +kernel
theorem dX10_readsLane_140 : decode cX10_readsLane 140 = .ok (.iload_n 1, 1) := by decide +kernel
theorem dX10_readsLane_141 : decode cX10_readsLane 141 = .ok (.iadd, 1) := by decide +kernel
theorem dX10_readsLane_142 : decode cX10_readsLane 142 = .ok (.iload 4, 2) := by decide +kernel
theorem dX10_readsLane_144 : decode cX10_readsLane 144 = .ok (.iastore, 1) := by decide +kernel
theorem dX10_readsLane_145 : decode cX10_readsLane 145 = .ok (.aload_n 0, 1) := by decide +kernel
theorem dX10_readsLane_146 : decode cX10_readsLane 146 = .ok (.getfield 13, 3) := by decide +kernel
theorem dX10_readsLane_149 : decode cX10_readsLane 149 = .ok (.iconst 3, 1) := by decide +kernel
theorem dX10_readsLane_150 : decode cX10_readsLane 150 = .ok (.dup2, 1) := by decide +kernel
theorem dX10_readsLane_151 : decode cX10_readsLane 151 = .ok (.iaload, 1) := by decide +kernel
theorem dX10_readsLane_152 : decode cX10_readsLane 152 = .ok (.iconst 1, 1) := by decide +kernel
theorem dX10_readsLane_153 : decode cX10_readsLane 153 = .ok (.iadd, 1) := by decide +kernel
theorem dX10_readsLane_154 : decode cX10_readsLane 154 = .ok (.iastore, 1) := by decide +kernel
theorem dX10_readsLane_155 : decode cX10_readsLane 155 = .ok (.return_, 1) := by decide +kernel
theorem dX10_canBeNext_0 : decode cX10_canBeNext 0 = .ok (.iload_n 3, 1) := by decide +kernel
theorem dX10_canBeNext_1 : decode cX10_canBeNext 1 = .ok (.ifCond .eq 30, 3) := by decide +kernel
theorem dX10_canBeNext_4 : decode cX10_canBeNext 4 = .ok (.iload_n 3, 1) := by decide +kernel
theorem dX10_canBeNext_5 : decode cX10_canBeNext 5 = .ok (.iconst 5, 1) := by decide +kernel
theorem dX10_canBeNext_6 : decode cX10_canBeNext 6 = .ok (.if_icmp .ge 29, 3) := by decide +kernel
theorem dX10_canBeNext_9 : decode cX10_canBeNext 9 = .ok (.aload_n 0, 1) := by decide +kernel
theorem dX10_canBeNext_10 : decode cX10_canBeNext 10 = .ok (.iload 5, 2) := by decide +kernel
theorem dX10_canBeNext_12 : decode cX10_canBeNext 12 = .ok (.iload 6, 2) := by decide +kernel
theorem dX10_canBeNext_14 : decode cX10_canBeNext 14 = .ok (.aload_n 1, 1) := by decide +kernel
theorem dX10_canBeNext_15 : decode cX10_canBeNext 15 = .ok (.iload_n 2, 1) := by decide +kernel
theorem dX10_canBeNext_16 : decode cX10_canBeNext 16 = .ok (.iload_n 3, 1) := by decide +kernel
theorem dX10_canBeNext_17 : decode cX10_canBeNext 17 = .ok (.iadd, 1) := by decide +kernel
theorem dX10_canBeNext_18 : decode cX10_canBeNext 18 = .ok (.iconst 1, 1) := by decide +kernel
theorem dX10_canBeNext_19 : decode cX10_canBeNext 19 = .ok (.isub, 1) := by decide +kernel
theorem dX10_canBeNext_20 : decode cX10_canBeNext 20 = .ok (.iaload, 1) := by decide +kernel
theorem dX10_canBeNext_21 : decode cX10_canBeNext 21 = .ok (.iload 4, 2) := by decide +kernel
theorem dX10_canBeNext_23 : decode cX10_canBeNext 23 = .ok (.invokevirtual 134, 3) := by decide +kernel
theorem dX10_canBeNext_26 : decode cX10_canBeNext 26 = .ok (.bipush (-9), 2) := by decide +kernel
theorem dX10_canBeNext_28 : decode cX10_canBeNext 28 = .ok (.if_icmp .eq 7, 3) := by decide +kernel
theorem dX10_canBeNext_31 : decode cX10_canBeNext 31 = .ok (.iconst 1, 1) := by decide +kernel
theorem dX10_canBeNext_32 : decode cX10_canBeNext 32 = .ok (.goto 4, 3) := by decide +kernel
theorem dX10_canBeNext_35 : decode cX10_canBeNext 35 = .ok (.iconst 0, 1) := by decide +kernel
theorem dX10_canBeNext_36 : decode cX10_canBeNext 36 = .ok (.istore 7, 2) := by decide +kernel
theorem dX10_canBeNext_38 : decode cX10_canBeNext 38 = .ok (.iconst 0, 1) := by decide +kernel
theorem dX10_canBeNext_39 : decode cX10_canBeNext 39 = .ok (.istore 8, 2) := by decide +kernel
theorem dX10_canBeNext_41 : decode cX10_canBeNext 41 = .ok (.iload 8, 2) := by decide +kernel
theorem dX10_canBeNext_43 : decode cX10_canBeNext 43 = .ok (.iload_n 3, 1) := by decide +kernel
theorem dX10_canBeNext_44 : decode cX10_canBeNext 44 = .ok (.if_icmp .ge 32, 3) := by decide +kernel
theorem dX10_canBeNext_47 : decode cX10_canBeNext 47 = .ok (.iload 7, 2) := by decide +kernel
theorem dX10_canBeNext_49 : decode cX10_canBeNext 49 = .ok (.ifCond .eq 18, 3) := by decide +kernel
theorem dX10_canBeNext_52 : decode cX10_canBeNext 52 = .ok (.aload_n 1, 1) := by decide +kernel
theorem dX10_canBeNext_53 : decode cX10_canBeNext 53 = .ok (.iload_n 2, 1) := by decide +kernel
theorem dX10_canBeNext_54 : decode cX10_canBeNext 54 = .ok (.iload 8, 2) := by decide +kernel
theorem dX10_canBeNext_56 : decode cX10_canBeNext 56 = .ok (.iadd, 1) := by decide +kernel
theorem dX10_canBeNext_57 : decode cX10_canBeNext 57 = .ok (.iaload, 1) := by decide +kernel
theorem dX10_canBeNext_58 : decode cX10_canBeNext 58 = .ok (.iload 4, 2) := by decide +kernel
theorem dX10_canBeNext_60 : decode cX10_canBeNext 60 = .ok (.if_icmp .eq 7, 3) := by decide +kernel
theorem dX10_canBeNext_63 : decode cX10_canBeNext 63 = .ok (.iconst 1, 1) := by decide +kernel
theorem dX10_canBeNext_64 : decode cX10_canBeNext 64 = .ok (.goto 4, 3) := by decide +kernel
theorem dX10_canBeNext_67 : decode cX10_canBeNext 67 = .ok (.iconst 0, 1) := by decide +kernel
theorem dX10_canBeNext_68 : decode cX10_canBeNext 68 = .ok (.istore 7, 2) := by decide +kernel
theorem dX10_canBeNext_70 : decode cX10_canBeNext 70 = .ok (.iinc 8 1, 3) := by decide +kernel
theorem dX10_canBeNext_73 : decode cX10_canBeNext 73 = .ok (.goto (-32), 3) := by decide +kernel
theorem dX10_canBeNext_76 : decode cX10_canBeNext 76 = .ok (.iload 7, 2) := by decide +kernel
theorem dX10_canBeNext_78 : decode cX10_canBeNext 78 = .ok (.ireturn, 1) := by decide +kernel
theorem dX10_readsMap_0 : decode cX10_readsMap 0 = .ok (.aload_n 0, 1) := by decide +kernel
theorem dX10_readsMap_1 : decode cX10_readsMap 1 = .ok (.getfield 25, 3) := by decide +kernel
theorem dX10_readsMap_4 : decode cX10_readsMap 4 = .ok (.bipush 6, 2) := by decide +kernel
theorem dX10_readsMap_6 : decode cX10_readsMap 6 = .ok (.iaload, 1) := by decide +kernel
theorem dX10_readsMap_7 : decode cX10_readsMap 7 = .ok (.istore_n 1, 1) := by decide +kernel
theorem dX10_readsMap_8 : decode cX10_readsMap 8 = .ok (.iconst 0, 1) := by decide +kernel
theorem dX10_readsMap_9 : decode cX10_readsMap 9 = .ok (.istore_n 2, 1) := by decide +kernel
theorem dX10_readsMap_10 : decode cX10_readsMap 10 = .ok (.aload_n 0, 1) := by decide +kernel
theorem dX10_readsMap_11 : decode cX10_readsMap 11 = .ok (.invokevirtual 119, 3) := by decide +kernel
theorem dX10_readsMap_14 : decode cX10_readsMap 14 = .ok (.ifCond .eq 122, 3) := by decide +kernel
theorem dX10_readsMap_17 : decode cX10_readsMap 17 = .ok (.iload_n 2, 1) := by decide +kernel
theorem dX10_readsMap_18 : decode cX10_readsMap 18 = .ok (.iconst 2, 1) := by decide +kernel
theorem dX10_readsMap_19 : decode cX10_readsMap 19 = .ok (.if_icmp .lt 11, 3) := by decide +kernel
theorem dX10_readsMap_22 : decode cX10_readsMap 22 = .ok (.aload_n 0, 1) := by decide +kernel
theorem dX10_readsMap_23 : decode cX10_readsMap 23 = .ok (.getfield 110, 3) := by decide +kernel
theorem dX10_readsMap_26 : decode cX10_readsMap 26 = .ok (.iconst 3, 1) := by decide +kernel
theorem dX10_readsMap_27 : decode cX10_readsMap 27 = .ok (.if_icmp .eq 109, 3) := by decide +kernel
theorem dX10_readsMap_30 : decode cX10_readsMap 30 = .ok (.aload_n 0, 1) := by decide +kernel
theorem dX10_readsMap_31 : decode cX10_readsMap 31 = .ok (.getfield 110, 3) := by decide +kernel
theorem dX10_readsMap_34 : decode cX10_readsMap 34 = .ok (.iconst 2, 1) := by decide +kernel
theorem dX10_readsMap_35 : decode cX10_readsMap 35 = .ok (.if_icmp .ne 26, 3) := by decide +kernel
theorem dX10_readsMap_38 : decode cX10_readsMap 38 = .ok (.aload_n 0, 1) := by decide +kernel
theorem dX10_readsMap_39 : decode cX10_readsMap 39 = .ok (.getfield 113, 3) := by decide +kernel
theorem dX10_readsMap_42 : decode cX10_readsMap 42 = .ok (.iconst 0, 1) := by decide +kernel
theorem dX10_readsMap_43 : decode cX10_readsMap 43 = .ok (.aload_n 0, 1) := by decide +kernel
theorem dX10_readsMap_44 : decode cX10_readsMap 44 = .ok (.getfield 13, 3) := by decide +kernel
theorem dX10_readsMap_47 : decode cX10_readsMap 47 = .ok (.iconst 2, 1) := by decide +kernel
theorem dX10_readsMap_48 : decode cX10_readsMap 48 = .ok (.iaload, 1) := by decide +kernel
theorem dX10_readsMap_49 : decode cX10_readsMap 49 = .ok (.iconst 1, 1) := by decide +kernel
theorem dX10_readsMap_50 : decode cX10_readsMap 50 = .ok (.isub, 1) := by decide +kernel
theorem dX10_readsMap_51 : decode cX10_readsMap 51 = .ok (.invokestatic 93, 3) := by decide +kernel
theorem dX10_readsMap_54 : decode cX10_readsMap 54 = .ok (.ifCond .eq 7, 3) := by decide +kernel
theorem dX10_readsMap_57 : decode cX10_readsMap 57 = .ok (.iconst 1, 1) := by decide +kernel
theorem dX10_readsMap_58 : decode cX10_readsMap 58 = .ok (.goto 4, 3) := by decide +kernel
theorem dX10_readsMap_61 : decode cX10_readsMap 61 = .ok (.iconst 0, 1) := by decide +kernel
theorem dX10_readsMap_62 : decode cX10_readsMap 62 = .ok (.istore_n 3, 1) := by decide +kernel
theorem dX10_readsMap_63 : decode cX10_readsMap 63 = .ok (.aload_n 0, 1) := by decide +kernel
theorem dX10_readsMap_64 : decode cX10_readsMap 64 = .ok (.iload_n 3, 1) := by decide +kernel
theorem dX10_readsMap_65 : decode cX10_readsMap 65 = .ok (.ifCond .eq 37, 3) := by decide +kernel
theorem dX10_readsMap_68 : decode cX10_readsMap 68 = .ok (.aload_n 0, 1) := by decide +kernel
theorem dX10_readsMap_69 : decode cX10_readsMap 69 = .ok (.aload_n 0, 1) := by decide +kernel
theorem dX10_readsMap_70 : decode cX10_readsMap 70 = .ok (.getfield 25, 3) := by decide +kernel
theorem dX10_readsMap_73 : decode cX10_readsMap 73 = .ok (.bipush 11, 2) := by decide +kernel
theorem dX10_readsMap_75 : decode cX10_readsMap 75 = .ok (.iconst 5, 1) := by decide +kernel
theorem dX10_readsMap_76 : decode cX10_readsMap 76 = .ok (.iload_n 1, 1) := by decide +kernel
theorem dX10_readsMap_77 : decode cX10_readsMap 77 = .ok (.imul, 1) := by decide +kernel
theorem dX10_readsMap_78 : decode cX10_readsMap 78 = .ok (.iadd, 1) := by decide +kernel
theorem dX10_readsMap_79 : decode cX10_readsMap 79 = .ok (.iload_n 2, 1) := by decide +kernel
theorem dX10_readsMap_80 : decode cX10_readsMap 80 = .ok (.aload_n 0, 1) := by decide +kernel
theorem dX10_readsMap_81 : decode cX10_readsMap 81 = .ok (.getfield 113, 3) := by decide +kernel
theorem dX10_readsMap_84 : decode cX10_readsMap 84 = .ok (.bipush 6, 2) := by decide +kernel
theorem dX10_readsMap_86 : decode cX10_readsMap 86 = .ok (.aload_n 0, 1) := by decide +kernel
theorem dX10_readsMap_87 : decode cX10_readsMap 87 = .ok (.getfield 13, 3) := by decide +kernel
theorem dX10_readsMap_90 : decode cX10_readsMap 90 = .ok (.iconst 3, 1) := by decide +kernel
theorem dX10_readsMap_91 : decode cX10_readsMap 91 = .ok (.iaload, 1) := by decide +kernel
theorem dX10_readsMap_92 : decode cX10_readsMap 92 = .ok (.invokevirtual 138, 3) := by decide +kernel
theorem dX10_readsMap_95 : decode cX10_readsMap 95 = .ok (.ifCond .eq 7, 3) := by decide +kernel
theorem dX10_readsMap_98 : decode cX10_readsMap 98 = .ok (.iconst 1, 1) := by decide +kernel
theorem dX10_readsMap_99 : decode cX10_readsMap 99 = .ok (.goto 4, 3) := by decide +kernel
theorem dX10_readsMap_102 : decode cX10_readsMap 102 = .ok (.iconst 0, 1) := by decide +kernel
theorem dX10_readsMap_103 : decode cX10_readsMap 103 = .ok (.invokevirtual 126, 3) := by decide +kernel
theorem dX10_readsMap_106 : decode cX10_readsMap 106 = .ok (.istore 4, 2) := by decide +kernel
theorem dX10_readsMap_108 : decode cX10_readsMap 108 = .ok (.aload_n 0, 1) := by decide +kernel
theorem dX10_readsMap_109 : decode cX10_readsMap 109 = .ok (.invokevirtual 119, 3) := by decide +kernel
theorem dX10_readsMap_112 : decode cX10_readsMap 112 = .ok (.ifCond .eq 21, 3) := by decide +kernel
theorem dX10_readsMap_115 : decode cX10_readsMap 115 = .ok (.aload_n 0, 1) := by decide +kernel
theorem dX10_readsMap_116 : decode cX10_readsMap 116 = .ok (.getfield 25, 3) := by decide +kernel
theorem dX10_readsMap_119 : decode cX10_readsMap 119 = .ok (.bipush 11, 2) := by decide +kernel
theorem dX10_readsMap_121 : decode cX10_readsMap 121 = .ok (.iconst 5, 1) := by decide +kernel
theorem dX10_readsMap_122 : decode cX10_readsMap 122 = .ok (.iload_n 1, 1) := by decide +kernel
theorem dX10_readsMap_123 : decode cX10_readsMap 123 = .ok (.imul, 1) := by decide +kernel
theorem dX10_readsMap_124 : decode cX10_readsMap 124 = .ok (.iadd, 1) := by decide +kernel
theorem dX10_readsMap_125 : decode cX10_readsMap 125 = .ok (.iload_n 2, 1) := by decide +kernel
theorem dX10_readsMap_126 : decode cX10_readsMap 126 = .ok (.iadd, 1) := by decide +kernel
theorem dX10_readsMap_127 : decode cX10_readsMap 127 = .ok (.iload 4, 2) := by decide +kernel
theorem dX10_readsMap_129 : decode cX10_readsMap 129 = .ok (.iastore, 1) := by decide +kernel
theorem dX10_readsMap_130 : decode cX10_readsMap 130 = .ok (.iinc 2 1, 3) := by decide +kernel
theorem dX10_readsMap_133 : decode cX10_readsMap 133 = .ok (.goto (-123), 3) := by decide +kernel
theorem dX10_readsMap_136 : decode cX10_readsMap 136 = .ok (.aload_n 0, 1) := by decide +kernel
theorem dX10_readsMap_137 : decode cX10_readsMap 137 = .ok (.getfield 25, 3) := by decide +kernel
theorem dX10_readsMap_140 : decode cX10_readsMap 140 = .ok (.bipush 7, 2) := by decide +kernel
theorem dX10_readsMap_142 : decode cX10_readsMap 142 = .ok (.iload_n 1, 1) := by decide +kernel
theorem dX10_readsMap_143 : decode cX10_readsMap 143 = .ok (.iadd, 1) := by decide +kernel
theorem dX10_readsMap_144 : decode cX10_readsMap 144 = .ok (.iload_n 2, 1) := by decide +kernel
theorem dX10_readsMap_145 : decode cX10_readsMap 145 = .ok (.iastore, 1) := by decide +kernel
theorem dX10_readsMap_146 : decode cX10_readsMap 146 = .ok (.aload_n 0, 1) := by decide +kernel
theorem dX10_readsMap_147 : decode cX10_readsMap 147 = .ok (.getfield 25, 3) := by decide +kernel
theorem dX10_readsMap_150 : decode cX10_readsMap 150 = .ok (.bipush 6, 2) := by decide +kernel
theorem dX10_readsMap_152 : decode cX10_readsMap 152 = .ok (.dup2, 1) := by decide +kernel
theorem dX10_readsMap_153 : decode cX10_readsMap 153 = .ok (.iaload, 1) := by decide +kernel
theorem dX10_readsMap_154 : decode cX10_readsMap 154 = .ok (.iconst 1, 1) := by decide +kernel
theorem dX10_readsMap_155 : decode cX10_readsMap 155 = .ok (.iadd, 1) := by decide +kernel
theorem dX10_readsMap_156 : decode cX10_readsMap 156 = .ok (.iastore, 1) := by decide +kernel
theorem dX10_readsMap_157 : decode cX10_readsMap 157 = .ok (.return_, 1) := by decide +kernel
theorem dX10_readsItem_0 : decode cX10_readsItem 0 = .ok (.iload_n 1, 1) := by decide +kernel
theorem dX10_readsItem_1 : decode cX10_readsItem 1 = .ok (.bipush 110, 2) := by decide +kernel
theorem dX10_readsItem_3 : decode cX10_readsItem 3 = .ok (.if_icmp .ne 18, 3) := by decide +kernel
theorem dX10_readsItem_6 : decode cX10_readsItem 6 = .ok (.aload_n 0, 1) := by decide +kernel
theorem dX10_readsItem_7 : decode cX10_readsItem 7 = .ok (.getfield 13, 3) := by decide +kernel
theorem dX10_readsItem_10 : decode cX10_readsItem 10 = .ok (.iconst 2, 1) := by decide +kernel
theorem dX10_readsItem_11 : decode cX10_readsItem 11 = .ok (.aload_n 0, 1) := by decide +kernel
theorem dX10_readsItem_12 : decode cX10_readsItem 12 = .ok (.iconst 2, 1) := by decide +kernel
theorem dX10_readsItem_13 : decode cX10_readsItem 13 = .ok (.iconst 5, 1) := by decide +kernel
theorem dX10_readsItem_14 : decode cX10_readsItem 14 = .ok (.invokevirtual 130, 3) := by decide +kernel
theorem dX10_readsItem_17 : decode cX10_readsItem 17 = .ok (.iastore, 1) := by decide +kernel
theorem dX10_readsItem_18 : decode cX10_readsItem 18 = .ok (.goto 20, 3) := by decide +kernel
theorem dX10_readsItem_21 : decode cX10_readsItem 21 = .ok (.iload_n 1, 1) := by decide +kernel
theorem dX10_readsItem_22 : decode cX10_readsItem 22 = .ok (.bipush 108, 2) := by decide +kernel
theorem dX10_readsItem_24 : decode cX10_readsItem 24 = .ok (.if_icmp .ne 10, 3) := by decide +kernel
theorem dX10_readsItem_27 : decode cX10_readsItem 27 = .ok (.aload_n 0, 1) := by decide +kernel
theorem dX10_readsItem_28 : decode cX10_readsItem 28 = .ok (.invokevirtual 142, 3) := by decide +kernel
theorem dX10_readsItem_31 : decode cX10_readsItem 31 = .ok (.goto 7, 3) := by decide +kernel
theorem dX10_readsItem_34 : decode cX10_readsItem 34 = .ok (.aload_n 0, 1) := by decide +kernel
theorem dX10_readsItem_35 : decode cX10_readsItem 35 = .ok (.invokevirtual 145, 3) := by decide +kernel
theorem dX10_readsItem_38 : decode cX10_readsItem 38 = .ok (.return_, 1) := by decide +kernel
theorem dX10_land_0 : decode cX10_land 0 = .ok (.aload_n 0, 1) := by decide +kernel
theorem dX10_land_1 : decode cX10_land 1 = .ok (.iconst 0, 1) := by decide +kernel
theorem dX10_land_2 : decode cX10_land 2 = .ok (.putfield 89, 3) := by decide +kernel
theorem dX10_land_5 : decode cX10_land 5 = .ok (.aload_n 0, 1) := by decide +kernel
theorem dX10_land_6 : decode cX10_land 6 = .ok (.iconst (-1), 1) := by decide +kernel
theorem dX10_land_7 : decode cX10_land 7 = .ok (.putfield 116, 3) := by decide +kernel
theorem dX10_land_10 : decode cX10_land 10 = .ok (.aload_n 0, 1) := by decide +kernel
theorem dX10_land_11 : decode cX10_land 11 = .ok (.iconst 0, 1) := by decide +kernel
theorem dX10_land_12 : decode cX10_land 12 = .ok (.putfield 100, 3) := by decide +kernel
theorem dX10_land_15 : decode cX10_land 15 = .ok (.aload_n 0, 1) := by decide +kernel
theorem dX10_land_16 : decode cX10_land 16 = .ok (.invokevirtual 83, 3) := by decide +kernel
theorem dX10_land_19 : decode cX10_land 19 = .ok (.iconst 0, 1) := by decide +kernel
theorem dX10_land_20 : decode cX10_land 20 = .ok (.istore_n 1, 1) := by decide +kernel
theorem dX10_land_21 : decode cX10_land 21 = .ok (.aload_n 0, 1) := by decide +kernel
theorem dX10_land_22 : decode cX10_land 22 = .ok (.invokevirtual 123, 3) := by decide +kernel
theorem dX10_land_25 : decode cX10_land 25 = .ok (.aload_n 0, 1) := by decide +kernel
theorem dX10_land_26 : decode cX10_land 26 = .ok (.invokevirtual 119, 3) := by decide +kernel
theorem dX10_land_29 : decode cX10_land 29 = .ok (.ifCond .eq 134, 3) := by decide +kernel
theorem dX10_land_32 : decode cX10_land 32 = .ok (.aload_n 0, 1) := by decide +kernel
theorem dX10_land_33 : decode cX10_land 33 = .ok (.getfield 110, 3) := by decide +kernel
theorem dX10_land_36 : decode cX10_land 36 = .ok (.ifCond .eq 127, 3) := by decide +kernel
theorem dX10_land_39 : decode cX10_land 39 = .ok (.aload_n 0, 1) := by decide +kernel
theorem dX10_land_40 : decode cX10_land 40 = .ok (.getfield 113, 3) := by decide +kernel
theorem dX10_land_43 : decode cX10_land 43 = .ok (.bipush 110, 2) := by decide +kernel
theorem dX10_land_45 : decode cX10_land 45 = .ok (.if_icmp .ne 15, 3) := by decide +kernel
theorem dX10_land_48 : decode cX10_land 48 = .ok (.iload_n 1, 1) := by decide +kernel
theorem dX10_land_49 : decode cX10_land 49 = .ok (.ifCond .ne 7, 3) := by decide +kernel
theorem dX10_land_52 : decode cX10_land 52 = .ok (.iconst 1, 1) := by decide +kernel
theorem dX10_land_53 : decode cX10_land 53 = .ok (.goto 51, 3) := by decide +kernel
theorem dX10_land_56 : decode cX10_land 56 = .ok (.iconst 0, 1) := by decide +kernel
theorem dX10_land_57 : decode cX10_land 57 = .ok (.goto 47, 3) := by decide +kernel
theorem dX10_land_60 : decode cX10_land 60 = .ok (.aload_n 0, 1) := by decide +kernel
theorem dX10_land_61 : decode cX10_land 61 = .ok (.getfield 113, 3) := by decide +kernel
theorem dX10_land_64 : decode cX10_land 64 = .ok (.bipush 108, 2) := by decide +kernel
theorem dX10_land_66 : decode cX10_land 66 = .ok (.if_icmp .ne 22, 3) := by decide +kernel
theorem dX10_land_69 : decode cX10_land 69 = .ok (.aload_n 0, 1) := by decide +kernel
theorem dX10_land_70 : decode cX10_land 70 = .ok (.getfield 13, 3) := by decide +kernel
theorem dX10_land_73 : decode cX10_land 73 = .ok (.iconst 3, 1) := by decide +kernel
theorem dX10_land_74 : decode cX10_land 74 = .ok (.iaload, 1) := by decide +kernel
theorem dX10_land_75 : decode cX10_land 75 = .ok (.bipush 6, 2) := by decide +kernel
theorem dX10_land_77 : decode cX10_land 77 = .ok (.if_icmp .ge 7, 3) := by decide +kernel
theorem dX10_land_80 : decode cX10_land 80 = .ok (.iconst 1, 1) := by decide +kernel
theorem dX10_land_81 : decode cX10_land 81 = .ok (.goto 23, 3) := by decide +kernel
theorem dX10_land_84 : decode cX10_land 84 = .ok (.iconst 0, 1) := by decide +kernel
theorem dX10_land_85 : decode cX10_land 85 = .ok (.goto 19, 3) := by decide +kernel
theorem dX10_land_88 : decode cX10_land 88 = .ok (.aload_n 0, 1) := by decide +kernel
theorem dX10_land_89 : decode cX10_land 89 = .ok (.getfield 25, 3) := by decide +kernel
theorem dX10_land_92 : decode cX10_land 92 = .ok (.bipush 6, 2) := by decide +kernel
theorem dX10_land_94 : decode cX10_land 94 = .ok (.iaload, 1) := by decide +kernel
theorem dX10_land_95 : decode cX10_land 95 = .ok (.iconst 4, 1) := by decide +kernel
theorem dX10_land_96 : decode cX10_land 96 = .ok (.if_icmp .ge 7, 3) := by decide +kernel
theorem dX10_land_99 : decode cX10_land 99 = .ok (.iconst 1, 1) := by decide +kernel
theorem dX10_land_100 : decode cX10_land 100 = .ok (.goto 4, 3) := by decide +kernel
theorem dX10_land_103 : decode cX10_land 103 = .ok (.iconst 0, 1) := by decide +kernel
theorem dX10_land_104 : decode cX10_land 104 = .ok (.istore_n 2, 1) := by decide +kernel
theorem dX10_land_105 : decode cX10_land 105 = .ok (.aload_n 0, 1) := by decide +kernel
theorem dX10_land_106 : decode cX10_land 106 = .ok (.aload_n 0, 1) := by decide +kernel
theorem dX10_land_107 : decode cX10_land 107 = .ok (.getfield 110, 3) := by decide +kernel
theorem dX10_land_110 : decode cX10_land 110 = .ok (.iconst 1, 1) := by decide +kernel
theorem dX10_land_111 : decode cX10_land 111 = .ok (.if_icmp .ne 11, 3) := by decide +kernel
theorem dX10_land_114 : decode cX10_land 114 = .ok (.iload_n 2, 1) := by decide +kernel
theorem dX10_land_115 : decode cX10_land 115 = .ok (.ifCond .eq 7, 3) := by decide +kernel
theorem dX10_land_118 : decode cX10_land 118 = .ok (.iconst 1, 1) := by decide +kernel
theorem dX10_land_119 : decode cX10_land 119 = .ok (.goto 4, 3) := by decide +kernel
theorem dX10_land_122 : decode cX10_land 122 = .ok (.iconst 0, 1) := by decide +kernel
theorem dX10_land_123 : decode cX10_land 123 = .ok (.invokevirtual 126, 3) := by decide +kernel
theorem dX10_land_126 : decode cX10_land 126 = .ok (.istore_n 3, 1) := by decide +kernel
theorem dX10_land_127 : decode cX10_land 127 = .ok (.aload_n 0, 1) := by decide +kernel
theorem dX10_land_128 : decode cX10_land 128 = .ok (.invokevirtual 119, 3) := by decide +kernel
theorem dX10_land_131 : decode cX10_land 131 = .ok (.ifCond .eq 8, 3) := by decide +kernel
theorem dX10_land_134 : decode cX10_land 134 = .ok (.aload_n 0, 1) := by decide +kernel
theorem dX10_land_135 : decode cX10_land 135 = .ok (.iload_n 3, 1) := by decide +kernel
theorem dX10_land_136 : decode cX10_land 136 = .ok (.invokevirtual 148, 3) := by decide +kernel
theorem dX10_land_139 : decode cX10_land 139 = .ok (.aload_n 0, 1) := by decide +kernel
theorem dX10_land_140 : decode cX10_land 140 = .ok (.aload_n 0, 1) := by decide +kernel
theorem dX10_land_141 : decode cX10_land 141 = .ok (.getfield 110, 3) := by decide +kernel
theorem dX10_land_144 : decode cX10_land 144 = .ok (.iconst 3, 1) := by decide +kernel
theorem dX10_land_145 : decode cX10_land 145 = .ok (.if_icmp .ne 7, 3) := by decide +kernel
theorem dX10_land_148 : decode cX10_land 148 = .ok (.iconst 1, 1) := by decide +kernel
theorem dX10_land_149 : decode cX10_land 149 = .ok (.goto 4, 3) := by decide +kernel
theorem dX10_land_152 : decode cX10_land 152 = .ok (.iconst 0, 1) := by decide +kernel
theorem dX10_land_153 : decode cX10_land 153 = .ok (.invokevirtual 126, 3) := by decide +kernel
theorem dX10_land_156 : decode cX10_land 156 = .ok (.pop, 1) := by decide +kernel
theorem dX10_land_157 : decode cX10_land 157 = .ok (.iinc 1 1, 3) := by decide +kernel
theorem dX10_land_160 : decode cX10_land 160 = .ok (.goto (-135), 3) := by decide +kernel
theorem dX10_land_163 : decode cX10_land 163 = .ok (.aload_n 0, 1) := by decide +kernel
theorem dX10_land_164 : decode cX10_land 164 = .ok (.invokevirtual 119, 3) := by decide +kernel
theorem dX10_land_167 : decode cX10_land 167 = .ok (.ifCond .ne 11, 3) := by decide +kernel
theorem dX10_land_170 : decode cX10_land 170 = .ok (.bipush (-10), 2) := by decide +kernel
theorem dX10_land_172 : decode cX10_land 172 = .ok (.aload_n 0, 1) := by decide +kernel
theorem dX10_land_173 : decode cX10_land 173 = .ok (.getfield 116, 3) := by decide +kernel
theorem dX10_land_176 : decode cX10_land 176 = .ok (.isub, 1) := by decide +kernel
theorem dX10_land_177 : decode cX10_land 177 = .ok (.ireturn, 1) := by decide +kernel
theorem dX10_land_178 : decode cX10_land 178 = .ok (.aload_n 0, 1) := by decide +kernel
theorem dX10_land_179 : decode cX10_land 179 = .ok (.invokevirtual 86, 3) := by decide +kernel
theorem dX10_land_182 : decode cX10_land 182 = .ok (.iload_n 1, 1) := by decide +kernel
theorem dX10_land_183 : decode cX10_land 183 = .ok (.ireturn, 1) := by decide +kernel
theorem dX10_settles_0 : decode cX10_settles 0 = .ok (.iconst 0, 1) := by decide +kernel
theorem dX10_settles_1 : decode cX10_settles 1 = .ok (.istore_n 1, 1) := by decide +kernel
theorem dX10_settles_2 : decode cX10_settles 2 = .ok (.iload_n 1, 1) := by decide +kernel
theorem dX10_settles_3 : decode cX10_settles 3 = .ok (.iconst 2, 1) := by decide +kernel
theorem dX10_settles_4 : decode cX10_settles 4 = .ok (.if_icmp .ge 23, 3) := by decide +kernel
theorem dX10_settles_7 : decode cX10_settles 7 = .ok (.aload_n 0, 1) := by decide +kernel
theorem dX10_settles_8 : decode cX10_settles 8 = .ok (.getfield 13, 3) := by decide +kernel
theorem dX10_settles_11 : decode cX10_settles 11 = .ok (.iload_n 1, 1) := by decide +kernel
theorem dX10_settles_12 : decode cX10_settles 12 = .ok (.aload_n 0, 1) := by decide +kernel
theorem dX10_settles_13 : decode cX10_settles 13 = .ok (.getfield 13, 3) := by decide +kernel
theorem dX10_settles_16 : decode cX10_settles 16 = .ok (.iconst 2, 1) := by decide +kernel
theorem dX10_settles_17 : decode cX10_settles 17 = .ok (.iload_n 1, 1) := by decide +kernel
theorem dX10_settles_18 : decode cX10_settles 18 = .ok (.iadd, 1) := by decide +kernel
theorem dX10_settles_19 : decode cX10_settles 19 = .ok (.iaload, 1) := by decide +kernel
theorem dX10_settles_20 : decode cX10_settles 20 = .ok (.iastore, 1) := by decide +kernel
theorem dX10_settles_21 : decode cX10_settles 21 = .ok (.iinc 1 1, 3) := by decide +kernel
theorem dX10_settles_24 : decode cX10_settles 24 = .ok (.goto (-22), 3) := by decide +kernel
theorem dX10_settles_27 : decode cX10_settles 27 = .ok (.iconst 0, 1) := by decide +kernel
theorem dX10_settles_28 : decode cX10_settles 28 = .ok (.istore_n 1, 1) := by decide +kernel
theorem dX10_settles_29 : decode cX10_settles 29 = .ok (.iload_n 1, 1) := by decide +kernel
theorem dX10_settles_30 : decode cX10_settles 30 = .ok (.bipush 6, 2) := by decide +kernel
theorem dX10_settles_32 : decode cX10_settles 32 = .ok (.if_icmp .ge 54, 3) := by decide +kernel
theorem dX10_settles_35 : decode cX10_settles 35 = .ok (.aload_n 0, 1) := by decide +kernel
theorem dX10_settles_36 : decode cX10_settles 36 = .ok (.getfield 16, 3) := by decide +kernel
theorem dX10_settles_39 : decode cX10_settles 39 = .ok (.iload_n 1, 1) := by decide +kernel
theorem dX10_settles_40 : decode cX10_settles 40 = .ok (.aload_n 0, 1) := by decide +kernel
theorem dX10_settles_41 : decode cX10_settles 41 = .ok (.getfield 16, 3) := by decide +kernel
theorem dX10_settles_44 : decode cX10_settles 44 = .ok (.bipush 6, 2) := by decide +kernel
theorem dX10_settles_46 : decode cX10_settles 46 = .ok (.iload_n 1, 1) := by decide +kernel
theorem dX10_settles_47 : decode cX10_settles 47 = .ok (.iadd, 1) := by decide +kernel
theorem dX10_settles_48 : decode cX10_settles 48 = .ok (.iaload, 1) := by decide +kernel
theorem dX10_settles_49 : decode cX10_settles 49 = .ok (.iastore, 1) := by decide +kernel
theorem dX10_settles_50 : decode cX10_settles 50 = .ok (.aload_n 0, 1) := by decide +kernel
theorem dX10_settles_51 : decode cX10_settles 51 = .ok (.getfield 19, 3) := by decide +kernel
theorem dX10_settles_54 : decode cX10_settles 54 = .ok (.iload_n 1, 1) := by decide +kernel
theorem dX10_settles_55 : decode cX10_settles 55 = .ok (.aload_n 0, 1) := by decide +kernel
theorem dX10_settles_56 : decode cX10_settles 56 = .ok (.getfield 19, 3) := by decide +kernel
theorem dX10_settles_59 : decode cX10_settles 59 = .ok (.bipush 6, 2) := by decide +kernel
theorem dX10_settles_61 : decode cX10_settles 61 = .ok (.iload_n 1, 1) := by decide +kernel
theorem dX10_settles_62 : decode cX10_settles 62 = .ok (.iadd, 1) := by decide +kernel
theorem dX10_settles_63 : decode cX10_settles 63 = .ok (.iaload, 1) := by decide +kernel
theorem dX10_settles_64 : decode cX10_settles 64 = .ok (.iastore, 1) := by decide +kernel
theorem dX10_settles_65 : decode cX10_settles 65 = .ok (.aload_n 0, 1) := by decide +kernel
theorem dX10_settles_66 : decode cX10_settles 66 = .ok (.getfield 22, 3) := by decide +kernel
theorem dX10_settles_69 : decode cX10_settles 69 = .ok (.iload_n 1, 1) := by decide +kernel
theorem dX10_settles_70 : decode cX10_settles 70 = .ok (.aload_n 0, 1) := by decide +kernel
theorem dX10_settles_71 : decode cX10_settles 71 = .ok (.getfield 22, 3) := by decide +kernel
theorem dX10_settles_74 : decode cX10_settles 74 = .ok (.bipush 6, 2) := by decide +kernel
theorem dX10_settles_76 : decode cX10_settles 76 = .ok (.iload_n 1, 1) := by decide +kernel
theorem dX10_settles_77 : decode cX10_settles 77 = .ok (.iadd, 1) := by decide +kernel
theorem dX10_settles_78 : decode cX10_settles 78 = .ok (.iaload, 1) := by decide +kernel
theorem dX10_settles_79 : decode cX10_settles 79 = .ok (.iastore, 1) := by decide +kernel
theorem dX10_settles_80 : decode cX10_settles 80 = .ok (.iinc 1 1, 3) := by decide +kernel
theorem dX10_settles_83 : decode cX10_settles 83 = .ok (.goto (-54), 3) := by decide +kernel
theorem dX10_settles_86 : decode cX10_settles 86 = .ok (.iconst 0, 1) := by decide +kernel
theorem dX10_settles_87 : decode cX10_settles 87 = .ok (.istore_n 1, 1) := by decide +kernel
theorem dX10_settles_88 : decode cX10_settles 88 = .ok (.iload_n 1, 1) := by decide +kernel
theorem dX10_settles_89 : decode cX10_settles 89 = .ok (.bipush 38, 2) := by decide +kernel
theorem dX10_settles_91 : decode cX10_settles 91 = .ok (.if_icmp .ge 21, 3) := by decide +kernel
theorem dX10_settles_94 : decode cX10_settles 94 = .ok (.aload_n 0, 1) := by decide +kernel
theorem dX10_settles_95 : decode cX10_settles 95 = .ok (.getfield 28, 3) := by decide +kernel
theorem dX10_settles_98 : decode cX10_settles 98 = .ok (.iload_n 1, 1) := by decide +kernel
theorem dX10_settles_99 : decode cX10_settles 99 = .ok (.aload_n 0, 1) := by decide +kernel
theorem dX10_settles_100 : decode cX10_settles 100 = .ok (.getfield 25, 3) := by decide +kernel
theorem dX10_settles_103 : decode cX10_settles 103 = .ok (.iload_n 1, 1) := by decide +kernel
theorem dX10_settles_104 : decode cX10_settles 104 = .ok (.iaload, 1) := by decide +kernel
theorem dX10_settles_105 : decode cX10_settles 105 = .ok (.iastore, 1) := by decide +kernel
theorem dX10_settles_106 : decode cX10_settles 106 = .ok (.iinc 1 1, 3) := by decide +kernel
theorem dX10_settles_109 : decode cX10_settles 109 = .ok (.goto (-21), 3) := by decide +kernel
theorem dX10_settles_112 : decode cX10_settles 112 = .ok (.aload_n 0, 1) := by decide +kernel
theorem dX10_settles_113 : decode cX10_settles 113 = .ok (.iconst 0, 1) := by decide +kernel
theorem dX10_settles_114 : decode cX10_settles 114 = .ok (.putfield 152, 3) := by decide +kernel
theorem dX10_settles_117 : decode cX10_settles 117 = .ok (.iconst 1, 1) := by decide +kernel
theorem dX10_settles_118 : decode cX10_settles 118 = .ok (.istore_n 1, 1) := by decide +kernel
theorem dX10_settles_119 : decode cX10_settles 119 = .ok (.iload_n 1, 1) := by decide +kernel
theorem dX10_settles_120 : decode cX10_settles 120 = .ok (.bipush 64, 2) := by decide +kernel
theorem dX10_settles_122 : decode cX10_settles 122 = .ok (.if_icmp .ge 96, 3) := by decide +kernel
theorem dX10_settles_125 : decode cX10_settles 125 = .ok (.aload_n 0, 1) := by decide +kernel
theorem dX10_settles_126 : decode cX10_settles 126 = .ok (.getfield 47, 3) := by decide +kernel
theorem dX10_settles_129 : decode cX10_settles 129 = .ok (.iload_n 1, 1) := by decide +kernel
theorem dX10_settles_130 : decode cX10_settles 130 = .ok (.iload_n 1, 1) := by decide +kernel
theorem dX10_settles_131 : decode cX10_settles 131 = .ok (.iconst 1, 1) := by decide +kernel
theorem dX10_settles_132 : decode cX10_settles 132 = .ok (.aload_n 0, 1) := by decide +kernel
theorem dX10_settles_133 : decode cX10_settles 133 = .ok (.getfield 13, 3) := by decide +kernel
theorem dX10_settles_136 : decode cX10_settles 136 = .ok (.iconst 1, 1) := by decide +kernel
theorem dX10_settles_137 : decode cX10_settles 137 = .ok (.iaload, 1) := by decide +kernel
theorem dX10_settles_138 : decode cX10_settles 138 = .ok (.ishl, 1) := by decide +kernel
theorem dX10_settles_139 : decode cX10_settles 139 = .ok (.if_icmp .ge 11, 3) := by decide +kernel
theorem dX10_settles_142 : decode cX10_settles 142 = .ok (.aload_n 0, 1) := by decide +kernel
theorem dX10_settles_143 : decode cX10_settles 143 = .ok (.iload_n 1, 1) := by decide +kernel
theorem dX10_settles_144 : decode cX10_settles 144 = .ok (.invokevirtual 155, 3) := by decide +kernel
theorem dX10_settles_147 : decode cX10_settles 147 = .ok (.goto 4, 3) := by decide +kernel
theorem dX10_settles_150 : decode cX10_settles 150 = .ok (.iconst 0, 1) := by decide +kernel
theorem dX10_settles_151 : decode cX10_settles 151 = .ok (.iastore, 1) := by decide +kernel
theorem dX10_settles_152 : decode cX10_settles 152 = .ok (.aload_n 0, 1) := by decide +kernel
theorem dX10_settles_153 : decode cX10_settles 153 = .ok (.getfield 53, 3) := by decide +kernel
theorem dX10_settles_156 : decode cX10_settles 156 = .ok (.iload_n 1, 1) := by decide +kernel
theorem dX10_settles_157 : decode cX10_settles 157 = .ok (.iload_n 1, 1) := by decide +kernel
theorem dX10_settles_158 : decode cX10_settles 158 = .ok (.iconst 1, 1) := by decide +kernel
theorem dX10_settles_159 : decode cX10_settles 159 = .ok (.iand, 1) := by decide +kernel
theorem dX10_settles_160 : decode cX10_settles 160 = .ok (.iconst 1, 1) := by decide +kernel
theorem dX10_settles_161 : decode cX10_settles 161 = .ok (.if_icmp .ne 7, 3) := by decide +kernel
theorem dX10_settles_164 : decode cX10_settles 164 = .ok (.iconst 0, 1) := by decide +kernel
theorem dX10_settles_165 : decode cX10_settles 165 = .ok (.goto 13, 3) := by decide +kernel
theorem dX10_settles_168 : decode cX10_settles 168 = .ok (.iconst 1, 1) := by decide +kernel
theorem dX10_settles_169 : decode cX10_settles 169 = .ok (.aload_n 0, 1) := by decide +kernel
theorem dX10_settles_170 : decode cX10_settles 170 = .ok (.getfield 53, 3) := by decide +kernel
theorem dX10_settles_173 : decode cX10_settles 173 = .ok (.iload_n 1, 1) := by decide +kernel
theorem dX10_settles_174 : decode cX10_settles 174 = .ok (.iconst 1, 1) := by decide +kernel
theorem dX10_settles_175 : decode cX10_settles 175 = .ok (.ishr, 1) := by decide +kernel
theorem dX10_settles_176 : decode cX10_settles 176 = .ok (.iaload, 1) := by decide +kernel
theorem dX10_settles_177 : decode cX10_settles 177 = .ok (.iadd, 1) := by decide +kernel
theorem dX10_settles_178 : decode cX10_settles 178 = .ok (.iastore, 1) := by decide +kernel
theorem dX10_settles_179 : decode cX10_settles 179 = .ok (.aload_n 0, 1) := by decide +kernel
theorem dX10_settles_180 : decode cX10_settles 180 = .ok (.getfield 56, 3) := by decide +kernel
theorem dX10_settles_183 : decode cX10_settles 183 = .ok (.aload_n 0, 1) := by decide +kernel
theorem dX10_settles_184 : decode cX10_settles 184 = .ok (.getfield 152, 3) := by decide +kernel
theorem dX10_settles_187 : decode cX10_settles 187 = .ok (.iload_n 1, 1) := by decide +kernel
theorem dX10_settles_188 : decode cX10_settles 188 = .ok (.iastore, 1) := by decide +kernel
theorem dX10_settles_189 : decode cX10_settles 189 = .ok (.aload_n 0, 1) := by decide +kernel
theorem dX10_settles_190 : decode cX10_settles 190 = .ok (.dup, 1) := by decide +kernel
theorem dX10_settles_191 : decode cX10_settles 191 = .ok (.getfield 152, 3) := by decide +kernel
theorem dX10_settles_194 : decode cX10_settles 194 = .ok (.aload_n 0, 1) := by decide +kernel
theorem dX10_settles_195 : decode cX10_settles 195 = .ok (.getfield 47, 3) := by decide +kernel
theorem dX10_settles_198 : decode cX10_settles 198 = .ok (.iload_n 1, 1) := by decide +kernel
theorem dX10_settles_199 : decode cX10_settles 199 = .ok (.iaload, 1) := by decide +kernel
theorem dX10_settles_200 : decode cX10_settles 200 = .ok (.ifCond .eq 7, 3) := by decide +kernel
theorem dX10_settles_203 : decode cX10_settles 203 = .ok (.iconst 1, 1) := by decide +kernel
theorem dX10_settles_204 : decode cX10_settles 204 = .ok (.goto 4, 3) := by decide +kernel
theorem dX10_settles_207 : decode cX10_settles 207 = .ok (.iconst 0, 1) := by decide +kernel
theorem dX10_settles_208 : decode cX10_settles 208 = .ok (.iadd, 1) := by decide +kernel
theorem dX10_settles_209 : decode cX10_settles 209 = .ok (.putfield 152, 3) := by decide +kernel
theorem dX10_settles_212 : decode cX10_settles 212 = .ok (.iinc 1 1, 3) := by decide +kernel
theorem dX10_settles_215 : decode cX10_settles 215 = .ok (.goto (-96), 3) := by decide +kernel
theorem dX10_settles_218 : decode cX10_settles 218 = .ok (.aload_n 0, 1) := by decide +kernel
theorem dX10_settles_219 : decode cX10_settles 219 = .ok (.iconst 0, 1) := by decide +kernel
theorem dX10_settles_220 : decode cX10_settles 220 = .ok (.putfield 97, 3) := by decide +kernel
theorem dX10_settles_223 : decode cX10_settles 223 = .ok (.aload_n 0, 1) := by decide +kernel
theorem dX10_settles_224 : decode cX10_settles 224 = .ok (.iconst 0, 1) := by decide +kernel
theorem dX10_settles_225 : decode cX10_settles 225 = .ok (.putfield 158, 3) := by decide +kernel
theorem dX10_settles_228 : decode cX10_settles 228 = .ok (.aload_n 0, 1) := by decide +kernel
theorem dX10_settles_229 : decode cX10_settles 229 = .ok (.iconst 0, 1) := by decide +kernel
theorem dX10_settles_230 : decode cX10_settles 230 = .ok (.putfield 161, 3) := by decide +kernel
theorem dX10_settles_233 : decode cX10_settles 233 = .ok (.aload_n 0, 1) := by decide +kernel
theorem dX10_settles_234 : decode cX10_settles 234 = .ok (.getfield 34, 3) := by decide +kernel
theorem dX10_settles_237 : decode cX10_settles 237 = .ok (.iconst 0, 1) := by decide +kernel
theorem dX10_settles_238 : decode cX10_settles 238 = .ok (.iconst 0, 1) := by decide +kernel
theorem dX10_settles_239 : decode cX10_settles 239 = .ok (.bastore, 1) := by decide +kernel
theorem dX10_settles_240 : decode cX10_settles 240 = .ok (.aload_n 0, 1) := by decide +kernel
theorem dX10_settles_241 : decode cX10_settles 241 = .ok (.getfield 34, 3) := by decide +kernel
theorem dX10_settles_244 : decode cX10_settles 244 = .ok (.iconst 1, 1) := by decide +kernel
theorem dX10_settles_245 : decode cX10_settles 245 = .ok (.iconst 0, 1) := by decide +kernel
theorem dX10_settles_246 : decode cX10_settles 246 = .ok (.bastore, 1) := by decide +kernel
theorem dX10_settles_247 : decode cX10_settles 247 = .ok (.return_, 1) := by decide +kernel
theorem dX10_endsOf_0 : decode cX10_endsOf 0 = .ok (.bipush (-9), 2) := by decide +kernel
theorem dX10_endsOf_2 : decode cX10_endsOf 2 = .ok (.istore_n 2, 1) := by decide +kernel
theorem dX10_endsOf_3 : decode cX10_endsOf 3 = .ok (.bipush (-9), 2) := by decide +kernel
theorem dX10_endsOf_5 : decode cX10_endsOf 5 = .ok (.istore_n 3, 1) := by decide +kernel
theorem dX10_endsOf_6 : decode cX10_endsOf 6 = .ok (.iload_n 1, 1) := by decide +kernel
theorem dX10_endsOf_7 : decode cX10_endsOf 7 = .ok (.ifCond .eq 7, 3) := by decide +kernel
theorem dX10_endsOf_10 : decode cX10_endsOf 10 = .ok (.iconst 1, 1) := by decide +kernel
theorem dX10_endsOf_11 : decode cX10_endsOf 11 = .ok (.goto 4, 3) := by decide +kernel
theorem dX10_endsOf_14 : decode cX10_endsOf 14 = .ok (.iconst 0, 1) := by decide +kernel
theorem dX10_endsOf_15 : decode cX10_endsOf 15 = .ok (.istore 4, 2) := by decide +kernel
theorem dX10_endsOf_17 : decode cX10_endsOf 17 = .ok (.iconst 0, 1) := by decide +kernel
theorem dX10_endsOf_18 : decode cX10_endsOf 18 = .ok (.istore 5, 2) := by decide +kernel
theorem dX10_endsOf_20 : decode cX10_endsOf 20 = .ok (.iload 5, 2) := by decide +kernel
theorem dX10_endsOf_22 : decode cX10_endsOf 22 = .ok (.iconst 5, 1) := by decide +kernel
theorem dX10_endsOf_23 : decode cX10_endsOf 23 = .ok (.if_icmp .ge 146, 3) := by decide +kernel
theorem dX10_endsOf_26 : decode cX10_endsOf 26 = .ok (.iconst 0, 1) := by decide +kernel
theorem dX10_endsOf_27 : decode cX10_endsOf 27 = .ok (.istore 6, 2) := by decide +kernel
theorem dX10_endsOf_29 : decode cX10_endsOf 29 = .ok (.iconst 0, 1) := by decide +kernel
theorem dX10_endsOf_30 : decode cX10_endsOf 30 = .ok (.istore 7, 2) := by decide +kernel
theorem dX10_endsOf_32 : decode cX10_endsOf 32 = .ok (.iload 7, 2) := by decide +kernel
theorem dX10_endsOf_34 : decode cX10_endsOf 34 = .ok (.bipush 6, 2) := by decide +kernel
theorem dX10_endsOf_36 : decode cX10_endsOf 36 = .ok (.if_icmp .ge 53, 3) := by decide +kernel
theorem dX10_endsOf_39 : decode cX10_endsOf 39 = .ok (.iload 6, 2) := by decide +kernel
theorem dX10_endsOf_41 : decode cX10_endsOf 41 = .ok (.iload_n 1, 1) := by decide +kernel
theorem dX10_endsOf_42 : decode cX10_endsOf 42 = .ok (.iload 7, 2) := by decide +kernel
theorem dX10_endsOf_44 : decode cX10_endsOf 44 = .ok (.ishr, 1) := by decide +kernel
theorem dX10_endsOf_45 : decode cX10_endsOf 45 = .ok (.iconst 1, 1) := by decide +kernel
theorem dX10_endsOf_46 : decode cX10_endsOf 46 = .ok (.iand, 1) := by decide +kernel
theorem dX10_endsOf_47 : decode cX10_endsOf 47 = .ok (.iconst 1, 1) := by decide +kernel
theorem dX10_endsOf_48 : decode cX10_endsOf 48 = .ok (.if_icmp .ne 31, 3) := by decide +kernel
theorem dX10_endsOf_51 : decode cX10_endsOf 51 = .ok (.aload_n 0, 1) := by decide +kernel
theorem dX10_endsOf_52 : decode cX10_endsOf 52 = .ok (.getfield 16, 3) := by decide +kernel
theorem dX10_endsOf_55 : decode cX10_endsOf 55 = .ok (.iload 7, 2) := by decide +kernel
theorem dX10_endsOf_57 : decode cX10_endsOf 57 = .ok (.iaload, 1) := by decide +kernel
theorem dX10_endsOf_58 : decode cX10_endsOf 58 = .ok (.iload 5, 2) := by decide +kernel
theorem dX10_endsOf_60 : decode cX10_endsOf 60 = .ok (.if_icmp .eq 15, 3) := by decide +kernel
theorem dX10_endsOf_63 : decode cX10_endsOf 63 = .ok (.aload_n 0, 1) := by decide +kernel
theorem dX10_endsOf_64 : decode cX10_endsOf 64 = .ok (.getfield 19, 3) := by decide +kernel
theorem dX10_endsOf_67 : decode cX10_endsOf 67 = .ok (.iload 7, 2) := by decide +kernel
theorem dX10_endsOf_69 : decode cX10_endsOf 69 = .ok (.iaload, 1) := by decide +kernel
theorem dX10_endsOf_70 : decode cX10_endsOf 70 = .ok (.iload 5, 2) := by decide +kernel
theorem dX10_endsOf_72 : decode cX10_endsOf 72 = .ok (.if_icmp .ne 7, 3) := by decide +kernel
theorem dX10_endsOf_75 : decode cX10_endsOf 75 = .ok (.iconst 1, 1) := by decide +kernel
theorem dX10_endsOf_76 : decode cX10_endsOf 76 = .ok (.goto 4, 3) := by decide +kernel
theorem dX10_endsOf_79 : decode cX10_endsOf 79 = .ok (.iconst 0, 1) := by decide +kernel
theorem dX10_endsOf_80 : decode cX10_endsOf 80 = .ok (.iadd, 1) := by decide +kernel
theorem dX10_endsOf_81 : decode cX10_endsOf 81 = .ok (.istore 6, 2) := by decide +kernel
theorem dX10_endsOf_83 : decode cX10_endsOf 83 = .ok (.iinc 7 1, 3) := by decide +kernel
theorem dX10_endsOf_86 : decode cX10_endsOf 86 = .ok (.goto (-54), 3) := by decide +kernel
theorem dX10_endsOf_89 : decode cX10_endsOf 89 = .ok (.iload 4, 2) := by decide +kernel
theorem dX10_endsOf_91 : decode cX10_endsOf 91 = .ok (.ifCond .eq 25, 3) := by decide +kernel
end
section
theorem dX10_endsOf_94 : decode cX10_endsOf 94 = .ok (.iload 6, 2) := by decide +kernel
theorem dX10_endsOf_96 : decode cX10_endsOf 96 = .ok (.iconst 3, 1) := by decide +kernel
theorem dX10_endsOf_97 : decode cX10_endsOf 97 = .ok (.if_icmp .ge 19, 3) := by decide +kernel
theorem dX10_endsOf_100 : decode cX10_endsOf 100 = .ok (.iload 6, 2) := by decide +kernel
theorem dX10_endsOf_102 : decode cX10_endsOf 102 = .ok (.iconst 1, 1) := by decide +kernel
theorem dX10_endsOf_103 : decode cX10_endsOf 103 = .ok (.if_icmp .ne 9, 3) := by decide +kernel
theorem dX10_endsOf_106 : decode cX10_endsOf 106 = .ok (.iload_n 3, 1) := by decide +kernel
theorem dX10_endsOf_107 : decode cX10_endsOf 107 = .ok (.bipush (-9), 2) := by decide +kernel
theorem dX10_endsOf_109 : decode cX10_endsOf 109 = .ok (.if_icmp .ne 7, 3) := by decide +kernel
theorem dX10_endsOf_112 : decode cX10_endsOf 112 = .ok (.iconst 1, 1) := by decide +kernel
theorem dX10_endsOf_113 : decode cX10_endsOf 113 = .ok (.goto 4, 3) := by decide +kernel
theorem dX10_endsOf_116 : decode cX10_endsOf 116 = .ok (.iconst 0, 1) := by decide +kernel
theorem dX10_endsOf_117 : decode cX10_endsOf 117 = .ok (.istore 4, 2) := by decide +kernel
theorem dX10_endsOf_119 : decode cX10_endsOf 119 = .ok (.iload 6, 2) := by decide +kernel
theorem dX10_endsOf_121 : decode cX10_endsOf 121 = .ok (.iconst 1, 1) := by decide +kernel
theorem dX10_endsOf_122 : decode cX10_endsOf 122 = .ok (.if_icmp .ne 20, 3) := by decide +kernel
theorem dX10_endsOf_125 : decode cX10_endsOf 125 = .ok (.iload_n 2, 1) := by decide +kernel
theorem dX10_endsOf_126 : decode cX10_endsOf 126 = .ok (.bipush (-9), 2) := by decide +kernel
theorem dX10_endsOf_128 : decode cX10_endsOf 128 = .ok (.if_icmp .eq 14, 3) := by decide +kernel
theorem dX10_endsOf_131 : decode cX10_endsOf 131 = .ok (.iload_n 3, 1) := by decide +kernel
theorem dX10_endsOf_132 : decode cX10_endsOf 132 = .ok (.bipush (-9), 2) := by decide +kernel
theorem dX10_endsOf_134 : decode cX10_endsOf 134 = .ok (.if_icmp .ne 8, 3) := by decide +kernel
theorem dX10_endsOf_137 : decode cX10_endsOf 137 = .ok (.iload 5, 2) := by decide +kernel
theorem dX10_endsOf_139 : decode cX10_endsOf 139 = .ok (.goto 4, 3) := by decide +kernel
theorem dX10_endsOf_142 : decode cX10_endsOf 142 = .ok (.iload_n 3, 1) := by decide +kernel
theorem dX10_endsOf_143 : decode cX10_endsOf 143 = .ok (.istore_n 3, 1) := by decide +kernel
theorem dX10_endsOf_144 : decode cX10_endsOf 144 = .ok (.iload 6, 2) := by decide +kernel
theorem dX10_endsOf_146 : decode cX10_endsOf 146 = .ok (.iconst 1, 1) := by decide +kernel
theorem dX10_endsOf_147 : decode cX10_endsOf 147 = .ok (.if_icmp .ne 14, 3) := by decide +kernel
theorem dX10_endsOf_150 : decode cX10_endsOf 150 = .ok (.iload_n 2, 1) := by decide +kernel
theorem dX10_endsOf_151 : decode cX10_endsOf 151 = .ok (.bipush (-9), 2) := by decide +kernel
theorem dX10_endsOf_153 : decode cX10_endsOf 153 = .ok (.if_icmp .ne 8, 3) := by decide +kernel
theorem dX10_endsOf_156 : decode cX10_endsOf 156 = .ok (.iload 5, 2) := by decide +kernel
theorem dX10_endsOf_158 : decode cX10_endsOf 158 = .ok (.goto 4, 3) := by decide +kernel
theorem dX10_endsOf_161 : decode cX10_endsOf 161 = .ok (.iload_n 2, 1) := by decide +kernel
theorem dX10_endsOf_162 : decode cX10_endsOf 162 = .ok (.istore_n 2, 1) := by decide +kernel
theorem dX10_endsOf_163 : decode cX10_endsOf 163 = .ok (.iinc 5 1, 3) := by decide +kernel
theorem dX10_endsOf_166 : decode cX10_endsOf 166 = .ok (.goto (-146), 3) := by decide +kernel
theorem dX10_endsOf_169 : decode cX10_endsOf 169 = .ok (.iload 4, 2) := by decide +kernel
theorem dX10_endsOf_171 : decode cX10_endsOf 171 = .ok (.ifCond .eq 9, 3) := by decide +kernel
theorem dX10_endsOf_174 : decode cX10_endsOf 174 = .ok (.iload_n 3, 1) := by decide +kernel
theorem dX10_endsOf_175 : decode cX10_endsOf 175 = .ok (.bipush (-9), 2) := by decide +kernel
theorem dX10_endsOf_177 : decode cX10_endsOf 177 = .ok (.if_icmp .ne 5, 3) := by decide +kernel
theorem dX10_endsOf_180 : decode cX10_endsOf 180 = .ok (.iconst 0, 1) := by decide +kernel
theorem dX10_endsOf_181 : decode cX10_endsOf 181 = .ok (.ireturn, 1) := by decide +kernel
theorem dX10_endsOf_182 : decode cX10_endsOf 182 = .ok (.iload_n 1, 1) := by decide +kernel
theorem dX10_endsOf_183 : decode cX10_endsOf 183 = .ok (.istore 5, 2) := by decide +kernel
theorem dX10_endsOf_185 : decode cX10_endsOf 185 = .ok (.iload_n 2, 1) := by decide +kernel
theorem dX10_endsOf_186 : decode cX10_endsOf 186 = .ok (.istore 6, 2) := by decide +kernel
theorem dX10_endsOf_188 : decode cX10_endsOf 188 = .ok (.iconst 0, 1) := by decide +kernel
theorem dX10_endsOf_189 : decode cX10_endsOf 189 = .ok (.istore 7, 2) := by decide +kernel
theorem dX10_endsOf_191 : decode cX10_endsOf 191 = .ok (.iload 7, 2) := by decide +kernel
theorem dX10_endsOf_193 : decode cX10_endsOf 193 = .ok (.bipush 6, 2) := by decide +kernel
theorem dX10_endsOf_195 : decode cX10_endsOf 195 = .ok (.if_icmp .ge 122, 3) := by decide +kernel
theorem dX10_endsOf_198 : decode cX10_endsOf 198 = .ok (.bipush (-9), 2) := by decide +kernel
theorem dX10_endsOf_200 : decode cX10_endsOf 200 = .ok (.istore 8, 2) := by decide +kernel
theorem dX10_endsOf_202 : decode cX10_endsOf 202 = .ok (.iconst 0, 1) := by decide +kernel
theorem dX10_endsOf_203 : decode cX10_endsOf 203 = .ok (.istore 9, 2) := by decide +kernel
theorem dX10_endsOf_205 : decode cX10_endsOf 205 = .ok (.iload 9, 2) := by decide +kernel
theorem dX10_endsOf_207 : decode cX10_endsOf 207 = .ok (.bipush 6, 2) := by decide +kernel
theorem dX10_endsOf_209 : decode cX10_endsOf 209 = .ok (.if_icmp .ge 53, 3) := by decide +kernel
theorem dX10_endsOf_212 : decode cX10_endsOf 212 = .ok (.iload 5, 2) := by decide +kernel
theorem dX10_endsOf_214 : decode cX10_endsOf 214 = .ok (.iload 9, 2) := by decide +kernel
theorem dX10_endsOf_216 : decode cX10_endsOf 216 = .ok (.ishr, 1) := by decide +kernel
theorem dX10_endsOf_217 : decode cX10_endsOf 217 = .ok (.iconst 1, 1) := by decide +kernel
theorem dX10_endsOf_218 : decode cX10_endsOf 218 = .ok (.iand, 1) := by decide +kernel
theorem dX10_endsOf_219 : decode cX10_endsOf 219 = .ok (.iconst 1, 1) := by decide +kernel
theorem dX10_endsOf_220 : decode cX10_endsOf 220 = .ok (.if_icmp .ne 32, 3) := by decide +kernel
theorem dX10_endsOf_223 : decode cX10_endsOf 223 = .ok (.aload_n 0, 1) := by decide +kernel
theorem dX10_endsOf_224 : decode cX10_endsOf 224 = .ok (.getfield 16, 3) := by decide +kernel
theorem dX10_endsOf_227 : decode cX10_endsOf 227 = .ok (.iload 9, 2) := by decide +kernel
theorem dX10_endsOf_229 : decode cX10_endsOf 229 = .ok (.iaload, 1) := by decide +kernel
theorem dX10_endsOf_230 : decode cX10_endsOf 230 = .ok (.iload 6, 2) := by decide +kernel
theorem dX10_endsOf_232 : decode cX10_endsOf 232 = .ok (.if_icmp .eq 15, 3) := by decide +kernel
theorem dX10_endsOf_235 : decode cX10_endsOf 235 = .ok (.aload_n 0, 1) := by decide +kernel
theorem dX10_endsOf_236 : decode cX10_endsOf 236 = .ok (.getfield 19, 3) := by decide +kernel
theorem dX10_endsOf_239 : decode cX10_endsOf 239 = .ok (.iload 9, 2) := by decide +kernel
theorem dX10_endsOf_241 : decode cX10_endsOf 241 = .ok (.iaload, 1) := by decide +kernel
theorem dX10_endsOf_242 : decode cX10_endsOf 242 = .ok (.iload 6, 2) := by decide +kernel
theorem dX10_endsOf_244 : decode cX10_endsOf 244 = .ok (.if_icmp .ne 8, 3) := by decide +kernel
theorem dX10_endsOf_247 : decode cX10_endsOf 247 = .ok (.iload 9, 2) := by decide +kernel
theorem dX10_endsOf_249 : decode cX10_endsOf 249 = .ok (.goto 5, 3) := by decide +kernel
theorem dX10_endsOf_252 : decode cX10_endsOf 252 = .ok (.iload 8, 2) := by decide +kernel
theorem dX10_endsOf_254 : decode cX10_endsOf 254 = .ok (.istore 8, 2) := by decide +kernel
theorem dX10_endsOf_256 : decode cX10_endsOf 256 = .ok (.iinc 9 1, 3) := by decide +kernel
theorem dX10_endsOf_259 : decode cX10_endsOf 259 = .ok (.goto (-54), 3) := by decide +kernel
theorem dX10_endsOf_262 : decode cX10_endsOf 262 = .ok (.iload 8, 2) := by decide +kernel
theorem dX10_endsOf_264 : decode cX10_endsOf 264 = .ok (.bipush (-9), 2) := by decide +kernel
theorem dX10_endsOf_266 : decode cX10_endsOf 266 = .ok (.if_icmp .eq 45, 3) := by decide +kernel
theorem dX10_endsOf_269 : decode cX10_endsOf 269 = .ok (.iload 5, 2) := by decide +kernel
theorem dX10_endsOf_271 : decode cX10_endsOf 271 = .ok (.iconst 1, 1) := by decide +kernel
theorem dX10_endsOf_272 : decode cX10_endsOf 272 = .ok (.iload 8, 2) := by decide +kernel
theorem dX10_endsOf_274 : decode cX10_endsOf 274 = .ok (.ishl, 1) := by decide +kernel
theorem dX10_endsOf_275 : decode cX10_endsOf 275 = .ok (.iconst (-1), 1) := by decide +kernel
theorem dX10_endsOf_276 : decode cX10_endsOf 276 = .ok (.ixor, 1) := by decide +kernel
theorem dX10_endsOf_277 : decode cX10_endsOf 277 = .ok (.iand, 1) := by decide +kernel
theorem dX10_endsOf_278 : decode cX10_endsOf 278 = .ok (.istore 5, 2) := by decide +kernel
theorem dX10_endsOf_280 : decode cX10_endsOf 280 = .ok (.aload_n 0, 1) := by decide +kernel
theorem dX10_endsOf_281 : decode cX10_endsOf 281 = .ok (.getfield 16, 3) := by decide +kernel
theorem dX10_endsOf_284 : decode cX10_endsOf 284 = .ok (.iload 8, 2) := by decide +kernel
theorem dX10_endsOf_286 : decode cX10_endsOf 286 = .ok (.iaload, 1) := by decide +kernel
theorem dX10_endsOf_287 : decode cX10_endsOf 287 = .ok (.iload 6, 2) := by decide +kernel
theorem dX10_endsOf_289 : decode cX10_endsOf 289 = .ok (.if_icmp .ne 13, 3) := by decide +kernel
theorem dX10_endsOf_292 : decode cX10_endsOf 292 = .ok (.aload_n 0, 1) := by decide +kernel
theorem dX10_endsOf_293 : decode cX10_endsOf 293 = .ok (.getfield 19, 3) := by decide +kernel
theorem dX10_endsOf_296 : decode cX10_endsOf 296 = .ok (.iload 8, 2) := by decide +kernel
theorem dX10_endsOf_298 : decode cX10_endsOf 298 = .ok (.iaload, 1) := by decide +kernel
theorem dX10_endsOf_299 : decode cX10_endsOf 299 = .ok (.goto 10, 3) := by decide +kernel
theorem dX10_endsOf_302 : decode cX10_endsOf 302 = .ok (.aload_n 0, 1) := by decide +kernel
theorem dX10_endsOf_303 : decode cX10_endsOf 303 = .ok (.getfield 16, 3) := by decide +kernel
theorem dX10_endsOf_306 : decode cX10_endsOf 306 = .ok (.iload 8, 2) := by decide +kernel
theorem dX10_endsOf_308 : decode cX10_endsOf 308 = .ok (.iaload, 1) := by decide +kernel
theorem dX10_endsOf_309 : decode cX10_endsOf 309 = .ok (.istore 6, 2) := by decide +kernel
theorem dX10_endsOf_311 : decode cX10_endsOf 311 = .ok (.iinc 7 1, 3) := by decide +kernel
theorem dX10_endsOf_314 : decode cX10_endsOf 314 = .ok (.goto (-123), 3) := by decide +kernel
theorem dX10_endsOf_317 : decode cX10_endsOf 317 = .ok (.iload 5, 2) := by decide +kernel
theorem dX10_endsOf_319 : decode cX10_endsOf 319 = .ok (.ifCond .ne 13, 3) := by decide +kernel
theorem dX10_endsOf_322 : decode cX10_endsOf 322 = .ok (.iconst 5, 1) := by decide +kernel
theorem dX10_endsOf_323 : decode cX10_endsOf 323 = .ok (.iload_n 2, 1) := by decide +kernel
theorem dX10_endsOf_324 : decode cX10_endsOf 324 = .ok (.imul, 1) := by decide +kernel
theorem dX10_endsOf_325 : decode cX10_endsOf 325 = .ok (.iload_n 3, 1) := by decide +kernel
theorem dX10_endsOf_326 : decode cX10_endsOf 326 = .ok (.iadd, 1) := by decide +kernel
theorem dX10_endsOf_327 : decode cX10_endsOf 327 = .ok (.iconst 1, 1) := by decide +kernel
theorem dX10_endsOf_328 : decode cX10_endsOf 328 = .ok (.iadd, 1) := by decide +kernel
theorem dX10_endsOf_329 : decode cX10_endsOf 329 = .ok (.goto 4, 3) := by decide +kernel
theorem dX10_endsOf_332 : decode cX10_endsOf 332 = .ok (.iconst 0, 1) := by decide +kernel
theorem dX10_endsOf_333 : decode cX10_endsOf 333 = .ok (.ireturn, 1) := by decide +kernel
theorem dX10_isLane_0 : decode cX10_isLane 0 = .ok (.iload_n 1, 1) := by decide +kernel
theorem dX10_isLane_1 : decode cX10_isLane 1 = .ok (.iconst 0, 1) := by decide +kernel
theorem dX10_isLane_2 : decode cX10_isLane 2 = .ok (.aload_n 0, 1) := by decide +kernel
theorem dX10_isLane_3 : decode cX10_isLane 3 = .ok (.getfield 13, 3) := by decide +kernel
theorem dX10_isLane_6 : decode cX10_isLane 6 = .ok (.iconst 1, 1) := by decide +kernel
theorem dX10_isLane_7 : decode cX10_isLane 7 = .ok (.iaload, 1) := by decide +kernel
theorem dX10_isLane_8 : decode cX10_isLane 8 = .ok (.iconst 1, 1) := by decide +kernel
theorem dX10_isLane_9 : decode cX10_isLane 9 = .ok (.isub, 1) := by decide +kernel
theorem dX10_isLane_10 : decode cX10_isLane 10 = .ok (.invokestatic 93, 3) := by decide +kernel
theorem dX10_isLane_13 : decode cX10_isLane 13 = .ok (.ireturn, 1) := by decide +kernel
theorem dX10_isMap_0 : decode cX10_isMap 0 = .ok (.iload_n 1, 1) := by decide +kernel
theorem dX10_isMap_1 : decode cX10_isMap 1 = .ok (.iconst 0, 1) := by decide +kernel
theorem dX10_isMap_2 : decode cX10_isMap 2 = .ok (.aload_n 0, 1) := by decide +kernel
theorem dX10_isMap_3 : decode cX10_isMap 3 = .ok (.getfield 28, 3) := by decide +kernel
theorem dX10_isMap_6 : decode cX10_isMap 6 = .ok (.bipush 6, 2) := by decide +kernel
theorem dX10_isMap_8 : decode cX10_isMap 8 = .ok (.iaload, 1) := by decide +kernel
theorem dX10_isMap_9 : decode cX10_isMap 9 = .ok (.iconst 1, 1) := by decide +kernel
theorem dX10_isMap_10 : decode cX10_isMap 10 = .ok (.isub, 1) := by decide +kernel
theorem dX10_isMap_11 : decode cX10_isMap 11 = .ok (.invokestatic 93, 3) := by decide +kernel
theorem dX10_isMap_14 : decode cX10_isMap 14 = .ok (.ireturn, 1) := by decide +kernel
theorem dX10_isPlace_0 : decode cX10_isPlace 0 = .ok (.iload_n 1, 1) := by decide +kernel
theorem dX10_isPlace_1 : decode cX10_isPlace 1 = .ok (.iconst 0, 1) := by decide +kernel
theorem dX10_isPlace_2 : decode cX10_isPlace 2 = .ok (.aload_n 0, 1) := by decide +kernel
theorem dX10_isPlace_3 : decode cX10_isPlace 3 = .ok (.getfield 13, 3) := by decide +kernel
theorem dX10_isPlace_6 : decode cX10_isPlace 6 = .ok (.iconst 0, 1) := by decide +kernel
theorem dX10_isPlace_7 : decode cX10_isPlace 7 = .ok (.iaload, 1) := by decide +kernel
theorem dX10_isPlace_8 : decode cX10_isPlace 8 = .ok (.iconst 1, 1) := by decide +kernel
theorem dX10_isPlace_9 : decode cX10_isPlace 9 = .ok (.isub, 1) := by decide +kernel
theorem dX10_isPlace_10 : decode cX10_isPlace 10 = .ok (.invokestatic 93, 3) := by decide +kernel
theorem dX10_isPlace_13 : decode cX10_isPlace 13 = .ok (.ireturn, 1) := by decide +kernel
theorem dX10_lanesOf_0 : decode cX10_lanesOf 0 = .ok (.iconst 0, 1) := by decide +kernel
theorem dX10_lanesOf_1 : decode cX10_lanesOf 1 = .ok (.istore_n 3, 1) := by decide +kernel
theorem dX10_lanesOf_2 : decode cX10_lanesOf 2 = .ok (.iconst 1, 1) := by decide +kernel
theorem dX10_lanesOf_3 : decode cX10_lanesOf 3 = .ok (.istore 4, 2) := by decide +kernel
theorem dX10_lanesOf_5 : decode cX10_lanesOf 5 = .ok (.iload 4, 2) := by decide +kernel
theorem dX10_lanesOf_7 : decode cX10_lanesOf 7 = .ok (.iload_n 2, 1) := by decide +kernel
theorem dX10_lanesOf_8 : decode cX10_lanesOf 8 = .ok (.if_icmp .ge 45, 3) := by decide +kernel
theorem dX10_lanesOf_11 : decode cX10_lanesOf 11 = .ok (.iload_n 3, 1) := by decide +kernel
theorem dX10_lanesOf_12 : decode cX10_lanesOf 12 = .ok (.iconst 1, 1) := by decide +kernel
theorem dX10_lanesOf_13 : decode cX10_lanesOf 13 = .ok (.aload_n 0, 1) := by decide +kernel
theorem dX10_lanesOf_14 : decode cX10_lanesOf 14 = .ok (.iconst 0, 1) := by decide +kernel
theorem dX10_lanesOf_15 : decode cX10_lanesOf 15 = .ok (.aload_n 0, 1) := by decide +kernel
theorem dX10_lanesOf_16 : decode cX10_lanesOf 16 = .ok (.getfield 13, 3) := by decide +kernel
theorem dX10_lanesOf_19 : decode cX10_lanesOf 19 = .ok (.iconst 1, 1) := by decide +kernel
theorem dX10_lanesOf_20 : decode cX10_lanesOf 20 = .ok (.iaload, 1) := by decide +kernel
theorem dX10_lanesOf_21 : decode cX10_lanesOf 21 = .ok (.aload_n 0, 1) := by decide +kernel
theorem dX10_lanesOf_22 : decode cX10_lanesOf 22 = .ok (.getfield 28, 3) := by decide +kernel
theorem dX10_lanesOf_25 : decode cX10_lanesOf 25 = .ok (.iload_n 1, 1) := by decide +kernel
theorem dX10_lanesOf_26 : decode cX10_lanesOf 26 = .ok (.iload 4, 2) := by decide +kernel
theorem dX10_lanesOf_28 : decode cX10_lanesOf 28 = .ok (.iadd, 1) := by decide +kernel
theorem dX10_lanesOf_29 : decode cX10_lanesOf 29 = .ok (.iconst 1, 1) := by decide +kernel
theorem dX10_lanesOf_30 : decode cX10_lanesOf 30 = .ok (.isub, 1) := by decide +kernel
theorem dX10_lanesOf_31 : decode cX10_lanesOf 31 = .ok (.iaload, 1) := by decide +kernel
theorem dX10_lanesOf_32 : decode cX10_lanesOf 32 = .ok (.aload_n 0, 1) := by decide +kernel
theorem dX10_lanesOf_33 : decode cX10_lanesOf 33 = .ok (.getfield 28, 3) := by decide +kernel
theorem dX10_lanesOf_36 : decode cX10_lanesOf 36 = .ok (.iload_n 1, 1) := by decide +kernel
theorem dX10_lanesOf_37 : decode cX10_lanesOf 37 = .ok (.iload 4, 2) := by decide +kernel
theorem dX10_lanesOf_39 : decode cX10_lanesOf 39 = .ok (.iadd, 1) := by decide +kernel
theorem dX10_lanesOf_40 : decode cX10_lanesOf 40 = .ok (.iaload, 1) := by decide +kernel
theorem dX10_lanesOf_41 : decode cX10_lanesOf 41 = .ok (.invokevirtual 134, 3) := by decide +kernel
theorem dX10_lanesOf_44 : decode cX10_lanesOf 44 = .ok (.ishl, 1) := by decide +kernel
theorem dX10_lanesOf_45 : decode cX10_lanesOf 45 = .ok (.ior, 1) := by decide +kernel
theorem dX10_lanesOf_46 : decode cX10_lanesOf 46 = .ok (.istore_n 3, 1) := by decide +kernel
theorem dX10_lanesOf_47 : decode cX10_lanesOf 47 = .ok (.iinc 4 1, 3) := by decide +kernel
theorem dX10_lanesOf_50 : decode cX10_lanesOf 50 = .ok (.goto (-45), 3) := by decide +kernel
theorem dX10_lanesOf_53 : decode cX10_lanesOf 53 = .ok (.iload_n 3, 1) := by decide +kernel
theorem dX10_lanesOf_54 : decode cX10_lanesOf 54 = .ok (.ireturn, 1) := by decide +kernel
theorem dX10_mapLanes_0 : decode cX10_mapLanes 0 = .ok (.aload_n 0, 1) := by decide +kernel
theorem dX10_mapLanes_1 : decode cX10_mapLanes 1 = .ok (.bipush 11, 2) := by decide +kernel
theorem dX10_mapLanes_3 : decode cX10_mapLanes 3 = .ok (.iconst 5, 1) := by decide +kernel
theorem dX10_mapLanes_4 : decode cX10_mapLanes 4 = .ok (.iload_n 1, 1) := by decide +kernel
theorem dX10_mapLanes_5 : decode cX10_mapLanes 5 = .ok (.imul, 1) := by decide +kernel
theorem dX10_mapLanes_6 : decode cX10_mapLanes 6 = .ok (.iadd, 1) := by decide +kernel
theorem dX10_mapLanes_7 : decode cX10_mapLanes 7 = .ok (.aload_n 0, 1) := by decide +kernel
theorem dX10_mapLanes_8 : decode cX10_mapLanes 8 = .ok (.getfield 28, 3) := by decide +kernel
theorem dX10_mapLanes_11 : decode cX10_mapLanes 11 = .ok (.bipush 7, 2) := by decide +kernel
theorem dX10_mapLanes_13 : decode cX10_mapLanes 13 = .ok (.iload_n 1, 1) := by decide +kernel
theorem dX10_mapLanes_14 : decode cX10_mapLanes 14 = .ok (.iadd, 1) := by decide +kernel
theorem dX10_mapLanes_15 : decode cX10_mapLanes 15 = .ok (.iaload, 1) := by decide +kernel
theorem dX10_mapLanes_16 : decode cX10_mapLanes 16 = .ok (.invokevirtual 164, 3) := by decide +kernel
theorem dX10_mapLanes_19 : decode cX10_mapLanes 19 = .ok (.ireturn, 1) := by decide +kernel
theorem dX10_measures_0 : decode cX10_measures 0 = .ok (.iconst 0, 1) := by decide +kernel
theorem dX10_measures_1 : decode cX10_measures 1 = .ok (.istore_n 2, 1) := by decide +kernel
theorem dX10_measures_2 : decode cX10_measures 2 = .ok (.iload_n 2, 1) := by decide +kernel
theorem dX10_measures_3 : decode cX10_measures 3 = .ok (.bipush 26, 2) := by decide +kernel
theorem dX10_measures_5 : decode cX10_measures 5 = .ok (.if_icmp .ge 17, 3) := by decide +kernel
theorem dX10_measures_8 : decode cX10_measures 8 = .ok (.aload_n 0, 1) := by decide +kernel
theorem dX10_measures_9 : decode cX10_measures 9 = .ok (.getfield 62, 3) := by decide +kernel
theorem dX10_measures_12 : decode cX10_measures 12 = .ok (.iload_n 2, 1) := by decide +kernel
theorem dX10_measures_13 : decode cX10_measures 13 = .ok (.ldc 167, 2) := by decide +kernel
theorem dX10_measures_15 : decode cX10_measures 15 = .ok (.iastore, 1) := by decide +kernel
theorem dX10_measures_16 : decode cX10_measures 16 = .ok (.iinc 2 1, 3) := by decide +kernel
theorem dX10_measures_19 : decode cX10_measures 19 = .ok (.goto (-17), 3) := by decide +kernel
theorem dX10_measures_22 : decode cX10_measures 22 = .ok (.iconst 1, 1) := by decide +kernel
theorem dX10_measures_23 : decode cX10_measures 23 = .ok (.istore_n 2, 1) := by decide +kernel
theorem dX10_measures_24 : decode cX10_measures 24 = .ok (.iload_n 2, 1) := by decide +kernel
theorem dX10_measures_25 : decode cX10_measures 25 = .ok (.iconst 1, 1) := by decide +kernel
theorem dX10_measures_26 : decode cX10_measures 26 = .ok (.aload_n 0, 1) := by decide +kernel
theorem dX10_measures_27 : decode cX10_measures 27 = .ok (.getfield 13, 3) := by decide +kernel
theorem dX10_measures_30 : decode cX10_measures 30 = .ok (.iconst 1, 1) := by decide +kernel
theorem dX10_measures_31 : decode cX10_measures 31 = .ok (.iaload, 1) := by decide +kernel
theorem dX10_measures_32 : decode cX10_measures 32 = .ok (.ishl, 1) := by decide +kernel
theorem dX10_measures_33 : decode cX10_measures 33 = .ok (.if_icmp .ge 34, 3) := by decide +kernel
theorem dX10_measures_36 : decode cX10_measures 36 = .ok (.aload_n 0, 1) := by decide +kernel
theorem dX10_measures_37 : decode cX10_measures 37 = .ok (.getfield 50, 3) := by decide +kernel
theorem dX10_measures_40 : decode cX10_measures 40 = .ok (.iload_n 2, 1) := by decide +kernel
theorem dX10_measures_41 : decode cX10_measures 41 = .ok (.aload_n 0, 1) := by decide +kernel
theorem dX10_measures_42 : decode cX10_measures 42 = .ok (.getfield 50, 3) := by decide +kernel
theorem dX10_measures_45 : decode cX10_measures 45 = .ok (.iload_n 2, 1) := by decide +kernel
theorem dX10_measures_46 : decode cX10_measures 46 = .ok (.iload_n 2, 1) := by decide +kernel
theorem dX10_measures_47 : decode cX10_measures 47 = .ok (.iconst 1, 1) := by decide +kernel
theorem dX10_measures_48 : decode cX10_measures 48 = .ok (.isub, 1) := by decide +kernel
theorem dX10_measures_49 : decode cX10_measures 49 = .ok (.iand, 1) := by decide +kernel
theorem dX10_measures_50 : decode cX10_measures 50 = .ok (.iaload, 1) := by decide +kernel
theorem dX10_measures_51 : decode cX10_measures 51 = .ok (.aload_n 1, 1) := by decide +kernel
theorem dX10_measures_52 : decode cX10_measures 52 = .ok (.aload_n 0, 1) := by decide +kernel
theorem dX10_measures_53 : decode cX10_measures 53 = .ok (.getfield 53, 3) := by decide +kernel
theorem dX10_measures_56 : decode cX10_measures 56 = .ok (.iload_n 2, 1) := by decide +kernel
theorem dX10_measures_57 : decode cX10_measures 57 = .ok (.iaload, 1) := by decide +kernel
theorem dX10_measures_58 : decode cX10_measures 58 = .ok (.iaload, 1) := by decide +kernel
theorem dX10_measures_59 : decode cX10_measures 59 = .ok (.iadd, 1) := by decide +kernel
theorem dX10_measures_60 : decode cX10_measures 60 = .ok (.iastore, 1) := by decide +kernel
theorem dX10_measures_61 : decode cX10_measures 61 = .ok (.iinc 2 1, 3) := by decide +kernel
theorem dX10_measures_64 : decode cX10_measures 64 = .ok (.goto (-40), 3) := by decide +kernel
theorem dX10_measures_67 : decode cX10_measures 67 = .ok (.iconst 0, 1) := by decide +kernel
theorem dX10_measures_68 : decode cX10_measures 68 = .ok (.istore_n 2, 1) := by decide +kernel
theorem dX10_measures_69 : decode cX10_measures 69 = .ok (.iload_n 2, 1) := by decide +kernel
theorem dX10_measures_70 : decode cX10_measures 70 = .ok (.aload_n 0, 1) := by decide +kernel
theorem dX10_measures_71 : decode cX10_measures 71 = .ok (.getfield 152, 3) := by decide +kernel
theorem dX10_measures_74 : decode cX10_measures 74 = .ok (.if_icmp .ge 67, 3) := by decide +kernel
theorem dX10_measures_77 : decode cX10_measures 77 = .ok (.aload_n 0, 1) := by decide +kernel
theorem dX10_measures_78 : decode cX10_measures 78 = .ok (.getfield 56, 3) := by decide +kernel
theorem dX10_measures_81 : decode cX10_measures 81 = .ok (.iload_n 2, 1) := by decide +kernel
theorem dX10_measures_82 : decode cX10_measures 82 = .ok (.iaload, 1) := by decide +kernel
theorem dX10_measures_83 : decode cX10_measures 83 = .ok (.istore_n 3, 1) := by decide +kernel
theorem dX10_measures_84 : decode cX10_measures 84 = .ok (.aload_n 0, 1) := by decide +kernel
theorem dX10_measures_85 : decode cX10_measures 85 = .ok (.getfield 62, 3) := by decide +kernel
theorem dX10_measures_88 : decode cX10_measures 88 = .ok (.aload_n 0, 1) := by decide +kernel
theorem dX10_measures_89 : decode cX10_measures 89 = .ok (.getfield 47, 3) := by decide +kernel
theorem dX10_measures_92 : decode cX10_measures 92 = .ok (.iload_n 3, 1) := by decide +kernel
theorem dX10_measures_93 : decode cX10_measures 93 = .ok (.iaload, 1) := by decide +kernel
theorem dX10_measures_94 : decode cX10_measures 94 = .ok (.aload_n 0, 1) := by decide +kernel
theorem dX10_measures_95 : decode cX10_measures 95 = .ok (.getfield 50, 3) := by decide +kernel
theorem dX10_measures_98 : decode cX10_measures 98 = .ok (.iload_n 3, 1) := by decide +kernel
theorem dX10_measures_99 : decode cX10_measures 99 = .ok (.iaload, 1) := by decide +kernel
theorem dX10_measures_100 : decode cX10_measures 100 = .ok (.aload_n 0, 1) := by decide +kernel
theorem dX10_measures_101 : decode cX10_measures 101 = .ok (.getfield 62, 3) := by decide +kernel
theorem dX10_measures_104 : decode cX10_measures 104 = .ok (.aload_n 0, 1) := by decide +kernel
theorem dX10_measures_105 : decode cX10_measures 105 = .ok (.getfield 47, 3) := by decide +kernel
theorem dX10_measures_108 : decode cX10_measures 108 = .ok (.iload_n 3, 1) := by decide +kernel
theorem dX10_measures_109 : decode cX10_measures 109 = .ok (.iaload, 1) := by decide +kernel
theorem dX10_measures_110 : decode cX10_measures 110 = .ok (.iaload, 1) := by decide +kernel
theorem dX10_measures_111 : decode cX10_measures 111 = .ok (.if_icmp .ge 12, 3) := by decide +kernel
theorem dX10_measures_114 : decode cX10_measures 114 = .ok (.aload_n 0, 1) := by decide +kernel
theorem dX10_measures_115 : decode cX10_measures 115 = .ok (.getfield 50, 3) := by decide +kernel
theorem dX10_measures_118 : decode cX10_measures 118 = .ok (.iload_n 3, 1) := by decide +kernel
theorem dX10_measures_119 : decode cX10_measures 119 = .ok (.iaload, 1) := by decide +kernel
theorem dX10_measures_120 : decode cX10_measures 120 = .ok (.goto 14, 3) := by decide +kernel
theorem dX10_measures_123 : decode cX10_measures 123 = .ok (.aload_n 0, 1) := by decide +kernel
theorem dX10_measures_124 : decode cX10_measures 124 = .ok (.getfield 62, 3) := by decide +kernel
theorem dX10_measures_127 : decode cX10_measures 127 = .ok (.aload_n 0, 1) := by decide +kernel
theorem dX10_measures_128 : decode cX10_measures 128 = .ok (.getfield 47, 3) := by decide +kernel
theorem dX10_measures_131 : decode cX10_measures 131 = .ok (.iload_n 3, 1) := by decide +kernel
theorem dX10_measures_132 : decode cX10_measures 132 = .ok (.iaload, 1) := by decide +kernel
theorem dX10_measures_133 : decode cX10_measures 133 = .ok (.iaload, 1) := by decide +kernel
theorem dX10_measures_134 : decode cX10_measures 134 = .ok (.iastore, 1) := by decide +kernel
theorem dX10_measures_135 : decode cX10_measures 135 = .ok (.iinc 2 1, 3) := by decide +kernel
theorem dX10_measures_138 : decode cX10_measures 138 = .ok (.goto (-69), 3) := by decide +kernel
theorem dX10_measures_141 : decode cX10_measures 141 = .ok (.return_, 1) := by decide +kernel
theorem dX10_holds_0 : decode cX10_holds 0 = .ok (.aload_n 0, 1) := by decide +kernel
theorem dX10_holds_1 : decode cX10_holds 1 = .ok (.getfield 50, 3) := by decide +kernel
theorem dX10_holds_4 : decode cX10_holds 4 = .ok (.iload_n 1, 1) := by decide +kernel
theorem dX10_holds_5 : decode cX10_holds 5 = .ok (.iaload, 1) := by decide +kernel
theorem dX10_holds_6 : decode cX10_holds 6 = .ok (.aload_n 0, 1) := by decide +kernel
theorem dX10_holds_7 : decode cX10_holds 7 = .ok (.getfield 62, 3) := by decide +kernel
theorem dX10_holds_10 : decode cX10_holds 10 = .ok (.aload_n 0, 1) := by decide +kernel
theorem dX10_holds_11 : decode cX10_holds 11 = .ok (.getfield 47, 3) := by decide +kernel
theorem dX10_holds_14 : decode cX10_holds 14 = .ok (.iload_n 1, 1) := by decide +kernel
theorem dX10_holds_15 : decode cX10_holds 15 = .ok (.iaload, 1) := by decide +kernel
theorem dX10_holds_16 : decode cX10_holds 16 = .ok (.iaload, 1) := by decide +kernel
theorem dX10_holds_17 : decode cX10_holds 17 = .ok (.if_icmp .ne 7, 3) := by decide +kernel
theorem dX10_holds_20 : decode cX10_holds 20 = .ok (.iconst 1, 1) := by decide +kernel
theorem dX10_holds_21 : decode cX10_holds 21 = .ok (.goto 4, 3) := by decide +kernel
theorem dX10_holds_24 : decode cX10_holds 24 = .ok (.iconst 0, 1) := by decide +kernel
theorem dX10_holds_25 : decode cX10_holds 25 = .ok (.ireturn, 1) := by decide +kernel
theorem dX10_mapsBy_0 : decode cX10_mapsBy 0 = .ok (.iconst 0, 1) := by decide +kernel
theorem dX10_mapsBy_1 : decode cX10_mapsBy 1 = .ok (.istore_n 2, 1) := by decide +kernel
theorem dX10_mapsBy_2 : decode cX10_mapsBy 2 = .ok (.iconst 0, 1) := by decide +kernel
theorem dX10_mapsBy_3 : decode cX10_mapsBy 3 = .ok (.istore_n 3, 1) := by decide +kernel
theorem dX10_mapsBy_4 : decode cX10_mapsBy 4 = .ok (.iload_n 3, 1) := by decide +kernel
theorem dX10_mapsBy_5 : decode cX10_mapsBy 5 = .ok (.aload_n 0, 1) := by decide +kernel
theorem dX10_mapsBy_6 : decode cX10_mapsBy 6 = .ok (.getfield 28, 3) := by decide +kernel
theorem dX10_mapsBy_9 : decode cX10_mapsBy 9 = .ok (.bipush 6, 2) := by decide +kernel
theorem dX10_mapsBy_11 : decode cX10_mapsBy 11 = .ok (.iaload, 1) := by decide +kernel
theorem dX10_mapsBy_12 : decode cX10_mapsBy 12 = .ok (.if_icmp .ge 21, 3) := by decide +kernel
theorem dX10_mapsBy_15 : decode cX10_mapsBy 15 = .ok (.iload_n 2, 1) := by decide +kernel
theorem dX10_mapsBy_16 : decode cX10_mapsBy 16 = .ok (.aload_n 0, 1) := by decide +kernel
theorem dX10_mapsBy_17 : decode cX10_mapsBy 17 = .ok (.iload_n 3, 1) := by decide +kernel
theorem dX10_mapsBy_18 : decode cX10_mapsBy 18 = .ok (.invokevirtual 168, 3) := by decide +kernel
theorem dX10_mapsBy_21 : decode cX10_mapsBy 21 = .ok (.iload_n 1, 1) := by decide +kernel
theorem dX10_mapsBy_22 : decode cX10_mapsBy 22 = .ok (.ishr, 1) := by decide +kernel
theorem dX10_mapsBy_23 : decode cX10_mapsBy 23 = .ok (.iconst 1, 1) := by decide +kernel
theorem dX10_mapsBy_24 : decode cX10_mapsBy 24 = .ok (.iand, 1) := by decide +kernel
theorem dX10_mapsBy_25 : decode cX10_mapsBy 25 = .ok (.iadd, 1) := by decide +kernel
theorem dX10_mapsBy_26 : decode cX10_mapsBy 26 = .ok (.istore_n 2, 1) := by decide +kernel
theorem dX10_mapsBy_27 : decode cX10_mapsBy 27 = .ok (.iinc 3 1, 3) := by decide +kernel
theorem dX10_mapsBy_30 : decode cX10_mapsBy 30 = .ok (.goto (-26), 3) := by decide +kernel
theorem dX10_mapsBy_33 : decode cX10_mapsBy 33 = .ok (.iload_n 2, 1) := by decide +kernel
theorem dX10_mapsBy_34 : decode cX10_mapsBy 34 = .ok (.ireturn, 1) := by decide +kernel
theorem dX10_lane_0 : decode cX10_lane 0 = .ok (.aload_n 0, 1) := by decide +kernel
theorem dX10_lane_1 : decode cX10_lane 1 = .ok (.iconst 0, 1) := by decide +kernel
theorem dX10_lane_2 : decode cX10_lane 2 = .ok (.putfield 89, 3) := by decide +kernel
theorem dX10_lane_5 : decode cX10_lane 5 = .ok (.aload_n 0, 1) := by decide +kernel
theorem dX10_lane_6 : decode cX10_lane 6 = .ok (.iload_n 1, 1) := by decide +kernel
theorem dX10_lane_7 : decode cX10_lane 7 = .ok (.invokevirtual 171, 3) := by decide +kernel
theorem dX10_lane_10 : decode cX10_lane 10 = .ok (.ifCond .eq 12, 3) := by decide +kernel
theorem dX10_lane_13 : decode cX10_lane 13 = .ok (.iload_n 2, 1) := by decide +kernel
theorem dX10_lane_14 : decode cX10_lane 14 = .ok (.iconst 0, 1) := by decide +kernel
theorem dX10_lane_15 : decode cX10_lane 15 = .ok (.iconst 4, 1) := by decide +kernel
theorem dX10_lane_16 : decode cX10_lane 16 = .ok (.invokestatic 93, 3) := by decide +kernel
theorem dX10_lane_19 : decode cX10_lane 19 = .ok (.ifCond .ne 5, 3) := by decide +kernel
theorem dX10_lane_22 : decode cX10_lane 22 = .ok (.iconst (-1), 1) := by decide +kernel
theorem dX10_lane_23 : decode cX10_lane 23 = .ok (.ireturn, 1) := by decide +kernel
theorem dX10_lane_24 : decode cX10_lane 24 = .ok (.iload_n 2, 1) := by decide +kernel
theorem dX10_lane_25 : decode cX10_lane 25 = .ok (.ifCond .ne 12, 3) := by decide +kernel
theorem dX10_lane_28 : decode cX10_lane 28 = .ok (.aload_n 0, 1) := by decide +kernel
theorem dX10_lane_29 : decode cX10_lane 29 = .ok (.getfield 16, 3) := by decide +kernel
theorem dX10_lane_32 : decode cX10_lane 32 = .ok (.iload_n 1, 1) := by decide +kernel
theorem dX10_lane_33 : decode cX10_lane 33 = .ok (.iaload, 1) := by decide +kernel
theorem dX10_lane_34 : decode cX10_lane 34 = .ok (.goto 52, 3) := by decide +kernel
theorem dX10_lane_37 : decode cX10_lane 37 = .ok (.iload_n 2, 1) := by decide +kernel
theorem dX10_lane_38 : decode cX10_lane 38 = .ok (.iconst 1, 1) := by decide +kernel
theorem dX10_lane_39 : decode cX10_lane 39 = .ok (.if_icmp .ne 12, 3) := by decide +kernel
theorem dX10_lane_42 : decode cX10_lane 42 = .ok (.aload_n 0, 1) := by decide +kernel
theorem dX10_lane_43 : decode cX10_lane 43 = .ok (.getfield 19, 3) := by decide +kernel
theorem dX10_lane_46 : decode cX10_lane 46 = .ok (.iload_n 1, 1) := by decide +kernel
theorem dX10_lane_47 : decode cX10_lane 47 = .ok (.iaload, 1) := by decide +kernel
theorem dX10_lane_48 : decode cX10_lane 48 = .ok (.goto 38, 3) := by decide +kernel
theorem dX10_lane_51 : decode cX10_lane 51 = .ok (.iload_n 2, 1) := by decide +kernel
theorem dX10_lane_52 : decode cX10_lane 52 = .ok (.iconst 2, 1) := by decide +kernel
theorem dX10_lane_53 : decode cX10_lane 53 = .ok (.if_icmp .ne 14, 3) := by decide +kernel
theorem dX10_lane_56 : decode cX10_lane 56 = .ok (.aload_n 0, 1) := by decide +kernel
theorem dX10_lane_57 : decode cX10_lane 57 = .ok (.getfield 28, 3) := by decide +kernel
theorem dX10_lane_60 : decode cX10_lane 60 = .ok (.iconst 0, 1) := by decide +kernel
theorem dX10_lane_61 : decode cX10_lane 61 = .ok (.iload_n 1, 1) := by decide +kernel
theorem dX10_lane_62 : decode cX10_lane 62 = .ok (.iadd, 1) := by decide +kernel
theorem dX10_lane_63 : decode cX10_lane 63 = .ok (.iaload, 1) := by decide +kernel
theorem dX10_lane_64 : decode cX10_lane 64 = .ok (.goto 22, 3) := by decide +kernel
theorem dX10_lane_67 : decode cX10_lane 67 = .ok (.iload_n 2, 1) := by decide +kernel
theorem dX10_lane_68 : decode cX10_lane 68 = .ok (.iconst 3, 1) := by decide +kernel
theorem dX10_lane_69 : decode cX10_lane 69 = .ok (.if_icmp .ne 12, 3) := by decide +kernel
theorem dX10_lane_72 : decode cX10_lane 72 = .ok (.aload_n 0, 1) := by decide +kernel
theorem dX10_lane_73 : decode cX10_lane 73 = .ok (.getfield 22, 3) := by decide +kernel
theorem dX10_lane_76 : decode cX10_lane 76 = .ok (.iload_n 1, 1) := by decide +kernel
theorem dX10_lane_77 : decode cX10_lane 77 = .ok (.iaload, 1) := by decide +kernel
theorem dX10_lane_78 : decode cX10_lane 78 = .ok (.goto 8, 3) := by decide +kernel
theorem dX10_lane_81 : decode cX10_lane 81 = .ok (.aload_n 0, 1) := by decide +kernel
theorem dX10_lane_82 : decode cX10_lane 82 = .ok (.iload_n 1, 1) := by decide +kernel
theorem dX10_lane_83 : decode cX10_lane 83 = .ok (.invokevirtual 175, 3) := by decide +kernel
theorem dX10_lane_86 : decode cX10_lane 86 = .ok (.ireturn, 1) := by decide +kernel
theorem dX10_map_0 : decode cX10_map 0 = .ok (.aload_n 0, 1) := by decide +kernel
theorem dX10_map_1 : decode cX10_map 1 = .ok (.iconst 0, 1) := by decide +kernel
theorem dX10_map_2 : decode cX10_map 2 = .ok (.putfield 89, 3) := by decide +kernel
theorem dX10_map_5 : decode cX10_map 5 = .ok (.aload_n 0, 1) := by decide +kernel
theorem dX10_map_6 : decode cX10_map 6 = .ok (.iload_n 1, 1) := by decide +kernel
theorem dX10_map_7 : decode cX10_map 7 = .ok (.invokevirtual 178, 3) := by decide +kernel
theorem dX10_map_10 : decode cX10_map 10 = .ok (.ifCond .eq 12, 3) := by decide +kernel
theorem dX10_map_13 : decode cX10_map 13 = .ok (.iload_n 2, 1) := by decide +kernel
theorem dX10_map_14 : decode cX10_map 14 = .ok (.iconst 0, 1) := by decide +kernel
theorem dX10_map_15 : decode cX10_map 15 = .ok (.iconst 2, 1) := by decide +kernel
theorem dX10_map_16 : decode cX10_map 16 = .ok (.invokestatic 93, 3) := by decide +kernel
theorem dX10_map_19 : decode cX10_map 19 = .ok (.ifCond .ne 5, 3) := by decide +kernel
theorem dX10_map_22 : decode cX10_map 22 = .ok (.iconst (-1), 1) := by decide +kernel
theorem dX10_map_23 : decode cX10_map 23 = .ok (.ireturn, 1) := by decide +kernel
theorem dX10_map_24 : decode cX10_map 24 = .ok (.aload_n 0, 1) := by decide +kernel
theorem dX10_map_25 : decode cX10_map 25 = .ok (.aload_n 0, 1) := by decide +kernel
theorem dX10_map_26 : decode cX10_map 26 = .ok (.getfield 28, 3) := by decide +kernel
theorem dX10_map_29 : decode cX10_map 29 = .ok (.invokevirtual 181, 3) := by decide +kernel
theorem dX10_map_32 : decode cX10_map 32 = .ok (.iload_n 2, 1) := by decide +kernel
theorem dX10_map_33 : decode cX10_map 33 = .ok (.ifCond .ne 15, 3) := by decide +kernel
theorem dX10_map_36 : decode cX10_map 36 = .ok (.aload_n 0, 1) := by decide +kernel
theorem dX10_map_37 : decode cX10_map 37 = .ok (.getfield 28, 3) := by decide +kernel
theorem dX10_map_40 : decode cX10_map 40 = .ok (.bipush 7, 2) := by decide +kernel
theorem dX10_map_42 : decode cX10_map 42 = .ok (.iload_n 1, 1) := by decide +kernel
theorem dX10_map_43 : decode cX10_map 43 = .ok (.iadd, 1) := by decide +kernel
theorem dX10_map_44 : decode cX10_map 44 = .ok (.iaload, 1) := by decide +kernel
theorem dX10_map_45 : decode cX10_map 45 = .ok (.goto 38, 3) := by decide +kernel
theorem dX10_map_48 : decode cX10_map 48 = .ok (.iload_n 2, 1) := by decide +kernel
theorem dX10_map_49 : decode cX10_map 49 = .ok (.iconst 1, 1) := by decide +kernel
theorem dX10_map_50 : decode cX10_map 50 = .ok (.if_icmp .ne 16, 3) := by decide +kernel
theorem dX10_map_53 : decode cX10_map 53 = .ok (.aload_n 0, 1) := by decide +kernel
theorem dX10_map_54 : decode cX10_map 54 = .ok (.getfield 50, 3) := by decide +kernel
theorem dX10_map_57 : decode cX10_map 57 = .ok (.aload_n 0, 1) := by decide +kernel
theorem dX10_map_58 : decode cX10_map 58 = .ok (.iload_n 1, 1) := by decide +kernel
theorem dX10_map_59 : decode cX10_map 59 = .ok (.invokevirtual 168, 3) := by decide +kernel
theorem dX10_map_62 : decode cX10_map 62 = .ok (.iaload, 1) := by decide +kernel
theorem dX10_map_63 : decode cX10_map 63 = .ok (.goto 20, 3) := by decide +kernel
theorem dX10_map_66 : decode cX10_map 66 = .ok (.aload_n 0, 1) := by decide +kernel
theorem dX10_map_67 : decode cX10_map 67 = .ok (.aload_n 0, 1) := by decide +kernel
theorem dX10_map_68 : decode cX10_map 68 = .ok (.iload_n 1, 1) := by decide +kernel
theorem dX10_map_69 : decode cX10_map 69 = .ok (.invokevirtual 168, 3) := by decide +kernel
theorem dX10_map_72 : decode cX10_map 72 = .ok (.invokevirtual 185, 3) := by decide +kernel
theorem dX10_map_75 : decode cX10_map 75 = .ok (.ifCond .eq 7, 3) := by decide +kernel
theorem dX10_map_78 : decode cX10_map 78 = .ok (.iconst 1, 1) := by decide +kernel
theorem dX10_map_79 : decode cX10_map 79 = .ok (.goto 4, 3) := by decide +kernel
theorem dX10_map_82 : decode cX10_map 82 = .ok (.iconst 0, 1) := by decide +kernel
theorem dX10_map_83 : decode cX10_map 83 = .ok (.ireturn, 1) := by decide +kernel
theorem dX10_place_0 : decode cX10_place 0 = .ok (.aload_n 0, 1) := by decide +kernel
theorem dX10_place_1 : decode cX10_place 1 = .ok (.iconst 0, 1) := by decide +kernel
theorem dX10_place_2 : decode cX10_place 2 = .ok (.putfield 89, 3) := by decide +kernel
theorem dX10_place_5 : decode cX10_place 5 = .ok (.iload_n 1, 1) := by decide +kernel
theorem dX10_place_6 : decode cX10_place 6 = .ok (.iconst (-1), 1) := by decide +kernel
theorem dX10_place_7 : decode cX10_place 7 = .ok (.if_icmp .eq 11, 3) := by decide +kernel
theorem dX10_place_10 : decode cX10_place 10 = .ok (.aload_n 0, 1) := by decide +kernel
theorem dX10_place_11 : decode cX10_place 11 = .ok (.iload_n 1, 1) := by decide +kernel
theorem dX10_place_12 : decode cX10_place 12 = .ok (.invokevirtual 178, 3) := by decide +kernel
theorem dX10_place_15 : decode cX10_place 15 = .ok (.ifCond .eq 12, 3) := by decide +kernel
theorem dX10_place_18 : decode cX10_place 18 = .ok (.iload_n 2, 1) := by decide +kernel
theorem dX10_place_19 : decode cX10_place 19 = .ok (.iconst 0, 1) := by decide +kernel
theorem dX10_place_20 : decode cX10_place 20 = .ok (.iconst 4, 1) := by decide +kernel
theorem dX10_place_21 : decode cX10_place 21 = .ok (.invokestatic 93, 3) := by decide +kernel
theorem dX10_place_24 : decode cX10_place 24 = .ok (.ifCond .ne 5, 3) := by decide +kernel
theorem dX10_place_27 : decode cX10_place 27 = .ok (.iconst (-1), 1) := by decide +kernel
theorem dX10_place_28 : decode cX10_place 28 = .ok (.ireturn, 1) := by decide +kernel
theorem dX10_place_29 : decode cX10_place 29 = .ok (.iload_n 1, 1) := by decide +kernel
theorem dX10_place_30 : decode cX10_place 30 = .ok (.iconst (-1), 1) := by decide +kernel
theorem dX10_place_31 : decode cX10_place 31 = .ok (.if_icmp .ne 29, 3) := by decide +kernel
theorem dX10_place_34 : decode cX10_place 34 = .ok (.iload_n 2, 1) := by decide +kernel
theorem dX10_place_35 : decode cX10_place 35 = .ok (.aload_n 0, 1) := by decide +kernel
theorem dX10_place_36 : decode cX10_place 36 = .ok (.getfield 28, 3) := by decide +kernel
theorem dX10_place_39 : decode cX10_place 39 = .ok (.bipush 36, 2) := by decide +kernel
theorem dX10_place_41 : decode cX10_place 41 = .ok (.iaload, 1) := by decide +kernel
theorem dX10_place_42 : decode cX10_place 42 = .ok (.if_icmp .ge 15, 3) := by decide +kernel
theorem dX10_place_45 : decode cX10_place 45 = .ok (.aload_n 0, 1) := by decide +kernel
theorem dX10_place_46 : decode cX10_place 46 = .ok (.getfield 28, 3) := by decide +kernel
theorem dX10_place_49 : decode cX10_place 49 = .ok (.bipush 31, 2) := by decide +kernel
theorem dX10_place_51 : decode cX10_place 51 = .ok (.iload_n 2, 1) := by decide +kernel
theorem dX10_place_52 : decode cX10_place 52 = .ok (.iadd, 1) := by decide +kernel
theorem dX10_place_53 : decode cX10_place 53 = .ok (.iaload, 1) := by decide +kernel
theorem dX10_place_54 : decode cX10_place 54 = .ok (.goto 5, 3) := by decide +kernel
theorem dX10_place_57 : decode cX10_place 57 = .ok (.bipush (-9), 2) := by decide +kernel
theorem dX10_place_59 : decode cX10_place 59 = .ok (.ireturn, 1) := by decide +kernel
theorem dX10_place_60 : decode cX10_place 60 = .ok (.iload_n 2, 1) := by decide +kernel
theorem dX10_place_61 : decode cX10_place 61 = .ok (.aload_n 0, 1) := by decide +kernel
theorem dX10_place_62 : decode cX10_place 62 = .ok (.getfield 28, 3) := by decide +kernel
theorem dX10_place_65 : decode cX10_place 65 = .ok (.bipush 7, 2) := by decide +kernel
theorem dX10_place_67 : decode cX10_place 67 = .ok (.iload_n 1, 1) := by decide +kernel
theorem dX10_place_68 : decode cX10_place 68 = .ok (.iadd, 1) := by decide +kernel
theorem dX10_place_69 : decode cX10_place 69 = .ok (.iaload, 1) := by decide +kernel
theorem dX10_place_70 : decode cX10_place 70 = .ok (.if_icmp .ge 19, 3) := by decide +kernel
theorem dX10_place_73 : decode cX10_place 73 = .ok (.aload_n 0, 1) := by decide +kernel
theorem dX10_place_74 : decode cX10_place 74 = .ok (.getfield 28, 3) := by decide +kernel
theorem dX10_place_77 : decode cX10_place 77 = .ok (.bipush 11, 2) := by decide +kernel
theorem dX10_place_79 : decode cX10_place 79 = .ok (.iconst 5, 1) := by decide +kernel
theorem dX10_place_80 : decode cX10_place 80 = .ok (.iload_n 1, 1) := by decide +kernel
theorem dX10_place_81 : decode cX10_place 81 = .ok (.imul, 1) := by decide +kernel
theorem dX10_place_82 : decode cX10_place 82 = .ok (.iadd, 1) := by decide +kernel
theorem dX10_place_83 : decode cX10_place 83 = .ok (.iload_n 2, 1) := by decide +kernel
theorem dX10_place_84 : decode cX10_place 84 = .ok (.iadd, 1) := by decide +kernel
theorem dX10_place_85 : decode cX10_place 85 = .ok (.iaload, 1) := by decide +kernel
theorem dX10_place_86 : decode cX10_place 86 = .ok (.goto 5, 3) := by decide +kernel
theorem dX10_place_89 : decode cX10_place 89 = .ok (.bipush (-9), 2) := by decide +kernel
theorem dX10_place_91 : decode cX10_place 91 = .ok (.ireturn, 1) := by decide +kernel
theorem dX10_now_0 : decode cX10_now 0 = .ok (.aload_n 0, 1) := by decide +kernel
theorem dX10_now_1 : decode cX10_now 1 = .ok (.iconst 0, 1) := by decide +kernel
theorem dX10_now_2 : decode cX10_now 2 = .ok (.putfield 89, 3) := by decide +kernel
theorem dX10_now_5 : decode cX10_now 5 = .ok (.iload_n 1, 1) := by decide +kernel
theorem dX10_now_6 : decode cX10_now 6 = .ok (.iconst 0, 1) := by decide +kernel
theorem dX10_now_7 : decode cX10_now 7 = .ok (.iconst 3, 1) := by decide +kernel
theorem dX10_now_8 : decode cX10_now 8 = .ok (.invokestatic 93, 3) := by decide +kernel
theorem dX10_now_11 : decode cX10_now 11 = .ok (.ifCond .ne 5, 3) := by decide +kernel
theorem dX10_now_14 : decode cX10_now 14 = .ok (.iconst (-1), 1) := by decide +kernel
theorem dX10_now_15 : decode cX10_now 15 = .ok (.ireturn, 1) := by decide +kernel
theorem dX10_now_16 : decode cX10_now 16 = .ok (.aload_n 0, 1) := by decide +kernel
theorem dX10_now_17 : decode cX10_now 17 = .ok (.aload_n 0, 1) := by decide +kernel
theorem dX10_now_18 : decode cX10_now 18 = .ok (.getfield 28, 3) := by decide +kernel
theorem dX10_now_21 : decode cX10_now 21 = .ok (.invokevirtual 181, 3) := by decide +kernel
theorem dX10_now_24 : decode cX10_now 24 = .ok (.iconst 0, 1) := by decide +kernel
theorem dX10_now_25 : decode cX10_now 25 = .ok (.istore_n 2, 1) := by decide +kernel
theorem dX10_now_26 : decode cX10_now 26 = .ok (.iconst 0, 1) := by decide +kernel
theorem dX10_now_27 : decode cX10_now 27 = .ok (.istore_n 3, 1) := by decide +kernel
theorem dX10_now_28 : decode cX10_now 28 = .ok (.iload_n 3, 1) := by decide +kernel
theorem dX10_now_29 : decode cX10_now 29 = .ok (.aload_n 0, 1) := by decide +kernel
theorem dX10_now_30 : decode cX10_now 30 = .ok (.getfield 28, 3) := by decide +kernel
theorem dX10_now_33 : decode cX10_now 33 = .ok (.bipush 6, 2) := by decide +kernel
theorem dX10_now_35 : decode cX10_now 35 = .ok (.iaload, 1) := by decide +kernel
theorem dX10_now_36 : decode cX10_now 36 = .ok (.if_icmp .ge 31, 3) := by decide +kernel
theorem dX10_now_39 : decode cX10_now 39 = .ok (.iload_n 2, 1) := by decide +kernel
theorem dX10_now_40 : decode cX10_now 40 = .ok (.aload_n 0, 1) := by decide +kernel
theorem dX10_now_41 : decode cX10_now 41 = .ok (.aload_n 0, 1) := by decide +kernel
theorem dX10_now_42 : decode cX10_now 42 = .ok (.iload_n 3, 1) := by decide +kernel
theorem dX10_now_43 : decode cX10_now 43 = .ok (.invokevirtual 168, 3) := by decide +kernel
theorem dX10_now_46 : decode cX10_now 46 = .ok (.invokevirtual 185, 3) := by decide +kernel
theorem dX10_now_49 : decode cX10_now 49 = .ok (.ifCond .eq 9, 3) := by decide +kernel
theorem dX10_now_52 : decode cX10_now 52 = .ok (.iconst 1, 1) := by decide +kernel
theorem dX10_now_53 : decode cX10_now 53 = .ok (.iload_n 3, 1) := by decide +kernel
theorem dX10_now_54 : decode cX10_now 54 = .ok (.ishl, 1) := by decide +kernel
theorem dX10_now_55 : decode cX10_now 55 = .ok (.goto 4, 3) := by decide +kernel
theorem dX10_now_58 : decode cX10_now 58 = .ok (.iconst 0, 1) := by decide +kernel
theorem dX10_now_59 : decode cX10_now 59 = .ok (.ior, 1) := by decide +kernel
theorem dX10_now_60 : decode cX10_now 60 = .ok (.istore_n 2, 1) := by decide +kernel
theorem dX10_now_61 : decode cX10_now 61 = .ok (.iinc 3 1, 3) := by decide +kernel
theorem dX10_now_64 : decode cX10_now 64 = .ok (.goto (-36), 3) := by decide +kernel
theorem dX10_now_67 : decode cX10_now 67 = .ok (.iload_n 1, 1) := by decide +kernel
theorem dX10_now_68 : decode cX10_now 68 = .ok (.ifCond .ne 7, 3) := by decide +kernel
theorem dX10_now_71 : decode cX10_now 71 = .ok (.iload_n 2, 1) := by decide +kernel
theorem dX10_now_72 : decode cX10_now 72 = .ok (.goto 37, 3) := by decide +kernel
theorem dX10_now_75 : decode cX10_now 75 = .ok (.iload_n 1, 1) := by decide +kernel
theorem dX10_now_76 : decode cX10_now 76 = .ok (.iconst 1, 1) := by decide +kernel
theorem dX10_now_77 : decode cX10_now 77 = .ok (.if_icmp .ne 13, 3) := by decide +kernel
theorem dX10_now_80 : decode cX10_now 80 = .ok (.aload_n 0, 1) := by decide +kernel
theorem dX10_now_81 : decode cX10_now 81 = .ok (.getfield 28, 3) := by decide +kernel
theorem dX10_now_84 : decode cX10_now 84 = .ok (.bipush 36, 2) := by decide +kernel
theorem dX10_now_86 : decode cX10_now 86 = .ok (.iaload, 1) := by decide +kernel
theorem dX10_now_87 : decode cX10_now 87 = .ok (.goto 22, 3) := by decide +kernel
theorem dX10_now_90 : decode cX10_now 90 = .ok (.iload_n 1, 1) := by decide +kernel
theorem dX10_now_91 : decode cX10_now 91 = .ok (.iconst 2, 1) := by decide +kernel
theorem dX10_now_92 : decode cX10_now 92 = .ok (.if_icmp .ne 13, 3) := by decide +kernel
theorem dX10_now_95 : decode cX10_now 95 = .ok (.aload_n 0, 1) := by decide +kernel
theorem dX10_now_96 : decode cX10_now 96 = .ok (.getfield 28, 3) := by decide +kernel
theorem dX10_now_99 : decode cX10_now 99 = .ok (.bipush 37, 2) := by decide +kernel
theorem dX10_now_101 : decode cX10_now 101 = .ok (.iaload, 1) := by decide +kernel
theorem dX10_now_102 : decode cX10_now 102 = .ok (.goto 7, 3) := by decide +kernel
theorem dX10_now_105 : decode cX10_now 105 = .ok (.aload_n 0, 1) := by decide +kernel
theorem dX10_now_106 : decode cX10_now 106 = .ok (.getfield 161, 3) := by decide +kernel
theorem dX10_now_109 : decode cX10_now 109 = .ok (.ireturn, 1) := by decide +kernel
theorem dX10_notes_0 : decode cX10_notes 0 = .ok (.aload_n 0, 1) := by decide +kernel
theorem dX10_notes_1 : decode cX10_notes 1 = .ok (.getfield 161, 3) := by decide +kernel
theorem dX10_notes_4 : decode cX10_notes 4 = .ok (.bipush 10, 2) := by decide +kernel
theorem dX10_notes_6 : decode cX10_notes 6 = .ok (.if_icmp .ne 39, 3) := by decide +kernel
theorem dX10_notes_9 : decode cX10_notes 9 = .ok (.iconst 0, 1) := by decide +kernel
theorem dX10_notes_10 : decode cX10_notes 10 = .ok (.istore_n 1, 1) := by decide +kernel
theorem dX10_notes_11 : decode cX10_notes 11 = .ok (.iload_n 1, 1) := by decide +kernel
theorem dX10_notes_12 : decode cX10_notes 12 = .ok (.sipush 342, 3) := by decide +kernel
theorem dX10_notes_15 : decode cX10_notes 15 = .ok (.if_icmp .ge 24, 3) := by decide +kernel
theorem dX10_notes_18 : decode cX10_notes 18 = .ok (.aload_n 0, 1) := by decide +kernel
theorem dX10_notes_19 : decode cX10_notes 19 = .ok (.getfield 38, 3) := by decide +kernel
theorem dX10_notes_22 : decode cX10_notes 22 = .ok (.iload_n 1, 1) := by decide +kernel
theorem dX10_notes_23 : decode cX10_notes 23 = .ok (.aload_n 0, 1) := by decide +kernel
theorem dX10_notes_24 : decode cX10_notes 24 = .ok (.getfield 38, 3) := by decide +kernel
theorem dX10_notes_27 : decode cX10_notes 27 = .ok (.iload_n 1, 1) := by decide +kernel
theorem dX10_notes_28 : decode cX10_notes 28 = .ok (.bipush 38, 2) := by decide +kernel
theorem dX10_notes_30 : decode cX10_notes 30 = .ok (.iadd, 1) := by decide +kernel
theorem dX10_notes_31 : decode cX10_notes 31 = .ok (.iaload, 1) := by decide +kernel
theorem dX10_notes_32 : decode cX10_notes 32 = .ok (.iastore, 1) := by decide +kernel
theorem dX10_notes_33 : decode cX10_notes 33 = .ok (.iinc 1 1, 3) := by decide +kernel
theorem dX10_notes_36 : decode cX10_notes 36 = .ok (.goto (-25), 3) := by decide +kernel
theorem dX10_notes_39 : decode cX10_notes 39 = .ok (.aload_n 0, 1) := by decide +kernel
theorem dX10_notes_40 : decode cX10_notes 40 = .ok (.bipush 9, 2) := by decide +kernel
theorem dX10_notes_42 : decode cX10_notes 42 = .ok (.putfield 161, 3) := by decide +kernel
theorem dX10_notes_45 : decode cX10_notes 45 = .ok (.iconst 0, 1) := by decide +kernel
theorem dX10_notes_46 : decode cX10_notes 46 = .ok (.istore_n 1, 1) := by decide +kernel
theorem dX10_notes_47 : decode cX10_notes 47 = .ok (.iload_n 1, 1) := by decide +kernel
theorem dX10_notes_48 : decode cX10_notes 48 = .ok (.bipush 38, 2) := by decide +kernel
theorem dX10_notes_50 : decode cX10_notes 50 = .ok (.if_icmp .ge 29, 3) := by decide +kernel
theorem dX10_notes_53 : decode cX10_notes 53 = .ok (.aload_n 0, 1) := by decide +kernel
theorem dX10_notes_54 : decode cX10_notes 54 = .ok (.getfield 38, 3) := by decide +kernel
theorem dX10_notes_57 : decode cX10_notes 57 = .ok (.bipush 38, 2) := by decide +kernel
theorem dX10_notes_59 : decode cX10_notes 59 = .ok (.aload_n 0, 1) := by decide +kernel
theorem dX10_notes_60 : decode cX10_notes 60 = .ok (.getfield 161, 3) := by decide +kernel
theorem dX10_notes_63 : decode cX10_notes 63 = .ok (.imul, 1) := by decide +kernel
theorem dX10_notes_64 : decode cX10_notes 64 = .ok (.iload_n 1, 1) := by decide +kernel
theorem dX10_notes_65 : decode cX10_notes 65 = .ok (.iadd, 1) := by decide +kernel
theorem dX10_notes_66 : decode cX10_notes 66 = .ok (.aload_n 0, 1) := by decide +kernel
theorem dX10_notes_67 : decode cX10_notes 67 = .ok (.getfield 28, 3) := by decide +kernel
theorem dX10_notes_70 : decode cX10_notes 70 = .ok (.iload_n 1, 1) := by decide +kernel
theorem dX10_notes_71 : decode cX10_notes 71 = .ok (.iaload, 1) := by decide +kernel
theorem dX10_notes_72 : decode cX10_notes 72 = .ok (.iastore, 1) := by decide +kernel
theorem dX10_notes_73 : decode cX10_notes 73 = .ok (.iinc 1 1, 3) := by decide +kernel
theorem dX10_notes_76 : decode cX10_notes 76 = .ok (.goto (-29), 3) := by decide +kernel
theorem dX10_notes_79 : decode cX10_notes 79 = .ok (.aload_n 0, 1) := by decide +kernel
theorem dX10_notes_80 : decode cX10_notes 80 = .ok (.dup, 1) := by decide +kernel
theorem dX10_notes_81 : decode cX10_notes 81 = .ok (.getfield 161, 3) := by decide +kernel
theorem dX10_notes_84 : decode cX10_notes 84 = .ok (.iconst 1, 1) := by decide +kernel
theorem dX10_notes_85 : decode cX10_notes 85 = .ok (.iadd, 1) := by decide +kernel
theorem dX10_notes_86 : decode cX10_notes 86 = .ok (.putfield 161, 3) := by decide +kernel
theorem dX10_notes_89 : decode cX10_notes 89 = .ok (.return_, 1) := by decide +kernel
theorem dX10_names_0 : decode cX10_names 0 = .ok (.aload_n 0, 1) := by decide +kernel
theorem dX10_names_1 : decode cX10_names 1 = .ok (.iconst 0, 1) := by decide +kernel
theorem dX10_names_2 : decode cX10_names 2 = .ok (.putfield 89, 3) := by decide +kernel
theorem dX10_names_5 : decode cX10_names 5 = .ok (.aload_n 0, 1) := by decide +kernel
theorem dX10_names_6 : decode cX10_names 6 = .ok (.iload_n 1, 1) := by decide +kernel
theorem dX10_names_7 : decode cX10_names 7 = .ok (.invokevirtual 188, 3) := by decide +kernel
theorem dX10_names_10 : decode cX10_names 10 = .ok (.ifCond .ne 5, 3) := by decide +kernel
theorem dX10_names_13 : decode cX10_names 13 = .ok (.iconst (-1), 1) := by decide +kernel
theorem dX10_names_14 : decode cX10_names 14 = .ok (.ireturn, 1) := by decide +kernel
theorem dX10_names_15 : decode cX10_names 15 = .ok (.aload_n 0, 1) := by decide +kernel
theorem dX10_names_16 : decode cX10_names 16 = .ok (.aload_n 0, 1) := by decide +kernel
theorem dX10_names_17 : decode cX10_names 17 = .ok (.getfield 28, 3) := by decide +kernel
theorem dX10_names_20 : decode cX10_names 20 = .ok (.bipush 31, 2) := by decide +kernel
theorem dX10_names_22 : decode cX10_names 22 = .ok (.aload_n 0, 1) := by decide +kernel
theorem dX10_names_23 : decode cX10_names 23 = .ok (.getfield 28, 3) := by decide +kernel
theorem dX10_names_26 : decode cX10_names 26 = .ok (.bipush 36, 2) := by decide +kernel
theorem dX10_names_28 : decode cX10_names 28 = .ok (.iaload, 1) := by decide +kernel
theorem dX10_names_29 : decode cX10_names 29 = .ok (.iload_n 1, 1) := by decide +kernel
theorem dX10_names_30 : decode cX10_names 30 = .ok (.iconst 0, 1) := by decide +kernel
theorem dX10_names_31 : decode cX10_names 31 = .ok (.aload_n 0, 1) := by decide +kernel
theorem dX10_names_32 : decode cX10_names 32 = .ok (.getfield 13, 3) := by decide +kernel
theorem dX10_names_35 : decode cX10_names 35 = .ok (.iconst 1, 1) := by decide +kernel
theorem dX10_names_36 : decode cX10_names 36 = .ok (.iaload, 1) := by decide +kernel
theorem dX10_names_37 : decode cX10_names 37 = .ok (.invokevirtual 138, 3) := by decide +kernel
theorem dX10_names_40 : decode cX10_names 40 = .ok (.ifCond .ne 6, 3) := by decide +kernel
theorem dX10_names_43 : decode cX10_names 43 = .ok (.bipush (-2), 2) := by decide +kernel
theorem dX10_names_45 : decode cX10_names 45 = .ok (.ireturn, 1) := by decide +kernel
theorem dX10_names_46 : decode cX10_names 46 = .ok (.aload_n 0, 1) := by decide +kernel
theorem dX10_names_47 : decode cX10_names 47 = .ok (.invokevirtual 191, 3) := by decide +kernel
theorem dX10_names_50 : decode cX10_names 50 = .ok (.aload_n 0, 1) := by decide +kernel
theorem dX10_names_51 : decode cX10_names 51 = .ok (.getfield 28, 3) := by decide +kernel
theorem dX10_names_54 : decode cX10_names 54 = .ok (.bipush 31, 2) := by decide +kernel
theorem dX10_names_56 : decode cX10_names 56 = .ok (.aload_n 0, 1) := by decide +kernel
theorem dX10_names_57 : decode cX10_names 57 = .ok (.getfield 28, 3) := by decide +kernel
theorem dX10_names_60 : decode cX10_names 60 = .ok (.bipush 36, 2) := by decide +kernel
theorem dX10_names_62 : decode cX10_names 62 = .ok (.iaload, 1) := by decide +kernel
theorem dX10_names_63 : decode cX10_names 63 = .ok (.iadd, 1) := by decide +kernel
theorem dX10_names_64 : decode cX10_names 64 = .ok (.iload_n 1, 1) := by decide +kernel
theorem dX10_names_65 : decode cX10_names 65 = .ok (.iastore, 1) := by decide +kernel
theorem dX10_names_66 : decode cX10_names 66 = .ok (.aload_n 0, 1) := by decide +kernel
theorem dX10_names_67 : decode cX10_names 67 = .ok (.getfield 28, 3) := by decide +kernel
theorem dX10_names_70 : decode cX10_names 70 = .ok (.bipush 36, 2) := by decide +kernel
theorem dX10_names_72 : decode cX10_names 72 = .ok (.dup2, 1) := by decide +kernel
theorem dX10_names_73 : decode cX10_names 73 = .ok (.iaload, 1) := by decide +kernel
theorem dX10_names_74 : decode cX10_names 74 = .ok (.iconst 1, 1) := by decide +kernel
theorem dX10_names_75 : decode cX10_names 75 = .ok (.iadd, 1) := by decide +kernel
end
section
theorem dX10_names_76 : decode cX10_names 76 = .ok (.iastore, 1) := by decide +kernel
theorem dX10_names_77 : decode cX10_names 77 = .ok (.aload_n 0, 1) := by decide +kernel
theorem dX10_names_78 : decode cX10_names 78 = .ok (.getfield 28, 3) := by decide +kernel
theorem dX10_names_81 : decode cX10_names 81 = .ok (.bipush 36, 2) := by decide +kernel
theorem dX10_names_83 : decode cX10_names 83 = .ok (.iaload, 1) := by decide +kernel
theorem dX10_names_84 : decode cX10_names 84 = .ok (.ireturn, 1) := by decide +kernel
theorem dX10_digsFor_0 : decode cX10_digsFor 0 = .ok (.aload_n 0, 1) := by decide +kernel
theorem dX10_digsFor_1 : decode cX10_digsFor 1 = .ok (.getfield 28, 3) := by decide +kernel
theorem dX10_digsFor_4 : decode cX10_digsFor 4 = .ok (.bipush 37, 2) := by decide +kernel
theorem dX10_digsFor_6 : decode cX10_digsFor 6 = .ok (.aload_n 0, 1) := by decide +kernel
theorem dX10_digsFor_7 : decode cX10_digsFor 7 = .ok (.getfield 28, 3) := by decide +kernel
theorem dX10_digsFor_10 : decode cX10_digsFor 10 = .ok (.bipush 37, 2) := by decide +kernel
theorem dX10_digsFor_12 : decode cX10_digsFor 12 = .ok (.iaload, 1) := by decide +kernel
theorem dX10_digsFor_13 : decode cX10_digsFor 13 = .ok (.iload_n 1, 1) := by decide +kernel
theorem dX10_digsFor_14 : decode cX10_digsFor 14 = .ok (.iadd, 1) := by decide +kernel
theorem dX10_digsFor_15 : decode cX10_digsFor 15 = .ok (.ldc 194, 2) := by decide +kernel
theorem dX10_digsFor_17 : decode cX10_digsFor 17 = .ok (.if_icmp .le 8, 3) := by decide +kernel
theorem dX10_digsFor_20 : decode cX10_digsFor 20 = .ok (.ldc 194, 2) := by decide +kernel
theorem dX10_digsFor_22 : decode cX10_digsFor 22 = .ok (.goto 12, 3) := by decide +kernel
theorem dX10_digsFor_25 : decode cX10_digsFor 25 = .ok (.aload_n 0, 1) := by decide +kernel
theorem dX10_digsFor_26 : decode cX10_digsFor 26 = .ok (.getfield 28, 3) := by decide +kernel
theorem dX10_digsFor_29 : decode cX10_digsFor 29 = .ok (.bipush 37, 2) := by decide +kernel
theorem dX10_digsFor_31 : decode cX10_digsFor 31 = .ok (.iaload, 1) := by decide +kernel
theorem dX10_digsFor_32 : decode cX10_digsFor 32 = .ok (.iload_n 1, 1) := by decide +kernel
theorem dX10_digsFor_33 : decode cX10_digsFor 33 = .ok (.iadd, 1) := by decide +kernel
theorem dX10_digsFor_34 : decode cX10_digsFor 34 = .ok (.iastore, 1) := by decide +kernel
theorem dX10_digsFor_35 : decode cX10_digsFor 35 = .ok (.return_, 1) := by decide +kernel
theorem dX10_asks_0 : decode cX10_asks 0 = .ok (.aload_n 0, 1) := by decide +kernel
theorem dX10_asks_1 : decode cX10_asks 1 = .ok (.iconst 0, 1) := by decide +kernel
theorem dX10_asks_2 : decode cX10_asks 2 = .ok (.putfield 89, 3) := by decide +kernel
theorem dX10_asks_5 : decode cX10_asks 5 = .ok (.aload_n 0, 1) := by decide +kernel
theorem dX10_asks_6 : decode cX10_asks 6 = .ok (.getfield 28, 3) := by decide +kernel
theorem dX10_asks_9 : decode cX10_asks 9 = .ok (.bipush 36, 2) := by decide +kernel
theorem dX10_asks_11 : decode cX10_asks 11 = .ok (.iaload, 1) := by decide +kernel
theorem dX10_asks_12 : decode cX10_asks 12 = .ok (.iconst 2, 1) := by decide +kernel
theorem dX10_asks_13 : decode cX10_asks 13 = .ok (.if_icmp .lt 14, 3) := by decide +kernel
theorem dX10_asks_16 : decode cX10_asks 16 = .ok (.aload_n 0, 1) := by decide +kernel
theorem dX10_asks_17 : decode cX10_asks 17 = .ok (.getfield 28, 3) := by decide +kernel
theorem dX10_asks_20 : decode cX10_asks 20 = .ok (.bipush 6, 2) := by decide +kernel
theorem dX10_asks_22 : decode cX10_asks 22 = .ok (.iaload, 1) := by decide +kernel
theorem dX10_asks_23 : decode cX10_asks 23 = .ok (.iconst 4, 1) := by decide +kernel
theorem dX10_asks_24 : decode cX10_asks 24 = .ok (.if_icmp .ne 6, 3) := by decide +kernel
theorem dX10_asks_27 : decode cX10_asks 27 = .ok (.bipush (-2), 2) := by decide +kernel
theorem dX10_asks_29 : decode cX10_asks 29 = .ok (.ireturn, 1) := by decide +kernel
theorem dX10_asks_30 : decode cX10_asks 30 = .ok (.aload_n 0, 1) := by decide +kernel
theorem dX10_asks_31 : decode cX10_asks 31 = .ok (.aload_n 0, 1) := by decide +kernel
theorem dX10_asks_32 : decode cX10_asks 32 = .ok (.invokevirtual 195, 3) := by decide +kernel
theorem dX10_asks_35 : decode cX10_asks 35 = .ok (.invokevirtual 199, 3) := by decide +kernel
theorem dX10_asks_38 : decode cX10_asks 38 = .ok (.aload_n 0, 1) := by decide +kernel
theorem dX10_asks_39 : decode cX10_asks 39 = .ok (.aload_n 0, 1) := by decide +kernel
theorem dX10_asks_40 : decode cX10_asks 40 = .ok (.invokevirtual 202, 3) := by decide +kernel
theorem dX10_asks_43 : decode cX10_asks 43 = .ok (.invokevirtual 205, 3) := by decide +kernel
theorem dX10_asks_46 : decode cX10_asks 46 = .ok (.istore_n 1, 1) := by decide +kernel
theorem dX10_asks_47 : decode cX10_asks 47 = .ok (.iload_n 1, 1) := by decide +kernel
theorem dX10_asks_48 : decode cX10_asks 48 = .ok (.ldc 167, 2) := by decide +kernel
theorem dX10_asks_50 : decode cX10_asks 50 = .ok (.if_icmp .ne 6, 3) := by decide +kernel
theorem dX10_asks_53 : decode cX10_asks 53 = .ok (.bipush (-2), 2) := by decide +kernel
theorem dX10_asks_55 : decode cX10_asks 55 = .ok (.ireturn, 1) := by decide +kernel
theorem dX10_asks_56 : decode cX10_asks 56 = .ok (.aload_n 0, 1) := by decide +kernel
theorem dX10_asks_57 : decode cX10_asks 57 = .ok (.invokevirtual 191, 3) := by decide +kernel
theorem dX10_asks_60 : decode cX10_asks 60 = .ok (.iconst 0, 1) := by decide +kernel
theorem dX10_asks_61 : decode cX10_asks 61 = .ok (.istore_n 2, 1) := by decide +kernel
theorem dX10_asks_62 : decode cX10_asks 62 = .ok (.iload_n 2, 1) := by decide +kernel
theorem dX10_asks_63 : decode cX10_asks 63 = .ok (.bipush 6, 2) := by decide +kernel
theorem dX10_asks_65 : decode cX10_asks 65 = .ok (.if_icmp .ge 44, 3) := by decide +kernel
theorem dX10_asks_68 : decode cX10_asks 68 = .ok (.aload_n 0, 1) := by decide +kernel
theorem dX10_asks_69 : decode cX10_asks 69 = .ok (.getfield 28, 3) := by decide +kernel
theorem dX10_asks_72 : decode cX10_asks 72 = .ok (.iconst 0, 1) := by decide +kernel
theorem dX10_asks_73 : decode cX10_asks 73 = .ok (.iload_n 2, 1) := by decide +kernel
theorem dX10_asks_74 : decode cX10_asks 74 = .ok (.iadd, 1) := by decide +kernel
theorem dX10_asks_75 : decode cX10_asks 75 = .ok (.iload_n 2, 1) := by decide +kernel
theorem dX10_asks_76 : decode cX10_asks 76 = .ok (.aload_n 0, 1) := by decide +kernel
theorem dX10_asks_77 : decode cX10_asks 77 = .ok (.getfield 13, 3) := by decide +kernel
theorem dX10_asks_80 : decode cX10_asks 80 = .ok (.iconst 1, 1) := by decide +kernel
theorem dX10_asks_81 : decode cX10_asks 81 = .ok (.iaload, 1) := by decide +kernel
theorem dX10_asks_82 : decode cX10_asks 82 = .ok (.if_icmp .ge 12, 3) := by decide +kernel
theorem dX10_asks_85 : decode cX10_asks 85 = .ok (.aload_n 0, 1) := by decide +kernel
theorem dX10_asks_86 : decode cX10_asks 86 = .ok (.getfield 71, 3) := by decide +kernel
theorem dX10_asks_89 : decode cX10_asks 89 = .ok (.iload_n 2, 1) := by decide +kernel
theorem dX10_asks_90 : decode cX10_asks 90 = .ok (.iaload, 1) := by decide +kernel
theorem dX10_asks_91 : decode cX10_asks 91 = .ok (.goto 11, 3) := by decide +kernel
theorem dX10_asks_94 : decode cX10_asks 94 = .ok (.aload_n 0, 1) := by decide +kernel
theorem dX10_asks_95 : decode cX10_asks 95 = .ok (.getfield 28, 3) := by decide +kernel
theorem dX10_asks_98 : decode cX10_asks 98 = .ok (.iconst 0, 1) := by decide +kernel
theorem dX10_asks_99 : decode cX10_asks 99 = .ok (.iload_n 2, 1) := by decide +kernel
theorem dX10_asks_100 : decode cX10_asks 100 = .ok (.iadd, 1) := by decide +kernel
theorem dX10_asks_101 : decode cX10_asks 101 = .ok (.iaload, 1) := by decide +kernel
theorem dX10_asks_102 : decode cX10_asks 102 = .ok (.iastore, 1) := by decide +kernel
theorem dX10_asks_103 : decode cX10_asks 103 = .ok (.iinc 2 1, 3) := by decide +kernel
theorem dX10_asks_106 : decode cX10_asks 106 = .ok (.goto (-44), 3) := by decide +kernel
theorem dX10_asks_109 : decode cX10_asks 109 = .ok (.aload_n 0, 1) := by decide +kernel
theorem dX10_asks_110 : decode cX10_asks 110 = .ok (.iload_n 1, 1) := by decide +kernel
theorem dX10_asks_111 : decode cX10_asks 111 = .ok (.invokevirtual 208, 3) := by decide +kernel
theorem dX10_asks_114 : decode cX10_asks 114 = .ok (.aload_n 0, 1) := by decide +kernel
theorem dX10_asks_115 : decode cX10_asks 115 = .ok (.getfield 28, 3) := by decide +kernel
theorem dX10_asks_118 : decode cX10_asks 118 = .ok (.bipush 6, 2) := by decide +kernel
theorem dX10_asks_120 : decode cX10_asks 120 = .ok (.iaload, 1) := by decide +kernel
theorem dX10_asks_121 : decode cX10_asks 121 = .ok (.istore_n 2, 1) := by decide +kernel
theorem dX10_asks_122 : decode cX10_asks 122 = .ok (.iconst 0, 1) := by decide +kernel
theorem dX10_asks_123 : decode cX10_asks 123 = .ok (.istore_n 3, 1) := by decide +kernel
theorem dX10_asks_124 : decode cX10_asks 124 = .ok (.iload_n 3, 1) := by decide +kernel
theorem dX10_asks_125 : decode cX10_asks 125 = .ok (.iconst 5, 1) := by decide +kernel
theorem dX10_asks_126 : decode cX10_asks 126 = .ok (.if_icmp .ge 56, 3) := by decide +kernel
theorem dX10_asks_129 : decode cX10_asks 129 = .ok (.aload_n 0, 1) := by decide +kernel
theorem dX10_asks_130 : decode cX10_asks 130 = .ok (.getfield 28, 3) := by decide +kernel
theorem dX10_asks_133 : decode cX10_asks 133 = .ok (.bipush 11, 2) := by decide +kernel
theorem dX10_asks_135 : decode cX10_asks 135 = .ok (.iconst 5, 1) := by decide +kernel
theorem dX10_asks_136 : decode cX10_asks 136 = .ok (.iload_n 2, 1) := by decide +kernel
theorem dX10_asks_137 : decode cX10_asks 137 = .ok (.imul, 1) := by decide +kernel
theorem dX10_asks_138 : decode cX10_asks 138 = .ok (.iadd, 1) := by decide +kernel
theorem dX10_asks_139 : decode cX10_asks 139 = .ok (.iload_n 3, 1) := by decide +kernel
theorem dX10_asks_140 : decode cX10_asks 140 = .ok (.iadd, 1) := by decide +kernel
theorem dX10_asks_141 : decode cX10_asks 141 = .ok (.iload_n 3, 1) := by decide +kernel
theorem dX10_asks_142 : decode cX10_asks 142 = .ok (.aload_n 0, 1) := by decide +kernel
theorem dX10_asks_143 : decode cX10_asks 143 = .ok (.getfield 28, 3) := by decide +kernel
theorem dX10_asks_146 : decode cX10_asks 146 = .ok (.bipush 36, 2) := by decide +kernel
theorem dX10_asks_148 : decode cX10_asks 148 = .ok (.iaload, 1) := by decide +kernel
theorem dX10_asks_149 : decode cX10_asks 149 = .ok (.if_icmp .ge 15, 3) := by decide +kernel
theorem dX10_asks_152 : decode cX10_asks 152 = .ok (.aload_n 0, 1) := by decide +kernel
theorem dX10_asks_153 : decode cX10_asks 153 = .ok (.getfield 28, 3) := by decide +kernel
theorem dX10_asks_156 : decode cX10_asks 156 = .ok (.bipush 31, 2) := by decide +kernel
theorem dX10_asks_158 : decode cX10_asks 158 = .ok (.iload_n 3, 1) := by decide +kernel
theorem dX10_asks_159 : decode cX10_asks 159 = .ok (.iadd, 1) := by decide +kernel
theorem dX10_asks_160 : decode cX10_asks 160 = .ok (.iaload, 1) := by decide +kernel
theorem dX10_asks_161 : decode cX10_asks 161 = .ok (.goto 4, 3) := by decide +kernel
theorem dX10_asks_164 : decode cX10_asks 164 = .ok (.iconst 0, 1) := by decide +kernel
theorem dX10_asks_165 : decode cX10_asks 165 = .ok (.iastore, 1) := by decide +kernel
theorem dX10_asks_166 : decode cX10_asks 166 = .ok (.aload_n 0, 1) := by decide +kernel
theorem dX10_asks_167 : decode cX10_asks 167 = .ok (.getfield 28, 3) := by decide +kernel
theorem dX10_asks_170 : decode cX10_asks 170 = .ok (.bipush 31, 2) := by decide +kernel
theorem dX10_asks_172 : decode cX10_asks 172 = .ok (.iload_n 3, 1) := by decide +kernel
theorem dX10_asks_173 : decode cX10_asks 173 = .ok (.iadd, 1) := by decide +kernel
theorem dX10_asks_174 : decode cX10_asks 174 = .ok (.iconst 0, 1) := by decide +kernel
theorem dX10_asks_175 : decode cX10_asks 175 = .ok (.iastore, 1) := by decide +kernel
theorem dX10_asks_176 : decode cX10_asks 176 = .ok (.iinc 3 1, 3) := by decide +kernel
theorem dX10_asks_179 : decode cX10_asks 179 = .ok (.goto (-55), 3) := by decide +kernel
theorem dX10_asks_182 : decode cX10_asks 182 = .ok (.aload_n 0, 1) := by decide +kernel
theorem dX10_asks_183 : decode cX10_asks 183 = .ok (.getfield 28, 3) := by decide +kernel
theorem dX10_asks_186 : decode cX10_asks 186 = .ok (.bipush 7, 2) := by decide +kernel
theorem dX10_asks_188 : decode cX10_asks 188 = .ok (.iload_n 2, 1) := by decide +kernel
theorem dX10_asks_189 : decode cX10_asks 189 = .ok (.iadd, 1) := by decide +kernel
theorem dX10_asks_190 : decode cX10_asks 190 = .ok (.aload_n 0, 1) := by decide +kernel
theorem dX10_asks_191 : decode cX10_asks 191 = .ok (.getfield 28, 3) := by decide +kernel
theorem dX10_asks_194 : decode cX10_asks 194 = .ok (.bipush 36, 2) := by decide +kernel
theorem dX10_asks_196 : decode cX10_asks 196 = .ok (.iaload, 1) := by decide +kernel
theorem dX10_asks_197 : decode cX10_asks 197 = .ok (.iastore, 1) := by decide +kernel
theorem dX10_asks_198 : decode cX10_asks 198 = .ok (.aload_n 0, 1) := by decide +kernel
theorem dX10_asks_199 : decode cX10_asks 199 = .ok (.getfield 28, 3) := by decide +kernel
theorem dX10_asks_202 : decode cX10_asks 202 = .ok (.bipush 36, 2) := by decide +kernel
theorem dX10_asks_204 : decode cX10_asks 204 = .ok (.iconst 0, 1) := by decide +kernel
theorem dX10_asks_205 : decode cX10_asks 205 = .ok (.iastore, 1) := by decide +kernel
theorem dX10_asks_206 : decode cX10_asks 206 = .ok (.aload_n 0, 1) := by decide +kernel
theorem dX10_asks_207 : decode cX10_asks 207 = .ok (.getfield 28, 3) := by decide +kernel
theorem dX10_asks_210 : decode cX10_asks 210 = .ok (.bipush 6, 2) := by decide +kernel
theorem dX10_asks_212 : decode cX10_asks 212 = .ok (.dup2, 1) := by decide +kernel
theorem dX10_asks_213 : decode cX10_asks 213 = .ok (.iaload, 1) := by decide +kernel
theorem dX10_asks_214 : decode cX10_asks 214 = .ok (.iconst 1, 1) := by decide +kernel
theorem dX10_asks_215 : decode cX10_asks 215 = .ok (.iadd, 1) := by decide +kernel
theorem dX10_asks_216 : decode cX10_asks 216 = .ok (.iastore, 1) := by decide +kernel
theorem dX10_asks_217 : decode cX10_asks 217 = .ok (.iload_n 1, 1) := by decide +kernel
theorem dX10_asks_218 : decode cX10_asks 218 = .ok (.ireturn, 1) := by decide +kernel
theorem dX10_apart_0 : decode cX10_apart 0 = .ok (.iload_n 0, 1) := by decide +kernel
theorem dX10_apart_1 : decode cX10_apart 1 = .ok (.iload_n 1, 1) := by decide +kernel
theorem dX10_apart_2 : decode cX10_apart 2 = .ok (.if_icmp .ge 9, 3) := by decide +kernel
theorem dX10_apart_5 : decode cX10_apart 5 = .ok (.iload_n 1, 1) := by decide +kernel
theorem dX10_apart_6 : decode cX10_apart 6 = .ok (.iload_n 0, 1) := by decide +kernel
theorem dX10_apart_7 : decode cX10_apart 7 = .ok (.isub, 1) := by decide +kernel
theorem dX10_apart_8 : decode cX10_apart 8 = .ok (.goto 6, 3) := by decide +kernel
theorem dX10_apart_11 : decode cX10_apart 11 = .ok (.iload_n 0, 1) := by decide +kernel
theorem dX10_apart_12 : decode cX10_apart 12 = .ok (.iload_n 1, 1) := by decide +kernel
theorem dX10_apart_13 : decode cX10_apart 13 = .ok (.isub, 1) := by decide +kernel
theorem dX10_apart_14 : decode cX10_apart 14 = .ok (.ireturn, 1) := by decide +kernel
theorem dX10_digs_0 : decode cX10_digs 0 = .ok (.aload_n 0, 1) := by decide +kernel
theorem dX10_digs_1 : decode cX10_digs 1 = .ok (.iconst 0, 1) := by decide +kernel
theorem dX10_digs_2 : decode cX10_digs 2 = .ok (.putfield 89, 3) := by decide +kernel
theorem dX10_digs_5 : decode cX10_digs 5 = .ok (.aload_n 0, 1) := by decide +kernel
theorem dX10_digs_6 : decode cX10_digs 6 = .ok (.iload_n 1, 1) := by decide +kernel
theorem dX10_digs_7 : decode cX10_digs 7 = .ok (.invokevirtual 171, 3) := by decide +kernel
theorem dX10_digs_10 : decode cX10_digs 10 = .ok (.ifCond .eq 12, 3) := by decide +kernel
theorem dX10_digs_13 : decode cX10_digs 13 = .ok (.iload_n 2, 1) := by decide +kernel
theorem dX10_digs_14 : decode cX10_digs 14 = .ok (.iconst 1, 1) := by decide +kernel
theorem dX10_digs_15 : decode cX10_digs 15 = .ok (.iconst 5, 1) := by decide +kernel
theorem dX10_digs_16 : decode cX10_digs 16 = .ok (.invokestatic 93, 3) := by decide +kernel
theorem dX10_digs_19 : decode cX10_digs 19 = .ok (.ifCond .ne 5, 3) := by decide +kernel
theorem dX10_digs_22 : decode cX10_digs 22 = .ok (.iconst (-1), 1) := by decide +kernel
theorem dX10_digs_23 : decode cX10_digs 23 = .ok (.ireturn, 1) := by decide +kernel
theorem dX10_digs_24 : decode cX10_digs 24 = .ok (.aload_n 0, 1) := by decide +kernel
theorem dX10_digs_25 : decode cX10_digs 25 = .ok (.getfield 28, 3) := by decide +kernel
theorem dX10_digs_28 : decode cX10_digs 28 = .ok (.iconst 0, 1) := by decide +kernel
theorem dX10_digs_29 : decode cX10_digs 29 = .ok (.iload_n 1, 1) := by decide +kernel
theorem dX10_digs_30 : decode cX10_digs 30 = .ok (.iadd, 1) := by decide +kernel
theorem dX10_digs_31 : decode cX10_digs 31 = .ok (.iaload, 1) := by decide +kernel
theorem dX10_digs_32 : decode cX10_digs 32 = .ok (.istore_n 3, 1) := by decide +kernel
theorem dX10_digs_33 : decode cX10_digs 33 = .ok (.iload_n 3, 1) := by decide +kernel
theorem dX10_digs_34 : decode cX10_digs 34 = .ok (.iload_n 2, 1) := by decide +kernel
theorem dX10_digs_35 : decode cX10_digs 35 = .ok (.if_icmp .ne 6, 3) := by decide +kernel
theorem dX10_digs_38 : decode cX10_digs 38 = .ok (.bipush (-2), 2) := by decide +kernel
theorem dX10_digs_40 : decode cX10_digs 40 = .ok (.ireturn, 1) := by decide +kernel
theorem dX10_digs_41 : decode cX10_digs 41 = .ok (.aload_n 0, 1) := by decide +kernel
theorem dX10_digs_42 : decode cX10_digs 42 = .ok (.invokevirtual 191, 3) := by decide +kernel
theorem dX10_digs_45 : decode cX10_digs 45 = .ok (.aload_n 0, 1) := by decide +kernel
theorem dX10_digs_46 : decode cX10_digs 46 = .ok (.getfield 28, 3) := by decide +kernel
theorem dX10_digs_49 : decode cX10_digs 49 = .ok (.iconst 0, 1) := by decide +kernel
theorem dX10_digs_50 : decode cX10_digs 50 = .ok (.iload_n 1, 1) := by decide +kernel
theorem dX10_digs_51 : decode cX10_digs 51 = .ok (.iadd, 1) := by decide +kernel
theorem dX10_digs_52 : decode cX10_digs 52 = .ok (.iload_n 2, 1) := by decide +kernel
theorem dX10_digs_53 : decode cX10_digs 53 = .ok (.iastore, 1) := by decide +kernel
theorem dX10_digs_54 : decode cX10_digs 54 = .ok (.aload_n 0, 1) := by decide +kernel
theorem dX10_digs_55 : decode cX10_digs 55 = .ok (.aload_n 0, 1) := by decide +kernel
theorem dX10_digs_56 : decode cX10_digs 56 = .ok (.getfield 22, 3) := by decide +kernel
theorem dX10_digs_59 : decode cX10_digs 59 = .ok (.iload_n 1, 1) := by decide +kernel
theorem dX10_digs_60 : decode cX10_digs 60 = .ok (.iaload, 1) := by decide +kernel
theorem dX10_digs_61 : decode cX10_digs 61 = .ok (.iload_n 3, 1) := by decide +kernel
theorem dX10_digs_62 : decode cX10_digs 62 = .ok (.iload_n 2, 1) := by decide +kernel
theorem dX10_digs_63 : decode cX10_digs 63 = .ok (.invokestatic 211, 3) := by decide +kernel
theorem dX10_digs_66 : decode cX10_digs 66 = .ok (.imul, 1) := by decide +kernel
theorem dX10_digs_67 : decode cX10_digs 67 = .ok (.invokevirtual 208, 3) := by decide +kernel
theorem dX10_digs_70 : decode cX10_digs 70 = .ok (.iload_n 3, 1) := by decide +kernel
theorem dX10_digs_71 : decode cX10_digs 71 = .ok (.ireturn, 1) := by decide +kernel
theorem dX10_burns_0 : decode cX10_burns 0 = .ok (.aload_n 0, 1) := by decide +kernel
theorem dX10_burns_1 : decode cX10_burns 1 = .ok (.iconst 0, 1) := by decide +kernel
theorem dX10_burns_2 : decode cX10_burns 2 = .ok (.putfield 89, 3) := by decide +kernel
theorem dX10_burns_5 : decode cX10_burns 5 = .ok (.aload_n 0, 1) := by decide +kernel
theorem dX10_burns_6 : decode cX10_burns 6 = .ok (.iload_n 1, 1) := by decide +kernel
theorem dX10_burns_7 : decode cX10_burns 7 = .ok (.invokevirtual 178, 3) := by decide +kernel
theorem dX10_burns_10 : decode cX10_burns 10 = .ok (.ifCond .ne 5, 3) := by decide +kernel
theorem dX10_burns_13 : decode cX10_burns 13 = .ok (.iconst (-1), 1) := by decide +kernel
theorem dX10_burns_14 : decode cX10_burns 14 = .ok (.ireturn, 1) := by decide +kernel
theorem dX10_burns_15 : decode cX10_burns 15 = .ok (.aload_n 0, 1) := by decide +kernel
theorem dX10_burns_16 : decode cX10_burns 16 = .ok (.invokevirtual 191, 3) := by decide +kernel
theorem dX10_burns_19 : decode cX10_burns 19 = .ok (.iload_n 1, 1) := by decide +kernel
theorem dX10_burns_20 : decode cX10_burns 20 = .ok (.istore_n 2, 1) := by decide +kernel
theorem dX10_burns_21 : decode cX10_burns 21 = .ok (.iload_n 2, 1) := by decide +kernel
theorem dX10_burns_22 : decode cX10_burns 22 = .ok (.iconst 3, 1) := by decide +kernel
theorem dX10_burns_23 : decode cX10_burns 23 = .ok (.if_icmp .ge 70, 3) := by decide +kernel
theorem dX10_burns_26 : decode cX10_burns 26 = .ok (.aload_n 0, 1) := by decide +kernel
theorem dX10_burns_27 : decode cX10_burns 27 = .ok (.getfield 28, 3) := by decide +kernel
theorem dX10_burns_30 : decode cX10_burns 30 = .ok (.bipush 7, 2) := by decide +kernel
theorem dX10_burns_32 : decode cX10_burns 32 = .ok (.iload_n 2, 1) := by decide +kernel
theorem dX10_burns_33 : decode cX10_burns 33 = .ok (.iadd, 1) := by decide +kernel
theorem dX10_burns_34 : decode cX10_burns 34 = .ok (.aload_n 0, 1) := by decide +kernel
theorem dX10_burns_35 : decode cX10_burns 35 = .ok (.getfield 28, 3) := by decide +kernel
theorem dX10_burns_38 : decode cX10_burns 38 = .ok (.bipush 7, 2) := by decide +kernel
theorem dX10_burns_40 : decode cX10_burns 40 = .ok (.iload_n 2, 1) := by decide +kernel
theorem dX10_burns_41 : decode cX10_burns 41 = .ok (.iadd, 1) := by decide +kernel
theorem dX10_burns_42 : decode cX10_burns 42 = .ok (.iconst 1, 1) := by decide +kernel
theorem dX10_burns_43 : decode cX10_burns 43 = .ok (.iadd, 1) := by decide +kernel
theorem dX10_burns_44 : decode cX10_burns 44 = .ok (.iaload, 1) := by decide +kernel
theorem dX10_burns_45 : decode cX10_burns 45 = .ok (.iastore, 1) := by decide +kernel
theorem dX10_burns_46 : decode cX10_burns 46 = .ok (.iconst 0, 1) := by decide +kernel
theorem dX10_burns_47 : decode cX10_burns 47 = .ok (.istore_n 3, 1) := by decide +kernel
theorem dX10_burns_48 : decode cX10_burns 48 = .ok (.iload_n 3, 1) := by decide +kernel
theorem dX10_burns_49 : decode cX10_burns 49 = .ok (.iconst 5, 1) := by decide +kernel
theorem dX10_burns_50 : decode cX10_burns 50 = .ok (.if_icmp .ge 37, 3) := by decide +kernel
theorem dX10_burns_53 : decode cX10_burns 53 = .ok (.aload_n 0, 1) := by decide +kernel
theorem dX10_burns_54 : decode cX10_burns 54 = .ok (.getfield 28, 3) := by decide +kernel
theorem dX10_burns_57 : decode cX10_burns 57 = .ok (.bipush 11, 2) := by decide +kernel
theorem dX10_burns_59 : decode cX10_burns 59 = .ok (.iconst 5, 1) := by decide +kernel
theorem dX10_burns_60 : decode cX10_burns 60 = .ok (.iload_n 2, 1) := by decide +kernel
theorem dX10_burns_61 : decode cX10_burns 61 = .ok (.imul, 1) := by decide +kernel
theorem dX10_burns_62 : decode cX10_burns 62 = .ok (.iadd, 1) := by decide +kernel
theorem dX10_burns_63 : decode cX10_burns 63 = .ok (.iload_n 3, 1) := by decide +kernel
theorem dX10_burns_64 : decode cX10_burns 64 = .ok (.iadd, 1) := by decide +kernel
theorem dX10_burns_65 : decode cX10_burns 65 = .ok (.aload_n 0, 1) := by decide +kernel
theorem dX10_burns_66 : decode cX10_burns 66 = .ok (.getfield 28, 3) := by decide +kernel
theorem dX10_burns_69 : decode cX10_burns 69 = .ok (.bipush 11, 2) := by decide +kernel
theorem dX10_burns_71 : decode cX10_burns 71 = .ok (.iconst 5, 1) := by decide +kernel
theorem dX10_burns_72 : decode cX10_burns 72 = .ok (.iload_n 2, 1) := by decide +kernel
theorem dX10_burns_73 : decode cX10_burns 73 = .ok (.imul, 1) := by decide +kernel
theorem dX10_burns_74 : decode cX10_burns 74 = .ok (.iadd, 1) := by decide +kernel
theorem dX10_burns_75 : decode cX10_burns 75 = .ok (.iconst 5, 1) := by decide +kernel
theorem dX10_burns_76 : decode cX10_burns 76 = .ok (.iadd, 1) := by decide +kernel
theorem dX10_burns_77 : decode cX10_burns 77 = .ok (.iload_n 3, 1) := by decide +kernel
theorem dX10_burns_78 : decode cX10_burns 78 = .ok (.iadd, 1) := by decide +kernel
theorem dX10_burns_79 : decode cX10_burns 79 = .ok (.iaload, 1) := by decide +kernel
theorem dX10_burns_80 : decode cX10_burns 80 = .ok (.iastore, 1) := by decide +kernel
theorem dX10_burns_81 : decode cX10_burns 81 = .ok (.iinc 3 1, 3) := by decide +kernel
theorem dX10_burns_84 : decode cX10_burns 84 = .ok (.goto (-36), 3) := by decide +kernel
theorem dX10_burns_87 : decode cX10_burns 87 = .ok (.iinc 2 1, 3) := by decide +kernel
theorem dX10_burns_90 : decode cX10_burns 90 = .ok (.goto (-69), 3) := by decide +kernel
theorem dX10_burns_93 : decode cX10_burns 93 = .ok (.aload_n 0, 1) := by decide +kernel
theorem dX10_burns_94 : decode cX10_burns 94 = .ok (.getfield 28, 3) := by decide +kernel
theorem dX10_burns_97 : decode cX10_burns 97 = .ok (.bipush 6, 2) := by decide +kernel
theorem dX10_burns_99 : decode cX10_burns 99 = .ok (.dup2, 1) := by decide +kernel
theorem dX10_burns_100 : decode cX10_burns 100 = .ok (.iaload, 1) := by decide +kernel
theorem dX10_burns_101 : decode cX10_burns 101 = .ok (.iconst 1, 1) := by decide +kernel
theorem dX10_burns_102 : decode cX10_burns 102 = .ok (.isub, 1) := by decide +kernel
theorem dX10_burns_103 : decode cX10_burns 103 = .ok (.iastore, 1) := by decide +kernel
theorem dX10_burns_104 : decode cX10_burns 104 = .ok (.aload_n 0, 1) := by decide +kernel
theorem dX10_burns_105 : decode cX10_burns 105 = .ok (.getfield 28, 3) := by decide +kernel
theorem dX10_burns_108 : decode cX10_burns 108 = .ok (.bipush 6, 2) := by decide +kernel
theorem dX10_burns_110 : decode cX10_burns 110 = .ok (.iaload, 1) := by decide +kernel
theorem dX10_burns_111 : decode cX10_burns 111 = .ok (.ireturn, 1) := by decide +kernel
theorem dX10_wipes_0 : decode cX10_wipes 0 = .ok (.aload_n 0, 1) := by decide +kernel
theorem dX10_wipes_1 : decode cX10_wipes 1 = .ok (.iconst 0, 1) := by decide +kernel
theorem dX10_wipes_2 : decode cX10_wipes 2 = .ok (.putfield 89, 3) := by decide +kernel
theorem dX10_wipes_5 : decode cX10_wipes 5 = .ok (.aload_n 0, 1) := by decide +kernel
theorem dX10_wipes_6 : decode cX10_wipes 6 = .ok (.getfield 28, 3) := by decide +kernel
theorem dX10_wipes_9 : decode cX10_wipes 9 = .ok (.bipush 36, 2) := by decide +kernel
theorem dX10_wipes_11 : decode cX10_wipes 11 = .ok (.iaload, 1) := by decide +kernel
theorem dX10_wipes_12 : decode cX10_wipes 12 = .ok (.ifCond .ne 6, 3) := by decide +kernel
theorem dX10_wipes_15 : decode cX10_wipes 15 = .ok (.bipush (-2), 2) := by decide +kernel
theorem dX10_wipes_17 : decode cX10_wipes 17 = .ok (.ireturn, 1) := by decide +kernel
theorem dX10_wipes_18 : decode cX10_wipes 18 = .ok (.aload_n 0, 1) := by decide +kernel
theorem dX10_wipes_19 : decode cX10_wipes 19 = .ok (.invokevirtual 191, 3) := by decide +kernel
theorem dX10_wipes_22 : decode cX10_wipes 22 = .ok (.aload_n 0, 1) := by decide +kernel
theorem dX10_wipes_23 : decode cX10_wipes 23 = .ok (.getfield 28, 3) := by decide +kernel
theorem dX10_wipes_26 : decode cX10_wipes 26 = .ok (.bipush 36, 2) := by decide +kernel
theorem dX10_wipes_28 : decode cX10_wipes 28 = .ok (.iaload, 1) := by decide +kernel
theorem dX10_wipes_29 : decode cX10_wipes 29 = .ok (.istore_n 1, 1) := by decide +kernel
theorem dX10_wipes_30 : decode cX10_wipes 30 = .ok (.aload_n 0, 1) := by decide +kernel
theorem dX10_wipes_31 : decode cX10_wipes 31 = .ok (.getfield 28, 3) := by decide +kernel
theorem dX10_wipes_34 : decode cX10_wipes 34 = .ok (.bipush 36, 2) := by decide +kernel
theorem dX10_wipes_36 : decode cX10_wipes 36 = .ok (.iconst 0, 1) := by decide +kernel
theorem dX10_wipes_37 : decode cX10_wipes 37 = .ok (.iastore, 1) := by decide +kernel
theorem dX10_wipes_38 : decode cX10_wipes 38 = .ok (.iload_n 1, 1) := by decide +kernel
theorem dX10_wipes_39 : decode cX10_wipes 39 = .ok (.ireturn, 1) := by decide +kernel
theorem dX10_undo_0 : decode cX10_undo 0 = .ok (.aload_n 0, 1) := by decide +kernel
theorem dX10_undo_1 : decode cX10_undo 1 = .ok (.iconst 0, 1) := by decide +kernel
theorem dX10_undo_2 : decode cX10_undo 2 = .ok (.putfield 89, 3) := by decide +kernel
theorem dX10_undo_5 : decode cX10_undo 5 = .ok (.aload_n 0, 1) := by decide +kernel
theorem dX10_undo_6 : decode cX10_undo 6 = .ok (.getfield 161, 3) := by decide +kernel
theorem dX10_undo_9 : decode cX10_undo 9 = .ok (.ifCond .ne 6, 3) := by decide +kernel
theorem dX10_undo_12 : decode cX10_undo 12 = .ok (.bipush (-2), 2) := by decide +kernel
theorem dX10_undo_14 : decode cX10_undo 14 = .ok (.ireturn, 1) := by decide +kernel
theorem dX10_undo_15 : decode cX10_undo 15 = .ok (.aload_n 0, 1) := by decide +kernel
theorem dX10_undo_16 : decode cX10_undo 16 = .ok (.dup, 1) := by decide +kernel
theorem dX10_undo_17 : decode cX10_undo 17 = .ok (.getfield 161, 3) := by decide +kernel
theorem dX10_undo_20 : decode cX10_undo 20 = .ok (.iconst 1, 1) := by decide +kernel
theorem dX10_undo_21 : decode cX10_undo 21 = .ok (.isub, 1) := by decide +kernel
theorem dX10_undo_22 : decode cX10_undo 22 = .ok (.putfield 161, 3) := by decide +kernel
theorem dX10_undo_25 : decode cX10_undo 25 = .ok (.iconst 0, 1) := by decide +kernel
theorem dX10_undo_26 : decode cX10_undo 26 = .ok (.istore_n 1, 1) := by decide +kernel
theorem dX10_undo_27 : decode cX10_undo 27 = .ok (.iload_n 1, 1) := by decide +kernel
theorem dX10_undo_28 : decode cX10_undo 28 = .ok (.bipush 38, 2) := by decide +kernel
theorem dX10_undo_30 : decode cX10_undo 30 = .ok (.if_icmp .ge 29, 3) := by decide +kernel
theorem dX10_undo_33 : decode cX10_undo 33 = .ok (.aload_n 0, 1) := by decide +kernel
theorem dX10_undo_34 : decode cX10_undo 34 = .ok (.getfield 28, 3) := by decide +kernel
theorem dX10_undo_37 : decode cX10_undo 37 = .ok (.iload_n 1, 1) := by decide +kernel
theorem dX10_undo_38 : decode cX10_undo 38 = .ok (.aload_n 0, 1) := by decide +kernel
theorem dX10_undo_39 : decode cX10_undo 39 = .ok (.getfield 38, 3) := by decide +kernel
theorem dX10_undo_42 : decode cX10_undo 42 = .ok (.bipush 38, 2) := by decide +kernel
theorem dX10_undo_44 : decode cX10_undo 44 = .ok (.aload_n 0, 1) := by decide +kernel
theorem dX10_undo_45 : decode cX10_undo 45 = .ok (.getfield 161, 3) := by decide +kernel
theorem dX10_undo_48 : decode cX10_undo 48 = .ok (.imul, 1) := by decide +kernel
theorem dX10_undo_49 : decode cX10_undo 49 = .ok (.iload_n 1, 1) := by decide +kernel
theorem dX10_undo_50 : decode cX10_undo 50 = .ok (.iadd, 1) := by decide +kernel
theorem dX10_undo_51 : decode cX10_undo 51 = .ok (.iaload, 1) := by decide +kernel
theorem dX10_undo_52 : decode cX10_undo 52 = .ok (.iastore, 1) := by decide +kernel
theorem dX10_undo_53 : decode cX10_undo 53 = .ok (.iinc 1 1, 3) := by decide +kernel
theorem dX10_undo_56 : decode cX10_undo 56 = .ok (.goto (-29), 3) := by decide +kernel
theorem dX10_undo_59 : decode cX10_undo 59 = .ok (.aload_n 0, 1) := by decide +kernel
theorem dX10_undo_60 : decode cX10_undo 60 = .ok (.getfield 161, 3) := by decide +kernel
theorem dX10_undo_63 : decode cX10_undo 63 = .ok (.ireturn, 1) := by decide +kernel
theorem dX10_endsBetween_0 : decode cX10_endsBetween 0 = .ok (.iload_n 0, 1) := by decide +kernel
theorem dX10_endsBetween_1 : decode cX10_endsBetween 1 = .ok (.iload_n 1, 1) := by decide +kernel
theorem dX10_endsBetween_2 : decode cX10_endsBetween 2 = .ok (.if_icmp .ge 13, 3) := by decide +kernel
theorem dX10_endsBetween_5 : decode cX10_endsBetween 5 = .ok (.iconst 5, 1) := by decide +kernel
theorem dX10_endsBetween_6 : decode cX10_endsBetween 6 = .ok (.iload_n 0, 1) := by decide +kernel
theorem dX10_endsBetween_7 : decode cX10_endsBetween 7 = .ok (.imul, 1) := by decide +kernel
theorem dX10_endsBetween_8 : decode cX10_endsBetween 8 = .ok (.iload_n 1, 1) := by decide +kernel
theorem dX10_endsBetween_9 : decode cX10_endsBetween 9 = .ok (.iadd, 1) := by decide +kernel
theorem dX10_endsBetween_10 : decode cX10_endsBetween 10 = .ok (.iconst 1, 1) := by decide +kernel
theorem dX10_endsBetween_11 : decode cX10_endsBetween 11 = .ok (.iadd, 1) := by decide +kernel
theorem dX10_endsBetween_12 : decode cX10_endsBetween 12 = .ok (.goto 10, 3) := by decide +kernel
theorem dX10_endsBetween_15 : decode cX10_endsBetween 15 = .ok (.iconst 5, 1) := by decide +kernel
theorem dX10_endsBetween_16 : decode cX10_endsBetween 16 = .ok (.iload_n 1, 1) := by decide +kernel
theorem dX10_endsBetween_17 : decode cX10_endsBetween 17 = .ok (.imul, 1) := by decide +kernel
theorem dX10_endsBetween_18 : decode cX10_endsBetween 18 = .ok (.iload_n 0, 1) := by decide +kernel
theorem dX10_endsBetween_19 : decode cX10_endsBetween 19 = .ok (.iadd, 1) := by decide +kernel
theorem dX10_endsBetween_20 : decode cX10_endsBetween 20 = .ok (.iconst 1, 1) := by decide +kernel
theorem dX10_endsBetween_21 : decode cX10_endsBetween 21 = .ok (.iadd, 1) := by decide +kernel
theorem dX10_endsBetween_22 : decode cX10_endsBetween 22 = .ok (.ireturn, 1) := by decide +kernel
theorem dX10_far_0 : decode cX10_far 0 = .ok (.aload_n 0, 1) := by decide +kernel
theorem dX10_far_1 : decode cX10_far 1 = .ok (.iconst 0, 1) := by decide +kernel
theorem dX10_far_2 : decode cX10_far 2 = .ok (.putfield 89, 3) := by decide +kernel
theorem dX10_far_5 : decode cX10_far 5 = .ok (.aload_n 0, 1) := by decide +kernel
theorem dX10_far_6 : decode cX10_far 6 = .ok (.iload_n 1, 1) := by decide +kernel
theorem dX10_far_7 : decode cX10_far 7 = .ok (.invokevirtual 188, 3) := by decide +kernel
theorem dX10_far_10 : decode cX10_far 10 = .ok (.ifCond .eq 11, 3) := by decide +kernel
theorem dX10_far_13 : decode cX10_far 13 = .ok (.aload_n 0, 1) := by decide +kernel
theorem dX10_far_14 : decode cX10_far 14 = .ok (.iload_n 2, 1) := by decide +kernel
theorem dX10_far_15 : decode cX10_far 15 = .ok (.invokevirtual 188, 3) := by decide +kernel
theorem dX10_far_18 : decode cX10_far 18 = .ok (.ifCond .ne 5, 3) := by decide +kernel
theorem dX10_far_21 : decode cX10_far 21 = .ok (.iconst (-1), 1) := by decide +kernel
theorem dX10_far_22 : decode cX10_far 22 = .ok (.ireturn, 1) := by decide +kernel
theorem dX10_far_23 : decode cX10_far 23 = .ok (.aload_n 0, 1) := by decide +kernel
theorem dX10_far_24 : decode cX10_far 24 = .ok (.aload_n 0, 1) := by decide +kernel
theorem dX10_far_25 : decode cX10_far 25 = .ok (.getfield 28, 3) := by decide +kernel
theorem dX10_far_28 : decode cX10_far 28 = .ok (.invokevirtual 181, 3) := by decide +kernel
theorem dX10_far_31 : decode cX10_far 31 = .ok (.iload_n 1, 1) := by decide +kernel
theorem dX10_far_32 : decode cX10_far 32 = .ok (.iload_n 2, 1) := by decide +kernel
theorem dX10_far_33 : decode cX10_far 33 = .ok (.if_icmp .ne 7, 3) := by decide +kernel
theorem dX10_far_36 : decode cX10_far 36 = .ok (.iconst 0, 1) := by decide +kernel
theorem dX10_far_37 : decode cX10_far 37 = .ok (.goto 33, 3) := by decide +kernel
theorem dX10_far_40 : decode cX10_far 40 = .ok (.aload_n 0, 1) := by decide +kernel
theorem dX10_far_41 : decode cX10_far 41 = .ok (.getfield 62, 3) := by decide +kernel
theorem dX10_far_44 : decode cX10_far 44 = .ok (.iload_n 1, 1) := by decide +kernel
theorem dX10_far_45 : decode cX10_far 45 = .ok (.iload_n 2, 1) := by decide +kernel
theorem dX10_far_46 : decode cX10_far 46 = .ok (.invokestatic 214, 3) := by decide +kernel
theorem dX10_far_49 : decode cX10_far 49 = .ok (.iaload, 1) := by decide +kernel
theorem dX10_far_50 : decode cX10_far 50 = .ok (.ldc 167, 2) := by decide +kernel
theorem dX10_far_52 : decode cX10_far 52 = .ok (.if_icmp .ne 8, 3) := by decide +kernel
theorem dX10_far_55 : decode cX10_far 55 = .ok (.bipush (-9), 2) := by decide +kernel
theorem dX10_far_57 : decode cX10_far 57 = .ok (.goto 13, 3) := by decide +kernel
theorem dX10_far_60 : decode cX10_far 60 = .ok (.aload_n 0, 1) := by decide +kernel
theorem dX10_far_61 : decode cX10_far 61 = .ok (.getfield 62, 3) := by decide +kernel
theorem dX10_far_64 : decode cX10_far 64 = .ok (.iload_n 1, 1) := by decide +kernel
theorem dX10_far_65 : decode cX10_far 65 = .ok (.iload_n 2, 1) := by decide +kernel
theorem dX10_far_66 : decode cX10_far 66 = .ok (.invokestatic 214, 3) := by decide +kernel
theorem dX10_far_69 : decode cX10_far 69 = .ok (.iaload, 1) := by decide +kernel
theorem dX10_far_70 : decode cX10_far 70 = .ok (.ireturn, 1) := by decide +kernel
theorem dX10_by_0 : decode cX10_by 0 = .ok (.aload_n 0, 1) := by decide +kernel
theorem dX10_by_1 : decode cX10_by 1 = .ok (.iconst 0, 1) := by decide +kernel
theorem dX10_by_2 : decode cX10_by 2 = .ok (.putfield 89, 3) := by decide +kernel
theorem dX10_by_5 : decode cX10_by 5 = .ok (.aload_n 0, 1) := by decide +kernel
theorem dX10_by_6 : decode cX10_by 6 = .ok (.iload_n 1, 1) := by decide +kernel
theorem dX10_by_7 : decode cX10_by 7 = .ok (.invokevirtual 188, 3) := by decide +kernel
theorem dX10_by_10 : decode cX10_by 10 = .ok (.ifCond .eq 16, 3) := by decide +kernel
theorem dX10_by_13 : decode cX10_by 13 = .ok (.aload_n 0, 1) := by decide +kernel
theorem dX10_by_14 : decode cX10_by 14 = .ok (.iload_n 2, 1) := by decide +kernel
theorem dX10_by_15 : decode cX10_by 15 = .ok (.invokevirtual 188, 3) := by decide +kernel
theorem dX10_by_18 : decode cX10_by 18 = .ok (.ifCond .eq 8, 3) := by decide +kernel
theorem dX10_by_21 : decode cX10_by 21 = .ok (.iload_n 1, 1) := by decide +kernel
theorem dX10_by_22 : decode cX10_by 22 = .ok (.iload_n 2, 1) := by decide +kernel
theorem dX10_by_23 : decode cX10_by 23 = .ok (.if_icmp .ne 5, 3) := by decide +kernel
theorem dX10_by_26 : decode cX10_by 26 = .ok (.iconst (-1), 1) := by decide +kernel
theorem dX10_by_27 : decode cX10_by 27 = .ok (.ireturn, 1) := by decide +kernel
theorem dX10_by_28 : decode cX10_by 28 = .ok (.aload_n 0, 1) := by decide +kernel
theorem dX10_by_29 : decode cX10_by 29 = .ok (.aload_n 0, 1) := by decide +kernel
theorem dX10_by_30 : decode cX10_by 30 = .ok (.getfield 28, 3) := by decide +kernel
theorem dX10_by_33 : decode cX10_by 33 = .ok (.invokevirtual 181, 3) := by decide +kernel
theorem dX10_by_36 : decode cX10_by 36 = .ok (.iconst 0, 1) := by decide +kernel
theorem dX10_by_37 : decode cX10_by 37 = .ok (.istore_n 3, 1) := by decide +kernel
theorem dX10_by_38 : decode cX10_by 38 = .ok (.iconst 1, 1) := by decide +kernel
theorem dX10_by_39 : decode cX10_by 39 = .ok (.istore 4, 2) := by decide +kernel
theorem dX10_by_41 : decode cX10_by 41 = .ok (.iload 4, 2) := by decide +kernel
theorem dX10_by_43 : decode cX10_by 43 = .ok (.bipush 64, 2) := by decide +kernel
theorem dX10_by_45 : decode cX10_by 45 = .ok (.if_icmp .ge 41, 3) := by decide +kernel
theorem dX10_by_48 : decode cX10_by 48 = .ok (.iload_n 3, 1) := by decide +kernel
theorem dX10_by_49 : decode cX10_by 49 = .ok (.aload_n 0, 1) := by decide +kernel
theorem dX10_by_50 : decode cX10_by 50 = .ok (.getfield 47, 3) := by decide +kernel
theorem dX10_by_53 : decode cX10_by 53 = .ok (.iload 4, 2) := by decide +kernel
theorem dX10_by_55 : decode cX10_by 55 = .ok (.iaload, 1) := by decide +kernel
theorem dX10_by_56 : decode cX10_by 56 = .ok (.iload_n 1, 1) := by decide +kernel
theorem dX10_by_57 : decode cX10_by 57 = .ok (.iload_n 2, 1) := by decide +kernel
theorem dX10_by_58 : decode cX10_by 58 = .ok (.invokestatic 214, 3) := by decide +kernel
theorem dX10_by_61 : decode cX10_by 61 = .ok (.if_icmp .ne 16, 3) := by decide +kernel
theorem dX10_by_64 : decode cX10_by 64 = .ok (.aload_n 0, 1) := by decide +kernel
theorem dX10_by_65 : decode cX10_by 65 = .ok (.iload 4, 2) := by decide +kernel
theorem dX10_by_67 : decode cX10_by 67 = .ok (.invokevirtual 185, 3) := by decide +kernel
theorem dX10_by_70 : decode cX10_by 70 = .ok (.ifCond .eq 7, 3) := by decide +kernel
theorem dX10_by_73 : decode cX10_by 73 = .ok (.iconst 1, 1) := by decide +kernel
theorem dX10_by_74 : decode cX10_by 74 = .ok (.goto 4, 3) := by decide +kernel
theorem dX10_by_77 : decode cX10_by 77 = .ok (.iconst 0, 1) := by decide +kernel
theorem dX10_by_78 : decode cX10_by 78 = .ok (.iadd, 1) := by decide +kernel
theorem dX10_by_79 : decode cX10_by 79 = .ok (.istore_n 3, 1) := by decide +kernel
theorem dX10_by_80 : decode cX10_by 80 = .ok (.iinc 4 1, 3) := by decide +kernel
theorem dX10_by_83 : decode cX10_by 83 = .ok (.goto (-42), 3) := by decide +kernel
theorem dX10_by_86 : decode cX10_by 86 = .ok (.iload_n 3, 1) := by decide +kernel
theorem dX10_by_87 : decode cX10_by 87 = .ok (.ireturn, 1) := by decide +kernel
theorem dX10_knot_0 : decode cX10_knot 0 = .ok (.aload_n 0, 1) := by decide +kernel
theorem dX10_knot_1 : decode cX10_knot 1 = .ok (.iconst 0, 1) := by decide +kernel
theorem dX10_knot_2 : decode cX10_knot 2 = .ok (.putfield 89, 3) := by decide +kernel
theorem dX10_knot_5 : decode cX10_knot 5 = .ok (.aload_n 0, 1) := by decide +kernel
theorem dX10_knot_6 : decode cX10_knot 6 = .ok (.iload_n 1, 1) := by decide +kernel
theorem dX10_knot_7 : decode cX10_knot 7 = .ok (.invokevirtual 188, 3) := by decide +kernel
theorem dX10_knot_10 : decode cX10_knot 10 = .ok (.ifCond .ne 5, 3) := by decide +kernel
theorem dX10_knot_13 : decode cX10_knot 13 = .ok (.iconst (-1), 1) := by decide +kernel
theorem dX10_knot_14 : decode cX10_knot 14 = .ok (.ireturn, 1) := by decide +kernel
theorem dX10_knot_15 : decode cX10_knot 15 = .ok (.iconst 0, 1) := by decide +kernel
theorem dX10_knot_16 : decode cX10_knot 16 = .ok (.istore_n 2, 1) := by decide +kernel
theorem dX10_knot_17 : decode cX10_knot 17 = .ok (.iconst 0, 1) := by decide +kernel
theorem dX10_knot_18 : decode cX10_knot 18 = .ok (.istore_n 3, 1) := by decide +kernel
theorem dX10_knot_19 : decode cX10_knot 19 = .ok (.iload_n 3, 1) := by decide +kernel
theorem dX10_knot_20 : decode cX10_knot 20 = .ok (.aload_n 0, 1) := by decide +kernel
theorem dX10_knot_21 : decode cX10_knot 21 = .ok (.getfield 13, 3) := by decide +kernel
theorem dX10_knot_24 : decode cX10_knot 24 = .ok (.iconst 1, 1) := by decide +kernel
theorem dX10_knot_25 : decode cX10_knot 25 = .ok (.iaload, 1) := by decide +kernel
theorem dX10_knot_26 : decode cX10_knot 26 = .ok (.if_icmp .ge 51, 3) := by decide +kernel
theorem dX10_knot_29 : decode cX10_knot 29 = .ok (.iload_n 2, 1) := by decide +kernel
theorem dX10_knot_30 : decode cX10_knot 30 = .ok (.aload_n 0, 1) := by decide +kernel
theorem dX10_knot_31 : decode cX10_knot 31 = .ok (.getfield 16, 3) := by decide +kernel
theorem dX10_knot_34 : decode cX10_knot 34 = .ok (.iload_n 3, 1) := by decide +kernel
theorem dX10_knot_35 : decode cX10_knot 35 = .ok (.iaload, 1) := by decide +kernel
theorem dX10_knot_36 : decode cX10_knot 36 = .ok (.iload_n 1, 1) := by decide +kernel
theorem dX10_knot_37 : decode cX10_knot 37 = .ok (.if_icmp .eq 13, 3) := by decide +kernel
theorem dX10_knot_40 : decode cX10_knot 40 = .ok (.aload_n 0, 1) := by decide +kernel
theorem dX10_knot_41 : decode cX10_knot 41 = .ok (.getfield 19, 3) := by decide +kernel
theorem dX10_knot_44 : decode cX10_knot 44 = .ok (.iload_n 3, 1) := by decide +kernel
theorem dX10_knot_45 : decode cX10_knot 45 = .ok (.iaload, 1) := by decide +kernel
theorem dX10_knot_46 : decode cX10_knot 46 = .ok (.iload_n 1, 1) := by decide +kernel
theorem dX10_knot_47 : decode cX10_knot 47 = .ok (.if_icmp .ne 21, 3) := by decide +kernel
theorem dX10_knot_50 : decode cX10_knot 50 = .ok (.aload_n 0, 1) := by decide +kernel
theorem dX10_knot_51 : decode cX10_knot 51 = .ok (.getfield 22, 3) := by decide +kernel
theorem dX10_knot_54 : decode cX10_knot 54 = .ok (.iload_n 3, 1) := by decide +kernel
theorem dX10_knot_55 : decode cX10_knot 55 = .ok (.iaload, 1) := by decide +kernel
theorem dX10_knot_56 : decode cX10_knot 56 = .ok (.aload_n 0, 1) := by decide +kernel
theorem dX10_knot_57 : decode cX10_knot 57 = .ok (.getfield 28, 3) := by decide +kernel
theorem dX10_knot_60 : decode cX10_knot 60 = .ok (.iconst 0, 1) := by decide +kernel
theorem dX10_knot_61 : decode cX10_knot 61 = .ok (.iload_n 3, 1) := by decide +kernel
theorem dX10_knot_62 : decode cX10_knot 62 = .ok (.iadd, 1) := by decide +kernel
theorem dX10_knot_63 : decode cX10_knot 63 = .ok (.iaload, 1) := by decide +kernel
theorem dX10_knot_64 : decode cX10_knot 64 = .ok (.imul, 1) := by decide +kernel
theorem dX10_knot_65 : decode cX10_knot 65 = .ok (.goto 4, 3) := by decide +kernel
theorem dX10_knot_68 : decode cX10_knot 68 = .ok (.iconst 0, 1) := by decide +kernel
theorem dX10_knot_69 : decode cX10_knot 69 = .ok (.iadd, 1) := by decide +kernel
theorem dX10_knot_70 : decode cX10_knot 70 = .ok (.istore_n 2, 1) := by decide +kernel
theorem dX10_knot_71 : decode cX10_knot 71 = .ok (.iinc 3 1, 3) := by decide +kernel
theorem dX10_knot_74 : decode cX10_knot 74 = .ok (.goto (-55), 3) := by decide +kernel
theorem dX10_knot_77 : decode cX10_knot 77 = .ok (.iload_n 2, 1) := by decide +kernel
theorem dX10_knot_78 : decode cX10_knot 78 = .ok (.ireturn, 1) := by decide +kernel
theorem dX10_draftLanes_0 : decode cX10_draftLanes 0 = .ok (.aload_n 0, 1) := by decide +kernel
theorem dX10_draftLanes_1 : decode cX10_draftLanes 1 = .ok (.getfield 28, 3) := by decide +kernel
theorem dX10_draftLanes_4 : decode cX10_draftLanes 4 = .ok (.bipush 36, 2) := by decide +kernel
theorem dX10_draftLanes_6 : decode cX10_draftLanes 6 = .ok (.iaload, 1) := by decide +kernel
theorem dX10_draftLanes_7 : decode cX10_draftLanes 7 = .ok (.iconst 2, 1) := by decide +kernel
theorem dX10_draftLanes_8 : decode cX10_draftLanes 8 = .ok (.if_icmp .ge 7, 3) := by decide +kernel
theorem dX10_draftLanes_11 : decode cX10_draftLanes 11 = .ok (.iconst 0, 1) := by decide +kernel
theorem dX10_draftLanes_12 : decode cX10_draftLanes 12 = .ok (.goto 16, 3) := by decide +kernel
theorem dX10_draftLanes_15 : decode cX10_draftLanes 15 = .ok (.aload_n 0, 1) := by decide +kernel
theorem dX10_draftLanes_16 : decode cX10_draftLanes 16 = .ok (.bipush 31, 2) := by decide +kernel
theorem dX10_draftLanes_18 : decode cX10_draftLanes 18 = .ok (.aload_n 0, 1) := by decide +kernel
theorem dX10_draftLanes_19 : decode cX10_draftLanes 19 = .ok (.getfield 28, 3) := by decide +kernel
theorem dX10_draftLanes_22 : decode cX10_draftLanes 22 = .ok (.bipush 36, 2) := by decide +kernel
theorem dX10_draftLanes_24 : decode cX10_draftLanes 24 = .ok (.iaload, 1) := by decide +kernel
theorem dX10_draftLanes_25 : decode cX10_draftLanes 25 = .ok (.invokevirtual 164, 3) := by decide +kernel
theorem dX10_draftLanes_28 : decode cX10_draftLanes 28 = .ok (.ireturn, 1) := by decide +kernel
theorem dX10_allMaps_0 : decode cX10_allMaps 0 = .ok (.iconst 1, 1) := by decide +kernel
theorem dX10_allMaps_1 : decode cX10_allMaps 1 = .ok (.aload_n 0, 1) := by decide +kernel
theorem dX10_allMaps_2 : decode cX10_allMaps 2 = .ok (.getfield 28, 3) := by decide +kernel
theorem dX10_allMaps_5 : decode cX10_allMaps 5 = .ok (.bipush 6, 2) := by decide +kernel
theorem dX10_allMaps_7 : decode cX10_allMaps 7 = .ok (.iaload, 1) := by decide +kernel
theorem dX10_allMaps_8 : decode cX10_allMaps 8 = .ok (.ishl, 1) := by decide +kernel
theorem dX10_allMaps_9 : decode cX10_allMaps 9 = .ok (.iconst 1, 1) := by decide +kernel
theorem dX10_allMaps_10 : decode cX10_allMaps 10 = .ok (.isub, 1) := by decide +kernel
theorem dX10_allMaps_11 : decode cX10_allMaps 11 = .ok (.ireturn, 1) := by decide +kernel
theorem dX10_steps_0 : decode cX10_steps 0 = .ok (.aload_n 0, 1) := by decide +kernel
theorem dX10_steps_1 : decode cX10_steps 1 = .ok (.getfield 13, 3) := by decide +kernel
theorem dX10_steps_4 : decode cX10_steps 4 = .ok (.iconst 1, 1) := by decide +kernel
theorem dX10_steps_5 : decode cX10_steps 5 = .ok (.iaload, 1) := by decide +kernel
theorem dX10_steps_6 : decode cX10_steps 6 = .ok (.iconst 1, 1) := by decide +kernel
theorem dX10_steps_7 : decode cX10_steps 7 = .ok (.isub, 1) := by decide +kernel
theorem dX10_steps_8 : decode cX10_steps 8 = .ok (.istore_n 1, 1) := by decide +kernel
theorem dX10_steps_9 : decode cX10_steps 9 = .ok (.iload_n 1, 1) := by decide +kernel
theorem dX10_steps_10 : decode cX10_steps 10 = .ok (.ifCond .lt 26, 3) := by decide +kernel
theorem dX10_steps_13 : decode cX10_steps 13 = .ok (.aload_n 0, 1) := by decide +kernel
theorem dX10_steps_14 : decode cX10_steps 14 = .ok (.getfield 65, 3) := by decide +kernel
theorem dX10_steps_17 : decode cX10_steps 17 = .ok (.iload_n 1, 1) := by decide +kernel
theorem dX10_steps_18 : decode cX10_steps 18 = .ok (.iaload, 1) := by decide +kernel
theorem dX10_steps_19 : decode cX10_steps 19 = .ok (.iconst 5, 1) := by decide +kernel
theorem dX10_steps_20 : decode cX10_steps 20 = .ok (.if_icmp .ne 16, 3) := by decide +kernel
theorem dX10_steps_23 : decode cX10_steps 23 = .ok (.aload_n 0, 1) := by decide +kernel
theorem dX10_steps_24 : decode cX10_steps 24 = .ok (.getfield 65, 3) := by decide +kernel
theorem dX10_steps_27 : decode cX10_steps 27 = .ok (.iload_n 1, 1) := by decide +kernel
theorem dX10_steps_28 : decode cX10_steps 28 = .ok (.iconst 1, 1) := by decide +kernel
theorem dX10_steps_29 : decode cX10_steps 29 = .ok (.iastore, 1) := by decide +kernel
theorem dX10_steps_30 : decode cX10_steps 30 = .ok (.iinc 1 (-1), 3) := by decide +kernel
theorem dX10_steps_33 : decode cX10_steps 33 = .ok (.goto (-24), 3) := by decide +kernel
theorem dX10_steps_36 : decode cX10_steps 36 = .ok (.iload_n 1, 1) := by decide +kernel
theorem dX10_steps_37 : decode cX10_steps 37 = .ok (.ifCond .lt 13, 3) := by decide +kernel
theorem dX10_steps_40 : decode cX10_steps 40 = .ok (.aload_n 0, 1) := by decide +kernel
theorem dX10_steps_41 : decode cX10_steps 41 = .ok (.getfield 65, 3) := by decide +kernel
theorem dX10_steps_44 : decode cX10_steps 44 = .ok (.iload_n 1, 1) := by decide +kernel
theorem dX10_steps_45 : decode cX10_steps 45 = .ok (.dup2, 1) := by decide +kernel
theorem dX10_steps_46 : decode cX10_steps 46 = .ok (.iaload, 1) := by decide +kernel
theorem dX10_steps_47 : decode cX10_steps 47 = .ok (.iconst 1, 1) := by decide +kernel
theorem dX10_steps_48 : decode cX10_steps 48 = .ok (.iadd, 1) := by decide +kernel
theorem dX10_steps_49 : decode cX10_steps 49 = .ok (.iastore, 1) := by decide +kernel
theorem dX10_steps_50 : decode cX10_steps 50 = .ok (.iload_n 1, 1) := by decide +kernel
theorem dX10_steps_51 : decode cX10_steps 51 = .ok (.ifCond .lt 7, 3) := by decide +kernel
theorem dX10_steps_54 : decode cX10_steps 54 = .ok (.iconst 1, 1) := by decide +kernel
theorem dX10_steps_55 : decode cX10_steps 55 = .ok (.goto 4, 3) := by decide +kernel
theorem dX10_steps_58 : decode cX10_steps 58 = .ok (.iconst 0, 1) := by decide +kernel
theorem dX10_steps_59 : decode cX10_steps 59 = .ok (.ireturn, 1) := by decide +kernel
theorem dX10_scans_0 : decode cX10_scans 0 = .ok (.iconst 0, 1) := by decide +kernel
theorem dX10_scans_1 : decode cX10_scans 1 = .ok (.istore_n 2, 1) := by decide +kernel
theorem dX10_scans_2 : decode cX10_scans 2 = .ok (.iload_n 2, 1) := by decide +kernel
theorem dX10_scans_3 : decode cX10_scans 3 = .ok (.bipush 16, 2) := by decide +kernel
theorem dX10_scans_5 : decode cX10_scans 5 = .ok (.if_icmp .ge 17, 3) := by decide +kernel
theorem dX10_scans_8 : decode cX10_scans 8 = .ok (.aload_n 0, 1) := by decide +kernel
theorem dX10_scans_9 : decode cX10_scans 9 = .ok (.getfield 68, 3) := by decide +kernel
theorem dX10_scans_12 : decode cX10_scans 12 = .ok (.iload_n 2, 1) := by decide +kernel
theorem dX10_scans_13 : decode cX10_scans 13 = .ok (.ldc 167, 2) := by decide +kernel
theorem dX10_scans_15 : decode cX10_scans 15 = .ok (.iastore, 1) := by decide +kernel
theorem dX10_scans_16 : decode cX10_scans 16 = .ok (.iinc 2 1, 3) := by decide +kernel
theorem dX10_scans_19 : decode cX10_scans 19 = .ok (.goto (-17), 3) := by decide +kernel
theorem dX10_scans_22 : decode cX10_scans 22 = .ok (.iconst 0, 1) := by decide +kernel
theorem dX10_scans_23 : decode cX10_scans 23 = .ok (.istore_n 2, 1) := by decide +kernel
theorem dX10_scans_24 : decode cX10_scans 24 = .ok (.iload_n 2, 1) := by decide +kernel
theorem dX10_scans_25 : decode cX10_scans 25 = .ok (.bipush 64, 2) := by decide +kernel
theorem dX10_scans_27 : decode cX10_scans 27 = .ok (.if_icmp .ge 17, 3) := by decide +kernel
theorem dX10_scans_30 : decode cX10_scans 30 = .ok (.aload_n 0, 1) := by decide +kernel
theorem dX10_scans_31 : decode cX10_scans 31 = .ok (.getfield 74, 3) := by decide +kernel
theorem dX10_scans_34 : decode cX10_scans 34 = .ok (.iload_n 2, 1) := by decide +kernel
theorem dX10_scans_35 : decode cX10_scans 35 = .ok (.ldc 167, 2) := by decide +kernel
theorem dX10_scans_37 : decode cX10_scans 37 = .ok (.iastore, 1) := by decide +kernel
theorem dX10_scans_38 : decode cX10_scans 38 = .ok (.iinc 2 1, 3) := by decide +kernel
theorem dX10_scans_41 : decode cX10_scans 41 = .ok (.goto (-17), 3) := by decide +kernel
theorem dX10_scans_44 : decode cX10_scans 44 = .ok (.iconst 0, 1) := by decide +kernel
theorem dX10_scans_45 : decode cX10_scans 45 = .ok (.istore_n 2, 1) := by decide +kernel
theorem dX10_scans_46 : decode cX10_scans 46 = .ok (.iload_n 2, 1) := by decide +kernel
theorem dX10_scans_47 : decode cX10_scans 47 = .ok (.bipush 6, 2) := by decide +kernel
theorem dX10_scans_49 : decode cX10_scans 49 = .ok (.if_icmp .ge 16, 3) := by decide +kernel
theorem dX10_scans_52 : decode cX10_scans 52 = .ok (.aload_n 0, 1) := by decide +kernel
theorem dX10_scans_53 : decode cX10_scans 53 = .ok (.getfield 65, 3) := by decide +kernel
theorem dX10_scans_56 : decode cX10_scans 56 = .ok (.iload_n 2, 1) := by decide +kernel
theorem dX10_scans_57 : decode cX10_scans 57 = .ok (.iconst 1, 1) := by decide +kernel
theorem dX10_scans_58 : decode cX10_scans 58 = .ok (.iastore, 1) := by decide +kernel
theorem dX10_scans_59 : decode cX10_scans 59 = .ok (.iinc 2 1, 3) := by decide +kernel
theorem dX10_scans_62 : decode cX10_scans 62 = .ok (.goto (-16), 3) := by decide +kernel
theorem dX10_scans_65 : decode cX10_scans 65 = .ok (.iconst 0, 1) := by decide +kernel
theorem dX10_scans_66 : decode cX10_scans 66 = .ok (.istore_n 2, 1) := by decide +kernel
theorem dX10_scans_67 : decode cX10_scans 67 = .ok (.iload_n 2, 1) := by decide +kernel
theorem dX10_scans_68 : decode cX10_scans 68 = .ok (.aload_n 0, 1) := by decide +kernel
theorem dX10_scans_69 : decode cX10_scans 69 = .ok (.getfield 28, 3) := by decide +kernel
theorem dX10_scans_72 : decode cX10_scans 72 = .ok (.bipush 6, 2) := by decide +kernel
theorem dX10_scans_74 : decode cX10_scans 74 = .ok (.iaload, 1) := by decide +kernel
theorem dX10_scans_75 : decode cX10_scans 75 = .ok (.if_icmp .ge 20, 3) := by decide +kernel
theorem dX10_scans_78 : decode cX10_scans 78 = .ok (.aload_n 0, 1) := by decide +kernel
theorem dX10_scans_79 : decode cX10_scans 79 = .ok (.getfield 59, 3) := by decide +kernel
theorem dX10_scans_82 : decode cX10_scans 82 = .ok (.iload_n 2, 1) := by decide +kernel
theorem dX10_scans_83 : decode cX10_scans 83 = .ok (.aload_n 0, 1) := by decide +kernel
theorem dX10_scans_84 : decode cX10_scans 84 = .ok (.iload_n 2, 1) := by decide +kernel
theorem dX10_scans_85 : decode cX10_scans 85 = .ok (.invokevirtual 168, 3) := by decide +kernel
theorem dX10_scans_88 : decode cX10_scans 88 = .ok (.iastore, 1) := by decide +kernel
theorem dX10_scans_89 : decode cX10_scans 89 = .ok (.iinc 2 1, 3) := by decide +kernel
theorem dX10_scans_92 : decode cX10_scans 92 = .ok (.goto (-25), 3) := by decide +kernel
theorem dX10_scans_95 : decode cX10_scans 95 = .ok (.iconst 1, 1) := by decide +kernel
theorem dX10_scans_96 : decode cX10_scans 96 = .ok (.istore_n 2, 1) := by decide +kernel
theorem dX10_scans_97 : decode cX10_scans 97 = .ok (.iload_n 2, 1) := by decide +kernel
theorem dX10_scans_98 : decode cX10_scans 98 = .ok (.ifCond .eq 35, 3) := by decide +kernel
theorem dX10_scans_101 : decode cX10_scans 101 = .ok (.aload_n 0, 1) := by decide +kernel
theorem dX10_scans_102 : decode cX10_scans 102 = .ok (.aload_n 0, 1) := by decide +kernel
theorem dX10_scans_103 : decode cX10_scans 103 = .ok (.getfield 65, 3) := by decide +kernel
theorem dX10_scans_106 : decode cX10_scans 106 = .ok (.invokevirtual 181, 3) := by decide +kernel
theorem dX10_scans_109 : decode cX10_scans 109 = .ok (.iload_n 1, 1) := by decide +kernel
theorem dX10_scans_110 : decode cX10_scans 110 = .ok (.ifCond .eq 11, 3) := by decide +kernel
theorem dX10_scans_113 : decode cX10_scans 113 = .ok (.aload_n 0, 1) := by decide +kernel
theorem dX10_scans_114 : decode cX10_scans 114 = .ok (.iload_n 1, 1) := by decide +kernel
theorem dX10_scans_115 : decode cX10_scans 115 = .ok (.invokevirtual 185, 3) := by decide +kernel
theorem dX10_scans_118 : decode cX10_scans 118 = .ok (.ifCond .eq 7, 3) := by decide +kernel
theorem dX10_scans_121 : decode cX10_scans 121 = .ok (.aload_n 0, 1) := by decide +kernel
theorem dX10_scans_122 : decode cX10_scans 122 = .ok (.invokevirtual 217, 3) := by decide +kernel
theorem dX10_scans_125 : decode cX10_scans 125 = .ok (.aload_n 0, 1) := by decide +kernel
theorem dX10_scans_126 : decode cX10_scans 126 = .ok (.invokevirtual 220, 3) := by decide +kernel
theorem dX10_scans_129 : decode cX10_scans 129 = .ok (.istore_n 2, 1) := by decide +kernel
theorem dX10_scans_130 : decode cX10_scans 130 = .ok (.goto (-33), 3) := by decide +kernel
theorem dX10_scans_133 : decode cX10_scans 133 = .ok (.return_, 1) := by decide +kernel
theorem dX10_scansOne_0 : decode cX10_scansOne 0 = .ok (.iconst 0, 1) := by decide +kernel
end
section
theorem dX10_scansOne_1 : decode cX10_scansOne 1 = .ok (.istore_n 1, 1) := by decide +kernel
theorem dX10_scansOne_2 : decode cX10_scansOne 2 = .ok (.iconst 0, 1) := by decide +kernel
theorem dX10_scansOne_3 : decode cX10_scansOne 3 = .ok (.istore_n 2, 1) := by decide +kernel
theorem dX10_scansOne_4 : decode cX10_scansOne 4 = .ok (.iconst 0, 1) := by decide +kernel
theorem dX10_scansOne_5 : decode cX10_scansOne 5 = .ok (.istore_n 3, 1) := by decide +kernel
theorem dX10_scansOne_6 : decode cX10_scansOne 6 = .ok (.iload_n 3, 1) := by decide +kernel
theorem dX10_scansOne_7 : decode cX10_scansOne 7 = .ok (.aload_n 0, 1) := by decide +kernel
theorem dX10_scansOne_8 : decode cX10_scansOne 8 = .ok (.getfield 13, 3) := by decide +kernel
theorem dX10_scansOne_11 : decode cX10_scansOne 11 = .ok (.iconst 1, 1) := by decide +kernel
theorem dX10_scansOne_12 : decode cX10_scansOne 12 = .ok (.iaload, 1) := by decide +kernel
theorem dX10_scansOne_13 : decode cX10_scansOne 13 = .ok (.if_icmp .ge 36, 3) := by decide +kernel
theorem dX10_scansOne_16 : decode cX10_scansOne 16 = .ok (.iload_n 1, 1) := by decide +kernel
theorem dX10_scansOne_17 : decode cX10_scansOne 17 = .ok (.aload_n 0, 1) := by decide +kernel
theorem dX10_scansOne_18 : decode cX10_scansOne 18 = .ok (.getfield 22, 3) := by decide +kernel
theorem dX10_scansOne_21 : decode cX10_scansOne 21 = .ok (.iload_n 3, 1) := by decide +kernel
theorem dX10_scansOne_22 : decode cX10_scansOne 22 = .ok (.iaload, 1) := by decide +kernel
theorem dX10_scansOne_23 : decode cX10_scansOne 23 = .ok (.aload_n 0, 1) := by decide +kernel
theorem dX10_scansOne_24 : decode cX10_scansOne 24 = .ok (.getfield 65, 3) := by decide +kernel
theorem dX10_scansOne_27 : decode cX10_scansOne 27 = .ok (.iload_n 3, 1) := by decide +kernel
theorem dX10_scansOne_28 : decode cX10_scansOne 28 = .ok (.iaload, 1) := by decide +kernel
theorem dX10_scansOne_29 : decode cX10_scansOne 29 = .ok (.aload_n 0, 1) := by decide +kernel
theorem dX10_scansOne_30 : decode cX10_scansOne 30 = .ok (.getfield 28, 3) := by decide +kernel
theorem dX10_scansOne_33 : decode cX10_scansOne 33 = .ok (.iconst 0, 1) := by decide +kernel
theorem dX10_scansOne_34 : decode cX10_scansOne 34 = .ok (.iload_n 3, 1) := by decide +kernel
theorem dX10_scansOne_35 : decode cX10_scansOne 35 = .ok (.iadd, 1) := by decide +kernel
theorem dX10_scansOne_36 : decode cX10_scansOne 36 = .ok (.iaload, 1) := by decide +kernel
theorem dX10_scansOne_37 : decode cX10_scansOne 37 = .ok (.invokestatic 211, 3) := by decide +kernel
theorem dX10_scansOne_40 : decode cX10_scansOne 40 = .ok (.imul, 1) := by decide +kernel
theorem dX10_scansOne_41 : decode cX10_scansOne 41 = .ok (.iadd, 1) := by decide +kernel
theorem dX10_scansOne_42 : decode cX10_scansOne 42 = .ok (.istore_n 1, 1) := by decide +kernel
theorem dX10_scansOne_43 : decode cX10_scansOne 43 = .ok (.iinc 3 1, 3) := by decide +kernel
theorem dX10_scansOne_46 : decode cX10_scansOne 46 = .ok (.goto (-40), 3) := by decide +kernel
theorem dX10_scansOne_49 : decode cX10_scansOne 49 = .ok (.iconst 0, 1) := by decide +kernel
theorem dX10_scansOne_50 : decode cX10_scansOne 50 = .ok (.istore_n 3, 1) := by decide +kernel
theorem dX10_scansOne_51 : decode cX10_scansOne 51 = .ok (.iload_n 3, 1) := by decide +kernel
theorem dX10_scansOne_52 : decode cX10_scansOne 52 = .ok (.aload_n 0, 1) := by decide +kernel
theorem dX10_scansOne_53 : decode cX10_scansOne 53 = .ok (.getfield 28, 3) := by decide +kernel
theorem dX10_scansOne_56 : decode cX10_scansOne 56 = .ok (.bipush 6, 2) := by decide +kernel
theorem dX10_scansOne_58 : decode cX10_scansOne 58 = .ok (.iaload, 1) := by decide +kernel
theorem dX10_scansOne_59 : decode cX10_scansOne 59 = .ok (.if_icmp .ge 32, 3) := by decide +kernel
theorem dX10_scansOne_62 : decode cX10_scansOne 62 = .ok (.iload_n 2, 1) := by decide +kernel
theorem dX10_scansOne_63 : decode cX10_scansOne 63 = .ok (.aload_n 0, 1) := by decide +kernel
theorem dX10_scansOne_64 : decode cX10_scansOne 64 = .ok (.aload_n 0, 1) := by decide +kernel
theorem dX10_scansOne_65 : decode cX10_scansOne 65 = .ok (.getfield 59, 3) := by decide +kernel
theorem dX10_scansOne_68 : decode cX10_scansOne 68 = .ok (.iload_n 3, 1) := by decide +kernel
theorem dX10_scansOne_69 : decode cX10_scansOne 69 = .ok (.iaload, 1) := by decide +kernel
theorem dX10_scansOne_70 : decode cX10_scansOne 70 = .ok (.invokevirtual 185, 3) := by decide +kernel
theorem dX10_scansOne_73 : decode cX10_scansOne 73 = .ok (.ifCond .eq 9, 3) := by decide +kernel
theorem dX10_scansOne_76 : decode cX10_scansOne 76 = .ok (.iconst 1, 1) := by decide +kernel
theorem dX10_scansOne_77 : decode cX10_scansOne 77 = .ok (.iload_n 3, 1) := by decide +kernel
theorem dX10_scansOne_78 : decode cX10_scansOne 78 = .ok (.ishl, 1) := by decide +kernel
theorem dX10_scansOne_79 : decode cX10_scansOne 79 = .ok (.goto 4, 3) := by decide +kernel
theorem dX10_scansOne_82 : decode cX10_scansOne 82 = .ok (.iconst 0, 1) := by decide +kernel
theorem dX10_scansOne_83 : decode cX10_scansOne 83 = .ok (.ior, 1) := by decide +kernel
theorem dX10_scansOne_84 : decode cX10_scansOne 84 = .ok (.istore_n 2, 1) := by decide +kernel
theorem dX10_scansOne_85 : decode cX10_scansOne 85 = .ok (.iinc 3 1, 3) := by decide +kernel
theorem dX10_scansOne_88 : decode cX10_scansOne 88 = .ok (.goto (-37), 3) := by decide +kernel
theorem dX10_scansOne_91 : decode cX10_scansOne 91 = .ok (.iload_n 2, 1) := by decide +kernel
theorem dX10_scansOne_92 : decode cX10_scansOne 92 = .ok (.aload_n 0, 1) := by decide +kernel
theorem dX10_scansOne_93 : decode cX10_scansOne 93 = .ok (.invokevirtual 202, 3) := by decide +kernel
theorem dX10_scansOne_96 : decode cX10_scansOne 96 = .ok (.if_icmp .ne 109, 3) := by decide +kernel
theorem dX10_scansOne_99 : decode cX10_scansOne 99 = .ok (.iconst 0, 1) := by decide +kernel
theorem dX10_scansOne_100 : decode cX10_scansOne 100 = .ok (.istore_n 3, 1) := by decide +kernel
theorem dX10_scansOne_101 : decode cX10_scansOne 101 = .ok (.iload_n 3, 1) := by decide +kernel
theorem dX10_scansOne_102 : decode cX10_scansOne 102 = .ok (.bipush 6, 2) := by decide +kernel
theorem dX10_scansOne_104 : decode cX10_scansOne 104 = .ok (.if_icmp .ge 31, 3) := by decide +kernel
theorem dX10_scansOne_107 : decode cX10_scansOne 107 = .ok (.iload_n 1, 1) := by decide +kernel
theorem dX10_scansOne_108 : decode cX10_scansOne 108 = .ok (.aload_n 0, 1) := by decide +kernel
theorem dX10_scansOne_109 : decode cX10_scansOne 109 = .ok (.getfield 68, 3) := by decide +kernel
theorem dX10_scansOne_112 : decode cX10_scansOne 112 = .ok (.iload_n 2, 1) := by decide +kernel
theorem dX10_scansOne_113 : decode cX10_scansOne 113 = .ok (.iaload, 1) := by decide +kernel
theorem dX10_scansOne_114 : decode cX10_scansOne 114 = .ok (.if_icmp .ge 21, 3) := by decide +kernel
theorem dX10_scansOne_117 : decode cX10_scansOne 117 = .ok (.aload_n 0, 1) := by decide +kernel
theorem dX10_scansOne_118 : decode cX10_scansOne 118 = .ok (.getfield 71, 3) := by decide +kernel
theorem dX10_scansOne_121 : decode cX10_scansOne 121 = .ok (.iload_n 3, 1) := by decide +kernel
theorem dX10_scansOne_122 : decode cX10_scansOne 122 = .ok (.aload_n 0, 1) := by decide +kernel
theorem dX10_scansOne_123 : decode cX10_scansOne 123 = .ok (.getfield 65, 3) := by decide +kernel
theorem dX10_scansOne_126 : decode cX10_scansOne 126 = .ok (.iload_n 3, 1) := by decide +kernel
theorem dX10_scansOne_127 : decode cX10_scansOne 127 = .ok (.iaload, 1) := by decide +kernel
theorem dX10_scansOne_128 : decode cX10_scansOne 128 = .ok (.iastore, 1) := by decide +kernel
theorem dX10_scansOne_129 : decode cX10_scansOne 129 = .ok (.iinc 3 1, 3) := by decide +kernel
theorem dX10_scansOne_132 : decode cX10_scansOne 132 = .ok (.goto (-31), 3) := by decide +kernel
theorem dX10_scansOne_135 : decode cX10_scansOne 135 = .ok (.iconst 0, 1) := by decide +kernel
theorem dX10_scansOne_136 : decode cX10_scansOne 136 = .ok (.istore_n 3, 1) := by decide +kernel
theorem dX10_scansOne_137 : decode cX10_scansOne 137 = .ok (.iload_n 3, 1) := by decide +kernel
theorem dX10_scansOne_138 : decode cX10_scansOne 138 = .ok (.aload_n 0, 1) := by decide +kernel
theorem dX10_scansOne_139 : decode cX10_scansOne 139 = .ok (.getfield 152, 3) := by decide +kernel
theorem dX10_scansOne_142 : decode cX10_scansOne 142 = .ok (.if_icmp .ge 63, 3) := by decide +kernel
theorem dX10_scansOne_145 : decode cX10_scansOne 145 = .ok (.aload_n 0, 1) := by decide +kernel
theorem dX10_scansOne_146 : decode cX10_scansOne 146 = .ok (.getfield 74, 3) := by decide +kernel
theorem dX10_scansOne_149 : decode cX10_scansOne 149 = .ok (.aload_n 0, 1) := by decide +kernel
theorem dX10_scansOne_150 : decode cX10_scansOne 150 = .ok (.getfield 56, 3) := by decide +kernel
theorem dX10_scansOne_153 : decode cX10_scansOne 153 = .ok (.iload_n 3, 1) := by decide +kernel
theorem dX10_scansOne_154 : decode cX10_scansOne 154 = .ok (.iaload, 1) := by decide +kernel
theorem dX10_scansOne_155 : decode cX10_scansOne 155 = .ok (.aload_n 0, 1) := by decide +kernel
theorem dX10_scansOne_156 : decode cX10_scansOne 156 = .ok (.aload_n 0, 1) := by decide +kernel
theorem dX10_scansOne_157 : decode cX10_scansOne 157 = .ok (.getfield 56, 3) := by decide +kernel
theorem dX10_scansOne_160 : decode cX10_scansOne 160 = .ok (.iload_n 3, 1) := by decide +kernel
theorem dX10_scansOne_161 : decode cX10_scansOne 161 = .ok (.iaload, 1) := by decide +kernel
theorem dX10_scansOne_162 : decode cX10_scansOne 162 = .ok (.invokevirtual 185, 3) := by decide +kernel
theorem dX10_scansOne_165 : decode cX10_scansOne 165 = .ok (.ifCond .eq 22, 3) := by decide +kernel
theorem dX10_scansOne_168 : decode cX10_scansOne 168 = .ok (.iload_n 1, 1) := by decide +kernel
theorem dX10_scansOne_169 : decode cX10_scansOne 169 = .ok (.aload_n 0, 1) := by decide +kernel
theorem dX10_scansOne_170 : decode cX10_scansOne 170 = .ok (.getfield 74, 3) := by decide +kernel
theorem dX10_scansOne_173 : decode cX10_scansOne 173 = .ok (.aload_n 0, 1) := by decide +kernel
theorem dX10_scansOne_174 : decode cX10_scansOne 174 = .ok (.getfield 56, 3) := by decide +kernel
theorem dX10_scansOne_177 : decode cX10_scansOne 177 = .ok (.iload_n 3, 1) := by decide +kernel
theorem dX10_scansOne_178 : decode cX10_scansOne 178 = .ok (.iaload, 1) := by decide +kernel
theorem dX10_scansOne_179 : decode cX10_scansOne 179 = .ok (.iaload, 1) := by decide +kernel
theorem dX10_scansOne_180 : decode cX10_scansOne 180 = .ok (.if_icmp .ge 7, 3) := by decide +kernel
theorem dX10_scansOne_183 : decode cX10_scansOne 183 = .ok (.iload_n 1, 1) := by decide +kernel
theorem dX10_scansOne_184 : decode cX10_scansOne 184 = .ok (.goto 14, 3) := by decide +kernel
theorem dX10_scansOne_187 : decode cX10_scansOne 187 = .ok (.aload_n 0, 1) := by decide +kernel
theorem dX10_scansOne_188 : decode cX10_scansOne 188 = .ok (.getfield 74, 3) := by decide +kernel
theorem dX10_scansOne_191 : decode cX10_scansOne 191 = .ok (.aload_n 0, 1) := by decide +kernel
theorem dX10_scansOne_192 : decode cX10_scansOne 192 = .ok (.getfield 56, 3) := by decide +kernel
theorem dX10_scansOne_195 : decode cX10_scansOne 195 = .ok (.iload_n 3, 1) := by decide +kernel
theorem dX10_scansOne_196 : decode cX10_scansOne 196 = .ok (.iaload, 1) := by decide +kernel
theorem dX10_scansOne_197 : decode cX10_scansOne 197 = .ok (.iaload, 1) := by decide +kernel
theorem dX10_scansOne_198 : decode cX10_scansOne 198 = .ok (.iastore, 1) := by decide +kernel
theorem dX10_scansOne_199 : decode cX10_scansOne 199 = .ok (.iinc 3 1, 3) := by decide +kernel
theorem dX10_scansOne_202 : decode cX10_scansOne 202 = .ok (.goto (-65), 3) := by decide +kernel
theorem dX10_scansOne_205 : decode cX10_scansOne 205 = .ok (.aload_n 0, 1) := by decide +kernel
theorem dX10_scansOne_206 : decode cX10_scansOne 206 = .ok (.getfield 68, 3) := by decide +kernel
theorem dX10_scansOne_209 : decode cX10_scansOne 209 = .ok (.iload_n 2, 1) := by decide +kernel
theorem dX10_scansOne_210 : decode cX10_scansOne 210 = .ok (.iload_n 1, 1) := by decide +kernel
theorem dX10_scansOne_211 : decode cX10_scansOne 211 = .ok (.aload_n 0, 1) := by decide +kernel
theorem dX10_scansOne_212 : decode cX10_scansOne 212 = .ok (.getfield 68, 3) := by decide +kernel
theorem dX10_scansOne_215 : decode cX10_scansOne 215 = .ok (.iload_n 2, 1) := by decide +kernel
theorem dX10_scansOne_216 : decode cX10_scansOne 216 = .ok (.iaload, 1) := by decide +kernel
theorem dX10_scansOne_217 : decode cX10_scansOne 217 = .ok (.if_icmp .ge 7, 3) := by decide +kernel
theorem dX10_scansOne_220 : decode cX10_scansOne 220 = .ok (.iload_n 1, 1) := by decide +kernel
theorem dX10_scansOne_221 : decode cX10_scansOne 221 = .ok (.goto 9, 3) := by decide +kernel
theorem dX10_scansOne_224 : decode cX10_scansOne 224 = .ok (.aload_n 0, 1) := by decide +kernel
theorem dX10_scansOne_225 : decode cX10_scansOne 225 = .ok (.getfield 68, 3) := by decide +kernel
theorem dX10_scansOne_228 : decode cX10_scansOne 228 = .ok (.iload_n 2, 1) := by decide +kernel
theorem dX10_scansOne_229 : decode cX10_scansOne 229 = .ok (.iaload, 1) := by decide +kernel
theorem dX10_scansOne_230 : decode cX10_scansOne 230 = .ok (.iastore, 1) := by decide +kernel
theorem dX10_scansOne_231 : decode cX10_scansOne 231 = .ok (.return_, 1) := by decide +kernel
theorem dX10_costOf_0 : decode cX10_costOf 0 = .ok (.ldc 167, 2) := by decide +kernel
theorem dX10_costOf_2 : decode cX10_costOf 2 = .ok (.istore_n 2, 1) := by decide +kernel
theorem dX10_costOf_3 : decode cX10_costOf 3 = .ok (.iconst 0, 1) := by decide +kernel
theorem dX10_costOf_4 : decode cX10_costOf 4 = .ok (.istore_n 3, 1) := by decide +kernel
theorem dX10_costOf_5 : decode cX10_costOf 5 = .ok (.iload_n 3, 1) := by decide +kernel
theorem dX10_costOf_6 : decode cX10_costOf 6 = .ok (.bipush 16, 2) := by decide +kernel
theorem dX10_costOf_8 : decode cX10_costOf 8 = .ok (.if_icmp .ge 38, 3) := by decide +kernel
theorem dX10_costOf_11 : decode cX10_costOf 11 = .ok (.iload_n 1, 1) := by decide +kernel
theorem dX10_costOf_12 : decode cX10_costOf 12 = .ok (.iload_n 3, 1) := by decide +kernel
theorem dX10_costOf_13 : decode cX10_costOf 13 = .ok (.iconst (-1), 1) := by decide +kernel
theorem dX10_costOf_14 : decode cX10_costOf 14 = .ok (.ixor, 1) := by decide +kernel
theorem dX10_costOf_15 : decode cX10_costOf 15 = .ok (.iand, 1) := by decide +kernel
theorem dX10_costOf_16 : decode cX10_costOf 16 = .ok (.ifCond .ne 22, 3) := by decide +kernel
theorem dX10_costOf_19 : decode cX10_costOf 19 = .ok (.aload_n 0, 1) := by decide +kernel
theorem dX10_costOf_20 : decode cX10_costOf 20 = .ok (.getfield 68, 3) := by decide +kernel
theorem dX10_costOf_23 : decode cX10_costOf 23 = .ok (.iload_n 3, 1) := by decide +kernel
theorem dX10_costOf_24 : decode cX10_costOf 24 = .ok (.iaload, 1) := by decide +kernel
theorem dX10_costOf_25 : decode cX10_costOf 25 = .ok (.iload_n 2, 1) := by decide +kernel
theorem dX10_costOf_26 : decode cX10_costOf 26 = .ok (.if_icmp .ge 12, 3) := by decide +kernel
theorem dX10_costOf_29 : decode cX10_costOf 29 = .ok (.aload_n 0, 1) := by decide +kernel
theorem dX10_costOf_30 : decode cX10_costOf 30 = .ok (.getfield 68, 3) := by decide +kernel
theorem dX10_costOf_33 : decode cX10_costOf 33 = .ok (.iload_n 3, 1) := by decide +kernel
theorem dX10_costOf_34 : decode cX10_costOf 34 = .ok (.iaload, 1) := by decide +kernel
theorem dX10_costOf_35 : decode cX10_costOf 35 = .ok (.goto 4, 3) := by decide +kernel
theorem dX10_costOf_38 : decode cX10_costOf 38 = .ok (.iload_n 2, 1) := by decide +kernel
theorem dX10_costOf_39 : decode cX10_costOf 39 = .ok (.istore_n 2, 1) := by decide +kernel
theorem dX10_costOf_40 : decode cX10_costOf 40 = .ok (.iinc 3 1, 3) := by decide +kernel
theorem dX10_costOf_43 : decode cX10_costOf 43 = .ok (.goto (-38), 3) := by decide +kernel
theorem dX10_costOf_46 : decode cX10_costOf 46 = .ok (.iload_n 2, 1) := by decide +kernel
theorem dX10_costOf_47 : decode cX10_costOf 47 = .ok (.ireturn, 1) := by decide +kernel
theorem dX10_asking_0 : decode cX10_asking 0 = .ok (.aload_n 0, 1) := by decide +kernel
theorem dX10_asking_1 : decode cX10_asking 1 = .ok (.iconst 0, 1) := by decide +kernel
theorem dX10_asking_2 : decode cX10_asking 2 = .ok (.putfield 89, 3) := by decide +kernel
theorem dX10_asking_5 : decode cX10_asking 5 = .ok (.iload_n 1, 1) := by decide +kernel
theorem dX10_asking_6 : decode cX10_asking 6 = .ok (.iconst (-1), 1) := by decide +kernel
theorem dX10_asking_7 : decode cX10_asking 7 = .ok (.if_icmp .eq 13, 3) := by decide +kernel
theorem dX10_asking_10 : decode cX10_asking 10 = .ok (.aload_n 0, 1) := by decide +kernel
theorem dX10_asking_11 : decode cX10_asking 11 = .ok (.iload_n 1, 1) := by decide +kernel
theorem dX10_asking_12 : decode cX10_asking 12 = .ok (.invokevirtual 171, 3) := by decide +kernel
theorem dX10_asking_15 : decode cX10_asking 15 = .ok (.ifCond .ne 5, 3) := by decide +kernel
theorem dX10_asking_18 : decode cX10_asking 18 = .ok (.iconst (-1), 1) := by decide +kernel
theorem dX10_asking_19 : decode cX10_asking 19 = .ok (.ireturn, 1) := by decide +kernel
theorem dX10_asking_20 : decode cX10_asking 20 = .ok (.aload_n 0, 1) := by decide +kernel
theorem dX10_asking_21 : decode cX10_asking 21 = .ok (.aload_n 0, 1) := by decide +kernel
theorem dX10_asking_22 : decode cX10_asking 22 = .ok (.invokevirtual 195, 3) := by decide +kernel
theorem dX10_asking_25 : decode cX10_asking 25 = .ok (.invokevirtual 199, 3) := by decide +kernel
theorem dX10_asking_28 : decode cX10_asking 28 = .ok (.aload_n 0, 1) := by decide +kernel
theorem dX10_asking_29 : decode cX10_asking 29 = .ok (.aload_n 0, 1) := by decide +kernel
theorem dX10_asking_30 : decode cX10_asking 30 = .ok (.invokevirtual 202, 3) := by decide +kernel
theorem dX10_asking_33 : decode cX10_asking 33 = .ok (.invokevirtual 205, 3) := by decide +kernel
theorem dX10_asking_36 : decode cX10_asking 36 = .ok (.istore_n 2, 1) := by decide +kernel
theorem dX10_asking_37 : decode cX10_asking 37 = .ok (.iload_n 2, 1) := by decide +kernel
theorem dX10_asking_38 : decode cX10_asking 38 = .ok (.ldc 167, 2) := by decide +kernel
theorem dX10_asking_40 : decode cX10_asking 40 = .ok (.if_icmp .ne 8, 3) := by decide +kernel
theorem dX10_asking_43 : decode cX10_asking 43 = .ok (.bipush (-9), 2) := by decide +kernel
theorem dX10_asking_45 : decode cX10_asking 45 = .ok (.goto 18, 3) := by decide +kernel
theorem dX10_asking_48 : decode cX10_asking 48 = .ok (.iload_n 1, 1) := by decide +kernel
theorem dX10_asking_49 : decode cX10_asking 49 = .ok (.iconst (-1), 1) := by decide +kernel
theorem dX10_asking_50 : decode cX10_asking 50 = .ok (.if_icmp .ne 7, 3) := by decide +kernel
theorem dX10_asking_53 : decode cX10_asking 53 = .ok (.iload_n 2, 1) := by decide +kernel
theorem dX10_asking_54 : decode cX10_asking 54 = .ok (.goto 9, 3) := by decide +kernel
theorem dX10_asking_57 : decode cX10_asking 57 = .ok (.aload_n 0, 1) := by decide +kernel
theorem dX10_asking_58 : decode cX10_asking 58 = .ok (.getfield 71, 3) := by decide +kernel
theorem dX10_asking_61 : decode cX10_asking 61 = .ok (.iload_n 1, 1) := by decide +kernel
theorem dX10_asking_62 : decode cX10_asking 62 = .ok (.iaload, 1) := by decide +kernel
theorem dX10_asking_63 : decode cX10_asking 63 = .ok (.ireturn, 1) := by decide +kernel
theorem dX10_clash_0 : decode cX10_clash 0 = .ok (.aload_n 0, 1) := by decide +kernel
theorem dX10_clash_1 : decode cX10_clash 1 = .ok (.iconst 0, 1) := by decide +kernel
theorem dX10_clash_2 : decode cX10_clash 2 = .ok (.putfield 89, 3) := by decide +kernel
theorem dX10_clash_5 : decode cX10_clash 5 = .ok (.aload_n 0, 1) := by decide +kernel
theorem dX10_clash_6 : decode cX10_clash 6 = .ok (.aload_n 0, 1) := by decide +kernel
theorem dX10_clash_7 : decode cX10_clash 7 = .ok (.invokevirtual 195, 3) := by decide +kernel
theorem dX10_clash_10 : decode cX10_clash 10 = .ok (.invokevirtual 199, 3) := by decide +kernel
theorem dX10_clash_13 : decode cX10_clash 13 = .ok (.iconst 0, 1) := by decide +kernel
theorem dX10_clash_14 : decode cX10_clash 14 = .ok (.istore_n 1, 1) := by decide +kernel
theorem dX10_clash_15 : decode cX10_clash 15 = .ok (.iconst 0, 1) := by decide +kernel
theorem dX10_clash_16 : decode cX10_clash 16 = .ok (.istore_n 2, 1) := by decide +kernel
theorem dX10_clash_17 : decode cX10_clash 17 = .ok (.iload_n 2, 1) := by decide +kernel
theorem dX10_clash_18 : decode cX10_clash 18 = .ok (.aload_n 0, 1) := by decide +kernel
theorem dX10_clash_19 : decode cX10_clash 19 = .ok (.invokevirtual 202, 3) := by decide +kernel
theorem dX10_clash_22 : decode cX10_clash 22 = .ok (.if_icmp .gt 50, 3) := by decide +kernel
theorem dX10_clash_25 : decode cX10_clash 25 = .ok (.iload_n 1, 1) := by decide +kernel
theorem dX10_clash_26 : decode cX10_clash 26 = .ok (.ifCond .eq 14, 3) := by decide +kernel
theorem dX10_clash_29 : decode cX10_clash 29 = .ok (.iload_n 2, 1) := by decide +kernel
theorem dX10_clash_30 : decode cX10_clash 30 = .ok (.invokestatic 223, 3) := by decide +kernel
theorem dX10_clash_33 : decode cX10_clash 33 = .ok (.iload_n 1, 1) := by decide +kernel
theorem dX10_clash_34 : decode cX10_clash 34 = .ok (.invokestatic 223, 3) := by decide +kernel
theorem dX10_clash_37 : decode cX10_clash 37 = .ok (.if_icmp .ge 7, 3) := by decide +kernel
theorem dX10_clash_40 : decode cX10_clash 40 = .ok (.iconst 1, 1) := by decide +kernel
theorem dX10_clash_41 : decode cX10_clash 41 = .ok (.goto 4, 3) := by decide +kernel
theorem dX10_clash_44 : decode cX10_clash 44 = .ok (.iconst 0, 1) := by decide +kernel
theorem dX10_clash_45 : decode cX10_clash 45 = .ok (.istore_n 3, 1) := by decide +kernel
theorem dX10_clash_46 : decode cX10_clash 46 = .ok (.iload_n 3, 1) := by decide +kernel
theorem dX10_clash_47 : decode cX10_clash 47 = .ok (.ifCond .eq 17, 3) := by decide +kernel
theorem dX10_clash_50 : decode cX10_clash 50 = .ok (.aload_n 0, 1) := by decide +kernel
theorem dX10_clash_51 : decode cX10_clash 51 = .ok (.iload_n 2, 1) := by decide +kernel
theorem dX10_clash_52 : decode cX10_clash 52 = .ok (.invokevirtual 205, 3) := by decide +kernel
theorem dX10_clash_55 : decode cX10_clash 55 = .ok (.ldc 167, 2) := by decide +kernel
theorem dX10_clash_57 : decode cX10_clash 57 = .ok (.if_icmp .ne 7, 3) := by decide +kernel
theorem dX10_clash_60 : decode cX10_clash 60 = .ok (.iload_n 2, 1) := by decide +kernel
theorem dX10_clash_61 : decode cX10_clash 61 = .ok (.goto 4, 3) := by decide +kernel
theorem dX10_clash_64 : decode cX10_clash 64 = .ok (.iload_n 1, 1) := by decide +kernel
theorem dX10_clash_65 : decode cX10_clash 65 = .ok (.istore_n 1, 1) := by decide +kernel
theorem dX10_clash_66 : decode cX10_clash 66 = .ok (.iinc 2 1, 3) := by decide +kernel
theorem dX10_clash_69 : decode cX10_clash 69 = .ok (.goto (-52), 3) := by decide +kernel
theorem dX10_clash_72 : decode cX10_clash 72 = .ok (.iload_n 1, 1) := by decide +kernel
theorem dX10_clash_73 : decode cX10_clash 73 = .ok (.ireturn, 1) := by decide +kernel
theorem dX10_fire_0 : decode cX10_fire 0 = .ok (.aload_n 0, 1) := by decide +kernel
theorem dX10_fire_1 : decode cX10_fire 1 = .ok (.iconst 0, 1) := by decide +kernel
theorem dX10_fire_2 : decode cX10_fire 2 = .ok (.putfield 89, 3) := by decide +kernel
theorem dX10_fire_5 : decode cX10_fire 5 = .ok (.iload_n 1, 1) := by decide +kernel
theorem dX10_fire_6 : decode cX10_fire 6 = .ok (.iconst 0, 1) := by decide +kernel
theorem dX10_fire_7 : decode cX10_fire 7 = .ok (.iconst 1, 1) := by decide +kernel
theorem dX10_fire_8 : decode cX10_fire 8 = .ok (.invokestatic 93, 3) := by decide +kernel
theorem dX10_fire_11 : decode cX10_fire 11 = .ok (.ifCond .ne 5, 3) := by decide +kernel
theorem dX10_fire_14 : decode cX10_fire 14 = .ok (.iconst (-1), 1) := by decide +kernel
theorem dX10_fire_15 : decode cX10_fire 15 = .ok (.ireturn, 1) := by decide +kernel
theorem dX10_fire_16 : decode cX10_fire 16 = .ok (.aload_n 0, 1) := by decide +kernel
theorem dX10_fire_17 : decode cX10_fire 17 = .ok (.getfield 28, 3) := by decide +kernel
theorem dX10_fire_20 : decode cX10_fire 20 = .ok (.bipush 6, 2) := by decide +kernel
theorem dX10_fire_22 : decode cX10_fire 22 = .ok (.iaload, 1) := by decide +kernel
theorem dX10_fire_23 : decode cX10_fire 23 = .ok (.ifCond .ne 6, 3) := by decide +kernel
theorem dX10_fire_26 : decode cX10_fire 26 = .ok (.bipush (-9), 2) := by decide +kernel
theorem dX10_fire_28 : decode cX10_fire 28 = .ok (.ireturn, 1) := by decide +kernel
theorem dX10_fire_29 : decode cX10_fire 29 = .ok (.aload_n 0, 1) := by decide +kernel
theorem dX10_fire_30 : decode cX10_fire 30 = .ok (.aload_n 0, 1) := by decide +kernel
theorem dX10_fire_31 : decode cX10_fire 31 = .ok (.invokevirtual 195, 3) := by decide +kernel
theorem dX10_fire_34 : decode cX10_fire 34 = .ok (.invokevirtual 199, 3) := by decide +kernel
theorem dX10_fire_37 : decode cX10_fire 37 = .ok (.iconst 0, 1) := by decide +kernel
theorem dX10_fire_38 : decode cX10_fire 38 = .ok (.istore_n 2, 1) := by decide +kernel
theorem dX10_fire_39 : decode cX10_fire 39 = .ok (.iconst 1, 1) := by decide +kernel
theorem dX10_fire_40 : decode cX10_fire 40 = .ok (.istore_n 3, 1) := by decide +kernel
theorem dX10_fire_41 : decode cX10_fire 41 = .ok (.iload_n 3, 1) := by decide +kernel
theorem dX10_fire_42 : decode cX10_fire 42 = .ok (.aload_n 0, 1) := by decide +kernel
theorem dX10_fire_43 : decode cX10_fire 43 = .ok (.getfield 28, 3) := by decide +kernel
theorem dX10_fire_46 : decode cX10_fire 46 = .ok (.bipush 6, 2) := by decide +kernel
theorem dX10_fire_48 : decode cX10_fire 48 = .ok (.iaload, 1) := by decide +kernel
theorem dX10_fire_49 : decode cX10_fire 49 = .ok (.if_icmp .ge 46, 3) := by decide +kernel
theorem dX10_fire_52 : decode cX10_fire 52 = .ok (.aload_n 0, 1) := by decide +kernel
theorem dX10_fire_53 : decode cX10_fire 53 = .ok (.aload_n 0, 1) := by decide +kernel
theorem dX10_fire_54 : decode cX10_fire 54 = .ok (.invokevirtual 202, 3) := by decide +kernel
theorem dX10_fire_57 : decode cX10_fire 57 = .ok (.iconst 1, 1) := by decide +kernel
theorem dX10_fire_58 : decode cX10_fire 58 = .ok (.iload_n 3, 1) := by decide +kernel
theorem dX10_fire_59 : decode cX10_fire 59 = .ok (.ishl, 1) := by decide +kernel
theorem dX10_fire_60 : decode cX10_fire 60 = .ok (.iconst (-1), 1) := by decide +kernel
theorem dX10_fire_61 : decode cX10_fire 61 = .ok (.ixor, 1) := by decide +kernel
theorem dX10_fire_62 : decode cX10_fire 62 = .ok (.iand, 1) := by decide +kernel
theorem dX10_fire_63 : decode cX10_fire 63 = .ok (.invokevirtual 205, 3) := by decide +kernel
theorem dX10_fire_66 : decode cX10_fire 66 = .ok (.aload_n 0, 1) := by decide +kernel
theorem dX10_fire_67 : decode cX10_fire 67 = .ok (.aload_n 0, 1) := by decide +kernel
theorem dX10_fire_68 : decode cX10_fire 68 = .ok (.invokevirtual 202, 3) := by decide +kernel
theorem dX10_fire_71 : decode cX10_fire 71 = .ok (.iconst 1, 1) := by decide +kernel
theorem dX10_fire_72 : decode cX10_fire 72 = .ok (.iload_n 2, 1) := by decide +kernel
theorem dX10_fire_73 : decode cX10_fire 73 = .ok (.ishl, 1) := by decide +kernel
theorem dX10_fire_74 : decode cX10_fire 74 = .ok (.iconst (-1), 1) := by decide +kernel
theorem dX10_fire_75 : decode cX10_fire 75 = .ok (.ixor, 1) := by decide +kernel
theorem dX10_fire_76 : decode cX10_fire 76 = .ok (.iand, 1) := by decide +kernel
theorem dX10_fire_77 : decode cX10_fire 77 = .ok (.invokevirtual 205, 3) := by decide +kernel
theorem dX10_fire_80 : decode cX10_fire 80 = .ok (.if_icmp .ge 7, 3) := by decide +kernel
theorem dX10_fire_83 : decode cX10_fire 83 = .ok (.iload_n 3, 1) := by decide +kernel
theorem dX10_fire_84 : decode cX10_fire 84 = .ok (.goto 4, 3) := by decide +kernel
theorem dX10_fire_87 : decode cX10_fire 87 = .ok (.iload_n 2, 1) := by decide +kernel
theorem dX10_fire_88 : decode cX10_fire 88 = .ok (.istore_n 2, 1) := by decide +kernel
theorem dX10_fire_89 : decode cX10_fire 89 = .ok (.iinc 3 1, 3) := by decide +kernel
theorem dX10_fire_92 : decode cX10_fire 92 = .ok (.goto (-51), 3) := by decide +kernel
theorem dX10_fire_95 : decode cX10_fire 95 = .ok (.aload_n 0, 1) := by decide +kernel
theorem dX10_fire_96 : decode cX10_fire 96 = .ok (.aload_n 0, 1) := by decide +kernel
theorem dX10_fire_97 : decode cX10_fire 97 = .ok (.invokevirtual 202, 3) := by decide +kernel
theorem dX10_fire_100 : decode cX10_fire 100 = .ok (.iconst 1, 1) := by decide +kernel
theorem dX10_fire_101 : decode cX10_fire 101 = .ok (.iload_n 2, 1) := by decide +kernel
theorem dX10_fire_102 : decode cX10_fire 102 = .ok (.ishl, 1) := by decide +kernel
theorem dX10_fire_103 : decode cX10_fire 103 = .ok (.iconst (-1), 1) := by decide +kernel
theorem dX10_fire_104 : decode cX10_fire 104 = .ok (.ixor, 1) := by decide +kernel
theorem dX10_fire_105 : decode cX10_fire 105 = .ok (.iand, 1) := by decide +kernel
theorem dX10_fire_106 : decode cX10_fire 106 = .ok (.invokevirtual 205, 3) := by decide +kernel
theorem dX10_fire_109 : decode cX10_fire 109 = .ok (.istore_n 3, 1) := by decide +kernel
theorem dX10_fire_110 : decode cX10_fire 110 = .ok (.iload_n 1, 1) := by decide +kernel
theorem dX10_fire_111 : decode cX10_fire 111 = .ok (.ifCond .ne 7, 3) := by decide +kernel
theorem dX10_fire_114 : decode cX10_fire 114 = .ok (.iload_n 2, 1) := by decide +kernel
theorem dX10_fire_115 : decode cX10_fire 115 = .ok (.goto 15, 3) := by decide +kernel
theorem dX10_fire_118 : decode cX10_fire 118 = .ok (.iload_n 3, 1) := by decide +kernel
theorem dX10_fire_119 : decode cX10_fire 119 = .ok (.ldc 167, 2) := by decide +kernel
theorem dX10_fire_121 : decode cX10_fire 121 = .ok (.if_icmp .ne 8, 3) := by decide +kernel
theorem dX10_fire_124 : decode cX10_fire 124 = .ok (.bipush (-9), 2) := by decide +kernel
theorem dX10_fire_126 : decode cX10_fire 126 = .ok (.goto 4, 3) := by decide +kernel
theorem dX10_fire_129 : decode cX10_fire 129 = .ok (.iload_n 3, 1) := by decide +kernel
theorem dX10_fire_130 : decode cX10_fire 130 = .ok (.ireturn, 1) := by decide +kernel
theorem dX10_reads_0 : decode cX10_reads 0 = .ok (.iload_n 1, 1) := by decide +kernel
theorem dX10_reads_1 : decode cX10_reads 1 = .ok (.istore_n 2, 1) := by decide +kernel
theorem dX10_reads_2 : decode cX10_reads 2 = .ok (.iconst 0, 1) := by decide +kernel
theorem dX10_reads_3 : decode cX10_reads 3 = .ok (.istore_n 3, 1) := by decide +kernel
theorem dX10_reads_4 : decode cX10_reads 4 = .ok (.aload_n 0, 1) := by decide +kernel
theorem dX10_reads_5 : decode cX10_reads 5 = .ok (.getfield 77, 3) := by decide +kernel
theorem dX10_reads_8 : decode cX10_reads 8 = .ok (.iconst 0, 1) := by decide +kernel
theorem dX10_reads_9 : decode cX10_reads 9 = .ok (.aload_n 0, 1) := by decide +kernel
theorem dX10_reads_10 : decode cX10_reads 10 = .ok (.getfield 47, 3) := by decide +kernel
theorem dX10_reads_13 : decode cX10_reads 13 = .ok (.iload_n 1, 1) := by decide +kernel
theorem dX10_reads_14 : decode cX10_reads 14 = .ok (.iaload, 1) := by decide +kernel
theorem dX10_reads_15 : decode cX10_reads 15 = .ok (.iconst 1, 1) := by decide +kernel
theorem dX10_reads_16 : decode cX10_reads 16 = .ok (.isub, 1) := by decide +kernel
theorem dX10_reads_17 : decode cX10_reads 17 = .ok (.iconst 5, 1) := by decide +kernel
theorem dX10_reads_18 : decode cX10_reads 18 = .ok (.idiv, 1) := by decide +kernel
theorem dX10_reads_19 : decode cX10_reads 19 = .ok (.iastore, 1) := by decide +kernel
theorem dX10_reads_20 : decode cX10_reads 20 = .ok (.iload_n 2, 1) := by decide +kernel
theorem dX10_reads_21 : decode cX10_reads 21 = .ok (.ifCond .eq 130, 3) := by decide +kernel
theorem dX10_reads_24 : decode cX10_reads 24 = .ok (.bipush (-9), 2) := by decide +kernel
theorem dX10_reads_26 : decode cX10_reads 26 = .ok (.istore 4, 2) := by decide +kernel
theorem dX10_reads_28 : decode cX10_reads 28 = .ok (.iconst 0, 1) := by decide +kernel
theorem dX10_reads_29 : decode cX10_reads 29 = .ok (.istore 5, 2) := by decide +kernel
theorem dX10_reads_31 : decode cX10_reads 31 = .ok (.iload 5, 2) := by decide +kernel
theorem dX10_reads_33 : decode cX10_reads 33 = .ok (.bipush 6, 2) := by decide +kernel
theorem dX10_reads_35 : decode cX10_reads 35 = .ok (.if_icmp .ge 60, 3) := by decide +kernel
theorem dX10_reads_38 : decode cX10_reads 38 = .ok (.iload_n 2, 1) := by decide +kernel
theorem dX10_reads_39 : decode cX10_reads 39 = .ok (.iload 5, 2) := by decide +kernel
theorem dX10_reads_41 : decode cX10_reads 41 = .ok (.ishr, 1) := by decide +kernel
theorem dX10_reads_42 : decode cX10_reads 42 = .ok (.iconst 1, 1) := by decide +kernel
theorem dX10_reads_43 : decode cX10_reads 43 = .ok (.iand, 1) := by decide +kernel
theorem dX10_reads_44 : decode cX10_reads 44 = .ok (.iconst 1, 1) := by decide +kernel
theorem dX10_reads_45 : decode cX10_reads 45 = .ok (.if_icmp .ne 40, 3) := by decide +kernel
theorem dX10_reads_48 : decode cX10_reads 48 = .ok (.aload_n 0, 1) := by decide +kernel
theorem dX10_reads_49 : decode cX10_reads 49 = .ok (.getfield 16, 3) := by decide +kernel
theorem dX10_reads_52 : decode cX10_reads 52 = .ok (.iload 5, 2) := by decide +kernel
theorem dX10_reads_54 : decode cX10_reads 54 = .ok (.iaload, 1) := by decide +kernel
theorem dX10_reads_55 : decode cX10_reads 55 = .ok (.aload_n 0, 1) := by decide +kernel
theorem dX10_reads_56 : decode cX10_reads 56 = .ok (.getfield 77, 3) := by decide +kernel
theorem dX10_reads_59 : decode cX10_reads 59 = .ok (.iload_n 3, 1) := by decide +kernel
theorem dX10_reads_60 : decode cX10_reads 60 = .ok (.iaload, 1) := by decide +kernel
theorem dX10_reads_61 : decode cX10_reads 61 = .ok (.if_icmp .eq 19, 3) := by decide +kernel
theorem dX10_reads_64 : decode cX10_reads 64 = .ok (.aload_n 0, 1) := by decide +kernel
theorem dX10_reads_65 : decode cX10_reads 65 = .ok (.getfield 19, 3) := by decide +kernel
theorem dX10_reads_68 : decode cX10_reads 68 = .ok (.iload 5, 2) := by decide +kernel
theorem dX10_reads_70 : decode cX10_reads 70 = .ok (.iaload, 1) := by decide +kernel
theorem dX10_reads_71 : decode cX10_reads 71 = .ok (.aload_n 0, 1) := by decide +kernel
theorem dX10_reads_72 : decode cX10_reads 72 = .ok (.getfield 77, 3) := by decide +kernel
theorem dX10_reads_75 : decode cX10_reads 75 = .ok (.iload_n 3, 1) := by decide +kernel
theorem dX10_reads_76 : decode cX10_reads 76 = .ok (.iaload, 1) := by decide +kernel
theorem dX10_reads_77 : decode cX10_reads 77 = .ok (.if_icmp .ne 8, 3) := by decide +kernel
theorem dX10_reads_80 : decode cX10_reads 80 = .ok (.iload 5, 2) := by decide +kernel
theorem dX10_reads_82 : decode cX10_reads 82 = .ok (.goto 5, 3) := by decide +kernel
theorem dX10_reads_85 : decode cX10_reads 85 = .ok (.iload 4, 2) := by decide +kernel
theorem dX10_reads_87 : decode cX10_reads 87 = .ok (.istore 4, 2) := by decide +kernel
theorem dX10_reads_89 : decode cX10_reads 89 = .ok (.iinc 5 1, 3) := by decide +kernel
theorem dX10_reads_92 : decode cX10_reads 92 = .ok (.goto (-61), 3) := by decide +kernel
theorem dX10_reads_95 : decode cX10_reads 95 = .ok (.iload_n 2, 1) := by decide +kernel
theorem dX10_reads_96 : decode cX10_reads 96 = .ok (.iconst 1, 1) := by decide +kernel
theorem dX10_reads_97 : decode cX10_reads 97 = .ok (.iload 4, 2) := by decide +kernel
theorem dX10_reads_99 : decode cX10_reads 99 = .ok (.ishl, 1) := by decide +kernel
theorem dX10_reads_100 : decode cX10_reads 100 = .ok (.iconst (-1), 1) := by decide +kernel
theorem dX10_reads_101 : decode cX10_reads 101 = .ok (.ixor, 1) := by decide +kernel
theorem dX10_reads_102 : decode cX10_reads 102 = .ok (.iand, 1) := by decide +kernel
theorem dX10_reads_103 : decode cX10_reads 103 = .ok (.istore_n 2, 1) := by decide +kernel
theorem dX10_reads_104 : decode cX10_reads 104 = .ok (.aload_n 0, 1) := by decide +kernel
theorem dX10_reads_105 : decode cX10_reads 105 = .ok (.getfield 77, 3) := by decide +kernel
theorem dX10_reads_108 : decode cX10_reads 108 = .ok (.iload_n 3, 1) := by decide +kernel
theorem dX10_reads_109 : decode cX10_reads 109 = .ok (.iconst 1, 1) := by decide +kernel
theorem dX10_reads_110 : decode cX10_reads 110 = .ok (.iadd, 1) := by decide +kernel
theorem dX10_reads_111 : decode cX10_reads 111 = .ok (.aload_n 0, 1) := by decide +kernel
theorem dX10_reads_112 : decode cX10_reads 112 = .ok (.getfield 16, 3) := by decide +kernel
theorem dX10_reads_115 : decode cX10_reads 115 = .ok (.iload 4, 2) := by decide +kernel
theorem dX10_reads_117 : decode cX10_reads 117 = .ok (.iaload, 1) := by decide +kernel
theorem dX10_reads_118 : decode cX10_reads 118 = .ok (.aload_n 0, 1) := by decide +kernel
theorem dX10_reads_119 : decode cX10_reads 119 = .ok (.getfield 77, 3) := by decide +kernel
theorem dX10_reads_122 : decode cX10_reads 122 = .ok (.iload_n 3, 1) := by decide +kernel
theorem dX10_reads_123 : decode cX10_reads 123 = .ok (.iaload, 1) := by decide +kernel
theorem dX10_reads_124 : decode cX10_reads 124 = .ok (.if_icmp .ne 13, 3) := by decide +kernel
theorem dX10_reads_127 : decode cX10_reads 127 = .ok (.aload_n 0, 1) := by decide +kernel
theorem dX10_reads_128 : decode cX10_reads 128 = .ok (.getfield 19, 3) := by decide +kernel
theorem dX10_reads_131 : decode cX10_reads 131 = .ok (.iload 4, 2) := by decide +kernel
theorem dX10_reads_133 : decode cX10_reads 133 = .ok (.iaload, 1) := by decide +kernel
theorem dX10_reads_134 : decode cX10_reads 134 = .ok (.goto 10, 3) := by decide +kernel
theorem dX10_reads_137 : decode cX10_reads 137 = .ok (.aload_n 0, 1) := by decide +kernel
theorem dX10_reads_138 : decode cX10_reads 138 = .ok (.getfield 16, 3) := by decide +kernel
theorem dX10_reads_141 : decode cX10_reads 141 = .ok (.iload 4, 2) := by decide +kernel
theorem dX10_reads_143 : decode cX10_reads 143 = .ok (.iaload, 1) := by decide +kernel
theorem dX10_reads_144 : decode cX10_reads 144 = .ok (.iastore, 1) := by decide +kernel
theorem dX10_reads_145 : decode cX10_reads 145 = .ok (.iinc 3 1, 3) := by decide +kernel
theorem dX10_reads_148 : decode cX10_reads 148 = .ok (.goto (-128), 3) := by decide +kernel
theorem dX10_reads_151 : decode cX10_reads 151 = .ok (.iload_n 3, 1) := by decide +kernel
theorem dX10_reads_152 : decode cX10_reads 152 = .ok (.iconst 1, 1) := by decide +kernel
theorem dX10_reads_153 : decode cX10_reads 153 = .ok (.iadd, 1) := by decide +kernel
theorem dX10_reads_154 : decode cX10_reads 154 = .ok (.ireturn, 1) := by decide +kernel
theorem dX10_isAhead_0 : decode cX10_isAhead 0 = .ok (.iconst 0, 1) := by decide +kernel
theorem dX10_isAhead_1 : decode cX10_isAhead 1 = .ok (.istore_n 3, 1) := by decide +kernel
theorem dX10_isAhead_2 : decode cX10_isAhead 2 = .ok (.iload_n 3, 1) := by decide +kernel
theorem dX10_isAhead_3 : decode cX10_isAhead 3 = .ok (.iload_n 1, 1) := by decide +kernel
theorem dX10_isAhead_4 : decode cX10_isAhead 4 = .ok (.if_icmp .ge 50, 3) := by decide +kernel
theorem dX10_isAhead_7 : decode cX10_isAhead 7 = .ok (.iload_n 3, 1) := by decide +kernel
theorem dX10_isAhead_8 : decode cX10_isAhead 8 = .ok (.iload_n 2, 1) := by decide +kernel
theorem dX10_isAhead_9 : decode cX10_isAhead 9 = .ok (.if_icmp .ge 45, 3) := by decide +kernel
theorem dX10_isAhead_12 : decode cX10_isAhead 12 = .ok (.aload_n 0, 1) := by decide +kernel
theorem dX10_isAhead_13 : decode cX10_isAhead 13 = .ok (.getfield 77, 3) := by decide +kernel
theorem dX10_isAhead_16 : decode cX10_isAhead 16 = .ok (.iload_n 3, 1) := by decide +kernel
theorem dX10_isAhead_17 : decode cX10_isAhead 17 = .ok (.iaload, 1) := by decide +kernel
theorem dX10_isAhead_18 : decode cX10_isAhead 18 = .ok (.aload_n 0, 1) := by decide +kernel
theorem dX10_isAhead_19 : decode cX10_isAhead 19 = .ok (.getfield 80, 3) := by decide +kernel
theorem dX10_isAhead_22 : decode cX10_isAhead 22 = .ok (.iload_n 3, 1) := by decide +kernel
theorem dX10_isAhead_23 : decode cX10_isAhead 23 = .ok (.iaload, 1) := by decide +kernel
theorem dX10_isAhead_24 : decode cX10_isAhead 24 = .ok (.if_icmp .eq 24, 3) := by decide +kernel
theorem dX10_isAhead_27 : decode cX10_isAhead 27 = .ok (.aload_n 0, 1) := by decide +kernel
theorem dX10_isAhead_28 : decode cX10_isAhead 28 = .ok (.getfield 77, 3) := by decide +kernel
theorem dX10_isAhead_31 : decode cX10_isAhead 31 = .ok (.iload_n 3, 1) := by decide +kernel
theorem dX10_isAhead_32 : decode cX10_isAhead 32 = .ok (.iaload, 1) := by decide +kernel
theorem dX10_isAhead_33 : decode cX10_isAhead 33 = .ok (.aload_n 0, 1) := by decide +kernel
theorem dX10_isAhead_34 : decode cX10_isAhead 34 = .ok (.getfield 80, 3) := by decide +kernel
theorem dX10_isAhead_37 : decode cX10_isAhead 37 = .ok (.iload_n 3, 1) := by decide +kernel
theorem dX10_isAhead_38 : decode cX10_isAhead 38 = .ok (.iaload, 1) := by decide +kernel
theorem dX10_isAhead_39 : decode cX10_isAhead 39 = .ok (.if_icmp .ge 7, 3) := by decide +kernel
theorem dX10_isAhead_42 : decode cX10_isAhead 42 = .ok (.iconst 1, 1) := by decide +kernel
theorem dX10_isAhead_43 : decode cX10_isAhead 43 = .ok (.goto 4, 3) := by decide +kernel
theorem dX10_isAhead_46 : decode cX10_isAhead 46 = .ok (.iconst 0, 1) := by decide +kernel
theorem dX10_isAhead_47 : decode cX10_isAhead 47 = .ok (.ireturn, 1) := by decide +kernel
theorem dX10_isAhead_48 : decode cX10_isAhead 48 = .ok (.iinc 3 1, 3) := by decide +kernel
theorem dX10_isAhead_51 : decode cX10_isAhead 51 = .ok (.goto (-49), 3) := by decide +kernel
theorem dX10_isAhead_54 : decode cX10_isAhead 54 = .ok (.iload_n 1, 1) := by decide +kernel
theorem dX10_isAhead_55 : decode cX10_isAhead 55 = .ok (.iload_n 2, 1) := by decide +kernel
theorem dX10_isAhead_56 : decode cX10_isAhead 56 = .ok (.if_icmp .ge 7, 3) := by decide +kernel
theorem dX10_isAhead_59 : decode cX10_isAhead 59 = .ok (.iconst 1, 1) := by decide +kernel
theorem dX10_isAhead_60 : decode cX10_isAhead 60 = .ok (.goto 4, 3) := by decide +kernel
theorem dX10_isAhead_63 : decode cX10_isAhead 63 = .ok (.iconst 0, 1) := by decide +kernel
theorem dX10_isAhead_64 : decode cX10_isAhead 64 = .ok (.ireturn, 1) := by decide +kernel
theorem dX10_spiteSet_0 : decode cX10_spiteSet 0 = .ok (.aload_n 0, 1) := by decide +kernel
theorem dX10_spiteSet_1 : decode cX10_spiteSet 1 = .ok (.iconst 0, 1) := by decide +kernel
theorem dX10_spiteSet_2 : decode cX10_spiteSet 2 = .ok (.invokevirtual 199, 3) := by decide +kernel
theorem dX10_spiteSet_5 : decode cX10_spiteSet 5 = .ok (.iconst 0, 1) := by decide +kernel
theorem dX10_spiteSet_6 : decode cX10_spiteSet 6 = .ok (.istore_n 1, 1) := by decide +kernel
theorem dX10_spiteSet_7 : decode cX10_spiteSet 7 = .ok (.iconst 0, 1) := by decide +kernel
theorem dX10_spiteSet_8 : decode cX10_spiteSet 8 = .ok (.istore_n 2, 1) := by decide +kernel
theorem dX10_spiteSet_9 : decode cX10_spiteSet 9 = .ok (.iconst 1, 1) := by decide +kernel
theorem dX10_spiteSet_10 : decode cX10_spiteSet 10 = .ok (.istore_n 3, 1) := by decide +kernel
theorem dX10_spiteSet_11 : decode cX10_spiteSet 11 = .ok (.iload_n 3, 1) := by decide +kernel
theorem dX10_spiteSet_12 : decode cX10_spiteSet 12 = .ok (.bipush 64, 2) := by decide +kernel
theorem dX10_spiteSet_14 : decode cX10_spiteSet 14 = .ok (.if_icmp .ge 156, 3) := by decide +kernel
theorem dX10_spiteSet_17 : decode cX10_spiteSet 17 = .ok (.aload_n 0, 1) := by decide +kernel
theorem dX10_spiteSet_18 : decode cX10_spiteSet 18 = .ok (.getfield 47, 3) := by decide +kernel
theorem dX10_spiteSet_21 : decode cX10_spiteSet 21 = .ok (.iload_n 3, 1) := by decide +kernel
theorem dX10_spiteSet_22 : decode cX10_spiteSet 22 = .ok (.iaload, 1) := by decide +kernel
theorem dX10_spiteSet_23 : decode cX10_spiteSet 23 = .ok (.ifCond .eq 141, 3) := by decide +kernel
theorem dX10_spiteSet_26 : decode cX10_spiteSet 26 = .ok (.aload_n 0, 1) := by decide +kernel
theorem dX10_spiteSet_27 : decode cX10_spiteSet 27 = .ok (.getfield 74, 3) := by decide +kernel
theorem dX10_spiteSet_30 : decode cX10_spiteSet 30 = .ok (.iload_n 3, 1) := by decide +kernel
theorem dX10_spiteSet_31 : decode cX10_spiteSet 31 = .ok (.iaload, 1) := by decide +kernel
theorem dX10_spiteSet_32 : decode cX10_spiteSet 32 = .ok (.ldc 167, 2) := by decide +kernel
theorem dX10_spiteSet_34 : decode cX10_spiteSet 34 = .ok (.if_icmp .eq 130, 3) := by decide +kernel
theorem dX10_spiteSet_37 : decode cX10_spiteSet 37 = .ok (.aload_n 0, 1) := by decide +kernel
theorem dX10_spiteSet_38 : decode cX10_spiteSet 38 = .ok (.iload_n 3, 1) := by decide +kernel
theorem dX10_spiteSet_39 : decode cX10_spiteSet 39 = .ok (.invokevirtual 226, 3) := by decide +kernel
theorem dX10_spiteSet_42 : decode cX10_spiteSet 42 = .ok (.istore 4, 2) := by decide +kernel
theorem dX10_spiteSet_44 : decode cX10_spiteSet 44 = .ok (.iload_n 1, 1) := by decide +kernel
theorem dX10_spiteSet_45 : decode cX10_spiteSet 45 = .ok (.ifCond .eq 43, 3) := by decide +kernel
theorem dX10_spiteSet_48 : decode cX10_spiteSet 48 = .ok (.aload_n 0, 1) := by decide +kernel
theorem dX10_spiteSet_49 : decode cX10_spiteSet 49 = .ok (.getfield 74, 3) := by decide +kernel
theorem dX10_spiteSet_52 : decode cX10_spiteSet 52 = .ok (.iload_n 3, 1) := by decide +kernel
theorem dX10_spiteSet_53 : decode cX10_spiteSet 53 = .ok (.iaload, 1) := by decide +kernel
theorem dX10_spiteSet_54 : decode cX10_spiteSet 54 = .ok (.aload_n 0, 1) := by decide +kernel
theorem dX10_spiteSet_55 : decode cX10_spiteSet 55 = .ok (.getfield 74, 3) := by decide +kernel
theorem dX10_spiteSet_58 : decode cX10_spiteSet 58 = .ok (.iload_n 1, 1) := by decide +kernel
theorem dX10_spiteSet_59 : decode cX10_spiteSet 59 = .ok (.iaload, 1) := by decide +kernel
theorem dX10_spiteSet_60 : decode cX10_spiteSet 60 = .ok (.if_icmp .gt 28, 3) := by decide +kernel
theorem dX10_spiteSet_63 : decode cX10_spiteSet 63 = .ok (.aload_n 0, 1) := by decide +kernel
theorem dX10_spiteSet_64 : decode cX10_spiteSet 64 = .ok (.getfield 74, 3) := by decide +kernel
theorem dX10_spiteSet_67 : decode cX10_spiteSet 67 = .ok (.iload_n 3, 1) := by decide +kernel
theorem dX10_spiteSet_68 : decode cX10_spiteSet 68 = .ok (.iaload, 1) := by decide +kernel
theorem dX10_spiteSet_69 : decode cX10_spiteSet 69 = .ok (.aload_n 0, 1) := by decide +kernel
theorem dX10_spiteSet_70 : decode cX10_spiteSet 70 = .ok (.getfield 74, 3) := by decide +kernel
theorem dX10_spiteSet_73 : decode cX10_spiteSet 73 = .ok (.iload_n 1, 1) := by decide +kernel
theorem dX10_spiteSet_74 : decode cX10_spiteSet 74 = .ok (.iaload, 1) := by decide +kernel
theorem dX10_spiteSet_75 : decode cX10_spiteSet 75 = .ok (.if_icmp .ne 17, 3) := by decide +kernel
theorem dX10_spiteSet_78 : decode cX10_spiteSet 78 = .ok (.aload_n 0, 1) := by decide +kernel
theorem dX10_spiteSet_79 : decode cX10_spiteSet 79 = .ok (.iload 4, 2) := by decide +kernel
theorem dX10_spiteSet_81 : decode cX10_spiteSet 81 = .ok (.iload_n 2, 1) := by decide +kernel
theorem dX10_spiteSet_82 : decode cX10_spiteSet 82 = .ok (.invokevirtual 229, 3) := by decide +kernel
theorem dX10_spiteSet_85 : decode cX10_spiteSet 85 = .ok (.ifCond .eq 7, 3) := by decide +kernel
theorem dX10_spiteSet_88 : decode cX10_spiteSet 88 = .ok (.iconst 1, 1) := by decide +kernel
theorem dX10_spiteSet_89 : decode cX10_spiteSet 89 = .ok (.goto 4, 3) := by decide +kernel
theorem dX10_spiteSet_92 : decode cX10_spiteSet 92 = .ok (.iconst 0, 1) := by decide +kernel
theorem dX10_spiteSet_93 : decode cX10_spiteSet 93 = .ok (.istore 5, 2) := by decide +kernel
theorem dX10_spiteSet_95 : decode cX10_spiteSet 95 = .ok (.iconst 0, 1) := by decide +kernel
theorem dX10_spiteSet_96 : decode cX10_spiteSet 96 = .ok (.istore 6, 2) := by decide +kernel
theorem dX10_spiteSet_98 : decode cX10_spiteSet 98 = .ok (.iload 6, 2) := by decide +kernel
theorem dX10_spiteSet_100 : decode cX10_spiteSet 100 = .ok (.iconst 5, 1) := by decide +kernel
theorem dX10_spiteSet_101 : decode cX10_spiteSet 101 = .ok (.if_icmp .ge 40, 3) := by decide +kernel
theorem dX10_spiteSet_104 : decode cX10_spiteSet 104 = .ok (.iload 5, 2) := by decide +kernel
theorem dX10_spiteSet_106 : decode cX10_spiteSet 106 = .ok (.ifCond .eq 35, 3) := by decide +kernel
theorem dX10_spiteSet_109 : decode cX10_spiteSet 109 = .ok (.aload_n 0, 1) := by decide +kernel
theorem dX10_spiteSet_110 : decode cX10_spiteSet 110 = .ok (.getfield 80, 3) := by decide +kernel
theorem dX10_spiteSet_113 : decode cX10_spiteSet 113 = .ok (.iload 6, 2) := by decide +kernel
theorem dX10_spiteSet_115 : decode cX10_spiteSet 115 = .ok (.iload 6, 2) := by decide +kernel
theorem dX10_spiteSet_117 : decode cX10_spiteSet 117 = .ok (.iload 4, 2) := by decide +kernel
theorem dX10_spiteSet_119 : decode cX10_spiteSet 119 = .ok (.if_icmp .ge 13, 3) := by decide +kernel
theorem dX10_spiteSet_122 : decode cX10_spiteSet 122 = .ok (.aload_n 0, 1) := by decide +kernel
theorem dX10_spiteSet_123 : decode cX10_spiteSet 123 = .ok (.getfield 77, 3) := by decide +kernel
theorem dX10_spiteSet_126 : decode cX10_spiteSet 126 = .ok (.iload 6, 2) := by decide +kernel
theorem dX10_spiteSet_128 : decode cX10_spiteSet 128 = .ok (.iaload, 1) := by decide +kernel
theorem dX10_spiteSet_129 : decode cX10_spiteSet 129 = .ok (.goto 5, 3) := by decide +kernel
theorem dX10_spiteSet_132 : decode cX10_spiteSet 132 = .ok (.bipush (-9), 2) := by decide +kernel
theorem dX10_spiteSet_134 : decode cX10_spiteSet 134 = .ok (.iastore, 1) := by decide +kernel
theorem dX10_spiteSet_135 : decode cX10_spiteSet 135 = .ok (.iinc 6 1, 3) := by decide +kernel
theorem dX10_spiteSet_138 : decode cX10_spiteSet 138 = .ok (.goto (-40), 3) := by decide +kernel
theorem dX10_spiteSet_141 : decode cX10_spiteSet 141 = .ok (.iload 5, 2) := by decide +kernel
theorem dX10_spiteSet_143 : decode cX10_spiteSet 143 = .ok (.ifCond .eq 8, 3) := by decide +kernel
theorem dX10_spiteSet_146 : decode cX10_spiteSet 146 = .ok (.iload 4, 2) := by decide +kernel
theorem dX10_spiteSet_148 : decode cX10_spiteSet 148 = .ok (.goto 4, 3) := by decide +kernel
theorem dX10_spiteSet_151 : decode cX10_spiteSet 151 = .ok (.iload_n 2, 1) := by decide +kernel
theorem dX10_spiteSet_152 : decode cX10_spiteSet 152 = .ok (.istore_n 2, 1) := by decide +kernel
theorem dX10_spiteSet_153 : decode cX10_spiteSet 153 = .ok (.iload 5, 2) := by decide +kernel
theorem dX10_spiteSet_155 : decode cX10_spiteSet 155 = .ok (.ifCond .eq 7, 3) := by decide +kernel
theorem dX10_spiteSet_158 : decode cX10_spiteSet 158 = .ok (.iload_n 3, 1) := by decide +kernel
theorem dX10_spiteSet_159 : decode cX10_spiteSet 159 = .ok (.goto 4, 3) := by decide +kernel
theorem dX10_spiteSet_162 : decode cX10_spiteSet 162 = .ok (.iload_n 1, 1) := by decide +kernel
theorem dX10_spiteSet_163 : decode cX10_spiteSet 163 = .ok (.istore_n 1, 1) := by decide +kernel
theorem dX10_spiteSet_164 : decode cX10_spiteSet 164 = .ok (.iinc 3 1, 3) := by decide +kernel
theorem dX10_spiteSet_167 : decode cX10_spiteSet 167 = .ok (.goto (-156), 3) := by decide +kernel
theorem dX10_spiteSet_170 : decode cX10_spiteSet 170 = .ok (.iload_n 1, 1) := by decide +kernel
theorem dX10_spiteSet_171 : decode cX10_spiteSet 171 = .ok (.ireturn, 1) := by decide +kernel
theorem dX10_spite_0 : decode cX10_spite 0 = .ok (.aload_n 0, 1) := by decide +kernel
theorem dX10_spite_1 : decode cX10_spite 1 = .ok (.iconst 0, 1) := by decide +kernel
theorem dX10_spite_2 : decode cX10_spite 2 = .ok (.putfield 89, 3) := by decide +kernel
theorem dX10_spite_5 : decode cX10_spite 5 = .ok (.iload_n 1, 1) := by decide +kernel
theorem dX10_spite_6 : decode cX10_spite 6 = .ok (.iconst 0, 1) := by decide +kernel
theorem dX10_spite_7 : decode cX10_spite 7 = .ok (.iconst 2, 1) := by decide +kernel
theorem dX10_spite_8 : decode cX10_spite 8 = .ok (.invokestatic 93, 3) := by decide +kernel
theorem dX10_spite_11 : decode cX10_spite 11 = .ok (.ifCond .ne 5, 3) := by decide +kernel
theorem dX10_spite_14 : decode cX10_spite 14 = .ok (.iconst (-1), 1) := by decide +kernel
theorem dX10_spite_15 : decode cX10_spite 15 = .ok (.ireturn, 1) := by decide +kernel
theorem dX10_spite_16 : decode cX10_spite 16 = .ok (.aload_n 0, 1) := by decide +kernel
theorem dX10_spite_17 : decode cX10_spite 17 = .ok (.getfield 28, 3) := by decide +kernel
theorem dX10_spite_20 : decode cX10_spite 20 = .ok (.bipush 36, 2) := by decide +kernel
theorem dX10_spite_22 : decode cX10_spite 22 = .ok (.iaload, 1) := by decide +kernel
theorem dX10_spite_23 : decode cX10_spite 23 = .ok (.ifCond .le 6, 3) := by decide +kernel
theorem dX10_spite_26 : decode cX10_spite 26 = .ok (.bipush (-2), 2) := by decide +kernel
theorem dX10_spite_28 : decode cX10_spite 28 = .ok (.ireturn, 1) := by decide +kernel
theorem dX10_spite_29 : decode cX10_spite 29 = .ok (.aload_n 0, 1) := by decide +kernel
theorem dX10_spite_30 : decode cX10_spite 30 = .ok (.invokevirtual 233, 3) := by decide +kernel
theorem dX10_spite_33 : decode cX10_spite 33 = .ok (.istore_n 2, 1) := by decide +kernel
theorem dX10_spite_34 : decode cX10_spite 34 = .ok (.iconst 0, 1) := by decide +kernel
theorem dX10_spite_35 : decode cX10_spite 35 = .ok (.istore_n 3, 1) := by decide +kernel
theorem dX10_spite_36 : decode cX10_spite 36 = .ok (.iconst 0, 1) := by decide +kernel
theorem dX10_spite_37 : decode cX10_spite 37 = .ok (.istore 4, 2) := by decide +kernel
theorem dX10_spite_39 : decode cX10_spite 39 = .ok (.iconst 1, 1) := by decide +kernel
theorem dX10_spite_40 : decode cX10_spite 40 = .ok (.istore 5, 2) := by decide +kernel
theorem dX10_spite_42 : decode cX10_spite 42 = .ok (.iload 5, 2) := by decide +kernel
theorem dX10_spite_44 : decode cX10_spite 44 = .ok (.bipush 64, 2) := by decide +kernel
theorem dX10_spite_46 : decode cX10_spite 46 = .ok (.if_icmp .ge 59, 3) := by decide +kernel
theorem dX10_spite_49 : decode cX10_spite 49 = .ok (.iload 4, 2) := by decide +kernel
theorem dX10_spite_51 : decode cX10_spite 51 = .ok (.aload_n 0, 1) := by decide +kernel
theorem dX10_spite_52 : decode cX10_spite 52 = .ok (.getfield 47, 3) := by decide +kernel
theorem dX10_spite_55 : decode cX10_spite 55 = .ok (.iload 5, 2) := by decide +kernel
theorem dX10_spite_57 : decode cX10_spite 57 = .ok (.iaload, 1) := by decide +kernel
theorem dX10_spite_58 : decode cX10_spite 58 = .ok (.ifCond .eq 7, 3) := by decide +kernel
theorem dX10_spite_61 : decode cX10_spite 61 = .ok (.iconst 1, 1) := by decide +kernel
theorem dX10_spite_62 : decode cX10_spite 62 = .ok (.goto 4, 3) := by decide +kernel
theorem dX10_spite_65 : decode cX10_spite 65 = .ok (.iconst 0, 1) := by decide +kernel
theorem dX10_spite_66 : decode cX10_spite 66 = .ok (.iadd, 1) := by decide +kernel
theorem dX10_spite_67 : decode cX10_spite 67 = .ok (.istore 4, 2) := by decide +kernel
theorem dX10_spite_69 : decode cX10_spite 69 = .ok (.iload_n 3, 1) := by decide +kernel
theorem dX10_spite_70 : decode cX10_spite 70 = .ok (.aload_n 0, 1) := by decide +kernel
theorem dX10_spite_71 : decode cX10_spite 71 = .ok (.getfield 47, 3) := by decide +kernel
theorem dX10_spite_74 : decode cX10_spite 74 = .ok (.iload 5, 2) := by decide +kernel
theorem dX10_spite_76 : decode cX10_spite 76 = .ok (.iaload, 1) := by decide +kernel
theorem dX10_spite_77 : decode cX10_spite 77 = .ok (.ifCond .eq 19, 3) := by decide +kernel
theorem dX10_spite_80 : decode cX10_spite 80 = .ok (.aload_n 0, 1) := by decide +kernel
theorem dX10_spite_81 : decode cX10_spite 81 = .ok (.getfield 74, 3) := by decide +kernel
theorem dX10_spite_84 : decode cX10_spite 84 = .ok (.iload 5, 2) := by decide +kernel
theorem dX10_spite_86 : decode cX10_spite 86 = .ok (.iaload, 1) := by decide +kernel
theorem dX10_spite_87 : decode cX10_spite 87 = .ok (.ldc 167, 2) := by decide +kernel
theorem dX10_spite_89 : decode cX10_spite 89 = .ok (.if_icmp .ne 7, 3) := by decide +kernel
theorem dX10_spite_92 : decode cX10_spite 92 = .ok (.iconst 1, 1) := by decide +kernel
theorem dX10_spite_93 : decode cX10_spite 93 = .ok (.goto 4, 3) := by decide +kernel
theorem dX10_spite_96 : decode cX10_spite 96 = .ok (.iconst 0, 1) := by decide +kernel
theorem dX10_spite_97 : decode cX10_spite 97 = .ok (.iadd, 1) := by decide +kernel
theorem dX10_spite_98 : decode cX10_spite 98 = .ok (.istore_n 3, 1) := by decide +kernel
theorem dX10_spite_99 : decode cX10_spite 99 = .ok (.iinc 5 1, 3) := by decide +kernel
theorem dX10_spite_102 : decode cX10_spite 102 = .ok (.goto (-60), 3) := by decide +kernel
theorem dX10_spite_105 : decode cX10_spite 105 = .ok (.iload_n 1, 1) := by decide +kernel
theorem dX10_spite_106 : decode cX10_spite 106 = .ok (.iconst 1, 1) := by decide +kernel
theorem dX10_spite_107 : decode cX10_spite 107 = .ok (.if_icmp .ne 7, 3) := by decide +kernel
theorem dX10_spite_110 : decode cX10_spite 110 = .ok (.iload_n 3, 1) := by decide +kernel
theorem dX10_spite_111 : decode cX10_spite 111 = .ok (.goto 28, 3) := by decide +kernel
theorem dX10_spite_114 : decode cX10_spite 114 = .ok (.iload_n 1, 1) := by decide +kernel
theorem dX10_spite_115 : decode cX10_spite 115 = .ok (.iconst 2, 1) := by decide +kernel
theorem dX10_spite_116 : decode cX10_spite 116 = .ok (.if_icmp .ne 8, 3) := by decide +kernel
theorem dX10_spite_119 : decode cX10_spite 119 = .ok (.iload 4, 2) := by decide +kernel
theorem dX10_spite_121 : decode cX10_spite 121 = .ok (.goto 18, 3) := by decide +kernel
theorem dX10_spite_124 : decode cX10_spite 124 = .ok (.iload_n 2, 1) := by decide +kernel
theorem dX10_spite_125 : decode cX10_spite 125 = .ok (.ifCond .ne 8, 3) := by decide +kernel
theorem dX10_spite_128 : decode cX10_spite 128 = .ok (.bipush (-9), 2) := by decide +kernel
theorem dX10_spite_130 : decode cX10_spite 130 = .ok (.goto 9, 3) := by decide +kernel
theorem dX10_spite_133 : decode cX10_spite 133 = .ok (.aload_n 0, 1) := by decide +kernel
theorem dX10_spite_134 : decode cX10_spite 134 = .ok (.getfield 74, 3) := by decide +kernel
theorem dX10_spite_137 : decode cX10_spite 137 = .ok (.iload_n 2, 1) := by decide +kernel
theorem dX10_spite_138 : decode cX10_spite 138 = .ok (.iaload, 1) := by decide +kernel
theorem dX10_spite_139 : decode cX10_spite 139 = .ok (.ireturn, 1) := by decide +kernel
theorem dX10_spiteful_0 : decode cX10_spiteful 0 = .ok (.aload_n 0, 1) := by decide +kernel
theorem dX10_spiteful_1 : decode cX10_spiteful 1 = .ok (.iconst 0, 1) := by decide +kernel
theorem dX10_spiteful_2 : decode cX10_spiteful 2 = .ok (.putfield 89, 3) := by decide +kernel
theorem dX10_spiteful_5 : decode cX10_spiteful 5 = .ok (.iload_n 1, 1) := by decide +kernel
theorem dX10_spiteful_6 : decode cX10_spiteful 6 = .ok (.iconst 0, 1) := by decide +kernel
theorem dX10_spiteful_7 : decode cX10_spiteful 7 = .ok (.iconst 4, 1) := by decide +kernel
theorem dX10_spiteful_8 : decode cX10_spiteful 8 = .ok (.invokestatic 93, 3) := by decide +kernel
theorem dX10_spiteful_11 : decode cX10_spiteful 11 = .ok (.ifCond .ne 5, 3) := by decide +kernel
theorem dX10_spiteful_14 : decode cX10_spiteful 14 = .ok (.iconst (-1), 1) := by decide +kernel
theorem dX10_spiteful_15 : decode cX10_spiteful 15 = .ok (.ireturn, 1) := by decide +kernel
theorem dX10_spiteful_16 : decode cX10_spiteful 16 = .ok (.aload_n 0, 1) := by decide +kernel
theorem dX10_spiteful_17 : decode cX10_spiteful 17 = .ok (.getfield 28, 3) := by decide +kernel
theorem dX10_spiteful_20 : decode cX10_spiteful 20 = .ok (.bipush 36, 2) := by decide +kernel
theorem dX10_spiteful_22 : decode cX10_spiteful 22 = .ok (.iaload, 1) := by decide +kernel
theorem dX10_spiteful_23 : decode cX10_spiteful 23 = .ok (.ifCond .le 6, 3) := by decide +kernel
theorem dX10_spiteful_26 : decode cX10_spiteful 26 = .ok (.bipush (-2), 2) := by decide +kernel
theorem dX10_spiteful_28 : decode cX10_spiteful 28 = .ok (.ireturn, 1) := by decide +kernel
theorem dX10_spiteful_29 : decode cX10_spiteful 29 = .ok (.aload_n 0, 1) := by decide +kernel
theorem dX10_spiteful_30 : decode cX10_spiteful 30 = .ok (.invokevirtual 233, 3) := by decide +kernel
end
section
theorem dX10_spiteful_33 : decode cX10_spiteful 33 = .ok (.ifCond .ne 8, 3) := by decide +kernel
theorem dX10_spiteful_36 : decode cX10_spiteful 36 = .ok (.bipush (-9), 2) := by decide +kernel
theorem dX10_spiteful_38 : decode cX10_spiteful 38 = .ok (.goto 9, 3) := by decide +kernel
theorem dX10_spiteful_41 : decode cX10_spiteful 41 = .ok (.aload_n 0, 1) := by decide +kernel
theorem dX10_spiteful_42 : decode cX10_spiteful 42 = .ok (.getfield 80, 3) := by decide +kernel
theorem dX10_spiteful_45 : decode cX10_spiteful 45 = .ok (.iload_n 1, 1) := by decide +kernel
theorem dX10_spiteful_46 : decode cX10_spiteful 46 = .ok (.iaload, 1) := by decide +kernel
theorem dX10_spiteful_47 : decode cX10_spiteful 47 = .ok (.ireturn, 1) := by decide +kernel
theorem dX10_gcd_0 : decode cX10_gcd 0 = .ok (.iload_n 0, 1) := by decide +kernel
theorem dX10_gcd_1 : decode cX10_gcd 1 = .ok (.istore_n 2, 1) := by decide +kernel
theorem dX10_gcd_2 : decode cX10_gcd 2 = .ok (.iload_n 1, 1) := by decide +kernel
theorem dX10_gcd_3 : decode cX10_gcd 3 = .ok (.istore_n 3, 1) := by decide +kernel
theorem dX10_gcd_4 : decode cX10_gcd 4 = .ok (.iload_n 3, 1) := by decide +kernel
theorem dX10_gcd_5 : decode cX10_gcd 5 = .ok (.ifCond .eq 16, 3) := by decide +kernel
theorem dX10_gcd_8 : decode cX10_gcd 8 = .ok (.iload_n 2, 1) := by decide +kernel
theorem dX10_gcd_9 : decode cX10_gcd 9 = .ok (.iload_n 3, 1) := by decide +kernel
theorem dX10_gcd_10 : decode cX10_gcd 10 = .ok (.irem, 1) := by decide +kernel
theorem dX10_gcd_11 : decode cX10_gcd 11 = .ok (.istore 4, 2) := by decide +kernel
theorem dX10_gcd_13 : decode cX10_gcd 13 = .ok (.iload_n 3, 1) := by decide +kernel
theorem dX10_gcd_14 : decode cX10_gcd 14 = .ok (.istore_n 2, 1) := by decide +kernel
theorem dX10_gcd_15 : decode cX10_gcd 15 = .ok (.iload 4, 2) := by decide +kernel
theorem dX10_gcd_17 : decode cX10_gcd 17 = .ok (.istore_n 3, 1) := by decide +kernel
theorem dX10_gcd_18 : decode cX10_gcd 18 = .ok (.goto (-14), 3) := by decide +kernel
theorem dX10_gcd_21 : decode cX10_gcd 21 = .ok (.iload_n 2, 1) := by decide +kernel
theorem dX10_gcd_22 : decode cX10_gcd 22 = .ok (.ireturn, 1) := by decide +kernel
theorem dX10_odds_0 : decode cX10_odds 0 = .ok (.aload_n 0, 1) := by decide +kernel
theorem dX10_odds_1 : decode cX10_odds 1 = .ok (.iconst 0, 1) := by decide +kernel
theorem dX10_odds_2 : decode cX10_odds 2 = .ok (.putfield 89, 3) := by decide +kernel
theorem dX10_odds_5 : decode cX10_odds 5 = .ok (.iload_n 1, 1) := by decide +kernel
theorem dX10_odds_6 : decode cX10_odds 6 = .ok (.iconst 0, 1) := by decide +kernel
theorem dX10_odds_7 : decode cX10_odds 7 = .ok (.bipush 10, 2) := by decide +kernel
theorem dX10_odds_9 : decode cX10_odds 9 = .ok (.invokestatic 93, 3) := by decide +kernel
theorem dX10_odds_12 : decode cX10_odds 12 = .ok (.ifCond .eq 12, 3) := by decide +kernel
theorem dX10_odds_15 : decode cX10_odds 15 = .ok (.iload_n 2, 1) := by decide +kernel
theorem dX10_odds_16 : decode cX10_odds 16 = .ok (.iconst 0, 1) := by decide +kernel
theorem dX10_odds_17 : decode cX10_odds 17 = .ok (.iconst 1, 1) := by decide +kernel
theorem dX10_odds_18 : decode cX10_odds 18 = .ok (.invokestatic 93, 3) := by decide +kernel
theorem dX10_odds_21 : decode cX10_odds 21 = .ok (.ifCond .ne 5, 3) := by decide +kernel
theorem dX10_odds_24 : decode cX10_odds 24 = .ok (.iconst (-1), 1) := by decide +kernel
theorem dX10_odds_25 : decode cX10_odds 25 = .ok (.ireturn, 1) := by decide +kernel
theorem dX10_odds_26 : decode cX10_odds 26 = .ok (.aload_n 0, 1) := by decide +kernel
theorem dX10_odds_27 : decode cX10_odds 27 = .ok (.aload_n 0, 1) := by decide +kernel
theorem dX10_odds_28 : decode cX10_odds 28 = .ok (.invokevirtual 195, 3) := by decide +kernel
theorem dX10_odds_31 : decode cX10_odds 31 = .ok (.invokevirtual 199, 3) := by decide +kernel
theorem dX10_odds_34 : decode cX10_odds 34 = .ok (.iconst 0, 1) := by decide +kernel
theorem dX10_odds_35 : decode cX10_odds 35 = .ok (.istore_n 3, 1) := by decide +kernel
theorem dX10_odds_36 : decode cX10_odds 36 = .ok (.iconst 1, 1) := by decide +kernel
theorem dX10_odds_37 : decode cX10_odds 37 = .ok (.istore 4, 2) := by decide +kernel
theorem dX10_odds_39 : decode cX10_odds 39 = .ok (.iconst 0, 1) := by decide +kernel
theorem dX10_odds_40 : decode cX10_odds 40 = .ok (.istore 5, 2) := by decide +kernel
theorem dX10_odds_42 : decode cX10_odds 42 = .ok (.iload 5, 2) := by decide +kernel
theorem dX10_odds_44 : decode cX10_odds 44 = .ok (.aload_n 0, 1) := by decide +kernel
theorem dX10_odds_45 : decode cX10_odds 45 = .ok (.getfield 28, 3) := by decide +kernel
theorem dX10_odds_48 : decode cX10_odds 48 = .ok (.bipush 6, 2) := by decide +kernel
theorem dX10_odds_50 : decode cX10_odds 50 = .ok (.iaload, 1) := by decide +kernel
theorem dX10_odds_51 : decode cX10_odds 51 = .ok (.if_icmp .ge 16, 3) := by decide +kernel
theorem dX10_odds_54 : decode cX10_odds 54 = .ok (.iload 4, 2) := by decide +kernel
theorem dX10_odds_56 : decode cX10_odds 56 = .ok (.bipush 10, 2) := by decide +kernel
theorem dX10_odds_58 : decode cX10_odds 58 = .ok (.imul, 1) := by decide +kernel
theorem dX10_odds_59 : decode cX10_odds 59 = .ok (.istore 4, 2) := by decide +kernel
theorem dX10_odds_61 : decode cX10_odds 61 = .ok (.iinc 5 1, 3) := by decide +kernel
theorem dX10_odds_64 : decode cX10_odds 64 = .ok (.goto (-22), 3) := by decide +kernel
theorem dX10_odds_67 : decode cX10_odds 67 = .ok (.iconst 0, 1) := by decide +kernel
theorem dX10_odds_68 : decode cX10_odds 68 = .ok (.istore 5, 2) := by decide +kernel
theorem dX10_odds_70 : decode cX10_odds 70 = .ok (.iload 5, 2) := by decide +kernel
theorem dX10_odds_72 : decode cX10_odds 72 = .ok (.aload_n 0, 1) := by decide +kernel
theorem dX10_odds_73 : decode cX10_odds 73 = .ok (.invokevirtual 202, 3) := by decide +kernel
theorem dX10_odds_76 : decode cX10_odds 76 = .ok (.if_icmp .gt 77, 3) := by decide +kernel
theorem dX10_odds_79 : decode cX10_odds 79 = .ok (.iconst 1, 1) := by decide +kernel
theorem dX10_odds_80 : decode cX10_odds 80 = .ok (.istore 6, 2) := by decide +kernel
theorem dX10_odds_82 : decode cX10_odds 82 = .ok (.iconst 0, 1) := by decide +kernel
theorem dX10_odds_83 : decode cX10_odds 83 = .ok (.istore 7, 2) := by decide +kernel
theorem dX10_odds_85 : decode cX10_odds 85 = .ok (.iload 7, 2) := by decide +kernel
theorem dX10_odds_87 : decode cX10_odds 87 = .ok (.aload_n 0, 1) := by decide +kernel
theorem dX10_odds_88 : decode cX10_odds 88 = .ok (.getfield 28, 3) := by decide +kernel
theorem dX10_odds_91 : decode cX10_odds 91 = .ok (.bipush 6, 2) := by decide +kernel
theorem dX10_odds_93 : decode cX10_odds 93 = .ok (.iaload, 1) := by decide +kernel
theorem dX10_odds_94 : decode cX10_odds 94 = .ok (.if_icmp .ge 33, 3) := by decide +kernel
theorem dX10_odds_97 : decode cX10_odds 97 = .ok (.iload 6, 2) := by decide +kernel
theorem dX10_odds_99 : decode cX10_odds 99 = .ok (.iload 5, 2) := by decide +kernel
theorem dX10_odds_101 : decode cX10_odds 101 = .ok (.iload 7, 2) := by decide +kernel
theorem dX10_odds_103 : decode cX10_odds 103 = .ok (.ishr, 1) := by decide +kernel
theorem dX10_odds_104 : decode cX10_odds 104 = .ok (.iconst 1, 1) := by decide +kernel
theorem dX10_odds_105 : decode cX10_odds 105 = .ok (.iand, 1) := by decide +kernel
theorem dX10_odds_106 : decode cX10_odds 106 = .ok (.iconst 1, 1) := by decide +kernel
theorem dX10_odds_107 : decode cX10_odds 107 = .ok (.if_icmp .ne 10, 3) := by decide +kernel
theorem dX10_odds_110 : decode cX10_odds 110 = .ok (.bipush 10, 2) := by decide +kernel
theorem dX10_odds_112 : decode cX10_odds 112 = .ok (.iload_n 1, 1) := by decide +kernel
theorem dX10_odds_113 : decode cX10_odds 113 = .ok (.isub, 1) := by decide +kernel
theorem dX10_odds_114 : decode cX10_odds 114 = .ok (.goto 4, 3) := by decide +kernel
theorem dX10_odds_117 : decode cX10_odds 117 = .ok (.iload_n 1, 1) := by decide +kernel
theorem dX10_odds_118 : decode cX10_odds 118 = .ok (.imul, 1) := by decide +kernel
theorem dX10_odds_119 : decode cX10_odds 119 = .ok (.istore 6, 2) := by decide +kernel
theorem dX10_odds_121 : decode cX10_odds 121 = .ok (.iinc 7 1, 3) := by decide +kernel
theorem dX10_odds_124 : decode cX10_odds 124 = .ok (.goto (-39), 3) := by decide +kernel
theorem dX10_odds_127 : decode cX10_odds 127 = .ok (.iload_n 3, 1) := by decide +kernel
theorem dX10_odds_128 : decode cX10_odds 128 = .ok (.aload_n 0, 1) := by decide +kernel
theorem dX10_odds_129 : decode cX10_odds 129 = .ok (.iload 5, 2) := by decide +kernel
theorem dX10_odds_131 : decode cX10_odds 131 = .ok (.invokevirtual 205, 3) := by decide +kernel
theorem dX10_odds_134 : decode cX10_odds 134 = .ok (.ldc 167, 2) := by decide +kernel
theorem dX10_odds_136 : decode cX10_odds 136 = .ok (.if_icmp .ne 7, 3) := by decide +kernel
theorem dX10_odds_139 : decode cX10_odds 139 = .ok (.iconst 0, 1) := by decide +kernel
theorem dX10_odds_140 : decode cX10_odds 140 = .ok (.goto 5, 3) := by decide +kernel
theorem dX10_odds_143 : decode cX10_odds 143 = .ok (.iload 6, 2) := by decide +kernel
theorem dX10_odds_145 : decode cX10_odds 145 = .ok (.iadd, 1) := by decide +kernel
theorem dX10_odds_146 : decode cX10_odds 146 = .ok (.istore_n 3, 1) := by decide +kernel
theorem dX10_odds_147 : decode cX10_odds 147 = .ok (.iinc 5 1, 3) := by decide +kernel
theorem dX10_odds_150 : decode cX10_odds 150 = .ok (.goto (-80), 3) := by decide +kernel
theorem dX10_odds_153 : decode cX10_odds 153 = .ok (.iload_n 3, 1) := by decide +kernel
theorem dX10_odds_154 : decode cX10_odds 154 = .ok (.iload 4, 2) := by decide +kernel
theorem dX10_odds_156 : decode cX10_odds 156 = .ok (.invokestatic 236, 3) := by decide +kernel
theorem dX10_odds_159 : decode cX10_odds 159 = .ok (.istore 5, 2) := by decide +kernel
theorem dX10_odds_161 : decode cX10_odds 161 = .ok (.iload_n 2, 1) := by decide +kernel
theorem dX10_odds_162 : decode cX10_odds 162 = .ok (.ifCond .ne 10, 3) := by decide +kernel
theorem dX10_odds_165 : decode cX10_odds 165 = .ok (.iload_n 3, 1) := by decide +kernel
theorem dX10_odds_166 : decode cX10_odds 166 = .ok (.iload 5, 2) := by decide +kernel
theorem dX10_odds_168 : decode cX10_odds 168 = .ok (.idiv, 1) := by decide +kernel
theorem dX10_odds_169 : decode cX10_odds 169 = .ok (.goto 8, 3) := by decide +kernel
theorem dX10_odds_172 : decode cX10_odds 172 = .ok (.iload 4, 2) := by decide +kernel
theorem dX10_odds_174 : decode cX10_odds 174 = .ok (.iload 5, 2) := by decide +kernel
theorem dX10_odds_176 : decode cX10_odds 176 = .ok (.idiv, 1) := by decide +kernel
theorem dX10_odds_177 : decode cX10_odds 177 = .ok (.ireturn, 1) := by decide +kernel
theorem dX10_took_0 : decode cX10_took 0 = .ok (.aload_n 0, 1) := by decide +kernel
theorem dX10_took_1 : decode cX10_took 1 = .ok (.iconst 0, 1) := by decide +kernel
theorem dX10_took_2 : decode cX10_took 2 = .ok (.putfield 89, 3) := by decide +kernel
theorem dX10_took_5 : decode cX10_took 5 = .ok (.aload_n 0, 1) := by decide +kernel
theorem dX10_took_6 : decode cX10_took 6 = .ok (.iload_n 1, 1) := by decide +kernel
theorem dX10_took_7 : decode cX10_took 7 = .ok (.invokevirtual 171, 3) := by decide +kernel
theorem dX10_took_10 : decode cX10_took 10 = .ok (.ifCond .eq 12, 3) := by decide +kernel
theorem dX10_took_13 : decode cX10_took 13 = .ok (.iload_n 2, 1) := by decide +kernel
theorem dX10_took_14 : decode cX10_took 14 = .ok (.iconst 0, 1) := by decide +kernel
theorem dX10_took_15 : decode cX10_took 15 = .ok (.iconst 1, 1) := by decide +kernel
theorem dX10_took_16 : decode cX10_took 16 = .ok (.invokestatic 93, 3) := by decide +kernel
theorem dX10_took_19 : decode cX10_took 19 = .ok (.ifCond .ne 5, 3) := by decide +kernel
theorem dX10_took_22 : decode cX10_took 22 = .ok (.iconst (-1), 1) := by decide +kernel
theorem dX10_took_23 : decode cX10_took 23 = .ok (.ireturn, 1) := by decide +kernel
theorem dX10_took_24 : decode cX10_took 24 = .ok (.aload_n 0, 1) := by decide +kernel
theorem dX10_took_25 : decode cX10_took 25 = .ok (.getfield 158, 3) := by decide +kernel
theorem dX10_took_28 : decode cX10_took 28 = .ok (.bipush 6, 2) := by decide +kernel
theorem dX10_took_30 : decode cX10_took 30 = .ok (.if_icmp .ne 6, 3) := by decide +kernel
theorem dX10_took_33 : decode cX10_took 33 = .ok (.bipush (-3), 2) := by decide +kernel
theorem dX10_took_35 : decode cX10_took 35 = .ok (.ireturn, 1) := by decide +kernel
theorem dX10_took_36 : decode cX10_took 36 = .ok (.aload_n 0, 1) := by decide +kernel
theorem dX10_took_37 : decode cX10_took 37 = .ok (.getfield 41, 3) := by decide +kernel
theorem dX10_took_40 : decode cX10_took 40 = .ok (.aload_n 0, 1) := by decide +kernel
theorem dX10_took_41 : decode cX10_took 41 = .ok (.getfield 158, 3) := by decide +kernel
theorem dX10_took_44 : decode cX10_took 44 = .ok (.iload_n 1, 1) := by decide +kernel
theorem dX10_took_45 : decode cX10_took 45 = .ok (.iastore, 1) := by decide +kernel
theorem dX10_took_46 : decode cX10_took 46 = .ok (.aload_n 0, 1) := by decide +kernel
theorem dX10_took_47 : decode cX10_took 47 = .ok (.getfield 44, 3) := by decide +kernel
theorem dX10_took_50 : decode cX10_took 50 = .ok (.aload_n 0, 1) := by decide +kernel
theorem dX10_took_51 : decode cX10_took 51 = .ok (.getfield 158, 3) := by decide +kernel
theorem dX10_took_54 : decode cX10_took 54 = .ok (.iload_n 2, 1) := by decide +kernel
theorem dX10_took_55 : decode cX10_took 55 = .ok (.iastore, 1) := by decide +kernel
theorem dX10_took_56 : decode cX10_took 56 = .ok (.aload_n 0, 1) := by decide +kernel
theorem dX10_took_57 : decode cX10_took 57 = .ok (.dup, 1) := by decide +kernel
theorem dX10_took_58 : decode cX10_took 58 = .ok (.getfield 158, 3) := by decide +kernel
theorem dX10_took_61 : decode cX10_took 61 = .ok (.iconst 1, 1) := by decide +kernel
theorem dX10_took_62 : decode cX10_took 62 = .ok (.iadd, 1) := by decide +kernel
theorem dX10_took_63 : decode cX10_took 63 = .ok (.putfield 158, 3) := by decide +kernel
theorem dX10_took_66 : decode cX10_took 66 = .ok (.aload_n 0, 1) := by decide +kernel
theorem dX10_took_67 : decode cX10_took 67 = .ok (.getfield 158, 3) := by decide +kernel
theorem dX10_took_70 : decode cX10_took 70 = .ok (.ireturn, 1) := by decide +kernel
theorem dX10_forget_0 : decode cX10_forget 0 = .ok (.aload_n 0, 1) := by decide +kernel
theorem dX10_forget_1 : decode cX10_forget 1 = .ok (.iconst 0, 1) := by decide +kernel
theorem dX10_forget_2 : decode cX10_forget 2 = .ok (.putfield 89, 3) := by decide +kernel
theorem dX10_forget_5 : decode cX10_forget 5 = .ok (.aload_n 0, 1) := by decide +kernel
theorem dX10_forget_6 : decode cX10_forget 6 = .ok (.getfield 158, 3) := by decide +kernel
theorem dX10_forget_9 : decode cX10_forget 9 = .ok (.istore_n 1, 1) := by decide +kernel
theorem dX10_forget_10 : decode cX10_forget 10 = .ok (.aload_n 0, 1) := by decide +kernel
theorem dX10_forget_11 : decode cX10_forget 11 = .ok (.iconst 0, 1) := by decide +kernel
theorem dX10_forget_12 : decode cX10_forget 12 = .ok (.putfield 158, 3) := by decide +kernel
theorem dX10_forget_15 : decode cX10_forget 15 = .ok (.iload_n 1, 1) := by decide +kernel
theorem dX10_forget_16 : decode cX10_forget 16 = .ok (.ireturn, 1) := by decide +kernel
theorem dX10_mayBe_0 : decode cX10_mayBe 0 = .ok (.aload_n 0, 1) := by decide +kernel
theorem dX10_mayBe_1 : decode cX10_mayBe 1 = .ok (.getfield 47, 3) := by decide +kernel
theorem dX10_mayBe_4 : decode cX10_mayBe 4 = .ok (.iload_n 1, 1) := by decide +kernel
theorem dX10_mayBe_5 : decode cX10_mayBe 5 = .ok (.iaload, 1) := by decide +kernel
theorem dX10_mayBe_6 : decode cX10_mayBe 6 = .ok (.ifCond .eq 15, 3) := by decide +kernel
theorem dX10_mayBe_9 : decode cX10_mayBe 9 = .ok (.aload_n 0, 1) := by decide +kernel
theorem dX10_mayBe_10 : decode cX10_mayBe 10 = .ok (.iload_n 1, 1) := by decide +kernel
theorem dX10_mayBe_11 : decode cX10_mayBe 11 = .ok (.invokevirtual 185, 3) := by decide +kernel
theorem dX10_mayBe_14 : decode cX10_mayBe 14 = .ok (.ifCond .eq 7, 3) := by decide +kernel
theorem dX10_mayBe_17 : decode cX10_mayBe 17 = .ok (.iconst 1, 1) := by decide +kernel
theorem dX10_mayBe_18 : decode cX10_mayBe 18 = .ok (.goto 4, 3) := by decide +kernel
theorem dX10_mayBe_21 : decode cX10_mayBe 21 = .ok (.iconst 0, 1) := by decide +kernel
theorem dX10_mayBe_22 : decode cX10_mayBe 22 = .ok (.istore_n 2, 1) := by decide +kernel
theorem dX10_mayBe_23 : decode cX10_mayBe 23 = .ok (.iconst 0, 1) := by decide +kernel
theorem dX10_mayBe_24 : decode cX10_mayBe 24 = .ok (.istore_n 3, 1) := by decide +kernel
theorem dX10_mayBe_25 : decode cX10_mayBe 25 = .ok (.iload_n 3, 1) := by decide +kernel
theorem dX10_mayBe_26 : decode cX10_mayBe 26 = .ok (.aload_n 0, 1) := by decide +kernel
theorem dX10_mayBe_27 : decode cX10_mayBe 27 = .ok (.getfield 158, 3) := by decide +kernel
theorem dX10_mayBe_30 : decode cX10_mayBe 30 = .ok (.if_icmp .ge 38, 3) := by decide +kernel
theorem dX10_mayBe_33 : decode cX10_mayBe 33 = .ok (.iload_n 2, 1) := by decide +kernel
theorem dX10_mayBe_34 : decode cX10_mayBe 34 = .ok (.ifCond .eq 26, 3) := by decide +kernel
theorem dX10_mayBe_37 : decode cX10_mayBe 37 = .ok (.iload_n 1, 1) := by decide +kernel
theorem dX10_mayBe_38 : decode cX10_mayBe 38 = .ok (.aload_n 0, 1) := by decide +kernel
theorem dX10_mayBe_39 : decode cX10_mayBe 39 = .ok (.getfield 41, 3) := by decide +kernel
theorem dX10_mayBe_42 : decode cX10_mayBe 42 = .ok (.iload_n 3, 1) := by decide +kernel
theorem dX10_mayBe_43 : decode cX10_mayBe 43 = .ok (.iaload, 1) := by decide +kernel
theorem dX10_mayBe_44 : decode cX10_mayBe 44 = .ok (.ishr, 1) := by decide +kernel
theorem dX10_mayBe_45 : decode cX10_mayBe 45 = .ok (.iconst 1, 1) := by decide +kernel
theorem dX10_mayBe_46 : decode cX10_mayBe 46 = .ok (.iand, 1) := by decide +kernel
theorem dX10_mayBe_47 : decode cX10_mayBe 47 = .ok (.aload_n 0, 1) := by decide +kernel
theorem dX10_mayBe_48 : decode cX10_mayBe 48 = .ok (.getfield 44, 3) := by decide +kernel
theorem dX10_mayBe_51 : decode cX10_mayBe 51 = .ok (.iload_n 3, 1) := by decide +kernel
theorem dX10_mayBe_52 : decode cX10_mayBe 52 = .ok (.iaload, 1) := by decide +kernel
theorem dX10_mayBe_53 : decode cX10_mayBe 53 = .ok (.if_icmp .ne 7, 3) := by decide +kernel
theorem dX10_mayBe_56 : decode cX10_mayBe 56 = .ok (.iconst 1, 1) := by decide +kernel
theorem dX10_mayBe_57 : decode cX10_mayBe 57 = .ok (.goto 4, 3) := by decide +kernel
theorem dX10_mayBe_60 : decode cX10_mayBe 60 = .ok (.iconst 0, 1) := by decide +kernel
theorem dX10_mayBe_61 : decode cX10_mayBe 61 = .ok (.istore_n 2, 1) := by decide +kernel
theorem dX10_mayBe_62 : decode cX10_mayBe 62 = .ok (.iinc 3 1, 3) := by decide +kernel
theorem dX10_mayBe_65 : decode cX10_mayBe 65 = .ok (.goto (-40), 3) := by decide +kernel
theorem dX10_mayBe_68 : decode cX10_mayBe 68 = .ok (.iload_n 2, 1) := by decide +kernel
theorem dX10_mayBe_69 : decode cX10_mayBe 69 = .ok (.ireturn, 1) := by decide +kernel
theorem dX10_can_0 : decode cX10_can 0 = .ok (.aload_n 0, 1) := by decide +kernel
theorem dX10_can_1 : decode cX10_can 1 = .ok (.iconst 0, 1) := by decide +kernel
theorem dX10_can_2 : decode cX10_can 2 = .ok (.putfield 89, 3) := by decide +kernel
theorem dX10_can_5 : decode cX10_can 5 = .ok (.iload_n 1, 1) := by decide +kernel
theorem dX10_can_6 : decode cX10_can 6 = .ok (.iconst 0, 1) := by decide +kernel
theorem dX10_can_7 : decode cX10_can 7 = .ok (.iconst 2, 1) := by decide +kernel
theorem dX10_can_8 : decode cX10_can 8 = .ok (.invokestatic 93, 3) := by decide +kernel
theorem dX10_can_11 : decode cX10_can 11 = .ok (.ifCond .ne 5, 3) := by decide +kernel
theorem dX10_can_14 : decode cX10_can 14 = .ok (.iconst (-1), 1) := by decide +kernel
theorem dX10_can_15 : decode cX10_can 15 = .ok (.ireturn, 1) := by decide +kernel
theorem dX10_can_16 : decode cX10_can 16 = .ok (.aload_n 0, 1) := by decide +kernel
theorem dX10_can_17 : decode cX10_can 17 = .ok (.aload_n 0, 1) := by decide +kernel
theorem dX10_can_18 : decode cX10_can 18 = .ok (.getfield 28, 3) := by decide +kernel
theorem dX10_can_21 : decode cX10_can 21 = .ok (.invokevirtual 181, 3) := by decide +kernel
theorem dX10_can_24 : decode cX10_can 24 = .ok (.iconst 0, 1) := by decide +kernel
theorem dX10_can_25 : decode cX10_can 25 = .ok (.istore_n 2, 1) := by decide +kernel
theorem dX10_can_26 : decode cX10_can 26 = .ok (.bipush 63, 2) := by decide +kernel
theorem dX10_can_28 : decode cX10_can 28 = .ok (.istore_n 3, 1) := by decide +kernel
theorem dX10_can_29 : decode cX10_can 29 = .ok (.iconst 0, 1) := by decide +kernel
theorem dX10_can_30 : decode cX10_can 30 = .ok (.istore 4, 2) := by decide +kernel
theorem dX10_can_32 : decode cX10_can 32 = .ok (.iconst 1, 1) := by decide +kernel
theorem dX10_can_33 : decode cX10_can 33 = .ok (.istore 5, 2) := by decide +kernel
theorem dX10_can_35 : decode cX10_can 35 = .ok (.iload 5, 2) := by decide +kernel
theorem dX10_can_37 : decode cX10_can 37 = .ok (.bipush 64, 2) := by decide +kernel
theorem dX10_can_39 : decode cX10_can 39 = .ok (.if_icmp .ge 33, 3) := by decide +kernel
theorem dX10_can_42 : decode cX10_can 42 = .ok (.aload_n 0, 1) := by decide +kernel
theorem dX10_can_43 : decode cX10_can 43 = .ok (.iload 5, 2) := by decide +kernel
theorem dX10_can_45 : decode cX10_can 45 = .ok (.invokevirtual 239, 3) := by decide +kernel
theorem dX10_can_48 : decode cX10_can 48 = .ok (.ifCond .eq 18, 3) := by decide +kernel
theorem dX10_can_51 : decode cX10_can 51 = .ok (.iinc 2 1, 3) := by decide +kernel
theorem dX10_can_54 : decode cX10_can 54 = .ok (.iload_n 3, 1) := by decide +kernel
theorem dX10_can_55 : decode cX10_can 55 = .ok (.iload 5, 2) := by decide +kernel
theorem dX10_can_57 : decode cX10_can 57 = .ok (.iand, 1) := by decide +kernel
theorem dX10_can_58 : decode cX10_can 58 = .ok (.istore_n 3, 1) := by decide +kernel
theorem dX10_can_59 : decode cX10_can 59 = .ok (.iload 4, 2) := by decide +kernel
theorem dX10_can_61 : decode cX10_can 61 = .ok (.iload 5, 2) := by decide +kernel
theorem dX10_can_63 : decode cX10_can 63 = .ok (.ior, 1) := by decide +kernel
theorem dX10_can_64 : decode cX10_can 64 = .ok (.istore 4, 2) := by decide +kernel
theorem dX10_can_66 : decode cX10_can 66 = .ok (.iinc 5 1, 3) := by decide +kernel
theorem dX10_can_69 : decode cX10_can 69 = .ok (.goto (-34), 3) := by decide +kernel
theorem dX10_can_72 : decode cX10_can 72 = .ok (.iload_n 1, 1) := by decide +kernel
theorem dX10_can_73 : decode cX10_can 73 = .ok (.ifCond .ne 7, 3) := by decide +kernel
theorem dX10_can_76 : decode cX10_can 76 = .ok (.iload_n 2, 1) := by decide +kernel
theorem dX10_can_77 : decode cX10_can 77 = .ok (.goto 23, 3) := by decide +kernel
theorem dX10_can_80 : decode cX10_can 80 = .ok (.iload_n 1, 1) := by decide +kernel
theorem dX10_can_81 : decode cX10_can 81 = .ok (.iconst 2, 1) := by decide +kernel
theorem dX10_can_82 : decode cX10_can 82 = .ok (.if_icmp .ne 8, 3) := by decide +kernel
theorem dX10_can_85 : decode cX10_can 85 = .ok (.iload 4, 2) := by decide +kernel
theorem dX10_can_87 : decode cX10_can 87 = .ok (.goto 13, 3) := by decide +kernel
theorem dX10_can_90 : decode cX10_can 90 = .ok (.iload_n 2, 1) := by decide +kernel
theorem dX10_can_91 : decode cX10_can 91 = .ok (.ifCond .ne 8, 3) := by decide +kernel
theorem dX10_can_94 : decode cX10_can 94 = .ok (.bipush (-9), 2) := by decide +kernel
theorem dX10_can_96 : decode cX10_can 96 = .ok (.goto 4, 3) := by decide +kernel
theorem dX10_can_99 : decode cX10_can 99 = .ok (.iload_n 3, 1) := by decide +kernel
theorem dX10_can_100 : decode cX10_can 100 = .ok (.ireturn, 1) := by decide +kernel
theorem dX10_look_0 : decode cX10_look 0 = .ok (.aload_n 0, 1) := by decide +kernel
theorem dX10_look_1 : decode cX10_look 1 = .ok (.iconst 0, 1) := by decide +kernel
theorem dX10_look_2 : decode cX10_look 2 = .ok (.putfield 89, 3) := by decide +kernel
theorem dX10_look_5 : decode cX10_look 5 = .ok (.aload_n 0, 1) := by decide +kernel
theorem dX10_look_6 : decode cX10_look 6 = .ok (.aload_n 0, 1) := by decide +kernel
theorem dX10_look_7 : decode cX10_look 7 = .ok (.getfield 28, 3) := by decide +kernel
theorem dX10_look_10 : decode cX10_look 10 = .ok (.invokevirtual 181, 3) := by decide +kernel
theorem dX10_look_13 : decode cX10_look 13 = .ok (.iconst 0, 1) := by decide +kernel
theorem dX10_look_14 : decode cX10_look 14 = .ok (.istore_n 1, 1) := by decide +kernel
theorem dX10_look_15 : decode cX10_look 15 = .ok (.iconst 1, 1) := by decide +kernel
theorem dX10_look_16 : decode cX10_look 16 = .ok (.istore_n 2, 1) := by decide +kernel
theorem dX10_look_17 : decode cX10_look 17 = .ok (.iload_n 2, 1) := by decide +kernel
theorem dX10_look_18 : decode cX10_look 18 = .ok (.bipush 64, 2) := by decide +kernel
theorem dX10_look_20 : decode cX10_look 20 = .ok (.if_icmp .ge 25, 3) := by decide +kernel
theorem dX10_look_23 : decode cX10_look 23 = .ok (.iload_n 1, 1) := by decide +kernel
theorem dX10_look_24 : decode cX10_look 24 = .ok (.aload_n 0, 1) := by decide +kernel
theorem dX10_look_25 : decode cX10_look 25 = .ok (.iload_n 2, 1) := by decide +kernel
theorem dX10_look_26 : decode cX10_look 26 = .ok (.invokevirtual 239, 3) := by decide +kernel
theorem dX10_look_29 : decode cX10_look 29 = .ok (.ifCond .eq 7, 3) := by decide +kernel
theorem dX10_look_32 : decode cX10_look 32 = .ok (.iconst 1, 1) := by decide +kernel
theorem dX10_look_33 : decode cX10_look 33 = .ok (.goto 4, 3) := by decide +kernel
theorem dX10_look_36 : decode cX10_look 36 = .ok (.iconst 0, 1) := by decide +kernel
theorem dX10_look_37 : decode cX10_look 37 = .ok (.iadd, 1) := by decide +kernel
theorem dX10_look_38 : decode cX10_look 38 = .ok (.istore_n 1, 1) := by decide +kernel
theorem dX10_look_39 : decode cX10_look 39 = .ok (.iinc 2 1, 3) := by decide +kernel
theorem dX10_look_42 : decode cX10_look 42 = .ok (.goto (-25), 3) := by decide +kernel
theorem dX10_look_45 : decode cX10_look 45 = .ok (.bipush (-9), 2) := by decide +kernel
theorem dX10_look_47 : decode cX10_look 47 = .ok (.istore_n 2, 1) := by decide +kernel
theorem dX10_look_48 : decode cX10_look 48 = .ok (.ldc 167, 2) := by decide +kernel
theorem dX10_look_50 : decode cX10_look 50 = .ok (.istore_n 3, 1) := by decide +kernel
theorem dX10_look_51 : decode cX10_look 51 = .ok (.iconst 0, 1) := by decide +kernel
theorem dX10_look_52 : decode cX10_look 52 = .ok (.istore 4, 2) := by decide +kernel
theorem dX10_look_54 : decode cX10_look 54 = .ok (.iload 4, 2) := by decide +kernel
theorem dX10_look_56 : decode cX10_look 56 = .ok (.aload_n 0, 1) := by decide +kernel
theorem dX10_look_57 : decode cX10_look 57 = .ok (.getfield 13, 3) := by decide +kernel
theorem dX10_look_60 : decode cX10_look 60 = .ok (.iconst 1, 1) := by decide +kernel
theorem dX10_look_61 : decode cX10_look 61 = .ok (.iaload, 1) := by decide +kernel
theorem dX10_look_62 : decode cX10_look 62 = .ok (.if_icmp .ge 109, 3) := by decide +kernel
theorem dX10_look_65 : decode cX10_look 65 = .ok (.iload_n 1, 1) := by decide +kernel
theorem dX10_look_66 : decode cX10_look 66 = .ok (.iconst 1, 1) := by decide +kernel
theorem dX10_look_67 : decode cX10_look 67 = .ok (.if_icmp .le 104, 3) := by decide +kernel
theorem dX10_look_70 : decode cX10_look 70 = .ok (.iconst 0, 1) := by decide +kernel
theorem dX10_look_71 : decode cX10_look 71 = .ok (.istore 5, 2) := by decide +kernel
theorem dX10_look_73 : decode cX10_look 73 = .ok (.iconst 1, 1) := by decide +kernel
theorem dX10_look_74 : decode cX10_look 74 = .ok (.istore 6, 2) := by decide +kernel
theorem dX10_look_76 : decode cX10_look 76 = .ok (.iload 6, 2) := by decide +kernel
theorem dX10_look_78 : decode cX10_look 78 = .ok (.bipush 64, 2) := by decide +kernel
theorem dX10_look_80 : decode cX10_look 80 = .ok (.if_icmp .ge 39, 3) := by decide +kernel
theorem dX10_look_83 : decode cX10_look 83 = .ok (.iload 5, 2) := by decide +kernel
theorem dX10_look_85 : decode cX10_look 85 = .ok (.aload_n 0, 1) := by decide +kernel
theorem dX10_look_86 : decode cX10_look 86 = .ok (.iload 6, 2) := by decide +kernel
theorem dX10_look_88 : decode cX10_look 88 = .ok (.invokevirtual 239, 3) := by decide +kernel
theorem dX10_look_91 : decode cX10_look 91 = .ok (.ifCond .eq 18, 3) := by decide +kernel
theorem dX10_look_94 : decode cX10_look 94 = .ok (.iload 6, 2) := by decide +kernel
theorem dX10_look_96 : decode cX10_look 96 = .ok (.iload 4, 2) := by decide +kernel
theorem dX10_look_98 : decode cX10_look 98 = .ok (.ishr, 1) := by decide +kernel
theorem dX10_look_99 : decode cX10_look 99 = .ok (.iconst 1, 1) := by decide +kernel
theorem dX10_look_100 : decode cX10_look 100 = .ok (.iand, 1) := by decide +kernel
theorem dX10_look_101 : decode cX10_look 101 = .ok (.iconst 1, 1) := by decide +kernel
theorem dX10_look_102 : decode cX10_look 102 = .ok (.if_icmp .ne 7, 3) := by decide +kernel
theorem dX10_look_105 : decode cX10_look 105 = .ok (.iconst 1, 1) := by decide +kernel
theorem dX10_look_106 : decode cX10_look 106 = .ok (.goto 4, 3) := by decide +kernel
theorem dX10_look_109 : decode cX10_look 109 = .ok (.iconst 0, 1) := by decide +kernel
theorem dX10_look_110 : decode cX10_look 110 = .ok (.iadd, 1) := by decide +kernel
theorem dX10_look_111 : decode cX10_look 111 = .ok (.istore 5, 2) := by decide +kernel
theorem dX10_look_113 : decode cX10_look 113 = .ok (.iinc 6 1, 3) := by decide +kernel
theorem dX10_look_116 : decode cX10_look 116 = .ok (.goto (-40), 3) := by decide +kernel
theorem dX10_look_119 : decode cX10_look 119 = .ok (.iload 5, 2) := by decide +kernel
theorem dX10_look_121 : decode cX10_look 121 = .ok (.iload_n 1, 1) := by decide +kernel
theorem dX10_look_122 : decode cX10_look 122 = .ok (.iload 5, 2) := by decide +kernel
theorem dX10_look_124 : decode cX10_look 124 = .ok (.isub, 1) := by decide +kernel
theorem dX10_look_125 : decode cX10_look 125 = .ok (.if_icmp .le 8, 3) := by decide +kernel
theorem dX10_look_128 : decode cX10_look 128 = .ok (.iload 5, 2) := by decide +kernel
theorem dX10_look_130 : decode cX10_look 130 = .ok (.goto 7, 3) := by decide +kernel
theorem dX10_look_133 : decode cX10_look 133 = .ok (.iload_n 1, 1) := by decide +kernel
theorem dX10_look_134 : decode cX10_look 134 = .ok (.iload 5, 2) := by decide +kernel
theorem dX10_look_136 : decode cX10_look 136 = .ok (.isub, 1) := by decide +kernel
theorem dX10_look_137 : decode cX10_look 137 = .ok (.istore 6, 2) := by decide +kernel
theorem dX10_look_139 : decode cX10_look 139 = .ok (.iload 6, 2) := by decide +kernel
theorem dX10_look_141 : decode cX10_look 141 = .ok (.iload_n 3, 1) := by decide +kernel
theorem dX10_look_142 : decode cX10_look 142 = .ok (.if_icmp .ge 8, 3) := by decide +kernel
theorem dX10_look_145 : decode cX10_look 145 = .ok (.iload 4, 2) := by decide +kernel
theorem dX10_look_147 : decode cX10_look 147 = .ok (.goto 4, 3) := by decide +kernel
theorem dX10_look_150 : decode cX10_look 150 = .ok (.iload_n 2, 1) := by decide +kernel
theorem dX10_look_151 : decode cX10_look 151 = .ok (.istore_n 2, 1) := by decide +kernel
theorem dX10_look_152 : decode cX10_look 152 = .ok (.iload 6, 2) := by decide +kernel
theorem dX10_look_154 : decode cX10_look 154 = .ok (.iload_n 3, 1) := by decide +kernel
theorem dX10_look_155 : decode cX10_look 155 = .ok (.if_icmp .ge 8, 3) := by decide +kernel
theorem dX10_look_158 : decode cX10_look 158 = .ok (.iload 6, 2) := by decide +kernel
theorem dX10_look_160 : decode cX10_look 160 = .ok (.goto 4, 3) := by decide +kernel
theorem dX10_look_163 : decode cX10_look 163 = .ok (.iload_n 3, 1) := by decide +kernel
theorem dX10_look_164 : decode cX10_look 164 = .ok (.istore_n 3, 1) := by decide +kernel
theorem dX10_look_165 : decode cX10_look 165 = .ok (.iinc 4 1, 3) := by decide +kernel
theorem dX10_look_168 : decode cX10_look 168 = .ok (.goto (-114), 3) := by decide +kernel
theorem dX10_look_171 : decode cX10_look 171 = .ok (.iload_n 2, 1) := by decide +kernel
theorem dX10_look_172 : decode cX10_look 172 = .ok (.ireturn, 1) := by decide +kernel
theorem dX10_rate_0 : decode cX10_rate 0 = .ok (.aload_n 0, 1) := by decide +kernel
theorem dX10_rate_1 : decode cX10_rate 1 = .ok (.iconst 0, 1) := by decide +kernel
theorem dX10_rate_2 : decode cX10_rate 2 = .ok (.putfield 89, 3) := by decide +kernel
theorem dX10_rate_5 : decode cX10_rate 5 = .ok (.iload_n 1, 1) := by decide +kernel
theorem dX10_rate_6 : decode cX10_rate 6 = .ok (.iconst 0, 1) := by decide +kernel
theorem dX10_rate_7 : decode cX10_rate 7 = .ok (.iconst 5, 1) := by decide +kernel
theorem dX10_rate_8 : decode cX10_rate 8 = .ok (.invokestatic 93, 3) := by decide +kernel
theorem dX10_rate_11 : decode cX10_rate 11 = .ok (.ifCond .eq 11, 3) := by decide +kernel
theorem dX10_rate_14 : decode cX10_rate 14 = .ok (.aload_n 0, 1) := by decide +kernel
theorem dX10_rate_15 : decode cX10_rate 15 = .ok (.iload_n 2, 1) := by decide +kernel
theorem dX10_rate_16 : decode cX10_rate 16 = .ok (.invokevirtual 171, 3) := by decide +kernel
theorem dX10_rate_19 : decode cX10_rate 19 = .ok (.ifCond .ne 6, 3) := by decide +kernel
theorem dX10_rate_22 : decode cX10_rate 22 = .ok (.ldc 242, 2) := by decide +kernel
theorem dX10_rate_24 : decode cX10_rate 24 = .ok (.ireturn, 1) := by decide +kernel
theorem dX10_rate_25 : decode cX10_rate 25 = .ok (.aload_n 0, 1) := by decide +kernel
theorem dX10_rate_26 : decode cX10_rate 26 = .ok (.getfield 28, 3) := by decide +kernel
theorem dX10_rate_29 : decode cX10_rate 29 = .ok (.iconst 0, 1) := by decide +kernel
theorem dX10_rate_30 : decode cX10_rate 30 = .ok (.iload_n 2, 1) := by decide +kernel
theorem dX10_rate_31 : decode cX10_rate 31 = .ok (.iadd, 1) := by decide +kernel
theorem dX10_rate_32 : decode cX10_rate 32 = .ok (.iaload, 1) := by decide +kernel
theorem dX10_rate_33 : decode cX10_rate 33 = .ok (.istore_n 3, 1) := by decide +kernel
theorem dX10_rate_34 : decode cX10_rate 34 = .ok (.iload_n 3, 1) := by decide +kernel
theorem dX10_rate_35 : decode cX10_rate 35 = .ok (.aload_n 0, 1) := by decide +kernel
theorem dX10_rate_36 : decode cX10_rate 36 = .ok (.getfield 22, 3) := by decide +kernel
theorem dX10_rate_39 : decode cX10_rate 39 = .ok (.iload_n 2, 1) := by decide +kernel
theorem dX10_rate_40 : decode cX10_rate 40 = .ok (.iaload, 1) := by decide +kernel
theorem dX10_rate_41 : decode cX10_rate 41 = .ok (.iadd, 1) := by decide +kernel
theorem dX10_rate_42 : decode cX10_rate 42 = .ok (.istore 4, 2) := by decide +kernel
theorem dX10_rate_44 : decode cX10_rate 44 = .ok (.iload_n 3, 1) := by decide +kernel
theorem dX10_rate_45 : decode cX10_rate 45 = .ok (.aload_n 0, 1) := by decide +kernel
theorem dX10_rate_46 : decode cX10_rate 46 = .ok (.iload_n 2, 1) := by decide +kernel
theorem dX10_rate_47 : decode cX10_rate 47 = .ok (.invokevirtual 175, 3) := by decide +kernel
theorem dX10_rate_50 : decode cX10_rate 50 = .ok (.isub, 1) := by decide +kernel
theorem dX10_rate_51 : decode cX10_rate 51 = .ok (.istore 5, 2) := by decide +kernel
theorem dX10_rate_53 : decode cX10_rate 53 = .ok (.aload_n 0, 1) := by decide +kernel
theorem dX10_rate_54 : decode cX10_rate 54 = .ok (.dup, 1) := by decide +kernel
theorem dX10_rate_55 : decode cX10_rate 55 = .ok (.getfield 243, 3) := by decide +kernel
theorem dX10_rate_58 : decode cX10_rate 58 = .ok (.iload_n 1, 1) := by decide +kernel
theorem dX10_rate_59 : decode cX10_rate 59 = .ok (.ifCond .ne 7, 3) := by decide +kernel
theorem dX10_rate_62 : decode cX10_rate 62 = .ok (.lconst 1, 1) := by decide +kernel
theorem dX10_rate_63 : decode cX10_rate 63 = .ok (.goto 50, 3) := by decide +kernel
theorem dX10_rate_66 : decode cX10_rate 66 = .ok (.iload_n 1, 1) := by decide +kernel
theorem dX10_rate_67 : decode cX10_rate 67 = .ok (.iconst 1, 1) := by decide +kernel
theorem dX10_rate_68 : decode cX10_rate 68 = .ok (.if_icmp .ne 9, 3) := by decide +kernel
theorem dX10_rate_71 : decode cX10_rate 71 = .ok (.ldc2_w 247, 3) := by decide +kernel
theorem dX10_rate_74 : decode cX10_rate 74 = .ok (.goto 39, 3) := by decide +kernel
theorem dX10_rate_77 : decode cX10_rate 77 = .ok (.iload_n 1, 1) := by decide +kernel
theorem dX10_rate_78 : decode cX10_rate 78 = .ok (.iconst 2, 1) := by decide +kernel
theorem dX10_rate_79 : decode cX10_rate 79 = .ok (.if_icmp .ne 9, 3) := by decide +kernel
theorem dX10_rate_82 : decode cX10_rate 82 = .ok (.ldc2_w 249, 3) := by decide +kernel
theorem dX10_rate_85 : decode cX10_rate 85 = .ok (.goto 28, 3) := by decide +kernel
theorem dX10_rate_88 : decode cX10_rate 88 = .ok (.iload_n 1, 1) := by decide +kernel
theorem dX10_rate_89 : decode cX10_rate 89 = .ok (.iconst 3, 1) := by decide +kernel
theorem dX10_rate_90 : decode cX10_rate 90 = .ok (.if_icmp .ne 9, 3) := by decide +kernel
theorem dX10_rate_93 : decode cX10_rate 93 = .ok (.ldc2_w 251, 3) := by decide +kernel
theorem dX10_rate_96 : decode cX10_rate 96 = .ok (.goto 17, 3) := by decide +kernel
theorem dX10_rate_99 : decode cX10_rate 99 = .ok (.iload_n 1, 1) := by decide +kernel
theorem dX10_rate_100 : decode cX10_rate 100 = .ok (.iconst 4, 1) := by decide +kernel
theorem dX10_rate_101 : decode cX10_rate 101 = .ok (.if_icmp .ne 9, 3) := by decide +kernel
theorem dX10_rate_104 : decode cX10_rate 104 = .ok (.ldc2_w 253, 3) := by decide +kernel
theorem dX10_rate_107 : decode cX10_rate 107 = .ok (.goto 6, 3) := by decide +kernel
theorem dX10_rate_110 : decode cX10_rate 110 = .ok (.ldc2_w 255, 3) := by decide +kernel
theorem dX10_rate_113 : decode cX10_rate 113 = .ok (.ladd, 1) := by decide +kernel
theorem dX10_rate_114 : decode cX10_rate 114 = .ok (.putfield 243, 3) := by decide +kernel
theorem dX10_rate_117 : decode cX10_rate 117 = .ok (.iload_n 1, 1) := by decide +kernel
theorem dX10_rate_118 : decode cX10_rate 118 = .ok (.ifCond .ne 7, 3) := by decide +kernel
theorem dX10_rate_121 : decode cX10_rate 121 = .ok (.iload_n 3, 1) := by decide +kernel
theorem dX10_rate_122 : decode cX10_rate 122 = .ok (.goto 56, 3) := by decide +kernel
theorem dX10_rate_125 : decode cX10_rate 125 = .ok (.iload_n 1, 1) := by decide +kernel
theorem dX10_rate_126 : decode cX10_rate 126 = .ok (.iconst 1, 1) := by decide +kernel
theorem dX10_rate_127 : decode cX10_rate 127 = .ok (.if_icmp .ne 8, 3) := by decide +kernel
theorem dX10_rate_130 : decode cX10_rate 130 = .ok (.iload 4, 2) := by decide +kernel
theorem dX10_rate_132 : decode cX10_rate 132 = .ok (.goto 46, 3) := by decide +kernel
theorem dX10_rate_135 : decode cX10_rate 135 = .ok (.iload_n 1, 1) := by decide +kernel
theorem dX10_rate_136 : decode cX10_rate 136 = .ok (.iconst 2, 1) := by decide +kernel
theorem dX10_rate_137 : decode cX10_rate 137 = .ok (.if_icmp .ne 8, 3) := by decide +kernel
theorem dX10_rate_140 : decode cX10_rate 140 = .ok (.iload 5, 2) := by decide +kernel
theorem dX10_rate_142 : decode cX10_rate 142 = .ok (.goto 36, 3) := by decide +kernel
theorem dX10_rate_145 : decode cX10_rate 145 = .ok (.iload_n 1, 1) := by decide +kernel
theorem dX10_rate_146 : decode cX10_rate 146 = .ok (.iconst 3, 1) := by decide +kernel
theorem dX10_rate_147 : decode cX10_rate 147 = .ok (.if_icmp .ne 10, 3) := by decide +kernel
theorem dX10_rate_150 : decode cX10_rate 150 = .ok (.iconst 2, 1) := by decide +kernel
theorem dX10_rate_151 : decode cX10_rate 151 = .ok (.iload 4, 2) := by decide +kernel
theorem dX10_rate_153 : decode cX10_rate 153 = .ok (.imul, 1) := by decide +kernel
theorem dX10_rate_154 : decode cX10_rate 154 = .ok (.goto 24, 3) := by decide +kernel
theorem dX10_rate_157 : decode cX10_rate 157 = .ok (.iload_n 1, 1) := by decide +kernel
theorem dX10_rate_158 : decode cX10_rate 158 = .ok (.iconst 4, 1) := by decide +kernel
theorem dX10_rate_159 : decode cX10_rate 159 = .ok (.if_icmp .ne 10, 3) := by decide +kernel
theorem dX10_rate_162 : decode cX10_rate 162 = .ok (.iload 5, 2) := by decide +kernel
theorem dX10_rate_164 : decode cX10_rate 164 = .ok (.iload_n 2, 1) := by decide +kernel
theorem dX10_rate_165 : decode cX10_rate 165 = .ok (.iadd, 1) := by decide +kernel
theorem dX10_rate_166 : decode cX10_rate 166 = .ok (.goto 12, 3) := by decide +kernel
theorem dX10_rate_169 : decode cX10_rate 169 = .ok (.iload_n 3, 1) := by decide +kernel
theorem dX10_rate_170 : decode cX10_rate 170 = .ok (.aload_n 0, 1) := by decide +kernel
theorem dX10_rate_171 : decode cX10_rate 171 = .ok (.getfield 28, 3) := by decide +kernel
theorem dX10_rate_174 : decode cX10_rate 174 = .ok (.bipush 37, 2) := by decide +kernel
theorem dX10_rate_176 : decode cX10_rate 176 = .ok (.iaload, 1) := by decide +kernel
theorem dX10_rate_177 : decode cX10_rate 177 = .ok (.iadd, 1) := by decide +kernel
theorem dX10_rate_178 : decode cX10_rate 178 = .ok (.ireturn, 1) := by decide +kernel
theorem dX10_keep_0 : decode cX10_keep 0 = .ok (.aload_n 0, 1) := by decide +kernel
theorem dX10_keep_1 : decode cX10_keep 1 = .ok (.iconst 0, 1) := by decide +kernel
theorem dX10_keep_2 : decode cX10_keep 2 = .ok (.putfield 89, 3) := by decide +kernel
theorem dX10_keep_5 : decode cX10_keep 5 = .ok (.iload_n 1, 1) := by decide +kernel
theorem dX10_keep_6 : decode cX10_keep 6 = .ok (.iconst 0, 1) := by decide +kernel
theorem dX10_keep_7 : decode cX10_keep 7 = .ok (.iconst 1, 1) := by decide +kernel
theorem dX10_keep_8 : decode cX10_keep 8 = .ok (.invokestatic 93, 3) := by decide +kernel
theorem dX10_keep_11 : decode cX10_keep 11 = .ok (.ifCond .ne 5, 3) := by decide +kernel
theorem dX10_keep_14 : decode cX10_keep 14 = .ok (.iconst (-1), 1) := by decide +kernel
theorem dX10_keep_15 : decode cX10_keep 15 = .ok (.ireturn, 1) := by decide +kernel
theorem dX10_keep_16 : decode cX10_keep 16 = .ok (.iconst 0, 1) := by decide +kernel
theorem dX10_keep_17 : decode cX10_keep 17 = .ok (.istore_n 2, 1) := by decide +kernel
theorem dX10_keep_18 : decode cX10_keep 18 = .ok (.iload_n 2, 1) := by decide +kernel
theorem dX10_keep_19 : decode cX10_keep 19 = .ok (.bipush 38, 2) := by decide +kernel
theorem dX10_keep_21 : decode cX10_keep 21 = .ok (.if_icmp .ge 26, 3) := by decide +kernel
theorem dX10_keep_24 : decode cX10_keep 24 = .ok (.aload_n 0, 1) := by decide +kernel
theorem dX10_keep_25 : decode cX10_keep 25 = .ok (.getfield 31, 3) := by decide +kernel
theorem dX10_keep_28 : decode cX10_keep 28 = .ok (.bipush 38, 2) := by decide +kernel
theorem dX10_keep_30 : decode cX10_keep 30 = .ok (.iload_n 1, 1) := by decide +kernel
theorem dX10_keep_31 : decode cX10_keep 31 = .ok (.imul, 1) := by decide +kernel
theorem dX10_keep_32 : decode cX10_keep 32 = .ok (.iload_n 2, 1) := by decide +kernel
theorem dX10_keep_33 : decode cX10_keep 33 = .ok (.iadd, 1) := by decide +kernel
theorem dX10_keep_34 : decode cX10_keep 34 = .ok (.aload_n 0, 1) := by decide +kernel
theorem dX10_keep_35 : decode cX10_keep 35 = .ok (.getfield 28, 3) := by decide +kernel
theorem dX10_keep_38 : decode cX10_keep 38 = .ok (.iload_n 2, 1) := by decide +kernel
theorem dX10_keep_39 : decode cX10_keep 39 = .ok (.iaload, 1) := by decide +kernel
theorem dX10_keep_40 : decode cX10_keep 40 = .ok (.iastore, 1) := by decide +kernel
theorem dX10_keep_41 : decode cX10_keep 41 = .ok (.iinc 2 1, 3) := by decide +kernel
theorem dX10_keep_44 : decode cX10_keep 44 = .ok (.goto (-26), 3) := by decide +kernel
theorem dX10_keep_47 : decode cX10_keep 47 = .ok (.aload_n 0, 1) := by decide +kernel
theorem dX10_keep_48 : decode cX10_keep 48 = .ok (.getfield 34, 3) := by decide +kernel
theorem dX10_keep_51 : decode cX10_keep 51 = .ok (.iload_n 1, 1) := by decide +kernel
theorem dX10_keep_52 : decode cX10_keep 52 = .ok (.iconst 1, 1) := by decide +kernel
theorem dX10_keep_53 : decode cX10_keep 53 = .ok (.bastore, 1) := by decide +kernel
theorem dX10_keep_54 : decode cX10_keep 54 = .ok (.aload_n 0, 1) := by decide +kernel
theorem dX10_keep_55 : decode cX10_keep 55 = .ok (.getfield 28, 3) := by decide +kernel
theorem dX10_keep_58 : decode cX10_keep 58 = .ok (.bipush 6, 2) := by decide +kernel
theorem dX10_keep_60 : decode cX10_keep 60 = .ok (.iaload, 1) := by decide +kernel
theorem dX10_keep_61 : decode cX10_keep 61 = .ok (.ireturn, 1) := by decide +kernel
theorem dX10_back_0 : decode cX10_back 0 = .ok (.aload_n 0, 1) := by decide +kernel
theorem dX10_back_1 : decode cX10_back 1 = .ok (.iconst 0, 1) := by decide +kernel
theorem dX10_back_2 : decode cX10_back 2 = .ok (.putfield 89, 3) := by decide +kernel
theorem dX10_back_5 : decode cX10_back 5 = .ok (.iload_n 1, 1) := by decide +kernel
theorem dX10_back_6 : decode cX10_back 6 = .ok (.iconst 0, 1) := by decide +kernel
theorem dX10_back_7 : decode cX10_back 7 = .ok (.iconst 1, 1) := by decide +kernel
theorem dX10_back_8 : decode cX10_back 8 = .ok (.invokestatic 93, 3) := by decide +kernel
theorem dX10_back_11 : decode cX10_back 11 = .ok (.ifCond .ne 5, 3) := by decide +kernel
theorem dX10_back_14 : decode cX10_back 14 = .ok (.iconst (-1), 1) := by decide +kernel
theorem dX10_back_15 : decode cX10_back 15 = .ok (.ireturn, 1) := by decide +kernel
theorem dX10_back_16 : decode cX10_back 16 = .ok (.aload_n 0, 1) := by decide +kernel
theorem dX10_back_17 : decode cX10_back 17 = .ok (.getfield 34, 3) := by decide +kernel
theorem dX10_back_20 : decode cX10_back 20 = .ok (.iload_n 1, 1) := by decide +kernel
theorem dX10_back_21 : decode cX10_back 21 = .ok (.baload, 1) := by decide +kernel
theorem dX10_back_22 : decode cX10_back 22 = .ok (.ifCond .ne 6, 3) := by decide +kernel
theorem dX10_back_25 : decode cX10_back 25 = .ok (.bipush (-2), 2) := by decide +kernel
theorem dX10_back_27 : decode cX10_back 27 = .ok (.ireturn, 1) := by decide +kernel
theorem dX10_back_28 : decode cX10_back 28 = .ok (.iconst 0, 1) := by decide +kernel
theorem dX10_back_29 : decode cX10_back 29 = .ok (.istore_n 2, 1) := by decide +kernel
theorem dX10_back_30 : decode cX10_back 30 = .ok (.iload_n 2, 1) := by decide +kernel
theorem dX10_back_31 : decode cX10_back 31 = .ok (.bipush 38, 2) := by decide +kernel
theorem dX10_back_33 : decode cX10_back 33 = .ok (.if_icmp .ge 26, 3) := by decide +kernel
theorem dX10_back_36 : decode cX10_back 36 = .ok (.aload_n 0, 1) := by decide +kernel
theorem dX10_back_37 : decode cX10_back 37 = .ok (.getfield 28, 3) := by decide +kernel
theorem dX10_back_40 : decode cX10_back 40 = .ok (.iload_n 2, 1) := by decide +kernel
theorem dX10_back_41 : decode cX10_back 41 = .ok (.aload_n 0, 1) := by decide +kernel
theorem dX10_back_42 : decode cX10_back 42 = .ok (.getfield 31, 3) := by decide +kernel
theorem dX10_back_45 : decode cX10_back 45 = .ok (.bipush 38, 2) := by decide +kernel
theorem dX10_back_47 : decode cX10_back 47 = .ok (.iload_n 1, 1) := by decide +kernel
theorem dX10_back_48 : decode cX10_back 48 = .ok (.imul, 1) := by decide +kernel
theorem dX10_back_49 : decode cX10_back 49 = .ok (.iload_n 2, 1) := by decide +kernel
theorem dX10_back_50 : decode cX10_back 50 = .ok (.iadd, 1) := by decide +kernel
theorem dX10_back_51 : decode cX10_back 51 = .ok (.iaload, 1) := by decide +kernel
theorem dX10_back_52 : decode cX10_back 52 = .ok (.iastore, 1) := by decide +kernel
theorem dX10_back_53 : decode cX10_back 53 = .ok (.iinc 2 1, 3) := by decide +kernel
theorem dX10_back_56 : decode cX10_back 56 = .ok (.goto (-26), 3) := by decide +kernel
theorem dX10_back_59 : decode cX10_back 59 = .ok (.aload_n 0, 1) := by decide +kernel
theorem dX10_back_60 : decode cX10_back 60 = .ok (.iconst 0, 1) := by decide +kernel
theorem dX10_back_61 : decode cX10_back 61 = .ok (.putfield 161, 3) := by decide +kernel
theorem dX10_back_64 : decode cX10_back 64 = .ok (.aload_n 0, 1) := by decide +kernel
theorem dX10_back_65 : decode cX10_back 65 = .ok (.getfield 28, 3) := by decide +kernel
theorem dX10_back_68 : decode cX10_back 68 = .ok (.bipush 6, 2) := by decide +kernel
theorem dX10_back_70 : decode cX10_back 70 = .ok (.iaload, 1) := by decide +kernel
theorem dX10_back_71 : decode cX10_back 71 = .ok (.ireturn, 1) := by decide +kernel
theorem dX10_count_0 : decode cX10_count 0 = .ok (.aload_n 0, 1) := by decide +kernel
theorem dX10_count_1 : decode cX10_count 1 = .ok (.iconst 0, 1) := by decide +kernel
theorem dX10_count_2 : decode cX10_count 2 = .ok (.putfield 89, 3) := by decide +kernel
theorem dX10_count_5 : decode cX10_count 5 = .ok (.iload_n 1, 1) := by decide +kernel
theorem dX10_count_6 : decode cX10_count 6 = .ok (.iconst 0, 1) := by decide +kernel
theorem dX10_count_7 : decode cX10_count 7 = .ok (.iconst 1, 1) := by decide +kernel
theorem dX10_count_8 : decode cX10_count 8 = .ok (.invokestatic 93, 3) := by decide +kernel
theorem dX10_count_11 : decode cX10_count 11 = .ok (.ifCond .eq 12, 3) := by decide +kernel
theorem dX10_count_14 : decode cX10_count 14 = .ok (.aload_n 0, 1) := by decide +kernel
theorem dX10_count_15 : decode cX10_count 15 = .ok (.getfield 13, 3) := by decide +kernel
theorem dX10_count_18 : decode cX10_count 18 = .ok (.iload_n 1, 1) := by decide +kernel
theorem dX10_count_19 : decode cX10_count 19 = .ok (.iaload, 1) := by decide +kernel
theorem dX10_count_20 : decode cX10_count 20 = .ok (.goto 43, 3) := by decide +kernel
theorem dX10_count_23 : decode cX10_count 23 = .ok (.iload_n 1, 1) := by decide +kernel
theorem dX10_count_24 : decode cX10_count 24 = .ok (.iconst 2, 1) := by decide +kernel
theorem dX10_count_25 : decode cX10_count 25 = .ok (.if_icmp .ne 13, 3) := by decide +kernel
theorem dX10_count_28 : decode cX10_count 28 = .ok (.aload_n 0, 1) := by decide +kernel
theorem dX10_count_29 : decode cX10_count 29 = .ok (.getfield 28, 3) := by decide +kernel
theorem dX10_count_32 : decode cX10_count 32 = .ok (.bipush 6, 2) := by decide +kernel
theorem dX10_count_34 : decode cX10_count 34 = .ok (.iaload, 1) := by decide +kernel
theorem dX10_count_35 : decode cX10_count 35 = .ok (.goto 28, 3) := by decide +kernel
theorem dX10_count_38 : decode cX10_count 38 = .ok (.iload_n 1, 1) := by decide +kernel
theorem dX10_count_39 : decode cX10_count 39 = .ok (.iconst 3, 1) := by decide +kernel
theorem dX10_count_40 : decode cX10_count 40 = .ok (.if_icmp .ne 10, 3) := by decide +kernel
theorem dX10_count_43 : decode cX10_count 43 = .ok (.aload_n 0, 1) := by decide +kernel
theorem dX10_count_44 : decode cX10_count 44 = .ok (.getfield 158, 3) := by decide +kernel
theorem dX10_count_47 : decode cX10_count 47 = .ok (.goto 16, 3) := by decide +kernel
theorem dX10_count_50 : decode cX10_count 50 = .ok (.iload_n 1, 1) := by decide +kernel
theorem dX10_count_51 : decode cX10_count 51 = .ok (.iconst 4, 1) := by decide +kernel
theorem dX10_count_52 : decode cX10_count 52 = .ok (.if_icmp .ne 10, 3) := by decide +kernel
theorem dX10_count_55 : decode cX10_count 55 = .ok (.aload_n 0, 1) := by decide +kernel
theorem dX10_count_56 : decode cX10_count 56 = .ok (.getfield 97, 3) := by decide +kernel
theorem dX10_count_59 : decode cX10_count 59 = .ok (.goto 4, 3) := by decide +kernel
theorem dX10_count_62 : decode cX10_count 62 = .ok (.iconst (-1), 1) := by decide +kernel
theorem dX10_count_63 : decode cX10_count 63 = .ok (.ireturn, 1) := by decide +kernel
theorem dX10_trace_0 : decode cX10_trace 0 = .ok (.aload_n 0, 1) := by decide +kernel
theorem dX10_trace_1 : decode cX10_trace 1 = .ok (.iconst 0, 1) := by decide +kernel
theorem dX10_trace_2 : decode cX10_trace 2 = .ok (.putfield 89, 3) := by decide +kernel
theorem dX10_trace_5 : decode cX10_trace 5 = .ok (.aload_n 0, 1) := by decide +kernel
theorem dX10_trace_6 : decode cX10_trace 6 = .ok (.getfield 243, 3) := by decide +kernel
theorem dX10_trace_9 : decode cX10_trace 9 = .ok (.lreturn, 1) := by decide +kernel
theorem dJ6_bitCount_0f7a4_0 : decode cJ6_bitCount_0f7a4 0 = .ok (.iload_n 0, 1) := by decide +kernel
theorem dJ6_bitCount_0f7a4_1 : decode cJ6_bitCount_0f7a4 1 = .ok (.iload_n 0, 1) := by decide +kernel
theorem dJ6_bitCount_0f7a4_2 : decode cJ6_bitCount_0f7a4 2 = .ok (.iconst 1, 1) := by decide +kernel
theorem dJ6_bitCount_0f7a4_3 : decode cJ6_bitCount_0f7a4 3 = .ok (.iushr, 1) := by decide +kernel
theorem dJ6_bitCount_0f7a4_4 : decode cJ6_bitCount_0f7a4 4 = .ok (.ldc_w 265, 3) := by decide +kernel
theorem dJ6_bitCount_0f7a4_7 : decode cJ6_bitCount_0f7a4 7 = .ok (.iand, 1) := by decide +kernel
theorem dJ6_bitCount_0f7a4_8 : decode cJ6_bitCount_0f7a4 8 = .ok (.isub, 1) := by decide +kernel
theorem dJ6_bitCount_0f7a4_9 : decode cJ6_bitCount_0f7a4 9 = .ok (.istore_n 0, 1) := by decide +kernel
theorem dJ6_bitCount_0f7a4_10 : decode cJ6_bitCount_0f7a4 10 = .ok (.iload_n 0, 1) := by decide +kernel
theorem dJ6_bitCount_0f7a4_11 : decode cJ6_bitCount_0f7a4 11 = .ok (.ldc_w 266, 3) := by decide +kernel
theorem dJ6_bitCount_0f7a4_14 : decode cJ6_bitCount_0f7a4 14 = .ok (.iand, 1) := by decide +kernel
theorem dJ6_bitCount_0f7a4_15 : decode cJ6_bitCount_0f7a4 15 = .ok (.iload_n 0, 1) := by decide +kernel
theorem dJ6_bitCount_0f7a4_16 : decode cJ6_bitCount_0f7a4 16 = .ok (.iconst 2, 1) := by decide +kernel
theorem dJ6_bitCount_0f7a4_17 : decode cJ6_bitCount_0f7a4 17 = .ok (.iushr, 1) := by decide +kernel
theorem dJ6_bitCount_0f7a4_18 : decode cJ6_bitCount_0f7a4 18 = .ok (.ldc_w 266, 3) := by decide +kernel
theorem dJ6_bitCount_0f7a4_21 : decode cJ6_bitCount_0f7a4 21 = .ok (.iand, 1) := by decide +kernel
theorem dJ6_bitCount_0f7a4_22 : decode cJ6_bitCount_0f7a4 22 = .ok (.iadd, 1) := by decide +kernel
theorem dJ6_bitCount_0f7a4_23 : decode cJ6_bitCount_0f7a4 23 = .ok (.istore_n 0, 1) := by decide +kernel
theorem dJ6_bitCount_0f7a4_24 : decode cJ6_bitCount_0f7a4 24 = .ok (.iload_n 0, 1) := by decide +kernel
theorem dJ6_bitCount_0f7a4_25 : decode cJ6_bitCount_0f7a4 25 = .ok (.iload_n 0, 1) := by decide +kernel
theorem dJ6_bitCount_0f7a4_26 : decode cJ6_bitCount_0f7a4 26 = .ok (.iconst 4, 1) := by decide +kernel
theorem dJ6_bitCount_0f7a4_27 : decode cJ6_bitCount_0f7a4 27 = .ok (.iushr, 1) := by decide +kernel
theorem dJ6_bitCount_0f7a4_28 : decode cJ6_bitCount_0f7a4 28 = .ok (.iadd, 1) := by decide +kernel
theorem dJ6_bitCount_0f7a4_29 : decode cJ6_bitCount_0f7a4 29 = .ok (.ldc_w 267, 3) := by decide +kernel
theorem dJ6_bitCount_0f7a4_32 : decode cJ6_bitCount_0f7a4 32 = .ok (.iand, 1) := by decide +kernel
theorem dJ6_bitCount_0f7a4_33 : decode cJ6_bitCount_0f7a4 33 = .ok (.istore_n 0, 1) := by decide +kernel
theorem dJ6_bitCount_0f7a4_34 : decode cJ6_bitCount_0f7a4 34 = .ok (.iload_n 0, 1) := by decide +kernel
theorem dJ6_bitCount_0f7a4_35 : decode cJ6_bitCount_0f7a4 35 = .ok (.iload_n 0, 1) := by decide +kernel
theorem dJ6_bitCount_0f7a4_36 : decode cJ6_bitCount_0f7a4 36 = .ok (.bipush 8, 2) := by decide +kernel
theorem dJ6_bitCount_0f7a4_38 : decode cJ6_bitCount_0f7a4 38 = .ok (.iushr, 1) := by decide +kernel
theorem dJ6_bitCount_0f7a4_39 : decode cJ6_bitCount_0f7a4 39 = .ok (.iadd, 1) := by decide +kernel
theorem dJ6_bitCount_0f7a4_40 : decode cJ6_bitCount_0f7a4 40 = .ok (.istore_n 0, 1) := by decide +kernel
theorem dJ6_bitCount_0f7a4_41 : decode cJ6_bitCount_0f7a4 41 = .ok (.iload_n 0, 1) := by decide +kernel
theorem dJ6_bitCount_0f7a4_42 : decode cJ6_bitCount_0f7a4 42 = .ok (.iload_n 0, 1) := by decide +kernel
theorem dJ6_bitCount_0f7a4_43 : decode cJ6_bitCount_0f7a4 43 = .ok (.bipush 16, 2) := by decide +kernel
theorem dJ6_bitCount_0f7a4_45 : decode cJ6_bitCount_0f7a4 45 = .ok (.iushr, 1) := by decide +kernel
theorem dJ6_bitCount_0f7a4_46 : decode cJ6_bitCount_0f7a4 46 = .ok (.iadd, 1) := by decide +kernel
theorem dJ6_bitCount_0f7a4_47 : decode cJ6_bitCount_0f7a4 47 = .ok (.istore_n 0, 1) := by decide +kernel
theorem dJ6_bitCount_0f7a4_48 : decode cJ6_bitCount_0f7a4 48 = .ok (.iload_n 0, 1) := by decide +kernel
theorem dJ6_bitCount_0f7a4_49 : decode cJ6_bitCount_0f7a4 49 = .ok (.bipush 63, 2) := by decide +kernel
theorem dJ6_bitCount_0f7a4_51 : decode cJ6_bitCount_0f7a4 51 = .ok (.iand, 1) := by decide +kernel
theorem dJ6_bitCount_0f7a4_52 : decode cJ6_bitCount_0f7a4 52 = .ok (.ireturn, 1) := by decide +kernel
theorem dJ9_abs_0f7a4_0 : decode cJ9_abs_0f7a4 0 = .ok (.iload_n 0, 1) := by decide +kernel
theorem dJ9_abs_0f7a4_1 : decode cJ9_abs_0f7a4 1 = .ok (.ifCond .ge 8, 3) := by decide +kernel
theorem dJ9_abs_0f7a4_4 : decode cJ9_abs_0f7a4 4 = .ok (.iload_n 0, 1) := by decide +kernel
theorem dJ9_abs_0f7a4_5 : decode cJ9_abs_0f7a4 5 = .ok (.ineg, 1) := by decide +kernel
theorem dJ9_abs_0f7a4_6 : decode cJ9_abs_0f7a4 6 = .ok (.goto 4, 3) := by decide +kernel
theorem dJ9_abs_0f7a4_9 : decode cJ9_abs_0f7a4 9 = .ok (.iload_n 0, 1) := by decide +kernel
theorem dJ9_abs_0f7a4_10 : decode cJ9_abs_0f7a4 10 = .ok (.ireturn, 1) := by decide +kernel
theorem dJ9_max_7cf53_0 : decode cJ9_max_7cf53 0 = .ok (.iload_n 0, 1) := by decide +kernel
theorem dJ9_max_7cf53_1 : decode cJ9_max_7cf53 1 = .ok (.iload_n 1, 1) := by decide +kernel
theorem dJ9_max_7cf53_2 : decode cJ9_max_7cf53 2 = .ok (.if_icmp .lt 7, 3) := by decide +kernel
theorem dJ9_max_7cf53_5 : decode cJ9_max_7cf53 5 = .ok (.iload_n 0, 1) := by decide +kernel
theorem dJ9_max_7cf53_6 : decode cJ9_max_7cf53 6 = .ok (.goto 4, 3) := by decide +kernel
theorem dJ9_max_7cf53_9 : decode cJ9_max_7cf53 9 = .ok (.iload_n 1, 1) := by decide +kernel
theorem dJ9_max_7cf53_10 : decode cJ9_max_7cf53 10 = .ok (.ireturn, 1) := by decide +kernel
theorem dJ9_min_7cf53_0 : decode cJ9_min_7cf53 0 = .ok (.iload_n 0, 1) := by decide +kernel
theorem dJ9_min_7cf53_1 : decode cJ9_min_7cf53 1 = .ok (.iload_n 1, 1) := by decide +kernel
theorem dJ9_min_7cf53_2 : decode cJ9_min_7cf53 2 = .ok (.if_icmp .gt 7, 3) := by decide +kernel
theorem dJ9_min_7cf53_5 : decode cJ9_min_7cf53 5 = .ok (.iload_n 0, 1) := by decide +kernel
end
section
theorem dJ9_min_7cf53_6 : decode cJ9_min_7cf53 6 = .ok (.goto 4, 3) := by decide +kernel
theorem dJ9_min_7cf53_9 : decode cJ9_min_7cf53 9 = .ok (.iload_n 1, 1) := by decide +kernel
theorem dJ9_min_7cf53_10 : decode cJ9_min_7cf53 10 = .ok (.ireturn, 1) := by decide +kernel
theorem dL_law_0 : decode cL_law 0 = .ok (.new 7, 3) := by decide +kernel
theorem dL_law_3 : decode cL_law 3 = .ok (.dup, 1) := by decide +kernel
theorem dL_law_4 : decode cL_law 4 = .ok (.invokespecial 9, 3) := by decide +kernel
theorem dL_law_7 : decode cL_law 7 = .ok (.astore_n 1, 1) := by decide +kernel
theorem dL_law_8 : decode cL_law 8 = .ok (.new 10, 3) := by decide +kernel
theorem dL_law_11 : decode cL_law 11 = .ok (.dup, 1) := by decide +kernel
theorem dL_law_12 : decode cL_law 12 = .ok (.invokespecial 12, 3) := by decide +kernel
theorem dL_law_15 : decode cL_law 15 = .ok (.astore_n 2, 1) := by decide +kernel
theorem dL_law_16 : decode cL_law 16 = .ok (.iconst 0, 1) := by decide +kernel
theorem dL_law_17 : decode cL_law 17 = .ok (.istore_n 3, 1) := by decide +kernel
theorem dL_law_18 : decode cL_law 18 = .ok (.iload_n 3, 1) := by decide +kernel
theorem dL_law_19 : decode cL_law 19 = .ok (.aload_n 0, 1) := by decide +kernel
theorem dL_law_20 : decode cL_law 20 = .ok (.arraylength, 1) := by decide +kernel
theorem dL_law_21 : decode cL_law 21 = .ok (.iconst 3, 1) := by decide +kernel
theorem dL_law_22 : decode cL_law 22 = .ok (.isub, 1) := by decide +kernel
theorem dL_law_23 : decode cL_law 23 = .ok (.if_icmp .gt 869, 3) := by decide +kernel
theorem dL_law_26 : decode cL_law 26 = .ok (.aload_n 0, 1) := by decide +kernel
theorem dL_law_27 : decode cL_law 27 = .ok (.iload_n 3, 1) := by decide +kernel
theorem dL_law_28 : decode cL_law 28 = .ok (.iaload, 1) := by decide +kernel
theorem dL_law_29 : decode cL_law 29 = .ok (.bipush 31, 2) := by decide +kernel
theorem dL_law_31 : decode cL_law 31 = .ok (.iand, 1) := by decide +kernel
theorem dL_law_32 : decode cL_law 32 = .ok (.tableswitch 854 0 30 #[140, 163, 176, 189, 222, 255, 288, 311, 334, 347, 380, 403, 416, 429, 462, 495, 518, 541, 554, 577, 600, 623, 656, 689, 702, 725, 738, 771, 794, 817, 840], 140) := by decide +kernel
theorem dL_law_172 : decode cL_law 172 = .ok (.aload_n 1, 1) := by decide +kernel
theorem dL_law_173 : decode cL_law 173 = .ok (.aload_n 0, 1) := by decide +kernel
theorem dL_law_174 : decode cL_law 174 = .ok (.iload_n 3, 1) := by decide +kernel
theorem dL_law_175 : decode cL_law 175 = .ok (.iconst 1, 1) := by decide +kernel
theorem dL_law_176 : decode cL_law 176 = .ok (.iadd, 1) := by decide +kernel
theorem dL_law_177 : decode cL_law 177 = .ok (.iaload, 1) := by decide +kernel
theorem dL_law_178 : decode cL_law 178 = .ok (.invokevirtual 13, 3) := by decide +kernel
theorem dL_law_181 : decode cL_law 181 = .ok (.aload_n 2, 1) := by decide +kernel
theorem dL_law_182 : decode cL_law 182 = .ok (.aload_n 0, 1) := by decide +kernel
theorem dL_law_183 : decode cL_law 183 = .ok (.iload_n 3, 1) := by decide +kernel
theorem dL_law_184 : decode cL_law 184 = .ok (.iconst 1, 1) := by decide +kernel
theorem dL_law_185 : decode cL_law 185 = .ok (.iadd, 1) := by decide +kernel
theorem dL_law_186 : decode cL_law 186 = .ok (.iaload, 1) := by decide +kernel
theorem dL_law_187 : decode cL_law 187 = .ok (.invokevirtual 17, 3) := by decide +kernel
theorem dL_law_190 : decode cL_law 190 = .ok (.if_icmp .eq 696, 3) := by decide +kernel
theorem dL_law_193 : decode cL_law 193 = .ok (.iconst 0, 1) := by decide +kernel
theorem dL_law_194 : decode cL_law 194 = .ok (.ireturn, 1) := by decide +kernel
theorem dL_law_195 : decode cL_law 195 = .ok (.aload_n 1, 1) := by decide +kernel
theorem dL_law_196 : decode cL_law 196 = .ok (.invokevirtual 18, 3) := by decide +kernel
theorem dL_law_199 : decode cL_law 199 = .ok (.aload_n 2, 1) := by decide +kernel
theorem dL_law_200 : decode cL_law 200 = .ok (.invokevirtual 22, 3) := by decide +kernel
theorem dL_law_203 : decode cL_law 203 = .ok (.if_icmp .eq 683, 3) := by decide +kernel
theorem dL_law_206 : decode cL_law 206 = .ok (.iconst 0, 1) := by decide +kernel
theorem dL_law_207 : decode cL_law 207 = .ok (.ireturn, 1) := by decide +kernel
theorem dL_law_208 : decode cL_law 208 = .ok (.aload_n 1, 1) := by decide +kernel
theorem dL_law_209 : decode cL_law 209 = .ok (.invokevirtual 23, 3) := by decide +kernel
theorem dL_law_212 : decode cL_law 212 = .ok (.aload_n 2, 1) := by decide +kernel
theorem dL_law_213 : decode cL_law 213 = .ok (.invokevirtual 26, 3) := by decide +kernel
theorem dL_law_216 : decode cL_law 216 = .ok (.if_icmp .eq 670, 3) := by decide +kernel
theorem dL_law_219 : decode cL_law 219 = .ok (.iconst 0, 1) := by decide +kernel
theorem dL_law_220 : decode cL_law 220 = .ok (.ireturn, 1) := by decide +kernel
theorem dL_law_221 : decode cL_law 221 = .ok (.aload_n 1, 1) := by decide +kernel
theorem dL_law_222 : decode cL_law 222 = .ok (.aload_n 0, 1) := by decide +kernel
theorem dL_law_223 : decode cL_law 223 = .ok (.iload_n 3, 1) := by decide +kernel
theorem dL_law_224 : decode cL_law 224 = .ok (.iconst 1, 1) := by decide +kernel
theorem dL_law_225 : decode cL_law 225 = .ok (.iadd, 1) := by decide +kernel
theorem dL_law_226 : decode cL_law 226 = .ok (.iaload, 1) := by decide +kernel
theorem dL_law_227 : decode cL_law 227 = .ok (.aload_n 0, 1) := by decide +kernel
theorem dL_law_228 : decode cL_law 228 = .ok (.iload_n 3, 1) := by decide +kernel
theorem dL_law_229 : decode cL_law 229 = .ok (.iconst 2, 1) := by decide +kernel
theorem dL_law_230 : decode cL_law 230 = .ok (.iadd, 1) := by decide +kernel
theorem dL_law_231 : decode cL_law 231 = .ok (.iaload, 1) := by decide +kernel
theorem dL_law_232 : decode cL_law 232 = .ok (.invokevirtual 27, 3) := by decide +kernel
theorem dL_law_235 : decode cL_law 235 = .ok (.aload_n 2, 1) := by decide +kernel
theorem dL_law_236 : decode cL_law 236 = .ok (.aload_n 0, 1) := by decide +kernel
theorem dL_law_237 : decode cL_law 237 = .ok (.iload_n 3, 1) := by decide +kernel
theorem dL_law_238 : decode cL_law 238 = .ok (.iconst 1, 1) := by decide +kernel
theorem dL_law_239 : decode cL_law 239 = .ok (.iadd, 1) := by decide +kernel
theorem dL_law_240 : decode cL_law 240 = .ok (.iaload, 1) := by decide +kernel
theorem dL_law_241 : decode cL_law 241 = .ok (.aload_n 0, 1) := by decide +kernel
theorem dL_law_242 : decode cL_law 242 = .ok (.iload_n 3, 1) := by decide +kernel
theorem dL_law_243 : decode cL_law 243 = .ok (.iconst 2, 1) := by decide +kernel
theorem dL_law_244 : decode cL_law 244 = .ok (.iadd, 1) := by decide +kernel
theorem dL_law_245 : decode cL_law 245 = .ok (.iaload, 1) := by decide +kernel
theorem dL_law_246 : decode cL_law 246 = .ok (.invokevirtual 31, 3) := by decide +kernel
theorem dL_law_249 : decode cL_law 249 = .ok (.if_icmp .eq 637, 3) := by decide +kernel
theorem dL_law_252 : decode cL_law 252 = .ok (.iconst 0, 1) := by decide +kernel
theorem dL_law_253 : decode cL_law 253 = .ok (.ireturn, 1) := by decide +kernel
theorem dL_law_254 : decode cL_law 254 = .ok (.aload_n 1, 1) := by decide +kernel
theorem dL_law_255 : decode cL_law 255 = .ok (.aload_n 0, 1) := by decide +kernel
theorem dL_law_256 : decode cL_law 256 = .ok (.iload_n 3, 1) := by decide +kernel
theorem dL_law_257 : decode cL_law 257 = .ok (.iconst 1, 1) := by decide +kernel
theorem dL_law_258 : decode cL_law 258 = .ok (.iadd, 1) := by decide +kernel
theorem dL_law_259 : decode cL_law 259 = .ok (.iaload, 1) := by decide +kernel
theorem dL_law_260 : decode cL_law 260 = .ok (.aload_n 0, 1) := by decide +kernel
theorem dL_law_261 : decode cL_law 261 = .ok (.iload_n 3, 1) := by decide +kernel
theorem dL_law_262 : decode cL_law 262 = .ok (.iconst 2, 1) := by decide +kernel
theorem dL_law_263 : decode cL_law 263 = .ok (.iadd, 1) := by decide +kernel
theorem dL_law_264 : decode cL_law 264 = .ok (.iaload, 1) := by decide +kernel
theorem dL_law_265 : decode cL_law 265 = .ok (.invokevirtual 32, 3) := by decide +kernel
theorem dL_law_268 : decode cL_law 268 = .ok (.aload_n 2, 1) := by decide +kernel
theorem dL_law_269 : decode cL_law 269 = .ok (.aload_n 0, 1) := by decide +kernel
theorem dL_law_270 : decode cL_law 270 = .ok (.iload_n 3, 1) := by decide +kernel
theorem dL_law_271 : decode cL_law 271 = .ok (.iconst 1, 1) := by decide +kernel
theorem dL_law_272 : decode cL_law 272 = .ok (.iadd, 1) := by decide +kernel
theorem dL_law_273 : decode cL_law 273 = .ok (.iaload, 1) := by decide +kernel
theorem dL_law_274 : decode cL_law 274 = .ok (.aload_n 0, 1) := by decide +kernel
theorem dL_law_275 : decode cL_law 275 = .ok (.iload_n 3, 1) := by decide +kernel
theorem dL_law_276 : decode cL_law 276 = .ok (.iconst 2, 1) := by decide +kernel
theorem dL_law_277 : decode cL_law 277 = .ok (.iadd, 1) := by decide +kernel
theorem dL_law_278 : decode cL_law 278 = .ok (.iaload, 1) := by decide +kernel
theorem dL_law_279 : decode cL_law 279 = .ok (.invokevirtual 35, 3) := by decide +kernel
theorem dL_law_282 : decode cL_law 282 = .ok (.if_icmp .eq 604, 3) := by decide +kernel
theorem dL_law_285 : decode cL_law 285 = .ok (.iconst 0, 1) := by decide +kernel
theorem dL_law_286 : decode cL_law 286 = .ok (.ireturn, 1) := by decide +kernel
theorem dL_law_287 : decode cL_law 287 = .ok (.aload_n 1, 1) := by decide +kernel
theorem dL_law_288 : decode cL_law 288 = .ok (.aload_n 0, 1) := by decide +kernel
theorem dL_law_289 : decode cL_law 289 = .ok (.iload_n 3, 1) := by decide +kernel
theorem dL_law_290 : decode cL_law 290 = .ok (.iconst 1, 1) := by decide +kernel
theorem dL_law_291 : decode cL_law 291 = .ok (.iadd, 1) := by decide +kernel
theorem dL_law_292 : decode cL_law 292 = .ok (.iaload, 1) := by decide +kernel
theorem dL_law_293 : decode cL_law 293 = .ok (.aload_n 0, 1) := by decide +kernel
theorem dL_law_294 : decode cL_law 294 = .ok (.iload_n 3, 1) := by decide +kernel
theorem dL_law_295 : decode cL_law 295 = .ok (.iconst 2, 1) := by decide +kernel
theorem dL_law_296 : decode cL_law 296 = .ok (.iadd, 1) := by decide +kernel
theorem dL_law_297 : decode cL_law 297 = .ok (.iaload, 1) := by decide +kernel
theorem dL_law_298 : decode cL_law 298 = .ok (.invokevirtual 36, 3) := by decide +kernel
theorem dL_law_301 : decode cL_law 301 = .ok (.aload_n 2, 1) := by decide +kernel
theorem dL_law_302 : decode cL_law 302 = .ok (.aload_n 0, 1) := by decide +kernel
theorem dL_law_303 : decode cL_law 303 = .ok (.iload_n 3, 1) := by decide +kernel
theorem dL_law_304 : decode cL_law 304 = .ok (.iconst 1, 1) := by decide +kernel
theorem dL_law_305 : decode cL_law 305 = .ok (.iadd, 1) := by decide +kernel
theorem dL_law_306 : decode cL_law 306 = .ok (.iaload, 1) := by decide +kernel
theorem dL_law_307 : decode cL_law 307 = .ok (.aload_n 0, 1) := by decide +kernel
theorem dL_law_308 : decode cL_law 308 = .ok (.iload_n 3, 1) := by decide +kernel
theorem dL_law_309 : decode cL_law 309 = .ok (.iconst 2, 1) := by decide +kernel
theorem dL_law_310 : decode cL_law 310 = .ok (.iadd, 1) := by decide +kernel
theorem dL_law_311 : decode cL_law 311 = .ok (.iaload, 1) := by decide +kernel
theorem dL_law_312 : decode cL_law 312 = .ok (.invokevirtual 39, 3) := by decide +kernel
theorem dL_law_315 : decode cL_law 315 = .ok (.if_icmp .eq 571, 3) := by decide +kernel
theorem dL_law_318 : decode cL_law 318 = .ok (.iconst 0, 1) := by decide +kernel
theorem dL_law_319 : decode cL_law 319 = .ok (.ireturn, 1) := by decide +kernel
theorem dL_law_320 : decode cL_law 320 = .ok (.aload_n 1, 1) := by decide +kernel
theorem dL_law_321 : decode cL_law 321 = .ok (.aload_n 0, 1) := by decide +kernel
theorem dL_law_322 : decode cL_law 322 = .ok (.iload_n 3, 1) := by decide +kernel
theorem dL_law_323 : decode cL_law 323 = .ok (.iconst 1, 1) := by decide +kernel
theorem dL_law_324 : decode cL_law 324 = .ok (.iadd, 1) := by decide +kernel
theorem dL_law_325 : decode cL_law 325 = .ok (.iaload, 1) := by decide +kernel
theorem dL_law_326 : decode cL_law 326 = .ok (.invokevirtual 40, 3) := by decide +kernel
theorem dL_law_329 : decode cL_law 329 = .ok (.aload_n 2, 1) := by decide +kernel
theorem dL_law_330 : decode cL_law 330 = .ok (.aload_n 0, 1) := by decide +kernel
theorem dL_law_331 : decode cL_law 331 = .ok (.iload_n 3, 1) := by decide +kernel
theorem dL_law_332 : decode cL_law 332 = .ok (.iconst 1, 1) := by decide +kernel
theorem dL_law_333 : decode cL_law 333 = .ok (.iadd, 1) := by decide +kernel
theorem dL_law_334 : decode cL_law 334 = .ok (.iaload, 1) := by decide +kernel
theorem dL_law_335 : decode cL_law 335 = .ok (.invokevirtual 43, 3) := by decide +kernel
theorem dL_law_338 : decode cL_law 338 = .ok (.if_icmp .eq 548, 3) := by decide +kernel
theorem dL_law_341 : decode cL_law 341 = .ok (.iconst 0, 1) := by decide +kernel
theorem dL_law_342 : decode cL_law 342 = .ok (.ireturn, 1) := by decide +kernel
theorem dL_law_343 : decode cL_law 343 = .ok (.aload_n 1, 1) := by decide +kernel
theorem dL_law_344 : decode cL_law 344 = .ok (.aload_n 0, 1) := by decide +kernel
theorem dL_law_345 : decode cL_law 345 = .ok (.iload_n 3, 1) := by decide +kernel
theorem dL_law_346 : decode cL_law 346 = .ok (.iconst 1, 1) := by decide +kernel
theorem dL_law_347 : decode cL_law 347 = .ok (.iadd, 1) := by decide +kernel
theorem dL_law_348 : decode cL_law 348 = .ok (.iaload, 1) := by decide +kernel
theorem dL_law_349 : decode cL_law 349 = .ok (.invokevirtual 44, 3) := by decide +kernel
theorem dL_law_352 : decode cL_law 352 = .ok (.aload_n 2, 1) := by decide +kernel
theorem dL_law_353 : decode cL_law 353 = .ok (.aload_n 0, 1) := by decide +kernel
theorem dL_law_354 : decode cL_law 354 = .ok (.iload_n 3, 1) := by decide +kernel
theorem dL_law_355 : decode cL_law 355 = .ok (.iconst 1, 1) := by decide +kernel
theorem dL_law_356 : decode cL_law 356 = .ok (.iadd, 1) := by decide +kernel
theorem dL_law_357 : decode cL_law 357 = .ok (.iaload, 1) := by decide +kernel
theorem dL_law_358 : decode cL_law 358 = .ok (.invokevirtual 47, 3) := by decide +kernel
theorem dL_law_361 : decode cL_law 361 = .ok (.if_icmp .eq 525, 3) := by decide +kernel
theorem dL_law_364 : decode cL_law 364 = .ok (.iconst 0, 1) := by decide +kernel
theorem dL_law_365 : decode cL_law 365 = .ok (.ireturn, 1) := by decide +kernel
theorem dL_law_366 : decode cL_law 366 = .ok (.aload_n 1, 1) := by decide +kernel
theorem dL_law_367 : decode cL_law 367 = .ok (.invokevirtual 48, 3) := by decide +kernel
theorem dL_law_370 : decode cL_law 370 = .ok (.aload_n 2, 1) := by decide +kernel
theorem dL_law_371 : decode cL_law 371 = .ok (.invokevirtual 51, 3) := by decide +kernel
theorem dL_law_374 : decode cL_law 374 = .ok (.if_icmp .eq 512, 3) := by decide +kernel
theorem dL_law_377 : decode cL_law 377 = .ok (.iconst 0, 1) := by decide +kernel
theorem dL_law_378 : decode cL_law 378 = .ok (.ireturn, 1) := by decide +kernel
theorem dL_law_379 : decode cL_law 379 = .ok (.aload_n 1, 1) := by decide +kernel
theorem dL_law_380 : decode cL_law 380 = .ok (.aload_n 0, 1) := by decide +kernel
theorem dL_law_381 : decode cL_law 381 = .ok (.iload_n 3, 1) := by decide +kernel
theorem dL_law_382 : decode cL_law 382 = .ok (.iconst 1, 1) := by decide +kernel
theorem dL_law_383 : decode cL_law 383 = .ok (.iadd, 1) := by decide +kernel
theorem dL_law_384 : decode cL_law 384 = .ok (.iaload, 1) := by decide +kernel
theorem dL_law_385 : decode cL_law 385 = .ok (.aload_n 0, 1) := by decide +kernel
theorem dL_law_386 : decode cL_law 386 = .ok (.iload_n 3, 1) := by decide +kernel
theorem dL_law_387 : decode cL_law 387 = .ok (.iconst 2, 1) := by decide +kernel
theorem dL_law_388 : decode cL_law 388 = .ok (.iadd, 1) := by decide +kernel
theorem dL_law_389 : decode cL_law 389 = .ok (.iaload, 1) := by decide +kernel
theorem dL_law_390 : decode cL_law 390 = .ok (.invokevirtual 52, 3) := by decide +kernel
theorem dL_law_393 : decode cL_law 393 = .ok (.aload_n 2, 1) := by decide +kernel
theorem dL_law_394 : decode cL_law 394 = .ok (.aload_n 0, 1) := by decide +kernel
theorem dL_law_395 : decode cL_law 395 = .ok (.iload_n 3, 1) := by decide +kernel
theorem dL_law_396 : decode cL_law 396 = .ok (.iconst 1, 1) := by decide +kernel
theorem dL_law_397 : decode cL_law 397 = .ok (.iadd, 1) := by decide +kernel
theorem dL_law_398 : decode cL_law 398 = .ok (.iaload, 1) := by decide +kernel
theorem dL_law_399 : decode cL_law 399 = .ok (.aload_n 0, 1) := by decide +kernel
theorem dL_law_400 : decode cL_law 400 = .ok (.iload_n 3, 1) := by decide +kernel
theorem dL_law_401 : decode cL_law 401 = .ok (.iconst 2, 1) := by decide +kernel
theorem dL_law_402 : decode cL_law 402 = .ok (.iadd, 1) := by decide +kernel
theorem dL_law_403 : decode cL_law 403 = .ok (.iaload, 1) := by decide +kernel
theorem dL_law_404 : decode cL_law 404 = .ok (.invokevirtual 55, 3) := by decide +kernel
theorem dL_law_407 : decode cL_law 407 = .ok (.if_icmp .eq 479, 3) := by decide +kernel
theorem dL_law_410 : decode cL_law 410 = .ok (.iconst 0, 1) := by decide +kernel
theorem dL_law_411 : decode cL_law 411 = .ok (.ireturn, 1) := by decide +kernel
theorem dL_law_412 : decode cL_law 412 = .ok (.aload_n 1, 1) := by decide +kernel
theorem dL_law_413 : decode cL_law 413 = .ok (.aload_n 0, 1) := by decide +kernel
theorem dL_law_414 : decode cL_law 414 = .ok (.iload_n 3, 1) := by decide +kernel
theorem dL_law_415 : decode cL_law 415 = .ok (.iconst 1, 1) := by decide +kernel
theorem dL_law_416 : decode cL_law 416 = .ok (.iadd, 1) := by decide +kernel
theorem dL_law_417 : decode cL_law 417 = .ok (.iaload, 1) := by decide +kernel
theorem dL_law_418 : decode cL_law 418 = .ok (.invokevirtual 56, 3) := by decide +kernel
theorem dL_law_421 : decode cL_law 421 = .ok (.aload_n 2, 1) := by decide +kernel
theorem dL_law_422 : decode cL_law 422 = .ok (.aload_n 0, 1) := by decide +kernel
theorem dL_law_423 : decode cL_law 423 = .ok (.iload_n 3, 1) := by decide +kernel
theorem dL_law_424 : decode cL_law 424 = .ok (.iconst 1, 1) := by decide +kernel
theorem dL_law_425 : decode cL_law 425 = .ok (.iadd, 1) := by decide +kernel
theorem dL_law_426 : decode cL_law 426 = .ok (.iaload, 1) := by decide +kernel
theorem dL_law_427 : decode cL_law 427 = .ok (.invokevirtual 59, 3) := by decide +kernel
theorem dL_law_430 : decode cL_law 430 = .ok (.if_icmp .eq 456, 3) := by decide +kernel
theorem dL_law_433 : decode cL_law 433 = .ok (.iconst 0, 1) := by decide +kernel
theorem dL_law_434 : decode cL_law 434 = .ok (.ireturn, 1) := by decide +kernel
theorem dL_law_435 : decode cL_law 435 = .ok (.aload_n 1, 1) := by decide +kernel
theorem dL_law_436 : decode cL_law 436 = .ok (.invokevirtual 60, 3) := by decide +kernel
theorem dL_law_439 : decode cL_law 439 = .ok (.aload_n 2, 1) := by decide +kernel
theorem dL_law_440 : decode cL_law 440 = .ok (.invokevirtual 63, 3) := by decide +kernel
theorem dL_law_443 : decode cL_law 443 = .ok (.if_icmp .eq 443, 3) := by decide +kernel
theorem dL_law_446 : decode cL_law 446 = .ok (.iconst 0, 1) := by decide +kernel
theorem dL_law_447 : decode cL_law 447 = .ok (.ireturn, 1) := by decide +kernel
theorem dL_law_448 : decode cL_law 448 = .ok (.aload_n 1, 1) := by decide +kernel
theorem dL_law_449 : decode cL_law 449 = .ok (.invokevirtual 64, 3) := by decide +kernel
theorem dL_law_452 : decode cL_law 452 = .ok (.aload_n 2, 1) := by decide +kernel
theorem dL_law_453 : decode cL_law 453 = .ok (.invokevirtual 67, 3) := by decide +kernel
theorem dL_law_456 : decode cL_law 456 = .ok (.if_icmp .eq 430, 3) := by decide +kernel
theorem dL_law_459 : decode cL_law 459 = .ok (.iconst 0, 1) := by decide +kernel
theorem dL_law_460 : decode cL_law 460 = .ok (.ireturn, 1) := by decide +kernel
theorem dL_law_461 : decode cL_law 461 = .ok (.aload_n 1, 1) := by decide +kernel
theorem dL_law_462 : decode cL_law 462 = .ok (.aload_n 0, 1) := by decide +kernel
theorem dL_law_463 : decode cL_law 463 = .ok (.iload_n 3, 1) := by decide +kernel
theorem dL_law_464 : decode cL_law 464 = .ok (.iconst 1, 1) := by decide +kernel
theorem dL_law_465 : decode cL_law 465 = .ok (.iadd, 1) := by decide +kernel
theorem dL_law_466 : decode cL_law 466 = .ok (.iaload, 1) := by decide +kernel
theorem dL_law_467 : decode cL_law 467 = .ok (.aload_n 0, 1) := by decide +kernel
theorem dL_law_468 : decode cL_law 468 = .ok (.iload_n 3, 1) := by decide +kernel
theorem dL_law_469 : decode cL_law 469 = .ok (.iconst 2, 1) := by decide +kernel
theorem dL_law_470 : decode cL_law 470 = .ok (.iadd, 1) := by decide +kernel
theorem dL_law_471 : decode cL_law 471 = .ok (.iaload, 1) := by decide +kernel
theorem dL_law_472 : decode cL_law 472 = .ok (.invokevirtual 68, 3) := by decide +kernel
theorem dL_law_475 : decode cL_law 475 = .ok (.aload_n 2, 1) := by decide +kernel
theorem dL_law_476 : decode cL_law 476 = .ok (.aload_n 0, 1) := by decide +kernel
theorem dL_law_477 : decode cL_law 477 = .ok (.iload_n 3, 1) := by decide +kernel
theorem dL_law_478 : decode cL_law 478 = .ok (.iconst 1, 1) := by decide +kernel
theorem dL_law_479 : decode cL_law 479 = .ok (.iadd, 1) := by decide +kernel
theorem dL_law_480 : decode cL_law 480 = .ok (.iaload, 1) := by decide +kernel
theorem dL_law_481 : decode cL_law 481 = .ok (.aload_n 0, 1) := by decide +kernel
theorem dL_law_482 : decode cL_law 482 = .ok (.iload_n 3, 1) := by decide +kernel
theorem dL_law_483 : decode cL_law 483 = .ok (.iconst 2, 1) := by decide +kernel
theorem dL_law_484 : decode cL_law 484 = .ok (.iadd, 1) := by decide +kernel
theorem dL_law_485 : decode cL_law 485 = .ok (.iaload, 1) := by decide +kernel
theorem dL_law_486 : decode cL_law 486 = .ok (.invokevirtual 71, 3) := by decide +kernel
theorem dL_law_489 : decode cL_law 489 = .ok (.if_icmp .eq 397, 3) := by decide +kernel
theorem dL_law_492 : decode cL_law 492 = .ok (.iconst 0, 1) := by decide +kernel
theorem dL_law_493 : decode cL_law 493 = .ok (.ireturn, 1) := by decide +kernel
theorem dL_law_494 : decode cL_law 494 = .ok (.aload_n 1, 1) := by decide +kernel
theorem dL_law_495 : decode cL_law 495 = .ok (.aload_n 0, 1) := by decide +kernel
theorem dL_law_496 : decode cL_law 496 = .ok (.iload_n 3, 1) := by decide +kernel
theorem dL_law_497 : decode cL_law 497 = .ok (.iconst 1, 1) := by decide +kernel
theorem dL_law_498 : decode cL_law 498 = .ok (.iadd, 1) := by decide +kernel
theorem dL_law_499 : decode cL_law 499 = .ok (.iaload, 1) := by decide +kernel
theorem dL_law_500 : decode cL_law 500 = .ok (.aload_n 0, 1) := by decide +kernel
theorem dL_law_501 : decode cL_law 501 = .ok (.iload_n 3, 1) := by decide +kernel
theorem dL_law_502 : decode cL_law 502 = .ok (.iconst 2, 1) := by decide +kernel
theorem dL_law_503 : decode cL_law 503 = .ok (.iadd, 1) := by decide +kernel
theorem dL_law_504 : decode cL_law 504 = .ok (.iaload, 1) := by decide +kernel
theorem dL_law_505 : decode cL_law 505 = .ok (.invokevirtual 72, 3) := by decide +kernel
theorem dL_law_508 : decode cL_law 508 = .ok (.aload_n 2, 1) := by decide +kernel
theorem dL_law_509 : decode cL_law 509 = .ok (.aload_n 0, 1) := by decide +kernel
theorem dL_law_510 : decode cL_law 510 = .ok (.iload_n 3, 1) := by decide +kernel
theorem dL_law_511 : decode cL_law 511 = .ok (.iconst 1, 1) := by decide +kernel
theorem dL_law_512 : decode cL_law 512 = .ok (.iadd, 1) := by decide +kernel
theorem dL_law_513 : decode cL_law 513 = .ok (.iaload, 1) := by decide +kernel
theorem dL_law_514 : decode cL_law 514 = .ok (.aload_n 0, 1) := by decide +kernel
theorem dL_law_515 : decode cL_law 515 = .ok (.iload_n 3, 1) := by decide +kernel
theorem dL_law_516 : decode cL_law 516 = .ok (.iconst 2, 1) := by decide +kernel
theorem dL_law_517 : decode cL_law 517 = .ok (.iadd, 1) := by decide +kernel
theorem dL_law_518 : decode cL_law 518 = .ok (.iaload, 1) := by decide +kernel
theorem dL_law_519 : decode cL_law 519 = .ok (.invokevirtual 75, 3) := by decide +kernel
theorem dL_law_522 : decode cL_law 522 = .ok (.if_icmp .eq 364, 3) := by decide +kernel
theorem dL_law_525 : decode cL_law 525 = .ok (.iconst 0, 1) := by decide +kernel
theorem dL_law_526 : decode cL_law 526 = .ok (.ireturn, 1) := by decide +kernel
theorem dL_law_527 : decode cL_law 527 = .ok (.aload_n 1, 1) := by decide +kernel
theorem dL_law_528 : decode cL_law 528 = .ok (.aload_n 0, 1) := by decide +kernel
theorem dL_law_529 : decode cL_law 529 = .ok (.iload_n 3, 1) := by decide +kernel
theorem dL_law_530 : decode cL_law 530 = .ok (.iconst 1, 1) := by decide +kernel
theorem dL_law_531 : decode cL_law 531 = .ok (.iadd, 1) := by decide +kernel
theorem dL_law_532 : decode cL_law 532 = .ok (.iaload, 1) := by decide +kernel
theorem dL_law_533 : decode cL_law 533 = .ok (.invokevirtual 76, 3) := by decide +kernel
theorem dL_law_536 : decode cL_law 536 = .ok (.aload_n 2, 1) := by decide +kernel
theorem dL_law_537 : decode cL_law 537 = .ok (.aload_n 0, 1) := by decide +kernel
theorem dL_law_538 : decode cL_law 538 = .ok (.iload_n 3, 1) := by decide +kernel
theorem dL_law_539 : decode cL_law 539 = .ok (.iconst 1, 1) := by decide +kernel
theorem dL_law_540 : decode cL_law 540 = .ok (.iadd, 1) := by decide +kernel
theorem dL_law_541 : decode cL_law 541 = .ok (.iaload, 1) := by decide +kernel
theorem dL_law_542 : decode cL_law 542 = .ok (.invokevirtual 79, 3) := by decide +kernel
theorem dL_law_545 : decode cL_law 545 = .ok (.if_icmp .eq 341, 3) := by decide +kernel
theorem dL_law_548 : decode cL_law 548 = .ok (.iconst 0, 1) := by decide +kernel
theorem dL_law_549 : decode cL_law 549 = .ok (.ireturn, 1) := by decide +kernel
theorem dL_law_550 : decode cL_law 550 = .ok (.aload_n 1, 1) := by decide +kernel
theorem dL_law_551 : decode cL_law 551 = .ok (.aload_n 0, 1) := by decide +kernel
theorem dL_law_552 : decode cL_law 552 = .ok (.iload_n 3, 1) := by decide +kernel
theorem dL_law_553 : decode cL_law 553 = .ok (.iconst 1, 1) := by decide +kernel
theorem dL_law_554 : decode cL_law 554 = .ok (.iadd, 1) := by decide +kernel
theorem dL_law_555 : decode cL_law 555 = .ok (.iaload, 1) := by decide +kernel
theorem dL_law_556 : decode cL_law 556 = .ok (.invokevirtual 80, 3) := by decide +kernel
theorem dL_law_559 : decode cL_law 559 = .ok (.aload_n 2, 1) := by decide +kernel
theorem dL_law_560 : decode cL_law 560 = .ok (.aload_n 0, 1) := by decide +kernel
theorem dL_law_561 : decode cL_law 561 = .ok (.iload_n 3, 1) := by decide +kernel
theorem dL_law_562 : decode cL_law 562 = .ok (.iconst 1, 1) := by decide +kernel
theorem dL_law_563 : decode cL_law 563 = .ok (.iadd, 1) := by decide +kernel
theorem dL_law_564 : decode cL_law 564 = .ok (.iaload, 1) := by decide +kernel
theorem dL_law_565 : decode cL_law 565 = .ok (.invokevirtual 83, 3) := by decide +kernel
theorem dL_law_568 : decode cL_law 568 = .ok (.if_icmp .eq 318, 3) := by decide +kernel
theorem dL_law_571 : decode cL_law 571 = .ok (.iconst 0, 1) := by decide +kernel
theorem dL_law_572 : decode cL_law 572 = .ok (.ireturn, 1) := by decide +kernel
theorem dL_law_573 : decode cL_law 573 = .ok (.aload_n 1, 1) := by decide +kernel
theorem dL_law_574 : decode cL_law 574 = .ok (.invokevirtual 84, 3) := by decide +kernel
theorem dL_law_577 : decode cL_law 577 = .ok (.aload_n 2, 1) := by decide +kernel
theorem dL_law_578 : decode cL_law 578 = .ok (.invokevirtual 87, 3) := by decide +kernel
theorem dL_law_581 : decode cL_law 581 = .ok (.if_icmp .eq 305, 3) := by decide +kernel
theorem dL_law_584 : decode cL_law 584 = .ok (.iconst 0, 1) := by decide +kernel
theorem dL_law_585 : decode cL_law 585 = .ok (.ireturn, 1) := by decide +kernel
theorem dL_law_586 : decode cL_law 586 = .ok (.aload_n 1, 1) := by decide +kernel
theorem dL_law_587 : decode cL_law 587 = .ok (.aload_n 0, 1) := by decide +kernel
theorem dL_law_588 : decode cL_law 588 = .ok (.iload_n 3, 1) := by decide +kernel
theorem dL_law_589 : decode cL_law 589 = .ok (.iconst 1, 1) := by decide +kernel
theorem dL_law_590 : decode cL_law 590 = .ok (.iadd, 1) := by decide +kernel
theorem dL_law_591 : decode cL_law 591 = .ok (.iaload, 1) := by decide +kernel
theorem dL_law_592 : decode cL_law 592 = .ok (.invokevirtual 88, 3) := by decide +kernel
theorem dL_law_595 : decode cL_law 595 = .ok (.aload_n 2, 1) := by decide +kernel
theorem dL_law_596 : decode cL_law 596 = .ok (.aload_n 0, 1) := by decide +kernel
theorem dL_law_597 : decode cL_law 597 = .ok (.iload_n 3, 1) := by decide +kernel
theorem dL_law_598 : decode cL_law 598 = .ok (.iconst 1, 1) := by decide +kernel
theorem dL_law_599 : decode cL_law 599 = .ok (.iadd, 1) := by decide +kernel
theorem dL_law_600 : decode cL_law 600 = .ok (.iaload, 1) := by decide +kernel
theorem dL_law_601 : decode cL_law 601 = .ok (.invokevirtual 91, 3) := by decide +kernel
theorem dL_law_604 : decode cL_law 604 = .ok (.if_icmp .eq 282, 3) := by decide +kernel
theorem dL_law_607 : decode cL_law 607 = .ok (.iconst 0, 1) := by decide +kernel
theorem dL_law_608 : decode cL_law 608 = .ok (.ireturn, 1) := by decide +kernel
theorem dL_law_609 : decode cL_law 609 = .ok (.aload_n 1, 1) := by decide +kernel
theorem dL_law_610 : decode cL_law 610 = .ok (.aload_n 0, 1) := by decide +kernel
theorem dL_law_611 : decode cL_law 611 = .ok (.iload_n 3, 1) := by decide +kernel
theorem dL_law_612 : decode cL_law 612 = .ok (.iconst 1, 1) := by decide +kernel
theorem dL_law_613 : decode cL_law 613 = .ok (.iadd, 1) := by decide +kernel
theorem dL_law_614 : decode cL_law 614 = .ok (.iaload, 1) := by decide +kernel
theorem dL_law_615 : decode cL_law 615 = .ok (.invokevirtual 92, 3) := by decide +kernel
theorem dL_law_618 : decode cL_law 618 = .ok (.aload_n 2, 1) := by decide +kernel
theorem dL_law_619 : decode cL_law 619 = .ok (.aload_n 0, 1) := by decide +kernel
theorem dL_law_620 : decode cL_law 620 = .ok (.iload_n 3, 1) := by decide +kernel
theorem dL_law_621 : decode cL_law 621 = .ok (.iconst 1, 1) := by decide +kernel
theorem dL_law_622 : decode cL_law 622 = .ok (.iadd, 1) := by decide +kernel
theorem dL_law_623 : decode cL_law 623 = .ok (.iaload, 1) := by decide +kernel
theorem dL_law_624 : decode cL_law 624 = .ok (.invokevirtual 95, 3) := by decide +kernel
theorem dL_law_627 : decode cL_law 627 = .ok (.if_icmp .eq 259, 3) := by decide +kernel
theorem dL_law_630 : decode cL_law 630 = .ok (.iconst 0, 1) := by decide +kernel
theorem dL_law_631 : decode cL_law 631 = .ok (.ireturn, 1) := by decide +kernel
theorem dL_law_632 : decode cL_law 632 = .ok (.aload_n 1, 1) := by decide +kernel
theorem dL_law_633 : decode cL_law 633 = .ok (.aload_n 0, 1) := by decide +kernel
theorem dL_law_634 : decode cL_law 634 = .ok (.iload_n 3, 1) := by decide +kernel
theorem dL_law_635 : decode cL_law 635 = .ok (.iconst 1, 1) := by decide +kernel
theorem dL_law_636 : decode cL_law 636 = .ok (.iadd, 1) := by decide +kernel
theorem dL_law_637 : decode cL_law 637 = .ok (.iaload, 1) := by decide +kernel
theorem dL_law_638 : decode cL_law 638 = .ok (.invokevirtual 96, 3) := by decide +kernel
theorem dL_law_641 : decode cL_law 641 = .ok (.aload_n 2, 1) := by decide +kernel
theorem dL_law_642 : decode cL_law 642 = .ok (.aload_n 0, 1) := by decide +kernel
theorem dL_law_643 : decode cL_law 643 = .ok (.iload_n 3, 1) := by decide +kernel
theorem dL_law_644 : decode cL_law 644 = .ok (.iconst 1, 1) := by decide +kernel
theorem dL_law_645 : decode cL_law 645 = .ok (.iadd, 1) := by decide +kernel
theorem dL_law_646 : decode cL_law 646 = .ok (.iaload, 1) := by decide +kernel
theorem dL_law_647 : decode cL_law 647 = .ok (.invokevirtual 99, 3) := by decide +kernel
theorem dL_law_650 : decode cL_law 650 = .ok (.if_icmp .eq 236, 3) := by decide +kernel
theorem dL_law_653 : decode cL_law 653 = .ok (.iconst 0, 1) := by decide +kernel
theorem dL_law_654 : decode cL_law 654 = .ok (.ireturn, 1) := by decide +kernel
theorem dL_law_655 : decode cL_law 655 = .ok (.aload_n 1, 1) := by decide +kernel
theorem dL_law_656 : decode cL_law 656 = .ok (.aload_n 0, 1) := by decide +kernel
theorem dL_law_657 : decode cL_law 657 = .ok (.iload_n 3, 1) := by decide +kernel
theorem dL_law_658 : decode cL_law 658 = .ok (.iconst 1, 1) := by decide +kernel
theorem dL_law_659 : decode cL_law 659 = .ok (.iadd, 1) := by decide +kernel
theorem dL_law_660 : decode cL_law 660 = .ok (.iaload, 1) := by decide +kernel
theorem dL_law_661 : decode cL_law 661 = .ok (.aload_n 0, 1) := by decide +kernel
theorem dL_law_662 : decode cL_law 662 = .ok (.iload_n 3, 1) := by decide +kernel
theorem dL_law_663 : decode cL_law 663 = .ok (.iconst 2, 1) := by decide +kernel
theorem dL_law_664 : decode cL_law 664 = .ok (.iadd, 1) := by decide +kernel
theorem dL_law_665 : decode cL_law 665 = .ok (.iaload, 1) := by decide +kernel
theorem dL_law_666 : decode cL_law 666 = .ok (.invokevirtual 100, 3) := by decide +kernel
theorem dL_law_669 : decode cL_law 669 = .ok (.aload_n 2, 1) := by decide +kernel
theorem dL_law_670 : decode cL_law 670 = .ok (.aload_n 0, 1) := by decide +kernel
theorem dL_law_671 : decode cL_law 671 = .ok (.iload_n 3, 1) := by decide +kernel
theorem dL_law_672 : decode cL_law 672 = .ok (.iconst 1, 1) := by decide +kernel
theorem dL_law_673 : decode cL_law 673 = .ok (.iadd, 1) := by decide +kernel
theorem dL_law_674 : decode cL_law 674 = .ok (.iaload, 1) := by decide +kernel
theorem dL_law_675 : decode cL_law 675 = .ok (.aload_n 0, 1) := by decide +kernel
theorem dL_law_676 : decode cL_law 676 = .ok (.iload_n 3, 1) := by decide +kernel
theorem dL_law_677 : decode cL_law 677 = .ok (.iconst 2, 1) := by decide +kernel
theorem dL_law_678 : decode cL_law 678 = .ok (.iadd, 1) := by decide +kernel
theorem dL_law_679 : decode cL_law 679 = .ok (.iaload, 1) := by decide +kernel
theorem dL_law_680 : decode cL_law 680 = .ok (.invokevirtual 103, 3) := by decide +kernel
theorem dL_law_683 : decode cL_law 683 = .ok (.if_icmp .eq 203, 3) := by decide +kernel
theorem dL_law_686 : decode cL_law 686 = .ok (.iconst 0, 1) := by decide +kernel
theorem dL_law_687 : decode cL_law 687 = .ok (.ireturn, 1) := by decide +kernel
theorem dL_law_688 : decode cL_law 688 = .ok (.aload_n 1, 1) := by decide +kernel
theorem dL_law_689 : decode cL_law 689 = .ok (.aload_n 0, 1) := by decide +kernel
theorem dL_law_690 : decode cL_law 690 = .ok (.iload_n 3, 1) := by decide +kernel
theorem dL_law_691 : decode cL_law 691 = .ok (.iconst 1, 1) := by decide +kernel
theorem dL_law_692 : decode cL_law 692 = .ok (.iadd, 1) := by decide +kernel
theorem dL_law_693 : decode cL_law 693 = .ok (.iaload, 1) := by decide +kernel
theorem dL_law_694 : decode cL_law 694 = .ok (.aload_n 0, 1) := by decide +kernel
theorem dL_law_695 : decode cL_law 695 = .ok (.iload_n 3, 1) := by decide +kernel
theorem dL_law_696 : decode cL_law 696 = .ok (.iconst 2, 1) := by decide +kernel
theorem dL_law_697 : decode cL_law 697 = .ok (.iadd, 1) := by decide +kernel
theorem dL_law_698 : decode cL_law 698 = .ok (.iaload, 1) := by decide +kernel
theorem dL_law_699 : decode cL_law 699 = .ok (.invokevirtual 104, 3) := by decide +kernel
theorem dL_law_702 : decode cL_law 702 = .ok (.aload_n 2, 1) := by decide +kernel
theorem dL_law_703 : decode cL_law 703 = .ok (.aload_n 0, 1) := by decide +kernel
theorem dL_law_704 : decode cL_law 704 = .ok (.iload_n 3, 1) := by decide +kernel
theorem dL_law_705 : decode cL_law 705 = .ok (.iconst 1, 1) := by decide +kernel
theorem dL_law_706 : decode cL_law 706 = .ok (.iadd, 1) := by decide +kernel
theorem dL_law_707 : decode cL_law 707 = .ok (.iaload, 1) := by decide +kernel
theorem dL_law_708 : decode cL_law 708 = .ok (.aload_n 0, 1) := by decide +kernel
theorem dL_law_709 : decode cL_law 709 = .ok (.iload_n 3, 1) := by decide +kernel
theorem dL_law_710 : decode cL_law 710 = .ok (.iconst 2, 1) := by decide +kernel
theorem dL_law_711 : decode cL_law 711 = .ok (.iadd, 1) := by decide +kernel
theorem dL_law_712 : decode cL_law 712 = .ok (.iaload, 1) := by decide +kernel
theorem dL_law_713 : decode cL_law 713 = .ok (.invokevirtual 107, 3) := by decide +kernel
theorem dL_law_716 : decode cL_law 716 = .ok (.if_icmp .eq 170, 3) := by decide +kernel
theorem dL_law_719 : decode cL_law 719 = .ok (.iconst 0, 1) := by decide +kernel
theorem dL_law_720 : decode cL_law 720 = .ok (.ireturn, 1) := by decide +kernel
theorem dL_law_721 : decode cL_law 721 = .ok (.aload_n 1, 1) := by decide +kernel
theorem dL_law_722 : decode cL_law 722 = .ok (.invokevirtual 108, 3) := by decide +kernel
theorem dL_law_725 : decode cL_law 725 = .ok (.aload_n 2, 1) := by decide +kernel
theorem dL_law_726 : decode cL_law 726 = .ok (.invokevirtual 111, 3) := by decide +kernel
theorem dL_law_729 : decode cL_law 729 = .ok (.if_icmp .eq 157, 3) := by decide +kernel
theorem dL_law_732 : decode cL_law 732 = .ok (.iconst 0, 1) := by decide +kernel
theorem dL_law_733 : decode cL_law 733 = .ok (.ireturn, 1) := by decide +kernel
theorem dL_law_734 : decode cL_law 734 = .ok (.aload_n 1, 1) := by decide +kernel
theorem dL_law_735 : decode cL_law 735 = .ok (.aload_n 0, 1) := by decide +kernel
theorem dL_law_736 : decode cL_law 736 = .ok (.iload_n 3, 1) := by decide +kernel
theorem dL_law_737 : decode cL_law 737 = .ok (.iconst 1, 1) := by decide +kernel
theorem dL_law_738 : decode cL_law 738 = .ok (.iadd, 1) := by decide +kernel
theorem dL_law_739 : decode cL_law 739 = .ok (.iaload, 1) := by decide +kernel
theorem dL_law_740 : decode cL_law 740 = .ok (.invokevirtual 112, 3) := by decide +kernel
theorem dL_law_743 : decode cL_law 743 = .ok (.aload_n 2, 1) := by decide +kernel
theorem dL_law_744 : decode cL_law 744 = .ok (.aload_n 0, 1) := by decide +kernel
theorem dL_law_745 : decode cL_law 745 = .ok (.iload_n 3, 1) := by decide +kernel
theorem dL_law_746 : decode cL_law 746 = .ok (.iconst 1, 1) := by decide +kernel
theorem dL_law_747 : decode cL_law 747 = .ok (.iadd, 1) := by decide +kernel
theorem dL_law_748 : decode cL_law 748 = .ok (.iaload, 1) := by decide +kernel
theorem dL_law_749 : decode cL_law 749 = .ok (.invokevirtual 115, 3) := by decide +kernel
theorem dL_law_752 : decode cL_law 752 = .ok (.if_icmp .eq 134, 3) := by decide +kernel
theorem dL_law_755 : decode cL_law 755 = .ok (.iconst 0, 1) := by decide +kernel
theorem dL_law_756 : decode cL_law 756 = .ok (.ireturn, 1) := by decide +kernel
theorem dL_law_757 : decode cL_law 757 = .ok (.aload_n 1, 1) := by decide +kernel
theorem dL_law_758 : decode cL_law 758 = .ok (.invokevirtual 116, 3) := by decide +kernel
theorem dL_law_761 : decode cL_law 761 = .ok (.aload_n 2, 1) := by decide +kernel
theorem dL_law_762 : decode cL_law 762 = .ok (.invokevirtual 119, 3) := by decide +kernel
theorem dL_law_765 : decode cL_law 765 = .ok (.if_icmp .eq 121, 3) := by decide +kernel
theorem dL_law_768 : decode cL_law 768 = .ok (.iconst 0, 1) := by decide +kernel
theorem dL_law_769 : decode cL_law 769 = .ok (.ireturn, 1) := by decide +kernel
theorem dL_law_770 : decode cL_law 770 = .ok (.aload_n 1, 1) := by decide +kernel
theorem dL_law_771 : decode cL_law 771 = .ok (.aload_n 0, 1) := by decide +kernel
theorem dL_law_772 : decode cL_law 772 = .ok (.iload_n 3, 1) := by decide +kernel
theorem dL_law_773 : decode cL_law 773 = .ok (.iconst 1, 1) := by decide +kernel
theorem dL_law_774 : decode cL_law 774 = .ok (.iadd, 1) := by decide +kernel
theorem dL_law_775 : decode cL_law 775 = .ok (.iaload, 1) := by decide +kernel
theorem dL_law_776 : decode cL_law 776 = .ok (.aload_n 0, 1) := by decide +kernel
theorem dL_law_777 : decode cL_law 777 = .ok (.iload_n 3, 1) := by decide +kernel
theorem dL_law_778 : decode cL_law 778 = .ok (.iconst 2, 1) := by decide +kernel
theorem dL_law_779 : decode cL_law 779 = .ok (.iadd, 1) := by decide +kernel
theorem dL_law_780 : decode cL_law 780 = .ok (.iaload, 1) := by decide +kernel
theorem dL_law_781 : decode cL_law 781 = .ok (.invokevirtual 120, 3) := by decide +kernel
theorem dL_law_784 : decode cL_law 784 = .ok (.aload_n 2, 1) := by decide +kernel
theorem dL_law_785 : decode cL_law 785 = .ok (.aload_n 0, 1) := by decide +kernel
theorem dL_law_786 : decode cL_law 786 = .ok (.iload_n 3, 1) := by decide +kernel
theorem dL_law_787 : decode cL_law 787 = .ok (.iconst 1, 1) := by decide +kernel
theorem dL_law_788 : decode cL_law 788 = .ok (.iadd, 1) := by decide +kernel
theorem dL_law_789 : decode cL_law 789 = .ok (.iaload, 1) := by decide +kernel
theorem dL_law_790 : decode cL_law 790 = .ok (.aload_n 0, 1) := by decide +kernel
theorem dL_law_791 : decode cL_law 791 = .ok (.iload_n 3, 1) := by decide +kernel
theorem dL_law_792 : decode cL_law 792 = .ok (.iconst 2, 1) := by decide +kernel
theorem dL_law_793 : decode cL_law 793 = .ok (.iadd, 1) := by decide +kernel
theorem dL_law_794 : decode cL_law 794 = .ok (.iaload, 1) := by decide +kernel
theorem dL_law_795 : decode cL_law 795 = .ok (.invokevirtual 123, 3) := by decide +kernel
theorem dL_law_798 : decode cL_law 798 = .ok (.if_icmp .eq 88, 3) := by decide +kernel
theorem dL_law_801 : decode cL_law 801 = .ok (.iconst 0, 1) := by decide +kernel
theorem dL_law_802 : decode cL_law 802 = .ok (.ireturn, 1) := by decide +kernel
theorem dL_law_803 : decode cL_law 803 = .ok (.aload_n 1, 1) := by decide +kernel
theorem dL_law_804 : decode cL_law 804 = .ok (.aload_n 0, 1) := by decide +kernel
theorem dL_law_805 : decode cL_law 805 = .ok (.iload_n 3, 1) := by decide +kernel
theorem dL_law_806 : decode cL_law 806 = .ok (.iconst 1, 1) := by decide +kernel
theorem dL_law_807 : decode cL_law 807 = .ok (.iadd, 1) := by decide +kernel
theorem dL_law_808 : decode cL_law 808 = .ok (.iaload, 1) := by decide +kernel
theorem dL_law_809 : decode cL_law 809 = .ok (.invokevirtual 124, 3) := by decide +kernel
theorem dL_law_812 : decode cL_law 812 = .ok (.aload_n 2, 1) := by decide +kernel
theorem dL_law_813 : decode cL_law 813 = .ok (.aload_n 0, 1) := by decide +kernel
theorem dL_law_814 : decode cL_law 814 = .ok (.iload_n 3, 1) := by decide +kernel
theorem dL_law_815 : decode cL_law 815 = .ok (.iconst 1, 1) := by decide +kernel
theorem dL_law_816 : decode cL_law 816 = .ok (.iadd, 1) := by decide +kernel
theorem dL_law_817 : decode cL_law 817 = .ok (.iaload, 1) := by decide +kernel
theorem dL_law_818 : decode cL_law 818 = .ok (.invokevirtual 127, 3) := by decide +kernel
theorem dL_law_821 : decode cL_law 821 = .ok (.if_icmp .eq 65, 3) := by decide +kernel
theorem dL_law_824 : decode cL_law 824 = .ok (.iconst 0, 1) := by decide +kernel
theorem dL_law_825 : decode cL_law 825 = .ok (.ireturn, 1) := by decide +kernel
theorem dL_law_826 : decode cL_law 826 = .ok (.aload_n 1, 1) := by decide +kernel
theorem dL_law_827 : decode cL_law 827 = .ok (.aload_n 0, 1) := by decide +kernel
theorem dL_law_828 : decode cL_law 828 = .ok (.iload_n 3, 1) := by decide +kernel
theorem dL_law_829 : decode cL_law 829 = .ok (.iconst 1, 1) := by decide +kernel
theorem dL_law_830 : decode cL_law 830 = .ok (.iadd, 1) := by decide +kernel
theorem dL_law_831 : decode cL_law 831 = .ok (.iaload, 1) := by decide +kernel
theorem dL_law_832 : decode cL_law 832 = .ok (.invokevirtual 128, 3) := by decide +kernel
theorem dL_law_835 : decode cL_law 835 = .ok (.aload_n 2, 1) := by decide +kernel
theorem dL_law_836 : decode cL_law 836 = .ok (.aload_n 0, 1) := by decide +kernel
theorem dL_law_837 : decode cL_law 837 = .ok (.iload_n 3, 1) := by decide +kernel
theorem dL_law_838 : decode cL_law 838 = .ok (.iconst 1, 1) := by decide +kernel
theorem dL_law_839 : decode cL_law 839 = .ok (.iadd, 1) := by decide +kernel
theorem dL_law_840 : decode cL_law 840 = .ok (.iaload, 1) := by decide +kernel
theorem dL_law_841 : decode cL_law 841 = .ok (.invokevirtual 131, 3) := by decide +kernel
theorem dL_law_844 : decode cL_law 844 = .ok (.if_icmp .eq 42, 3) := by decide +kernel
theorem dL_law_847 : decode cL_law 847 = .ok (.iconst 0, 1) := by decide +kernel
theorem dL_law_848 : decode cL_law 848 = .ok (.ireturn, 1) := by decide +kernel
theorem dL_law_849 : decode cL_law 849 = .ok (.aload_n 1, 1) := by decide +kernel
theorem dL_law_850 : decode cL_law 850 = .ok (.aload_n 0, 1) := by decide +kernel
theorem dL_law_851 : decode cL_law 851 = .ok (.iload_n 3, 1) := by decide +kernel
theorem dL_law_852 : decode cL_law 852 = .ok (.iconst 1, 1) := by decide +kernel
theorem dL_law_853 : decode cL_law 853 = .ok (.iadd, 1) := by decide +kernel
theorem dL_law_854 : decode cL_law 854 = .ok (.iaload, 1) := by decide +kernel
theorem dL_law_855 : decode cL_law 855 = .ok (.invokevirtual 132, 3) := by decide +kernel
theorem dL_law_858 : decode cL_law 858 = .ok (.aload_n 2, 1) := by decide +kernel
theorem dL_law_859 : decode cL_law 859 = .ok (.aload_n 0, 1) := by decide +kernel
theorem dL_law_860 : decode cL_law 860 = .ok (.iload_n 3, 1) := by decide +kernel
theorem dL_law_861 : decode cL_law 861 = .ok (.iconst 1, 1) := by decide +kernel
theorem dL_law_862 : decode cL_law 862 = .ok (.iadd, 1) := by decide +kernel
theorem dL_law_863 : decode cL_law 863 = .ok (.iaload, 1) := by decide +kernel
theorem dL_law_864 : decode cL_law 864 = .ok (.invokevirtual 135, 3) := by decide +kernel
theorem dL_law_867 : decode cL_law 867 = .ok (.if_icmp .eq 19, 3) := by decide +kernel
theorem dL_law_870 : decode cL_law 870 = .ok (.iconst 0, 1) := by decide +kernel
theorem dL_law_871 : decode cL_law 871 = .ok (.ireturn, 1) := by decide +kernel
theorem dL_law_872 : decode cL_law 872 = .ok (.aload_n 1, 1) := by decide +kernel
theorem dL_law_873 : decode cL_law 873 = .ok (.invokevirtual 136, 3) := by decide +kernel
theorem dL_law_876 : decode cL_law 876 = .ok (.aload_n 2, 1) := by decide +kernel
theorem dL_law_877 : decode cL_law 877 = .ok (.invokevirtual 140, 3) := by decide +kernel
theorem dL_law_880 : decode cL_law 880 = .ok (.lcmp, 1) := by decide +kernel
theorem dL_law_881 : decode cL_law 881 = .ok (.ifCond .eq 5, 3) := by decide +kernel
theorem dL_law_884 : decode cL_law 884 = .ok (.iconst 0, 1) := by decide +kernel
theorem dL_law_885 : decode cL_law 885 = .ok (.ireturn, 1) := by decide +kernel
theorem dL_law_886 : decode cL_law 886 = .ok (.iinc 3 3, 3) := by decide +kernel
theorem dL_law_889 : decode cL_law 889 = .ok (.goto (-871), 3) := by decide +kernel
theorem dL_law_892 : decode cL_law 892 = .ok (.iconst 1, 1) := by decide +kernel
theorem dL_law_893 : decode cL_law 893 = .ok (.ireturn, 1) := by decide +kernel
end
section
/-! words of the tables, by their places: printed by program -/
def lw_u : List Cond := lw_tbl.filter goodWord
theorem uw {w : Cond} {i : Nat} (h : lw_tbl[i]? = some w) (hg : goodWord w = true) : w ∈ lw_u := List.mem_filter.mpr ⟨List.mem_of_getElem? h, hg⟩
theorem uiniL : Cond.initialized RL ∈ lw_u := uw (i := 74) (by decide +kernel) rfl
theorem uiniX9 : Cond.initialized RX9 ∈ lw_u := uw (i := 75) (by decide +kernel) rfl
theorem uiniX7 : Cond.initialized RX7 ∈ lw_u := uw (i := 76) (by decide +kernel) rfl
theorem uiniX1 : Cond.initialized RX1 ∈ lw_u := uw (i := 77) (by decide +kernel) rfl
theorem uiniX2 : Cond.initialized RX2 ∈ lw_u := uw (i := 78) (by decide +kernel) rfl
theorem uiniX8 : Cond.initialized RX8 ∈ lw_u := uw (i := 79) (by decide +kernel) rfl
theorem uiniX3 : Cond.initialized RX3 ∈ lw_u := uw (i := 80) (by decide +kernel) rfl
theorem uiniX4 : Cond.initialized RX4 ∈ lw_u := uw (i := 81) (by decide +kernel) rfl
theorem uiniX0 : Cond.initialized RX0 ∈ lw_u := uw (i := 82) (by decide +kernel) rfl
theorem uiniX5 : Cond.initialized RX5 ∈ lw_u := uw (i := 83) (by decide +kernel) rfl
theorem uiniX6 : Cond.initialized RX6 ∈ lw_u := uw (i := 84) (by decide +kernel) rfl
theorem uiniX10 : Cond.initialized RX10 ∈ lw_u := uw (i := 85) (by decide +kernel) rfl
theorem uiniJ10 : Cond.initialized RJ10 ∈ lw_u := uw (i := 86) (by decide +kernel) rfl
theorem uiniJ9 : Cond.initialized RJ9 ∈ lw_u := uw (i := 87) (by decide +kernel) rfl
theorem uiniJ6 : Cond.initialized RJ6 ∈ lw_u := uw (i := 88) (by decide +kernel) rfl
theorem unat : Cond.native arraycopyName ∈ lw_u := uw (i := 506) (by decide +kernel) rfl
theorem ustat_yX7_isDigit : Cond.static yX7_isDigit ∈ lw_u := uw (i := 438) (by decide +kernel) rfl
theorem ustat_yX8_walk : Cond.static yX8_walk ∈ lw_u := uw (i := 498) (by decide +kernel) rfl
theorem ustat_arraycopyName : Cond.static arraycopyName ∈ lw_u := uw (i := 505) (by decide +kernel) rfl
theorem ustat_Lib_Math_min_name : Cond.static Lib.Math.min.name ∈ lw_u := uw (i := 567) (by decide +kernel) rfl
theorem ustat_yJ6_bitCount_0f7a4 : Cond.static yJ6_bitCount_0f7a4 ∈ lw_u := uw (i := 645) (by decide +kernel) rfl
theorem ustat_yX4_goCheapest : Cond.static yX4_goCheapest ∈ lw_u := uw (i := 655) (by decide +kernel) rfl
theorem ustat_Lib_Math_max_name : Cond.static Lib.Math.max.name ∈ lw_u := uw (i := 663) (by decide +kernel) rfl
theorem ustat_yX4_goFirst : Cond.static yX4_goFirst ∈ lw_u := uw (i := 678) (by decide +kernel) rfl
theorem ustat_Lib_Math_abs_name : Cond.static Lib.Math.abs.name ∈ lw_u := uw (i := 681) (by decide +kernel) rfl
theorem ustat_yX9_commonDivisor : Cond.static yX9_commonDivisor ∈ lw_u := uw (i := 803) (by decide +kernel) rfl
theorem ustat_yX10_in : Cond.static yX10_in ∈ lw_u := uw (i := 1015) (by decide +kernel) rfl
theorem ustat_yX10_apart : Cond.static yX10_apart ∈ lw_u := uw (i := 1139) (by decide +kernel) rfl
theorem ustat_yX10_endsBetween : Cond.static yX10_endsBetween ∈ lw_u := uw (i := 1179) (by decide +kernel) rfl
theorem ustat_yX10_ones : Cond.static yX10_ones ∈ lw_u := uw (i := 1198) (by decide +kernel) rfl
theorem ustat_yX10_gcd : Cond.static yX10_gcd ∈ lw_u := uw (i := 1229) (by decide +kernel) rfl
theorem ucode_min : Cond.code Lib.Math.min.name Lib.Math.min.code 2 (some .int) ∈ lw_u := uw (i := 568) (by decide +kernel) rfl
theorem ucode_max : Cond.code Lib.Math.max.name Lib.Math.max.code 2 (some .int) ∈ lw_u := uw (i := 664) (by decide +kernel) rfl
theorem ucode_abs : Cond.code Lib.Math.abs.name Lib.Math.abs.code 1 (some .int) ∈ lw_u := uw (i := 682) (by decide +kernel) rfl
theorem cwX0 : ∀ w ∈ u_ws RX0 TX0 3, w ∈ lw_u := by decide +kernel
theorem cwX1 : ∀ w ∈ u_ws RX1 TX1 6, w ∈ lw_u := by decide +kernel
theorem cwX2 : ∀ w ∈ u_ws RX2 TX2 5, w ∈ lw_u := by decide +kernel
theorem cwX3 : ∀ w ∈ u_ws RX3 TX3 3, w ∈ lw_u := by decide +kernel
theorem cwX4 : ∀ w ∈ u_ws RX4 TX4 9, w ∈ lw_u := by decide +kernel
theorem cwX5 : ∀ w ∈ u_ws RX5 TX5 4, w ∈ lw_u := by decide +kernel
theorem cwX6 : ∀ w ∈ u_ws RX6 TX6 7, w ∈ lw_u := by decide +kernel
theorem cwX7 : ∀ w ∈ u_ws RX7 TX7 6, w ∈ lw_u := by decide +kernel
theorem cwX8 : ∀ w ∈ u_ws RX8 TX8 8, w ∈ lw_u := by decide +kernel
theorem cwX9 : ∀ w ∈ u_ws RX9 TX9 14, w ∈ lw_u := by decide +kernel
theorem cwX10 : ∀ w ∈ u_ws RX10 TX10 35, w ∈ lw_u := by decide +kernel
theorem uL_7 : Cond.classLink RL 7 RX9 ∈ lw_u := uw (i := 89) (by decide +kernel) rfl
theorem uinstX9 : Cond.instantiable RX9 14 ∈ lw_u := uw (i := 90) (by decide +kernel) rfl
theorem uL_9 : Cond.methodLink RL 9 yX9_init ∈ lw_u := uw (i := 91) (by decide +kernel) rfl
theorem uX9_3 : Cond.methodLink RX9 3 objectInit ∈ lw_u := uw (i := 94) (by decide +kernel) rfl
theorem uX9_9 : Cond.classLink RX9 9 RX7 ∈ lw_u := uw (i := 97) (by decide +kernel) rfl
theorem uinstX7 : Cond.instantiable RX7 6 ∈ lw_u := uw (i := 98) (by decide +kernel) rfl
theorem uX9_11 : Cond.methodLinkNest RX9 11 yX7_init "AskedMaps" ∈ lw_tbl := List.mem_of_getElem? (i := 99) (by decide +kernel)
theorem uX7_3 : Cond.methodLink RX7 3 objectInit ∈ lw_u := uw (i := 102) (by decide +kernel) rfl
theorem uX7_9 : Cond.fieldLink RX7 9 "AskedMaps$Text" "size" "I" ∈ lw_u := uw (i := 103) (by decide +kernel) rfl
theorem uX9_94 : Cond.fieldLink RX9 94 "AskedMaps$Text" "size" "I" ∈ lw_u := uw (i := 104) (by decide +kernel) rfl
theorem uX7_15 : Cond.fieldLink RX7 15 "AskedMaps$Text" "letters" "[I" ∈ lw_u := uw (i := 105) (by decide +kernel) rfl
theorem uX7_19 : Cond.fieldLink RX7 19 "AskedMaps$Text" "start" "I" ∈ lw_u := uw (i := 106) (by decide +kernel) rfl
theorem uX7_22 : Cond.fieldLink RX7 22 "AskedMaps$Text" "next" "I" ∈ lw_u := uw (i := 107) (by decide +kernel) rfl
theorem uX7_25 : Cond.fieldLink RX7 25 "AskedMaps$Text" "token" "I" ∈ lw_u := uw (i := 108) (by decide +kernel) rfl
theorem uX7_28 : Cond.fieldLink RX7 28 "AskedMaps$Text" "value" "I" ∈ lw_u := uw (i := 109) (by decide +kernel) rfl
theorem uX9_16 : Cond.classLink RX9 16 RX1 ∈ lw_u := uw (i := 124) (by decide +kernel) rfl
theorem uinstX1 : Cond.instantiable RX1 6 ∈ lw_u := uw (i := 125) (by decide +kernel) rfl
theorem uX9_18 : Cond.methodLink RX9 18 yX1_init ∈ lw_u := uw (i := 126) (by decide +kernel) rfl
theorem uX1_3 : Cond.methodLink RX1 3 objectInit ∈ lw_u := uw (i := 129) (by decide +kernel) rfl
theorem uX1_24 : Cond.methodLink RX1 24 yX1_empty ∈ lw_u := uw (i := 130) (by decide +kernel) rfl
theorem uX1_27 : Cond.fieldLink RX1 27 "AskedMaps$Ground" "places" "I" ∈ lw_u := uw (i := 134) (by decide +kernel) rfl
theorem uX8_37 : Cond.fieldLink RX8 37 "AskedMaps$Ground" "places" "I" ∈ lw_u := uw (i := 135) (by decide +kernel) rfl
theorem uX7_63 : Cond.fieldLink RX7 63 "AskedMaps$Ground" "places" "I" ∈ lw_u := uw (i := 136) (by decide +kernel) rfl
theorem uX9_168 : Cond.fieldLink RX9 168 "AskedMaps$Ground" "places" "I" ∈ lw_u := uw (i := 137) (by decide +kernel) rfl
theorem uX4_42 : Cond.fieldLink RX4 42 "AskedMaps$Ground" "lanes" "I" ∈ lw_u := uw (i := 138) (by decide +kernel) rfl
theorem uX1_31 : Cond.fieldLink RX1 31 "AskedMaps$Ground" "lanes" "I" ∈ lw_u := uw (i := 139) (by decide +kernel) rfl
theorem uX7_42 : Cond.fieldLink RX7 42 "AskedMaps$Ground" "lanes" "I" ∈ lw_u := uw (i := 140) (by decide +kernel) rfl
theorem uX9_171 : Cond.fieldLink RX9 171 "AskedMaps$Ground" "lanes" "I" ∈ lw_u := uw (i := 141) (by decide +kernel) rfl
theorem uX1_9 : Cond.fieldLink RX1 9 "AskedMaps$Ground" "first" "[I" ∈ lw_u := uw (i := 142) (by decide +kernel) rfl
theorem uX9_124 : Cond.fieldLink RX9 124 "AskedMaps$Ground" "first" "[I" ∈ lw_u := uw (i := 143) (by decide +kernel) rfl
theorem uX1_15 : Cond.fieldLink RX1 15 "AskedMaps$Ground" "second" "[I" ∈ lw_u := uw (i := 144) (by decide +kernel) rfl
theorem uX9_128 : Cond.fieldLink RX9 128 "AskedMaps$Ground" "second" "[I" ∈ lw_u := uw (i := 145) (by decide +kernel) rfl
theorem uX1_18 : Cond.fieldLink RX1 18 "AskedMaps$Ground" "spades" "[I" ∈ lw_u := uw (i := 146) (by decide +kernel) rfl
theorem uX4_51 : Cond.fieldLink RX4 51 "AskedMaps$Ground" "spades" "[I" ∈ lw_u := uw (i := 147) (by decide +kernel) rfl
theorem uX9_134 : Cond.fieldLink RX9 134 "AskedMaps$Ground" "spades" "[I" ∈ lw_u := uw (i := 148) (by decide +kernel) rfl
theorem uX1_21 : Cond.fieldLink RX1 21 "AskedMaps$Ground" "joins" "[I" ∈ lw_u := uw (i := 149) (by decide +kernel) rfl
theorem uX9_26 : Cond.classLink RX9 26 RX2 ∈ lw_u := uw (i := 163) (by decide +kernel) rfl
theorem uinstX2 : Cond.instantiable RX2 5 ∈ lw_u := uw (i := 164) (by decide +kernel) rfl
theorem uX9_28 : Cond.methodLinkNest RX9 28 yX2_init "AskedMaps" ∈ lw_tbl := List.mem_of_getElem? (i := 165) (by decide +kernel)
theorem uX2_3 : Cond.methodLink RX2 3 objectInit ∈ lw_u := uw (i := 168) (by decide +kernel) rfl
theorem uX2_9 : Cond.fieldLink RX2 9 "AskedMaps$Now" "lengths" "[I" ∈ lw_u := uw (i := 169) (by decide +kernel) rfl
theorem uX9_131 : Cond.fieldLink RX9 131 "AskedMaps$Now" "lengths" "[I" ∈ lw_u := uw (i := 170) (by decide +kernel) rfl
theorem uX7_74 : Cond.fieldLink RX7 74 "AskedMaps$Now" "lengths" "[I" ∈ lw_u := uw (i := 171) (by decide +kernel) rfl
theorem uX2_15 : Cond.fieldLink RX2 15 "AskedMaps$Now" "sizes" "[I" ∈ lw_u := uw (i := 172) (by decide +kernel) rfl
theorem uX9_144 : Cond.fieldLink RX9 144 "AskedMaps$Now" "sizes" "[I" ∈ lw_u := uw (i := 173) (by decide +kernel) rfl
theorem uX7_81 : Cond.fieldLink RX7 81 "AskedMaps$Now" "sizes" "[I" ∈ lw_u := uw (i := 174) (by decide +kernel) rfl
theorem uX2_18 : Cond.fieldLink RX2 18 "AskedMaps$Now" "spots" "[I" ∈ lw_u := uw (i := 175) (by decide +kernel) rfl
theorem uX2_21 : Cond.fieldLink RX2 21 "AskedMaps$Now" "maps" "I" ∈ lw_u := uw (i := 176) (by decide +kernel) rfl
theorem uX7_51 : Cond.fieldLink RX7 51 "AskedMaps$Now" "maps" "I" ∈ lw_u := uw (i := 177) (by decide +kernel) rfl
theorem uX9_174 : Cond.fieldLink RX9 174 "AskedMaps$Now" "maps" "I" ∈ lw_u := uw (i := 178) (by decide +kernel) rfl
theorem uX2_25 : Cond.fieldLink RX2 25 "AskedMaps$Now" "dug" "I" ∈ lw_u := uw (i := 179) (by decide +kernel) rfl
theorem uX9_162 : Cond.fieldLink RX9 162 "AskedMaps$Now" "dug" "I" ∈ lw_u := uw (i := 180) (by decide +kernel) rfl
theorem uX9_36 : Cond.classLink RX9 36 RX8 ∈ lw_u := uw (i := 192) (by decide +kernel) rfl
theorem uinstX8 : Cond.instantiable RX8 8 ∈ lw_u := uw (i := 193) (by decide +kernel) rfl
theorem uX9_38 : Cond.methodLinkNest RX9 38 yX8_init "AskedMaps" ∈ lw_tbl := List.mem_of_getElem? (i := 194) (by decide +kernel)
theorem uX8_3 : Cond.methodLink RX8 3 objectInit ∈ lw_u := uw (i := 197) (by decide +kernel) rfl
theorem uX8_9 : Cond.fieldLink RX8 9 "AskedMaps$Ways" "many" "I" ∈ lw_u := uw (i := 198) (by decide +kernel) rfl
theorem uX4_52 : Cond.fieldLink RX4 52 "AskedMaps$Ways" "many" "I" ∈ lw_u := uw (i := 199) (by decide +kernel) rfl
theorem uX6_34 : Cond.fieldLink RX6 34 "AskedMaps$Ways" "many" "I" ∈ lw_u := uw (i := 200) (by decide +kernel) rfl
theorem uX9_269 : Cond.fieldLink RX9 269 "AskedMaps$Ways" "many" "I" ∈ lw_u := uw (i := 201) (by decide +kernel) rfl
theorem uX8_15 : Cond.fieldLink RX8 15 "AskedMaps$Ways" "spots" "[I" ∈ lw_u := uw (i := 202) (by decide +kernel) rfl
theorem uX8_19 : Cond.fieldLink RX8 19 "AskedMaps$Ways" "sizes" "[I" ∈ lw_u := uw (i := 203) (by decide +kernel) rfl
theorem uX8_22 : Cond.fieldLink RX8 22 "AskedMaps$Ways" "ends" "[I" ∈ lw_u := uw (i := 204) (by decide +kernel) rfl
theorem uX4_61 : Cond.fieldLink RX4 61 "AskedMaps$Ways" "ends" "[I" ∈ lw_u := uw (i := 205) (by decide +kernel) rfl
theorem uX8_25 : Cond.fieldLink RX8 25 "AskedMaps$Ways" "laneBits" "[I" ∈ lw_u := uw (i := 206) (by decide +kernel) rfl
theorem uX4_64 : Cond.fieldLink RX4 64 "AskedMaps$Ways" "laneBits" "[I" ∈ lw_u := uw (i := 207) (by decide +kernel) rfl
theorem uX6_37 : Cond.fieldLink RX6 37 "AskedMaps$Ways" "laneBits" "[I" ∈ lw_u := uw (i := 208) (by decide +kernel) rfl
theorem uX8_28 : Cond.fieldLink RX8 28 "AskedMaps$Ways" "lengths" "[I" ∈ lw_u := uw (i := 209) (by decide +kernel) rfl
theorem uX8_31 : Cond.fieldLink RX8 31 "AskedMaps$Ways" "least" "[I" ∈ lw_u := uw (i := 210) (by decide +kernel) rfl
theorem uX8_34 : Cond.fieldLink RX8 34 "AskedMaps$Ways" "trail" "[I" ∈ lw_u := uw (i := 211) (by decide +kernel) rfl
theorem uX9_43 : Cond.classLink RX9 43 RX3 ∈ lw_u := uw (i := 229) (by decide +kernel) rfl
theorem uinstX3 : Cond.instantiable RX3 3 ∈ lw_u := uw (i := 230) (by decide +kernel) rfl
theorem uX9_45 : Cond.methodLink RX9 45 yX3_init ∈ lw_u := uw (i := 231) (by decide +kernel) rfl
theorem uX3_3 : Cond.methodLink RX3 3 objectInit ∈ lw_u := uw (i := 234) (by decide +kernel) rfl
theorem uX3_9 : Cond.classLink RX3 9 RX2 ∈ lw_u := uw (i := 235) (by decide +kernel) rfl
theorem uX3_24 : Cond.methodLinkNest RX3 24 yX2_init "AskedMaps" ∈ lw_tbl := List.mem_of_getElem? (i := 237) (by decide +kernel)
theorem uX3_11 : Cond.fieldLink RX3 11 "AskedMaps$Past" "rows" "[LAskedMaps$Now;" ∈ lw_u := uw (i := 238) (by decide +kernel) rfl
theorem uX3_17 : Cond.fieldLink RX3 17 "AskedMaps$Past" "next" "I" ∈ lw_u := uw (i := 239) (by decide +kernel) rfl
theorem uX3_21 : Cond.fieldLink RX3 21 "AskedMaps$Past" "known" "I" ∈ lw_u := uw (i := 240) (by decide +kernel) rfl
theorem uX9_165 : Cond.fieldLink RX9 165 "AskedMaps$Past" "known" "I" ∈ lw_u := uw (i := 241) (by decide +kernel) rfl
theorem uX9_58 : Cond.classLink RX9 58 RX4 ∈ lw_u := uw (i := 249) (by decide +kernel) rfl
theorem uinstX4 : Cond.instantiable RX4 9 ∈ lw_u := uw (i := 250) (by decide +kernel) rfl
theorem uX9_60 : Cond.methodLinkNest RX9 60 yX4_init "AskedMaps" ∈ lw_tbl := List.mem_of_getElem? (i := 251) (by decide +kernel)
theorem uX4_3 : Cond.methodLink RX4 3 objectInit ∈ lw_u := uw (i := 254) (by decide +kernel) rfl
theorem uX4_28 : Cond.classLink RX4 28 "[[I" ∈ lw_u := uw (i := 255) (by decide +kernel) rfl
theorem uX4_9 : Cond.fieldLink RX4 9 "AskedMaps$Search" "lanes" "I" ∈ lw_u := uw (i := 257) (by decide +kernel) rfl
theorem uX4_15 : Cond.fieldLink RX4 15 "AskedMaps$Search" "bonds" "I" ∈ lw_u := uw (i := 258) (by decide +kernel) rfl
theorem uX4_18 : Cond.fieldLink RX4 18 "AskedMaps$Search" "least" "I" ∈ lw_u := uw (i := 259) (by decide +kernel) rfl
theorem uX4_21 : Cond.fieldLink RX4 21 "AskedMaps$Search" "mine" "[I" ∈ lw_u := uw (i := 260) (by decide +kernel) rfl
theorem uX4_25 : Cond.fieldLink RX4 25 "AskedMaps$Search" "rivals" "[I" ∈ lw_u := uw (i := 261) (by decide +kernel) rfl
theorem uX4_30 : Cond.fieldLink RX4 30 "AskedMaps$Search" "excess" "[[I" ∈ lw_u := uw (i := 262) (by decide +kernel) rfl
theorem uX4_33 : Cond.fieldLink RX4 33 "AskedMaps$Search" "lengths" "[I" ∈ lw_u := uw (i := 263) (by decide +kernel) rfl
theorem uX4_36 : Cond.fieldLink RX4 36 "AskedMaps$Search" "spades" "[I" ∈ lw_u := uw (i := 264) (by decide +kernel) rfl
theorem uX4_39 : Cond.fieldLink RX4 39 "AskedMaps$Search" "chosen" "[I" ∈ lw_u := uw (i := 265) (by decide +kernel) rfl
theorem uX9_305 : Cond.fieldLink RX9 305 "AskedMaps$Search" "chosen" "[I" ∈ lw_u := uw (i := 266) (by decide +kernel) rfl
theorem uX9_65 : Cond.classLink RX9 65 RX0 ∈ lw_u := uw (i := 286) (by decide +kernel) rfl
theorem uinstX0 : Cond.instantiable RX0 3 ∈ lw_u := uw (i := 287) (by decide +kernel) rfl
theorem uX9_67 : Cond.methodLinkNest RX9 67 yX0_init "AskedMaps" ∈ lw_tbl := List.mem_of_getElem? (i := 288) (by decide +kernel)
theorem uX0_3 : Cond.methodLink RX0 3 objectInit ∈ lw_u := uw (i := 291) (by decide +kernel) rfl
theorem uX0_9 : Cond.fieldLink RX0 9 "AskedMaps$Asked" "known" "Z" ∈ lw_u := uw (i := 292) (by decide +kernel) rfl
theorem uX9_240 : Cond.fieldLink RX9 240 "AskedMaps$Asked" "known" "Z" ∈ lw_u := uw (i := 293) (by decide +kernel) rfl
theorem uX0_15 : Cond.fieldLink RX0 15 "AskedMaps$Asked" "cost" "I" ∈ lw_u := uw (i := 294) (by decide +kernel) rfl
theorem uX9_304 : Cond.fieldLink RX9 304 "AskedMaps$Asked" "cost" "I" ∈ lw_u := uw (i := 295) (by decide +kernel) rfl
theorem uX0_19 : Cond.fieldLink RX0 19 "AskedMaps$Asked" "lengths" "[I" ∈ lw_u := uw (i := 296) (by decide +kernel) rfl
theorem uX9_208 : Cond.fieldLink RX9 208 "AskedMaps$Asked" "lengths" "[I" ∈ lw_u := uw (i := 297) (by decide +kernel) rfl
theorem uX9_72 : Cond.classLink RX9 72 RX5 ∈ lw_u := uw (i := 305) (by decide +kernel) rfl
theorem uinstX5 : Cond.instantiable RX5 4 ∈ lw_u := uw (i := 306) (by decide +kernel) rfl
theorem uX9_74 : Cond.methodLinkNest RX9 74 yX5_init "AskedMaps" ∈ lw_tbl := List.mem_of_getElem? (i := 307) (by decide +kernel)
theorem uX5_3 : Cond.methodLink RX5 3 objectInit ∈ lw_u := uw (i := 310) (by decide +kernel) rfl
theorem uX5_9 : Cond.fieldLink RX5 9 "AskedMaps$Spited" "known" "Z" ∈ lw_u := uw (i := 311) (by decide +kernel) rfl
theorem uX9_243 : Cond.fieldLink RX9 243 "AskedMaps$Spited" "known" "Z" ∈ lw_u := uw (i := 312) (by decide +kernel) rfl
theorem uX5_15 : Cond.fieldLink RX5 15 "AskedMaps$Spited" "cost" "I" ∈ lw_u := uw (i := 313) (by decide +kernel) rfl
theorem uX9_275 : Cond.fieldLink RX9 275 "AskedMaps$Spited" "cost" "I" ∈ lw_u := uw (i := 314) (by decide +kernel) rfl
theorem uX5_19 : Cond.fieldLink RX5 19 "AskedMaps$Spited" "way" "I" ∈ lw_u := uw (i := 315) (by decide +kernel) rfl
theorem uX9_281 : Cond.fieldLink RX9 281 "AskedMaps$Spited" "way" "I" ∈ lw_u := uw (i := 316) (by decide +kernel) rfl
theorem uX5_22 : Cond.fieldLink RX5 22 "AskedMaps$Spited" "impossible" "I" ∈ lw_u := uw (i := 317) (by decide +kernel) rfl
theorem uX9_278 : Cond.fieldLink RX9 278 "AskedMaps$Spited" "impossible" "I" ∈ lw_u := uw (i := 318) (by decide +kernel) rfl
theorem uX9_79 : Cond.classLink RX9 79 RX6 ∈ lw_u := uw (i := 328) (by decide +kernel) rfl
theorem uinstX6 : Cond.instantiable RX6 7 ∈ lw_u := uw (i := 329) (by decide +kernel) rfl
theorem uX9_81 : Cond.methodLinkNest RX9 81 yX6_init "AskedMaps" ∈ lw_tbl := List.mem_of_getElem? (i := 330) (by decide +kernel)
theorem uX6_3 : Cond.methodLink RX6 3 objectInit ∈ lw_u := uw (i := 333) (by decide +kernel) rfl
theorem uX6_9 : Cond.fieldLink RX6 9 "AskedMaps$Stranger" "many" "I" ∈ lw_u := uw (i := 334) (by decide +kernel) rfl
theorem uX9_322 : Cond.fieldLink RX9 322 "AskedMaps$Stranger" "many" "I" ∈ lw_u := uw (i := 335) (by decide +kernel) rfl
theorem uX6_15 : Cond.fieldLink RX6 15 "AskedMaps$Stranger" "takenBits" "I" ∈ lw_u := uw (i := 336) (by decide +kernel) rfl
theorem uX6_18 : Cond.fieldLink RX6 18 "AskedMaps$Stranger" "leftBits" "I" ∈ lw_u := uw (i := 337) (by decide +kernel) rfl
theorem uX6_21 : Cond.fieldLink RX6 21 "AskedMaps$Stranger" "fitting" "I" ∈ lw_u := uw (i := 338) (by decide +kernel) rfl
theorem uX9_327 : Cond.fieldLink RX9 327 "AskedMaps$Stranger" "fitting" "I" ∈ lw_u := uw (i := 339) (by decide +kernel) rfl
theorem uX6_24 : Cond.fieldLink RX6 24 "AskedMaps$Stranger" "inAll" "I" ∈ lw_u := uw (i := 340) (by decide +kernel) rfl
theorem uX9_330 : Cond.fieldLink RX9 330 "AskedMaps$Stranger" "inAll" "I" ∈ lw_u := uw (i := 341) (by decide +kernel) rfl
theorem uX6_27 : Cond.fieldLink RX6 27 "AskedMaps$Stranger" "inSome" "I" ∈ lw_u := uw (i := 342) (by decide +kernel) rfl
theorem uX9_333 : Cond.fieldLink RX9 333 "AskedMaps$Stranger" "inSome" "I" ∈ lw_u := uw (i := 343) (by decide +kernel) rfl
theorem uX6_30 : Cond.fieldLink RX6 30 "AskedMaps$Stranger" "byLane" "[I" ∈ lw_u := uw (i := 344) (by decide +kernel) rfl
theorem uX9_336 : Cond.fieldLink RX9 336 "AskedMaps$Stranger" "byLane" "[I" ∈ lw_u := uw (i := 345) (by decide +kernel) rfl
theorem uX9_12 : Cond.fieldLink RX9 12 "AskedMaps" "text" "LAskedMaps$Text;" ∈ lw_u := uw (i := 361) (by decide +kernel) rfl
theorem uX9_19 : Cond.fieldLink RX9 19 "AskedMaps" "ground" "LAskedMaps$Ground;" ∈ lw_u := uw (i := 362) (by decide +kernel) rfl
theorem uX9_23 : Cond.fieldLink RX9 23 "AskedMaps" "otherGround" "LAskedMaps$Ground;" ∈ lw_u := uw (i := 363) (by decide +kernel) rfl
theorem uX9_29 : Cond.fieldLink RX9 29 "AskedMaps" "current" "LAskedMaps$Now;" ∈ lw_u := uw (i := 364) (by decide +kernel) rfl
theorem uX9_33 : Cond.fieldLink RX9 33 "AskedMaps" "toldNow" "LAskedMaps$Now;" ∈ lw_u := uw (i := 365) (by decide +kernel) rfl
theorem uX9_39 : Cond.fieldLink RX9 39 "AskedMaps" "ways" "LAskedMaps$Ways;" ∈ lw_u := uw (i := 366) (by decide +kernel) rfl
theorem uX9_46 : Cond.fieldLink RX9 46 "AskedMaps" "past" "LAskedMaps$Past;" ∈ lw_u := uw (i := 367) (by decide +kernel) rfl
theorem uX9_50 : Cond.fieldLink RX9 50 "AskedMaps" "images" "[LAskedMaps$Now;" ∈ lw_u := uw (i := 368) (by decide +kernel) rfl
theorem uX9_54 : Cond.fieldLink RX9 54 "AskedMaps" "imagesKept" "I" ∈ lw_u := uw (i := 369) (by decide +kernel) rfl
theorem uX9_61 : Cond.fieldLink RX9 61 "AskedMaps" "search" "LAskedMaps$Search;" ∈ lw_u := uw (i := 370) (by decide +kernel) rfl
theorem uX9_68 : Cond.fieldLink RX9 68 "AskedMaps" "asked" "LAskedMaps$Asked;" ∈ lw_u := uw (i := 371) (by decide +kernel) rfl
theorem uX9_75 : Cond.fieldLink RX9 75 "AskedMaps" "spited" "LAskedMaps$Spited;" ∈ lw_u := uw (i := 372) (by decide +kernel) rfl
theorem uX9_82 : Cond.fieldLink RX9 82 "AskedMaps" "stranger" "LAskedMaps$Stranger;" ∈ lw_u := uw (i := 373) (by decide +kernel) rfl
theorem uX9_86 : Cond.fieldLink RX9 86 "AskedMaps" "traced" "J" ∈ lw_u := uw (i := 374) (by decide +kernel) rfl
theorem uL_13 : Cond.methodLink RL 13 yX9_type ∈ lw_u := uw (i := 404) (by decide +kernel) rfl
theorem uX9_90 : Cond.methodLink RX9 90 yX7_add ∈ lw_u := uw (i := 408) (by decide +kernel) rfl
theorem uL_18 : Cond.methodLink RL 18 yX9_clear ∈ lw_u := uw (i := 412) (by decide +kernel) rfl
theorem uX9_97 : Cond.methodLink RX9 97 yX7_empty ∈ lw_u := uw (i := 416) (by decide +kernel) rfl
theorem uL_23 : Cond.methodLink RL 23 yX9_land ∈ lw_u := uw (i := 420) (by decide +kernel) rfl
theorem uX9_101 : Cond.methodLink RX9 101 yX1_empty ∈ lw_u := uw (i := 424) (by decide +kernel) rfl
theorem uX9_103 : Cond.methodLink RX9 103 yX2_empty ∈ lw_u := uw (i := 425) (by decide +kernel) rfl
theorem uX9_104 : Cond.methodLink RX9 104 yX7_read ∈ lw_u := uw (i := 429) (by decide +kernel) rfl
theorem uX7_31 : Cond.methodLink RX7 31 yX7_step ∈ lw_u := uw (i := 433) (by decide +kernel) rfl
theorem uX7_92 : Cond.methodLink RX7 92 yX7_isDigit ∈ lw_u := uw (i := 437) (by decide +kernel) rfl
theorem uX7_96 : Cond.methodLink RX7 96 yX7_numberToken ∈ lw_u := uw (i := 440) (by decide +kernel) rfl
theorem uX7_100 : Cond.methodLink RX7 100 yX7_letterToken ∈ lw_u := uw (i := 444) (by decide +kernel) rfl
theorem uX7_34 : Cond.methodLink RX7 34 yX7_readItem ∈ lw_u := uw (i := 448) (by decide +kernel) rfl
theorem uX7_38 : Cond.methodLink RX7 38 yX7_readPlaces ∈ lw_u := uw (i := 452) (by decide +kernel) rfl
theorem uX7_59 : Cond.methodLink RX7 59 yX7_stepTo ∈ lw_u := uw (i := 456) (by decide +kernel) rfl
theorem uX7_66 : Cond.methodLink RX7 66 yX7_stepToEnd ∈ lw_u := uw (i := 460) (by decide +kernel) rfl
theorem uX7_47 : Cond.methodLink RX7 47 yX7_readLane ∈ lw_u := uw (i := 464) (by decide +kernel) rfl
theorem uX7_70 : Cond.methodLink RX7 70 yX1_laneBetween ∈ lw_u := uw (i := 468) (by decide +kernel) rfl
theorem uX7_77 : Cond.methodLink RX7 77 yX1_addLane ∈ lw_u := uw (i := 472) (by decide +kernel) rfl
theorem uX7_56 : Cond.methodLink RX7 56 yX7_readMap ∈ lw_u := uw (i := 476) (by decide +kernel) rfl
theorem uX7_84 : Cond.methodLink RX7 84 yX2_fits ∈ lw_u := uw (i := 480) (by decide +kernel) rfl
theorem uX2_34 : Cond.methodLink RX2 34 yX2_placeAt ∈ lw_u := uw (i := 484) (by decide +kernel) rfl
theorem uX2_38 : Cond.methodLink RX2 38 yX1_laneBetween ∈ lw_u := uw (i := 488) (by decide +kernel) rfl
theorem uX7_88 : Cond.methodLink RX7 88 yX2_append ∈ lw_u := uw (i := 489) (by decide +kernel) rfl
theorem uX9_108 : Cond.methodLink RX9 108 yX8_find ∈ lw_u := uw (i := 493) (by decide +kernel) rfl
theorem uX8_42 : Cond.methodLink RX8 42 yX8_walk ∈ lw_u := uw (i := 497) (by decide +kernel) rfl
theorem uX8_46 : Cond.methodLink RX8 46 yX8_addTrail ∈ lw_u := uw (i := 500) (by decide +kernel) rfl
theorem uX8_58 : Cond.methodLink RX8 58 arraycopyName ∈ lw_u := uw (i := 504) (by decide +kernel) rfl
theorem uX8_50 : Cond.methodLink RX8 50 yX1_laneBetween ∈ lw_u := uw (i := 507) (by decide +kernel) rfl
theorem uX8_54 : Cond.methodLink RX8 54 yX8_onTrail ∈ lw_u := uw (i := 508) (by decide +kernel) rfl
theorem uX9_112 : Cond.methodLink RX9 112 yX2_become ∈ lw_u := uw (i := 512) (by decide +kernel) rfl
theorem uX2_28 : Cond.methodLink RX2 28 arraycopyName ∈ lw_u := uw (i := 516) (by decide +kernel) rfl
theorem uX9_116 : Cond.methodLink RX9 116 yX3_empty ∈ lw_u := uw (i := 517) (by decide +kernel) rfl
theorem uX9_117 : Cond.methodLink RX9 117 yX6_empty ∈ lw_u := uw (i := 521) (by decide +kernel) rfl
theorem uX9_118 : Cond.methodLink RX9 118 yX9_forgetAnswers ∈ lw_u := uw (i := 525) (by decide +kernel) rfl
theorem uL_27 : Cond.methodLink RL 27 yX9_lane ∈ lw_u := uw (i := 529) (by decide +kernel) rfl
theorem uX9_121 : Cond.methodLink RX9 121 yX9_isLane ∈ lw_u := uw (i := 533) (by decide +kernel) rfl
theorem uX9_137 : Cond.methodLink RX9 137 yX9_mapsBy ∈ lw_u := uw (i := 537) (by decide +kernel) rfl
theorem uX9_147 : Cond.methodLink RX9 147 yX2_lanesOf ∈ lw_u := uw (i := 541) (by decide +kernel) rfl
theorem uL_32 : Cond.methodLink RL 32 yX9_map ∈ lw_u := uw (i := 545) (by decide +kernel) rfl
theorem uX9_141 : Cond.methodLink RX9 141 yX9_isMap ∈ lw_u := uw (i := 549) (by decide +kernel) rfl
theorem uX9_151 : Cond.methodLink RX9 151 yX1_lengthOf ∈ lw_u := uw (i := 553) (by decide +kernel) rfl
theorem uX9_155 : Cond.methodLink RX9 155 yX9_heldMaps ∈ lw_u := uw (i := 557) (by decide +kernel) rfl
theorem uX9_177 : Cond.methodLink RX9 177 yX8_measure ∈ lw_u := uw (i := 561) (by decide +kernel) rfl
theorem uX8_64 : Cond.methodLink RX8 64 yX1_lengthOf ∈ lw_u := uw (i := 565) (by decide +kernel) rfl
theorem uX8_68 : Cond.methodLink RX8 68 Lib.Math.min.name ∈ lw_u := uw (i := 566) (by decide +kernel) rfl
theorem uX9_181 : Cond.methodLink RX9 181 yX8_wayBy ∈ lw_u := uw (i := 569) (by decide +kernel) rfl
theorem uX9_184 : Cond.methodLink RX9 184 yX8_isShortest ∈ lw_u := uw (i := 573) (by decide +kernel) rfl
theorem uL_36 : Cond.methodLink RL 36 yX9_place ∈ lw_u := uw (i := 577) (by decide +kernel) rfl
theorem uX9_158 : Cond.methodLink RX9 158 yX2_placeAt ∈ lw_u := uw (i := 581) (by decide +kernel) rfl
theorem uL_40 : Cond.methodLink RL 40 yX9_now ∈ lw_u := uw (i := 582) (by decide +kernel) rfl
theorem uL_44 : Cond.methodLink RL 44 yX9_names ∈ lw_u := uw (i := 586) (by decide +kernel) rfl
theorem uX9_187 : Cond.methodLink RX9 187 yX9_isPlace ∈ lw_u := uw (i := 590) (by decide +kernel) rfl
theorem uX9_190 : Cond.methodLink RX9 190 yX2_fits ∈ lw_u := uw (i := 594) (by decide +kernel) rfl
theorem uX9_194 : Cond.methodLink RX9 194 yX9_beforeChange ∈ lw_u := uw (i := 595) (by decide +kernel) rfl
theorem uX9_237 : Cond.methodLink RX9 237 yX3_remember ∈ lw_u := uw (i := 599) (by decide +kernel) rfl
theorem uX3_25 : Cond.methodLink RX3 25 yX2_become ∈ lw_u := uw (i := 603) (by decide +kernel) rfl
theorem uX3_29 : Cond.methodLink RX3 29 Lib.Math.min.name ∈ lw_u := uw (i := 604) (by decide +kernel) rfl
theorem uX9_197 : Cond.methodLink RX9 197 yX2_append ∈ lw_u := uw (i := 605) (by decide +kernel) rfl
theorem uL_48 : Cond.methodLink RL 48 yX9_asks ∈ lw_u := uw (i := 606) (by decide +kernel) rfl
theorem uX9_201 : Cond.methodLink RX9 201 yX9_draftIsWay ∈ lw_u := uw (i := 610) (by decide +kernel) rfl
theorem uX9_205 : Cond.methodLink RX9 205 yX9_askedCost ∈ lw_u := uw (i := 614) (by decide +kernel) rfl
theorem uX9_258 : Cond.methodLink RX9 258 yX9_allMaps ∈ lw_u := uw (i := 618) (by decide +kernel) rfl
theorem uX9_261 : Cond.methodLink RX9 261 yX9_waysOf ∈ lw_u := uw (i := 622) (by decide +kernel) rfl
theorem uX9_291 : Cond.methodLink RX9 291 yX8_bitBy ∈ lw_u := uw (i := 626) (by decide +kernel) rfl
theorem uX8_80 : Cond.methodLink RX8 80 yX8_wayBy ∈ lw_u := uw (i := 630) (by decide +kernel) rfl
theorem uX9_265 : Cond.methodLink RX9 265 yX9_costOf ∈ lw_u := uw (i := 631) (by decide +kernel) rfl
theorem uX9_294 : Cond.methodLink RX9 294 yX4_begin ∈ lw_u := uw (i := 635) (by decide +kernel) rfl
theorem uX4_45 : Cond.methodLink RX4 45 arraycopyName ∈ lw_u := uw (i := 639) (by decide +kernel) rfl
theorem uX4_57 : Cond.methodLink RX4 57 yX4_bindWay ∈ lw_u := uw (i := 640) (by decide +kernel) rfl
theorem uX4_67 : Cond.methodLink RX4 67 yJ6_bitCount_0f7a4 ∈ lw_u := uw (i := 644) (by decide +kernel) rfl
theorem uJ6_265 : Cond.constant RJ6 265 (1431655765) ∈ lw_u := uw (i := 647) (by decide +kernel) rfl
theorem uJ6_266 : Cond.constant RJ6 266 (858993459) ∈ lw_u := uw (i := 648) (by decide +kernel) rfl
theorem uJ6_267 : Cond.constant RJ6 267 (252645135) ∈ lw_u := uw (i := 649) (by decide +kernel) rfl
theorem uX9_298 : Cond.methodLink RX9 298 yX4_leastCost ∈ lw_u := uw (i := 650) (by decide +kernel) rfl
theorem uX4_73 : Cond.methodLink RX4 73 yX4_goCheapest ∈ lw_u := uw (i := 654) (by decide +kernel) rfl
theorem uX4_81 : Cond.methodLink RX4 81 Lib.Math.min.name ∈ lw_u := uw (i := 657) (by decide +kernel) rfl
theorem uX4_87 : Cond.methodLink RX4 87 yX4_lowest ∈ lw_u := uw (i := 658) (by decide +kernel) rfl
theorem uX4_100 : Cond.methodLink RX4 100 Lib.Math.max.name ∈ lw_u := uw (i := 662) (by decide +kernel) rfl
theorem uX4_90 : Cond.methodLink RX4 90 yX4_highest ∈ lw_u := uw (i := 665) (by decide +kernel) rfl
theorem uX4_93 : Cond.methodLink RX4 93 yX4_choose ∈ lw_u := uw (i := 669) (by decide +kernel) rfl
theorem uX9_301 : Cond.methodLink RX9 301 yX4_findFirst ∈ lw_u := uw (i := 673) (by decide +kernel) rfl
theorem uX4_77 : Cond.methodLink RX4 77 yX4_goFirst ∈ lw_u := uw (i := 677) (by decide +kernel) rfl
theorem uX4_97 : Cond.methodLink RX4 97 Lib.Math.abs.name ∈ lw_u := uw (i := 680) (by decide +kernel) rfl
theorem uX9_209 : Cond.methodLink RX9 209 arraycopyName ∈ lw_u := uw (i := 683) (by decide +kernel) rfl
theorem uX9_215 : Cond.methodLink RX9 215 yX9_addDug ∈ lw_u := uw (i := 684) (by decide +kernel) rfl
theorem uX9_233 : Cond.constant RX9 233 (99999) ∈ lw_u := uw (i := 688) (by decide +kernel) rfl
theorem uX9_234 : Cond.methodLink RX9 234 Lib.Math.min.name ∈ lw_u := uw (i := 689) (by decide +kernel) rfl
theorem uX9_219 : Cond.methodLink RX9 219 yX2_draftToMap ∈ lw_u := uw (i := 690) (by decide +kernel) rfl
theorem uX2_43 : Cond.methodLink RX2 43 yX2_copyRow ∈ lw_u := uw (i := 694) (by decide +kernel) rfl
theorem uL_52 : Cond.methodLink RL 52 yX9_digs ∈ lw_u := uw (i := 698) (by decide +kernel) rfl
theorem uX9_222 : Cond.methodLink RX9 222 Lib.Math.abs.name ∈ lw_u := uw (i := 702) (by decide +kernel) rfl
theorem uL_56 : Cond.methodLink RL 56 yX9_burns ∈ lw_u := uw (i := 703) (by decide +kernel) rfl
theorem uX9_227 : Cond.methodLink RX9 227 yX2_dropMap ∈ lw_u := uw (i := 707) (by decide +kernel) rfl
theorem uL_60 : Cond.methodLink RL 60 yX9_wipes ∈ lw_u := uw (i := 711) (by decide +kernel) rfl
theorem uL_64 : Cond.methodLink RL 64 yX9_undo ∈ lw_u := uw (i := 715) (by decide +kernel) rfl
theorem uX9_230 : Cond.methodLink RX9 230 yX3_restore ∈ lw_u := uw (i := 719) (by decide +kernel) rfl
theorem uL_68 : Cond.methodLink RL 68 yX9_far ∈ lw_u := uw (i := 723) (by decide +kernel) rfl
theorem uX9_244 : Cond.methodLink RX9 244 yX8_leastBetween ∈ lw_u := uw (i := 727) (by decide +kernel) rfl
theorem uX8_73 : Cond.methodLink RX8 73 Lib.Math.max.name ∈ lw_u := uw (i := 731) (by decide +kernel) rfl
theorem uL_72 : Cond.methodLink RL 72 yX9_by ∈ lw_u := uw (i := 732) (by decide +kernel) rfl
theorem uX9_247 : Cond.methodLink RX9 247 yX8_shortestBetween ∈ lw_u := uw (i := 736) (by decide +kernel) rfl
theorem uX8_76 : Cond.methodLink RX8 76 yX8_isShortest ∈ lw_u := uw (i := 740) (by decide +kernel) rfl
theorem uL_76 : Cond.methodLink RL 76 yX9_knot ∈ lw_u := uw (i := 741) (by decide +kernel) rfl
theorem uL_80 : Cond.methodLink RL 80 yX9_asking ∈ lw_u := uw (i := 745) (by decide +kernel) rfl
theorem uL_84 : Cond.methodLink RL 84 yX9_clash ∈ lw_u := uw (i := 749) (by decide +kernel) rfl
theorem uX9_250 : Cond.methodLink RX9 250 yX9_standing ∈ lw_u := uw (i := 753) (by decide +kernel) rfl
theorem uX9_308 : Cond.methodLink RX9 308 yX9_canHold ∈ lw_u := uw (i := 757) (by decide +kernel) rfl
theorem uX9_312 : Cond.methodLink RX9 312 yX9_partsStand ∈ lw_u := uw (i := 761) (by decide +kernel) rfl
theorem uX9_253 : Cond.methodLink RX9 253 yJ6_bitCount_0f7a4 ∈ lw_u := uw (i := 765) (by decide +kernel) rfl
theorem uL_88 : Cond.methodLink RL 88 yX9_fire ∈ lw_u := uw (i := 766) (by decide +kernel) rfl
theorem uL_92 : Cond.methodLink RL 92 yX9_spite ∈ lw_u := uw (i := 770) (by decide +kernel) rfl
theorem uX9_272 : Cond.methodLink RX9 272 yX9_findSpite ∈ lw_u := uw (i := 774) (by decide +kernel) rfl
theorem uX9_316 : Cond.methodLink RX9 316 yX5_empty ∈ lw_u := uw (i := 778) (by decide +kernel) rfl
theorem uX9_317 : Cond.methodLink RX9 317 yX5_see ∈ lw_u := uw (i := 782) (by decide +kernel) rfl
theorem uL_96 : Cond.methodLink RL 96 yX9_spiteful ∈ lw_u := uw (i := 786) (by decide +kernel) rfl
theorem uX9_284 : Cond.methodLink RX9 284 yX8_placeAt ∈ lw_u := uw (i := 790) (by decide +kernel) rfl
theorem uL_100 : Cond.methodLink RL 100 yX9_odds ∈ lw_u := uw (i := 794) (by decide +kernel) rfl
theorem uX9_285 : Cond.methodLink RX9 285 yX9_chances ∈ lw_u := uw (i := 798) (by decide +kernel) rfl
theorem uX9_288 : Cond.methodLink RX9 288 yX9_commonDivisor ∈ lw_u := uw (i := 802) (by decide +kernel) rfl
theorem uL_104 : Cond.methodLink RL 104 yX9_took ∈ lw_u := uw (i := 805) (by decide +kernel) rfl
theorem uX9_320 : Cond.methodLink RX9 320 yX6_add ∈ lw_u := uw (i := 809) (by decide +kernel) rfl
theorem uL_108 : Cond.methodLink RL 108 yX9_forget ∈ lw_u := uw (i := 813) (by decide +kernel) rfl
theorem uL_112 : Cond.methodLink RL 112 yX9_can ∈ lw_u := uw (i := 817) (by decide +kernel) rfl
theorem uX9_323 : Cond.methodLink RX9 323 yX6_guess ∈ lw_u := uw (i := 821) (by decide +kernel) rfl
theorem uX6_40 : Cond.methodLink RX6 40 yX8_isShortest ∈ lw_u := uw (i := 825) (by decide +kernel) rfl
theorem uX6_44 : Cond.methodLink RX6 44 yX6_addFitting ∈ lw_u := uw (i := 826) (by decide +kernel) rfl
theorem uL_116 : Cond.methodLink RL 116 yX9_look ∈ lw_u := uw (i := 830) (by decide +kernel) rfl
theorem uX9_339 : Cond.methodLink RX9 339 Lib.Math.max.name ∈ lw_u := uw (i := 834) (by decide +kernel) rfl
theorem uL_120 : Cond.methodLink RL 120 yX9_rate ∈ lw_u := uw (i := 835) (by decide +kernel) rfl
theorem uX9_342 : Cond.constant RX9 342 (-1000000) ∈ lw_u := uw (i := 839) (by decide +kernel) rfl
theorem uX9_343 : Cond.methodLink RX9 343 yX9_asLane ∈ lw_u := uw (i := 840) (by decide +kernel) rfl
theorem uX9_346 : Cond.methodLink RX9 346 yX9_asBrook ∈ lw_u := uw (i := 844) (by decide +kernel) rfl
theorem uX9_361 : Cond.constantLong RX9 361 (10) ∈ lw_u := uw (i := 848) (by decide +kernel) rfl
theorem uX9_349 : Cond.methodLink RX9 349 yX9_asCart ∈ lw_u := uw (i := 849) (by decide +kernel) rfl
theorem uX9_363 : Cond.constantLong RX9 363 (100) ∈ lw_u := uw (i := 853) (by decide +kernel) rfl
theorem uX9_352 : Cond.methodLink RX9 352 yX9_asParlour ∈ lw_u := uw (i := 854) (by decide +kernel) rfl
theorem uX9_365 : Cond.constantLong RX9 365 (1000) ∈ lw_u := uw (i := 858) (by decide +kernel) rfl
theorem uX9_355 : Cond.methodLink RX9 355 yX9_asHome ∈ lw_u := uw (i := 859) (by decide +kernel) rfl
theorem uX9_367 : Cond.constantLong RX9 367 (10000) ∈ lw_u := uw (i := 863) (by decide +kernel) rfl
theorem uX9_358 : Cond.methodLink RX9 358 yX9_asSea ∈ lw_u := uw (i := 864) (by decide +kernel) rfl
theorem uX9_369 : Cond.constantLong RX9 369 (100000) ∈ lw_u := uw (i := 868) (by decide +kernel) rfl
theorem uL_124 : Cond.methodLink RL 124 yX9_keep ∈ lw_u := uw (i := 869) (by decide +kernel) rfl
theorem uL_128 : Cond.methodLink RL 128 yX9_back ∈ lw_u := uw (i := 873) (by decide +kernel) rfl
theorem uL_132 : Cond.methodLink RL 132 yX9_count ∈ lw_u := uw (i := 877) (by decide +kernel) rfl
theorem uL_136 : Cond.methodLink RL 136 yX9_trace ∈ lw_u := uw (i := 881) (by decide +kernel) rfl
theorem uL_10 : Cond.classLink RL 10 RX10 ∈ lw_u := uw (i := 885) (by decide +kernel) rfl
theorem uinstX10 : Cond.instantiable RX10 35 ∈ lw_u := uw (i := 886) (by decide +kernel) rfl
theorem uL_12 : Cond.methodLink RL 12 yX10_init ∈ lw_u := uw (i := 887) (by decide +kernel) rfl
theorem uX10_1 : Cond.methodLink RX10 1 objectInit ∈ lw_u := uw (i := 890) (by decide +kernel) rfl
theorem uX10_83 : Cond.methodLink RX10 83 yX10_begins ∈ lw_u := uw (i := 891) (by decide +kernel) rfl
theorem uX10_86 : Cond.methodLink RX10 86 yX10_settles ∈ lw_u := uw (i := 895) (by decide +kernel) rfl
theorem uX10_155 : Cond.methodLink RX10 155 yX10_endsOf ∈ lw_u := uw (i := 899) (by decide +kernel) rfl
theorem uX10_89 : Cond.fieldLink RX10 89 "AskedMapsModel" "thrown" "I" ∈ lw_u := uw (i := 903) (by decide +kernel) rfl
theorem uX10_243 : Cond.fieldLink RX10 243 "AskedMapsModel" "trace" "J" ∈ lw_u := uw (i := 904) (by decide +kernel) rfl
theorem uX10_7 : Cond.fieldLink RX10 7 "AskedMapsModel" "text" "[I" ∈ lw_u := uw (i := 905) (by decide +kernel) rfl
theorem uX10_97 : Cond.fieldLink RX10 97 "AskedMapsModel" "typed" "I" ∈ lw_u := uw (i := 906) (by decide +kernel) rfl
theorem uX10_100 : Cond.fieldLink RX10 100 "AskedMapsModel" "next" "I" ∈ lw_u := uw (i := 907) (by decide +kernel) rfl
theorem uX10_110 : Cond.fieldLink RX10 110 "AskedMapsModel" "token" "I" ∈ lw_u := uw (i := 908) (by decide +kernel) rfl
theorem uX10_107 : Cond.fieldLink RX10 107 "AskedMapsModel" "place" "I" ∈ lw_u := uw (i := 909) (by decide +kernel) rfl
theorem uX10_113 : Cond.fieldLink RX10 113 "AskedMapsModel" "value" "I" ∈ lw_u := uw (i := 910) (by decide +kernel) rfl
theorem uX10_116 : Cond.fieldLink RX10 116 "AskedMapsModel" "fault" "I" ∈ lw_u := uw (i := 911) (by decide +kernel) rfl
theorem uX10_13 : Cond.fieldLink RX10 13 "AskedMapsModel" "many" "[I" ∈ lw_u := uw (i := 912) (by decide +kernel) rfl
theorem uX10_16 : Cond.fieldLink RX10 16 "AskedMapsModel" "one" "[I" ∈ lw_u := uw (i := 913) (by decide +kernel) rfl
theorem uX10_19 : Cond.fieldLink RX10 19 "AskedMapsModel" "other" "[I" ∈ lw_u := uw (i := 914) (by decide +kernel) rfl
theorem uX10_22 : Cond.fieldLink RX10 22 "AskedMapsModel" "spades" "[I" ∈ lw_u := uw (i := 915) (by decide +kernel) rfl
theorem uX10_25 : Cond.fieldLink RX10 25 "AskedMapsModel" "draft" "[I" ∈ lw_u := uw (i := 916) (by decide +kernel) rfl
theorem uX10_28 : Cond.fieldLink RX10 28 "AskedMapsModel" "s" "[I" ∈ lw_u := uw (i := 917) (by decide +kernel) rfl
theorem uX10_31 : Cond.fieldLink RX10 31 "AskedMapsModel" "kept" "[I" ∈ lw_u := uw (i := 918) (by decide +kernel) rfl
theorem uX10_34 : Cond.fieldLink RX10 34 "AskedMapsModel" "isKept" "[Z" ∈ lw_u := uw (i := 919) (by decide +kernel) rfl
theorem uX10_38 : Cond.fieldLink RX10 38 "AskedMapsModel" "undos" "[I" ∈ lw_u := uw (i := 920) (by decide +kernel) rfl
theorem uX10_161 : Cond.fieldLink RX10 161 "AskedMapsModel" "undoMany" "I" ∈ lw_u := uw (i := 921) (by decide +kernel) rfl
theorem uX10_41 : Cond.fieldLink RX10 41 "AskedMapsModel" "tookLane" "[I" ∈ lw_u := uw (i := 922) (by decide +kernel) rfl
theorem uX10_44 : Cond.fieldLink RX10 44 "AskedMapsModel" "tookIs" "[I" ∈ lw_u := uw (i := 923) (by decide +kernel) rfl
theorem uX10_158 : Cond.fieldLink RX10 158 "AskedMapsModel" "tookMany" "I" ∈ lw_u := uw (i := 924) (by decide +kernel) rfl
theorem uX10_47 : Cond.fieldLink RX10 47 "AskedMapsModel" "ends" "[I" ∈ lw_u := uw (i := 925) (by decide +kernel) rfl
theorem uX10_50 : Cond.fieldLink RX10 50 "AskedMapsModel" "lengthOf" "[I" ∈ lw_u := uw (i := 926) (by decide +kernel) rfl
theorem uX10_53 : Cond.fieldLink RX10 53 "AskedMapsModel" "lowest" "[I" ∈ lw_u := uw (i := 927) (by decide +kernel) rfl
theorem uX10_56 : Cond.fieldLink RX10 56 "AskedMapsModel" "ways" "[I" ∈ lw_u := uw (i := 928) (by decide +kernel) rfl
theorem uX10_152 : Cond.fieldLink RX10 152 "AskedMapsModel" "wayMany" "I" ∈ lw_u := uw (i := 929) (by decide +kernel) rfl
theorem uX10_59 : Cond.fieldLink RX10 59 "AskedMapsModel" "mapSet" "[I" ∈ lw_u := uw (i := 930) (by decide +kernel) rfl
theorem uX10_62 : Cond.fieldLink RX10 62 "AskedMapsModel" "least" "[I" ∈ lw_u := uw (i := 931) (by decide +kernel) rfl
theorem uX10_65 : Cond.fieldLink RX10 65 "AskedMapsModel" "trial" "[I" ∈ lw_u := uw (i := 932) (by decide +kernel) rfl
theorem uX10_68 : Cond.fieldLink RX10 68 "AskedMapsModel" "costBy" "[I" ∈ lw_u := uw (i := 933) (by decide +kernel) rfl
theorem uX10_71 : Cond.fieldLink RX10 71 "AskedMapsModel" "cheapest" "[I" ∈ lw_u := uw (i := 934) (by decide +kernel) rfl
theorem uX10_74 : Cond.fieldLink RX10 74 "AskedMapsModel" "spite" "[I" ∈ lw_u := uw (i := 935) (by decide +kernel) rfl
theorem uX10_77 : Cond.fieldLink RX10 77 "AskedMapsModel" "row" "[I" ∈ lw_u := uw (i := 936) (by decide +kernel) rfl
theorem uX10_80 : Cond.fieldLink RX10 80 "AskedMapsModel" "best" "[I" ∈ lw_u := uw (i := 937) (by decide +kernel) rfl
theorem uL_17 : Cond.methodLink RL 17 yX10_type ∈ lw_u := uw (i := 1010) (by decide +kernel) rfl
theorem uX10_93 : Cond.methodLink RX10 93 yX10_in ∈ lw_u := uw (i := 1014) (by decide +kernel) rfl
theorem uL_22 : Cond.methodLink RL 22 yX10_clear ∈ lw_u := uw (i := 1017) (by decide +kernel) rfl
theorem uL_26 : Cond.methodLink RL 26 yX10_land ∈ lw_u := uw (i := 1021) (by decide +kernel) rfl
theorem uX10_123 : Cond.methodLink RX10 123 yX10_advances ∈ lw_u := uw (i := 1025) (by decide +kernel) rfl
theorem uX10_103 : Cond.methodLink RX10 103 yX10_letterAt ∈ lw_u := uw (i := 1029) (by decide +kernel) rfl
theorem uX10_119 : Cond.methodLink RX10 119 yX10_isWell ∈ lw_u := uw (i := 1033) (by decide +kernel) rfl
theorem uX10_126 : Cond.methodLink RX10 126 yX10_takes ∈ lw_u := uw (i := 1037) (by decide +kernel) rfl
theorem uX10_148 : Cond.methodLink RX10 148 yX10_readsItem ∈ lw_u := uw (i := 1041) (by decide +kernel) rfl
theorem uX10_130 : Cond.methodLink RX10 130 yX10_number ∈ lw_u := uw (i := 1045) (by decide +kernel) rfl
theorem uX10_142 : Cond.methodLink RX10 142 yX10_readsLane ∈ lw_u := uw (i := 1049) (by decide +kernel) rfl
theorem uX10_134 : Cond.methodLink RX10 134 yX10_laneOf ∈ lw_u := uw (i := 1053) (by decide +kernel) rfl
theorem uX10_145 : Cond.methodLink RX10 145 yX10_readsMap ∈ lw_u := uw (i := 1057) (by decide +kernel) rfl
theorem uX10_138 : Cond.methodLink RX10 138 yX10_canBeNext ∈ lw_u := uw (i := 1061) (by decide +kernel) rfl
theorem uL_31 : Cond.methodLink RL 31 yX10_lane ∈ lw_u := uw (i := 1065) (by decide +kernel) rfl
theorem uX10_171 : Cond.methodLink RX10 171 yX10_isLane ∈ lw_u := uw (i := 1069) (by decide +kernel) rfl
theorem uX10_175 : Cond.methodLink RX10 175 yX10_mapsBy ∈ lw_u := uw (i := 1073) (by decide +kernel) rfl
theorem uX10_168 : Cond.methodLink RX10 168 yX10_mapLanes ∈ lw_u := uw (i := 1077) (by decide +kernel) rfl
theorem uX10_164 : Cond.methodLink RX10 164 yX10_lanesOf ∈ lw_u := uw (i := 1081) (by decide +kernel) rfl
theorem uL_35 : Cond.methodLink RL 35 yX10_map ∈ lw_u := uw (i := 1085) (by decide +kernel) rfl
theorem uX10_178 : Cond.methodLink RX10 178 yX10_isMap ∈ lw_u := uw (i := 1089) (by decide +kernel) rfl
theorem uX10_181 : Cond.methodLink RX10 181 yX10_measures ∈ lw_u := uw (i := 1093) (by decide +kernel) rfl
theorem uX10_167 : Cond.constant RX10 167 (1000000) ∈ lw_u := uw (i := 1097) (by decide +kernel) rfl
theorem uX10_185 : Cond.methodLink RX10 185 yX10_holds ∈ lw_u := uw (i := 1098) (by decide +kernel) rfl
theorem uL_39 : Cond.methodLink RL 39 yX10_place ∈ lw_u := uw (i := 1102) (by decide +kernel) rfl
theorem uL_43 : Cond.methodLink RL 43 yX10_now ∈ lw_u := uw (i := 1106) (by decide +kernel) rfl
theorem uL_47 : Cond.methodLink RL 47 yX10_names ∈ lw_u := uw (i := 1110) (by decide +kernel) rfl
theorem uX10_188 : Cond.methodLink RX10 188 yX10_isPlace ∈ lw_u := uw (i := 1114) (by decide +kernel) rfl
theorem uX10_191 : Cond.methodLink RX10 191 yX10_notes ∈ lw_u := uw (i := 1118) (by decide +kernel) rfl
theorem uL_51 : Cond.methodLink RL 51 yX10_asks ∈ lw_u := uw (i := 1122) (by decide +kernel) rfl
theorem uX10_195 : Cond.methodLink RX10 195 yX10_draftLanes ∈ lw_u := uw (i := 1126) (by decide +kernel) rfl
theorem uX10_199 : Cond.methodLink RX10 199 yX10_scans ∈ lw_u := uw (i := 1130) (by decide +kernel) rfl
theorem uX10_217 : Cond.methodLink RX10 217 yX10_scansOne ∈ lw_u := uw (i := 1134) (by decide +kernel) rfl
theorem uX10_211 : Cond.methodLink RX10 211 yX10_apart ∈ lw_u := uw (i := 1138) (by decide +kernel) rfl
theorem uX10_202 : Cond.methodLink RX10 202 yX10_allMaps ∈ lw_u := uw (i := 1141) (by decide +kernel) rfl
theorem uX10_220 : Cond.methodLink RX10 220 yX10_steps ∈ lw_u := uw (i := 1145) (by decide +kernel) rfl
theorem uX10_205 : Cond.methodLink RX10 205 yX10_costOf ∈ lw_u := uw (i := 1149) (by decide +kernel) rfl
theorem uX10_208 : Cond.methodLink RX10 208 yX10_digsFor ∈ lw_u := uw (i := 1153) (by decide +kernel) rfl
theorem uX10_194 : Cond.constant RX10 194 (99999) ∈ lw_u := uw (i := 1157) (by decide +kernel) rfl
theorem uL_55 : Cond.methodLink RL 55 yX10_digs ∈ lw_u := uw (i := 1158) (by decide +kernel) rfl
theorem uL_59 : Cond.methodLink RL 59 yX10_burns ∈ lw_u := uw (i := 1162) (by decide +kernel) rfl
theorem uL_63 : Cond.methodLink RL 63 yX10_wipes ∈ lw_u := uw (i := 1166) (by decide +kernel) rfl
theorem uL_67 : Cond.methodLink RL 67 yX10_undo ∈ lw_u := uw (i := 1170) (by decide +kernel) rfl
theorem uL_71 : Cond.methodLink RL 71 yX10_far ∈ lw_u := uw (i := 1174) (by decide +kernel) rfl
theorem uX10_214 : Cond.methodLink RX10 214 yX10_endsBetween ∈ lw_u := uw (i := 1178) (by decide +kernel) rfl
theorem uL_75 : Cond.methodLink RL 75 yX10_by ∈ lw_u := uw (i := 1181) (by decide +kernel) rfl
theorem uL_79 : Cond.methodLink RL 79 yX10_knot ∈ lw_u := uw (i := 1185) (by decide +kernel) rfl
theorem uL_83 : Cond.methodLink RL 83 yX10_asking ∈ lw_u := uw (i := 1189) (by decide +kernel) rfl
theorem uL_87 : Cond.methodLink RL 87 yX10_clash ∈ lw_u := uw (i := 1193) (by decide +kernel) rfl
theorem uX10_223 : Cond.methodLink RX10 223 yX10_ones ∈ lw_u := uw (i := 1197) (by decide +kernel) rfl
theorem uL_91 : Cond.methodLink RL 91 yX10_fire ∈ lw_u := uw (i := 1200) (by decide +kernel) rfl
theorem uL_95 : Cond.methodLink RL 95 yX10_spite ∈ lw_u := uw (i := 1204) (by decide +kernel) rfl
theorem uX10_233 : Cond.methodLink RX10 233 yX10_spiteSet ∈ lw_u := uw (i := 1208) (by decide +kernel) rfl
theorem uX10_226 : Cond.methodLink RX10 226 yX10_reads ∈ lw_u := uw (i := 1212) (by decide +kernel) rfl
theorem uX10_229 : Cond.methodLink RX10 229 yX10_isAhead ∈ lw_u := uw (i := 1216) (by decide +kernel) rfl
theorem uL_99 : Cond.methodLink RL 99 yX10_spiteful ∈ lw_u := uw (i := 1220) (by decide +kernel) rfl
theorem uL_103 : Cond.methodLink RL 103 yX10_odds ∈ lw_u := uw (i := 1224) (by decide +kernel) rfl
theorem uX10_236 : Cond.methodLink RX10 236 yX10_gcd ∈ lw_u := uw (i := 1228) (by decide +kernel) rfl
theorem uL_107 : Cond.methodLink RL 107 yX10_took ∈ lw_u := uw (i := 1231) (by decide +kernel) rfl
theorem uL_111 : Cond.methodLink RL 111 yX10_forget ∈ lw_u := uw (i := 1235) (by decide +kernel) rfl
theorem uL_115 : Cond.methodLink RL 115 yX10_can ∈ lw_u := uw (i := 1239) (by decide +kernel) rfl
theorem uX10_239 : Cond.methodLink RX10 239 yX10_mayBe ∈ lw_u := uw (i := 1243) (by decide +kernel) rfl
theorem uL_119 : Cond.methodLink RL 119 yX10_look ∈ lw_u := uw (i := 1247) (by decide +kernel) rfl
theorem uL_123 : Cond.methodLink RL 123 yX10_rate ∈ lw_u := uw (i := 1251) (by decide +kernel) rfl
theorem uX10_242 : Cond.constant RX10 242 (-1000000) ∈ lw_u := uw (i := 1255) (by decide +kernel) rfl
theorem uX10_247 : Cond.constantLong RX10 247 (11) ∈ lw_u := uw (i := 1256) (by decide +kernel) rfl
theorem uX10_249 : Cond.constantLong RX10 249 (101) ∈ lw_u := uw (i := 1257) (by decide +kernel) rfl
theorem uX10_251 : Cond.constantLong RX10 251 (1011) ∈ lw_u := uw (i := 1258) (by decide +kernel) rfl
theorem uX10_253 : Cond.constantLong RX10 253 (10101) ∈ lw_u := uw (i := 1259) (by decide +kernel) rfl
theorem uX10_255 : Cond.constantLong RX10 255 (100001) ∈ lw_u := uw (i := 1260) (by decide +kernel) rfl
theorem uL_127 : Cond.methodLink RL 127 yX10_keep ∈ lw_u := uw (i := 1261) (by decide +kernel) rfl
theorem uL_131 : Cond.methodLink RL 131 yX10_back ∈ lw_u := uw (i := 1265) (by decide +kernel) rfl
theorem uL_135 : Cond.methodLink RL 135 yX10_count ∈ lw_u := uw (i := 1269) (by decide +kernel) rfl
theorem uL_140 : Cond.methodLink RL 140 yX10_trace ∈ lw_u := uw (i := 1273) (by decide +kernel) rfl
end
section
/-! THE WORLD AS ONE STATE. Cells are numbered; st.1 k j: the int in cell k, slot or index j; st.2.1 k: the long of object k; st.2.2: the numbers of the cells that the two changeable references name. A cell's shape is static. -/
abbrev vwCl : List vw_C := [(RX0, TX0, 3), (RX1, TX1, 6), (RX2, TX2, 5), (RX3, TX3, 3), (RX4, TX4, 9), (RX5, TX5, 4), (RX6, TX6, 7), (RX7, TX7, 6), (RX8, TX8, 8), (RX9, TX9, 14), (RX10, TX10, 35)]
abbrev St : Type := (Nat → Nat → Int32) × (Nat → Int64) × (Nat × Nat)
abbrev Sh : Type := Nat × List Nat
abbrev Cy : Type := ClassId × ClassId × ClassId × ClassId
/-- the static part of a world: class and slot numbers, shapes, addresses, array classes -/
abbrev Wv : Type := va_G × List Sh × (Nat → Nat) × Cy
def rf (V : Wv) (k : Nat) : Value := .ref (V.2.2.1 k)
def fldV (V : Wv) (σ : St) (k j : Nat) : Nat → Value
  | 0 => .int (σ.1 k j)
  | 1 => .long (σ.2.1 k)
  | 2 => rf V σ.2.2.1
  | 3 => rf V σ.2.2.2
  | n + 4 => rf V n
def flds (V : Wv) (σ : St) (k : Nat) : Nat → List Nat → List Value
  | _, [] => []
  | j, cd :: r => fldV V σ k j cd :: flds V σ k (j + 1) r
def refs (V : Wv) (l : List Nat) : Nat → Option Nat := fun i => if i < l.getD 0 0 then some (V.2.2.1 (l.getD 1 0 + l.getD 2 0 * i)) else none
def celE (V : Wv) (σ : St) (k : Nat) (sh : Sh) : va_E :=
  if sh.1 < 11 then .inr (sh.1, flds V σ k 0 sh.2)
  else if sh.1 = 11 then .inl (V.2.2.2.1, sh.2.getD 0 0, .inl (σ.1 k))
  else if sh.1 = 12 then .inl (V.2.2.2.2.1, sh.2.getD 0 0, .inl (σ.1 k))
  else if sh.1 = 13 then .inl (V.2.2.2.2.2.1, sh.2.getD 0 0, .inr (.inr (.inr (.inr (refs V sh.2)))))
  else .inl (V.2.2.2.2.2.2, sh.2.getD 0 0, .inr (.inr (.inr (.inr (refs V sh.2)))))
def wld (V : Wv) (σ : St) : va_W := V.2.1.mapIdx (fun k sh => (V.2.2.1 k, celE V σ k sh))
def tyL (V : Wv) : List (ClassId × FieldType) := [(V.2.2.2.1, .int), (V.2.2.2.2.1, .boolean), (V.2.2.2.2.2.1, .object "AskedMaps$Now"), (V.2.2.2.2.2.2, .array .int)]
theorem wld_get {V : Wv} {σ : St} {k : Nat} {sh : Sh} (h : V.2.1[k]? = some sh) : (wld V σ)[k]? = some (V.2.2.1 k, celE V σ k sh) := by
  simp [wld, List.getElem?_mapIdx, h]
theorem fldV_congr {V : Wv} {σ τ : St} {k j : Nat} (h1 : τ.1 k = σ.1 k) (h2 : τ.2.1 k = σ.2.1 k) (h3 : τ.2.2 = σ.2.2) (cd : Nat) : fldV V τ k j cd = fldV V σ k j cd := by
  match cd with
  | 0 => simp [fldV, h1]
  | 1 => simp [fldV, h2]
  | 2 => simp [fldV, h3]
  | 3 => simp [fldV, h3]
  | n + 4 => simp [fldV]
theorem flds_congr {V : Wv} {σ τ : St} {k : Nat} (h1 : τ.1 k = σ.1 k) (h2 : τ.2.1 k = σ.2.1 k) (h3 : τ.2.2 = σ.2.2) : ∀ (j : Nat) (l : List Nat), flds V τ k j l = flds V σ k j l
  | _, [] => rfl
  | j, cd :: r => by rw [flds, flds, fldV_congr h1 h2 h3, flds_congr h1 h2 h3 (j + 1) r]
theorem celE_congr {V : Wv} {σ τ : St} {k : Nat} (h1 : τ.1 k = σ.1 k) (h2 : τ.2.1 k = σ.2.1 k) (h3 : τ.2.2 = σ.2.2) (sh : Sh) : celE V τ k sh = celE V σ k sh := by
  unfold celE
  rw [flds_congr h1 h2 h3, h1]
theorem wld_set {V : Wv} {σ τ : St} {k : Nat} {sh : Sh} (h : V.2.1[k]? = some sh) (h1 : ∀ a, a ≠ k → τ.1 a = σ.1 a) (h2 : ∀ a, a ≠ k → τ.2.1 a = σ.2.1 a) (h3 : τ.2.2 = σ.2.2) : wld V τ = (wld V σ).set k (V.2.2.1 k, celE V τ k sh) := by
  apply List.ext_getElem?
  intro i
  have hk : k < V.2.1.length := (List.getElem?_eq_some_iff.mp h).1
  rw [List.getElem?_set]
  by_cases e : k = i
  · subst e
    rw [wld_get h]
    simp [wld, hk]
  · rw [if_neg e]
    simp only [wld, List.getElem?_mapIdx]
    cases hq : V.2.1[i]? with
    | none => rfl
    | some q => simp only [Option.map_some]; rw [celE_congr (h1 i (fun z => e z.symm)) (h2 i (fun z => e z.symm)) h3]
/-- the same, where references change, too: no other object has such fields -/
theorem wld_setG {V : Wv} {σ τ : St} {k : Nat} {sh : Sh} (h : V.2.1[k]? = some sh) (h1 : τ.1 = σ.1) (h2 : τ.2.1 = σ.2.1) (hno : ∀ i q, i ≠ k → V.2.1[i]? = some q → q.1 < 11 → ∀ cd ∈ q.2, cd ≠ 2 ∧ cd ≠ 3) : wld V τ = (wld V σ).set k (V.2.2.1 k, celE V τ k sh) := by
  have hf : ∀ (i j : Nat) (l : List Nat), (∀ cd ∈ l, cd ≠ 2 ∧ cd ≠ 3) → flds V τ i j l = flds V σ i j l := by
    intro i j l
    induction l generalizing j with
    | nil => intro _; rfl
    | cons cd r ih =>
      intro hl
      rw [flds, flds, ih (j + 1) (fun c hc => hl c (List.mem_cons_of_mem _ hc))]
      have := hl cd List.mem_cons_self
      congr 1
      match cd, this with
      | 0, _ => simp [fldV, h1]
      | 1, _ => simp [fldV, h2]
      | 2, hh => exact absurd rfl hh.1
      | 3, hh => exact absurd rfl hh.2
      | n + 4, _ => simp [fldV]
  apply List.ext_getElem?
  intro i
  have hk : k < V.2.1.length := (List.getElem?_eq_some_iff.mp h).1
  rw [List.getElem?_set]
  by_cases e : k = i
  · subst e
    rw [wld_get h]
    simp [wld, hk]
  · rw [if_neg e]
    simp only [wld, List.getElem?_mapIdx]
    cases hq : V.2.1[i]? with
    | none => rfl
    | some q =>
      simp only [Option.map_some]
      have : celE V τ i q = celE V σ i q := by
        unfold celE
        by_cases h11 : q.1 < 11
        · rw [if_pos h11, if_pos h11, hf i 0 q.2 (hno i q (fun z => e z.symm) hq h11)]
        · rw [if_neg h11, if_neg h11, h1]
      rw [this]
theorem wld_addr {V : Wv} {σ : St} {k : Nat} {q : Nat × va_E} (h : (wld V σ)[k]? = some q) : q.1 = V.2.2.1 k ∧ k < V.2.1.length := by
  simp only [wld, List.getElem?_mapIdx] at h
  cases hq : V.2.1[k]? with
  | none => rw [hq] at h; cases h
  | some sh => rw [hq] at h; cases h; exact ⟨rfl, (List.getElem?_eq_some_iff.mp hq).1⟩
/-- addresses don't depend on the state -/
theorem wld_D {V : Wv} {σ τ : St} {A : Nat → Prop} (h : va_D A (wld V σ)) : va_D A (wld V τ) := by
  have conv : ∀ (i : Nat) (q : Nat × va_E), (wld V τ)[i]? = some q → ∃ q', (wld V σ)[i]? = some q' ∧ q'.1 = q.1 := by
    intro i q hq
    obtain ⟨h1, h2⟩ := wld_addr hq
    have hs : V.2.1[i]? = some (V.2.1[i]) := List.getElem?_eq_getElem h2
    exact ⟨_, wld_get hs, h1.symm⟩
  refine ⟨fun i j p q hi hj hpq => ?_, fun k q hk => ?_⟩
  · obtain ⟨p', h1, h2⟩ := conv i p hi
    obtain ⟨q', h3, h4⟩ := conv j q hj
    exact h.1 i j p' q' h1 h3 (by rw [h2, h4, hpq])
  · obtain ⟨q', h1, h2⟩ := conv k q hk
    rw [← h2]
    exact h.2 k q' h1
theorem wld_A {V : Wv} {σ τ : St} {sz q : Nat} (h : va_A (wld V σ) sz q) : va_A (wld V τ) sz q := by
  rcases h with ⟨k, e, h⟩ | h
  · obtain ⟨h1, h2⟩ := wld_addr h
    have hs : V.2.1[k]? = some (V.2.1[k]) := List.getElem?_eq_getElem h2
    have h3 := wld_get (σ := τ) hs
    exact Or.inl ⟨k, _, by rw [h3]; simp only [Option.some.injEq, Prod.mk.injEq]; exact ⟨h1.symm, rfl⟩⟩
  · exact Or.inr h
/-! changes of the state -/
def stI (σ : St) (k j : Nat) (v : Int32) : St := (va_up σ.1 k (upd (σ.1 k) j v), σ.2)
def stL (σ : St) (k : Nat) (v : Int64) : St := (σ.1, va_up σ.2.1 k v, σ.2.2)
def stG (σ : St) (g : Nat) : St := (σ.1, σ.2.1, (g, σ.2.2.2))
def stH (σ : St) (g : Nat) : St := (σ.1, σ.2.1, (σ.2.2.1, g))
def stC (σ : St) (src dst sp dp n : Nat) : St := (va_up σ.1 dst (va_cpy (σ.1 src) (σ.1 dst) sp dp n), σ.2)
theorem up_ne {α : Type} {f : Nat → α} {k a : Nat} {v : α} (h : a ≠ k) : va_up f k v a = f a := by simp [va_up, h]
theorem up_eq {α : Type} {f : Nat → α} {k : Nat} {v : α} : va_up f k v k = v := by simp [va_up]
theorem flds_get {V : Wv} {σ : St} {k : Nat} : ∀ (l : List Nat) (j i cd : Nat), l[i]? = some cd → (flds V σ k j l)[i]? = some (fldV V σ k (j + i) cd)
  | [], _, i, _, h => by simp at h
  | c :: r, j, 0, cd, h => by simp at h; subst h; simp [flds]
  | c :: r, j, i + 1, cd, h => by
    simp only [List.getElem?_cons_succ] at h
    have := flds_get (V := V) (σ := σ) (k := k) r (j + 1) i cd h
    rw [flds, List.getElem?_cons_succ, this]
    congr 2
    omega
theorem flds_length {V : Wv} {σ : St} {k : Nat} : ∀ (l : List Nat) (j : Nat), (flds V σ k j l).length = l.length
  | [], _ => rfl
  | c :: r, j => by simp [flds, flds_length r]
/-- a field that is put: all the others stay -/
theorem flds_put {V : Wv} {σ τ : St} {k i : Nat} {v : Value} (l : List Nat) (hi : i < l.length) (hv : ∀ cd, l[i]? = some cd → fldV V τ k i cd = v) (ho : ∀ j cd, j ≠ i → l[j]? = some cd → fldV V τ k j cd = fldV V σ k j cd) : flds V τ k 0 l = (flds V σ k 0 l).set i v := by
  apply List.ext_getElem?
  intro j
  rw [List.getElem?_set, flds_length]
  by_cases e : i = j
  · subst e
    rw [if_pos rfl, if_pos hi]
    have h1 : l[i]? = some l[i] := List.getElem?_eq_getElem hi
    rw [flds_get l 0 i _ h1, Nat.zero_add, hv _ h1]
  · rw [if_neg e]
    cases hq : l[j]? with
    | none =>
      have hl : l.length ≤ j := List.getElem?_eq_none_iff.mp hq
      rw [List.getElem?_eq_none (by rw [flds_length]; exact hl), List.getElem?_eq_none (by rw [flds_length]; exact hl)]
    | some cd => rw [flds_get l 0 j cd hq, flds_get l 0 j cd hq, Nat.zero_add, ho j cd (fun z => e z.symm) hq]
end
section
/-! THE WALK OVER THE STATE. G: from every heap that holds the state the machine comes to Q. Rows: an instruction each. -/
abbrev Mx : Type := Program × Env × Room × State × MethodId × Array Value × List Frame × Method × Code × (Nat × Nat) × (State → Prop) × (Nat → Prop)
def G (l : Launch) (V : Wv) (X : Mx) (nL pc : Nat) (lv : List (Nat × Value)) (st : List Value) (σ : St) : Prop :=
  ∀ (H : Heap) (locs : List Loc) (ls : Array Slot), va_P V.1 vwCl (wld V σ) H → va_S X.2.2.2.2.2.2.2.2.2.2.2 X.2.2.2.1.heap H locs → lv_has ls nL lv →
    W X.1 l X.2.1 X.2.2.1 X.2.2.2.1 X.2.2.2.2.1 X.2.2.2.2.2.1 X.2.2.2.2.2.2.1 X.2.2.2.2.2.2.2.1 X.2.2.2.2.2.2.2.2.1 H locs X.2.2.2.2.2.2.2.2.2.1.1 X.2.2.2.2.2.2.2.2.2.1.2 X.2.2.2.2.2.2.2.2.2.2.1 (F0 X.2.2.2.2.1 pc ls st)
/-- what is fixed while a method runs: machine, code, tables, room -/
def Fx (V : Wv) (X : Mx) (cc : ByteArray) (own : String) (nL lev : Nat) : Prop :=
  X.1.tables.exec = Jvm.exec ∧ X.2.2.2.2.2.2.2.2.1.code = cc ∧ X.2.2.2.2.2.2.2.2.1.maxLocals = nL ∧ X.2.2.2.1.vm.findClass own = some X.2.2.2.2.1.cls ∧ (∀ w ∈ lw_u, w.before X.2.2.2.2.2.1 X.2.2.2.1 = true) ∧
  va_K V.1 vwCl (tyL V) X.2.2.2.1 ∧ (∀ σ, va_D X.2.2.2.2.2.2.2.2.2.2.2 (wld V σ)) ∧ (∀ q, X.2.2.2.1.heap.size ≤ q → X.2.2.2.2.2.2.2.2.2.2.2 q) ∧ X.2.2.2.2.2.2.2.1.locks = false ∧
  (lev ≤ X.2.2.1.frames ∧ 40 * lev ≤ X.2.2.1.locals) ∧ X.2.2.2.2.2.2.2.2.2.1.1 ≤ X.2.2.1.cells ∧ X.2.2.2.2.2.2.2.2.2.1.2 ≤ X.2.2.1.slots
section GR
variable {l : Launch} {V : Wv} {X : Mx} {cc : ByteArray} {own : String} {nL lev pc : Nat} {lv lv' : List (Nat × Value)} {st : List Value} {σ τ : St}
theorem g_pc {pc' : Nat} (h : pc = pc') (k : G l V X nL pc' lv st σ) : G l V X nL pc lv st σ := h ▸ k
theorem g_lv (h : lv = lv') (k : G l V X nL pc lv' st σ) : G l V X nL pc lv st σ := h ▸ k
theorem g_weak (ks : List Nat) (h : lv_pick lv ks = lv') (k : G l V X nL pc lv' st σ) : G l V X nL pc lv st σ := fun H locs ls hP hS hl => k H locs ls hP hS (lv_sub hl ks h)
theorem g_iconst (F : Fx V X cc own nL lev) {n : Int} {v : Int32} (d : decode cc pc = .ok (.iconst n, 1)) (hv : Int32.ofInt n = v) (k : G l V X nL (pc + 1) lv (.int v :: st) σ) : G l V X nL pc lv st σ := fun H locs ls hP hS hl => lv_iconst F.1 F.2.1 d hv (k H locs ls hP hS hl)
theorem g_bipush (F : Fx V X cc own nL lev) {n : Int} {v : Int32} (d : decode cc pc = .ok (.bipush n, 2)) (hv : (Int8.ofInt n).toInt32 = v) (k : G l V X nL (pc + 2) lv (.int v :: st) σ) : G l V X nL pc lv st σ := fun H locs ls hP hS hl => lv_bipush F.1 F.2.1 d hv (k H locs ls hP hS hl)
theorem g_sipush (F : Fx V X cc own nL lev) {n : Int} {v : Int32} (d : decode cc pc = .ok (.sipush n, 3)) (hv : (Int16.ofInt n).toInt32 = v) (k : G l V X nL (pc + 3) lv (.int v :: st) σ) : G l V X nL pc lv st σ := fun H locs ls hP hS hl => lv_sipush F.1 F.2.1 d hv (k H locs ls hP hS hl)
theorem g_ldc (F : Fx V X cc own nL lev) {i : Nat} {v : Int32} (d : decode cc pc = .ok (.ldc i, 2)) (hu : Cond.constant own i v ∈ lw_u) (k : G l V X nL (pc + 2) lv (.int v :: st) σ) : G l V X nL pc lv st σ := fun H locs ls hP hS hl => lv_ldc F.1 F.2.1 F.2.2.2.1 (F.2.2.2.2.1 _ hu) d (k H locs ls hP hS hl)
theorem g_ldcw (F : Fx V X cc own nL lev) {i : Nat} {v : Int32} (d : decode cc pc = .ok (.ldc_w i, 3)) (hu : Cond.constant own i v ∈ lw_u) (k : G l V X nL (pc + 3) lv (.int v :: st) σ) : G l V X nL pc lv st σ := fun H locs ls hP hS hl => lv_ldcw F.1 F.2.1 F.2.2.2.1 (F.2.2.2.2.1 _ hu) d (k H locs ls hP hS hl)
theorem g_ldc2 (F : Fx V X cc own nL lev) {i : Nat} {v : Int64} (d : decode cc pc = .ok (.ldc2_w i, 3)) (hu : Cond.constantLong own i v ∈ lw_u) (k : G l V X nL (pc + 3) lv (.long v :: st) σ) : G l V X nL pc lv st σ := fun H locs ls hP hS hl => lv_ldc2 F.1 F.2.1 F.2.2.2.1 (F.2.2.2.2.1 _ hu) d (k H locs ls hP hS hl)
theorem g_iload_n (F : Fx V X cc own nL lev) {f : Fin 4} {i : Nat} {x : Int32} (d : decode cc pc = .ok (.iload_n f, 1)) (hi : (f : Nat) = i) (n : Nat) (h : lv[n]? = some (i, .int x)) (k : G l V X nL (pc + 1) lv (.int x :: st) σ) : G l V X nL pc lv st σ := fun H locs ls hP hS hl => lv_iload_n F.1 F.2.1 d hi (lv_at hl n h) (k H locs ls hP hS hl)
theorem g_iload (F : Fx V X cc own nL lev) {i : Nat} {x : Int32} (d : decode cc pc = .ok (.iload i, 2)) (n : Nat) (h : lv[n]? = some (i, .int x)) (k : G l V X nL (pc + 2) lv (.int x :: st) σ) : G l V X nL pc lv st σ := fun H locs ls hP hS hl => lv_iload F.1 F.2.1 d (lv_at hl n h) (k H locs ls hP hS hl)
theorem g_lload_n (F : Fx V X cc own nL lev) {f : Fin 4} {i : Nat} {x : Int64} (d : decode cc pc = .ok (.lload_n f, 1)) (hi : (f : Nat) = i) (n : Nat) (h : lv[n]? = some (i, .long x)) (k : G l V X nL (pc + 1) lv (.long x :: st) σ) : G l V X nL pc lv st σ := fun H locs ls hP hS hl => lv_lload_n F.1 F.2.1 d hi (lv_at hl n h) (k H locs ls hP hS hl)
theorem g_lload (F : Fx V X cc own nL lev) {i : Nat} {x : Int64} (d : decode cc pc = .ok (.lload i, 2)) (n : Nat) (h : lv[n]? = some (i, .long x)) (k : G l V X nL (pc + 2) lv (.long x :: st) σ) : G l V X nL pc lv st σ := fun H locs ls hP hS hl => lv_lload F.1 F.2.1 d (lv_at hl n h) (k H locs ls hP hS hl)
theorem g_aload_n (F : Fx V X cc own nL lev) {f : Fin 4} {i : Nat} {a : Nat} (d : decode cc pc = .ok (.aload_n f, 1)) (hi : (f : Nat) = i) (n : Nat) (h : lv[n]? = some (i, rf V a)) (k : G l V X nL (pc + 1) lv (rf V a :: st) σ) : G l V X nL pc lv st σ := fun H locs ls hP hS hl => lv_aload_n F.1 F.2.1 d hi (lv_at hl n h) (k H locs ls hP hS hl)
theorem g_aload (F : Fx V X cc own nL lev) {i : Nat} {a : Nat} (d : decode cc pc = .ok (.aload i, 2)) (n : Nat) (h : lv[n]? = some (i, rf V a)) (k : G l V X nL (pc + 2) lv (rf V a :: st) σ) : G l V X nL pc lv st σ := fun H locs ls hP hS hl => lv_aload F.1 F.2.1 d (lv_at hl n h) (k H locs ls hP hS hl)
theorem g_istore_n (F : Fx V X cc own nL lev) {f : Fin 4} {i : Nat} {x : Int32} (d : decode cc pc = .ok (.istore_n f, 1)) (hi : (f : Nat) = i) (hn : i < nL) (h : (i, Value.int x) :: lv.filter (fun q => !(q.1 == i) && !(q.1 + 1 == i && q.2.category == 2)) = lv') (k : G l V X nL (pc + 1) lv' st σ) : G l V X nL pc lv (.int x :: st) σ := fun H locs ls hP hS hl => lv_istore_n F.1 F.2.1 d hi hl hn h (fun ls' hl' => k H locs ls' hP hS hl')
theorem g_istore (F : Fx V X cc own nL lev) {i : Nat} {x : Int32} (d : decode cc pc = .ok (.istore i, 2)) (hn : i < nL) (h : (i, Value.int x) :: lv.filter (fun q => !(q.1 == i) && !(q.1 + 1 == i && q.2.category == 2)) = lv') (k : G l V X nL (pc + 2) lv' st σ) : G l V X nL pc lv (.int x :: st) σ := fun H locs ls hP hS hl => lv_istore F.1 F.2.1 d hl hn h (fun ls' hl' => k H locs ls' hP hS hl')
theorem g_astore_n (F : Fx V X cc own nL lev) {f : Fin 4} {i a : Nat} (d : decode cc pc = .ok (.astore_n f, 1)) (hi : (f : Nat) = i) (hn : i < nL) (h : (i, rf V a) :: lv.filter (fun q => !(q.1 == i) && !(q.1 + 1 == i && q.2.category == 2)) = lv') (k : G l V X nL (pc + 1) lv' st σ) : G l V X nL pc lv (rf V a :: st) σ := fun H locs ls hP hS hl => lv_astore_n F.1 F.2.1 d hi hl hn h (fun ls' hl' => k H locs ls' hP hS hl')
theorem g_lstore_n (F : Fx V X cc own nL lev) {f : Fin 4} {i : Nat} {x : Int64} (d : decode cc pc = .ok (.lstore_n f, 1)) (hi : (f : Nat) = i) (hn : i + 1 < nL) (h : (i, Value.long x) :: lv.filter (fun q => !(q.1 == i) && (!(q.1 == i + 1) && !(q.1 + 1 == i && q.2.category == 2))) = lv') (k : G l V X nL (pc + 1) lv' st σ) : G l V X nL pc lv (.long x :: st) σ := fun H locs ls hP hS hl => lv_lstore_n F.1 F.2.1 d hi hl hn h (fun ls' hl' => k H locs ls' hP hS hl')
theorem g_iinc (F : Fx V X cc own nL lev) {i : Nat} {m : Int} {x v : Int32} (d : decode cc pc = .ok (.iinc i m, 3)) (n : Nat) (h0 : lv[n]? = some (i, .int x)) (hv : x + Int32.ofInt m = v) (hn : i < nL) (h : (i, Value.int v) :: lv.filter (fun q => !(q.1 == i) && !(q.1 + 1 == i && q.2.category == 2)) = lv') (k : G l V X nL (pc + 3) lv' st σ) : G l V X nL pc lv st σ := fun H locs ls hP hS hl => lv_iinc F.1 F.2.1 d hl h0 hv hn h (fun ls' hl' => k H locs ls' hP hS hl')
theorem g_iadd (F : Fx V X cc own nL lev) {x y : Int32} (d : decode cc pc = .ok (.iadd, 1)) (k : G l V X nL (pc + 1) lv (.int (x + y) :: st) σ) : G l V X nL pc lv (.int y :: .int x :: st) σ := fun H locs ls hP hS hl => lv_iadd F.1 F.2.1 d (k H locs ls hP hS hl)
theorem g_isub (F : Fx V X cc own nL lev) {x y : Int32} (d : decode cc pc = .ok (.isub, 1)) (k : G l V X nL (pc + 1) lv (.int (x - y) :: st) σ) : G l V X nL pc lv (.int y :: .int x :: st) σ := fun H locs ls hP hS hl => lv_isub F.1 F.2.1 d (k H locs ls hP hS hl)
theorem g_imul (F : Fx V X cc own nL lev) {x y : Int32} (d : decode cc pc = .ok (.imul, 1)) (k : G l V X nL (pc + 1) lv (.int (x * y) :: st) σ) : G l V X nL pc lv (.int y :: .int x :: st) σ := fun H locs ls hP hS hl => lv_imul F.1 F.2.1 d (k H locs ls hP hS hl)
theorem g_idiv (F : Fx V X cc own nL lev) {x y : Int32} (d : decode cc pc = .ok (.idiv, 1)) (hy : ¬ y = 0) (k : G l V X nL (pc + 1) lv (.int (x / y) :: st) σ) : G l V X nL pc lv (.int y :: .int x :: st) σ := fun H locs ls hP hS hl => lv_idiv F.1 F.2.1 d hy (k H locs ls hP hS hl)
theorem g_irem (F : Fx V X cc own nL lev) {x y : Int32} (d : decode cc pc = .ok (.irem, 1)) (hy : ¬ y = 0) (k : G l V X nL (pc + 1) lv (.int (x - x / y * y) :: st) σ) : G l V X nL pc lv (.int y :: .int x :: st) σ := fun H locs ls hP hS hl => lv_irem F.1 F.2.1 d hy (k H locs ls hP hS hl)
theorem g_iand (F : Fx V X cc own nL lev) {x y : Int32} (d : decode cc pc = .ok (.iand, 1)) (k : G l V X nL (pc + 1) lv (.int (x &&& y) :: st) σ) : G l V X nL pc lv (.int y :: .int x :: st) σ := fun H locs ls hP hS hl => lv_iand F.1 F.2.1 d (k H locs ls hP hS hl)
theorem g_ior (F : Fx V X cc own nL lev) {x y : Int32} (d : decode cc pc = .ok (.ior, 1)) (k : G l V X nL (pc + 1) lv (.int (x ||| y) :: st) σ) : G l V X nL pc lv (.int y :: .int x :: st) σ := fun H locs ls hP hS hl => lv_ior F.1 F.2.1 d (k H locs ls hP hS hl)
theorem g_ixor (F : Fx V X cc own nL lev) {x y : Int32} (d : decode cc pc = .ok (.ixor, 1)) (k : G l V X nL (pc + 1) lv (.int (x ^^^ y) :: st) σ) : G l V X nL pc lv (.int y :: .int x :: st) σ := fun H locs ls hP hS hl => lv_ixor F.1 F.2.1 d (k H locs ls hP hS hl)
theorem g_ishl (F : Fx V X cc own nL lev) {x y : Int32} (d : decode cc pc = .ok (.ishl, 1)) (k : G l V X nL (pc + 1) lv (.int (x <<< (y &&& 31)) :: st) σ) : G l V X nL pc lv (.int y :: .int x :: st) σ := fun H locs ls hP hS hl => lv_ishl F.1 F.2.1 d (k H locs ls hP hS hl)
theorem g_ishr (F : Fx V X cc own nL lev) {x y : Int32} (d : decode cc pc = .ok (.ishr, 1)) (k : G l V X nL (pc + 1) lv (.int (x >>> (y &&& 31)) :: st) σ) : G l V X nL pc lv (.int y :: .int x :: st) σ := fun H locs ls hP hS hl => lv_ishr F.1 F.2.1 d (k H locs ls hP hS hl)
theorem g_iushr (F : Fx V X cc own nL lev) {x y : Int32} (d : decode cc pc = .ok (.iushr, 1)) (k : G l V X nL (pc + 1) lv (.int ((x.toUInt32 >>> (y.toUInt32 &&& Int32.toUInt32 31)).toInt32) :: st) σ) : G l V X nL pc lv (.int y :: .int x :: st) σ := fun H locs ls hP hS hl => lv_iushr F.1 F.2.1 d rfl (k H locs ls hP hS hl)
theorem g_ladd (F : Fx V X cc own nL lev) {x y : Int64} (d : decode cc pc = .ok (.ladd, 1)) (k : G l V X nL (pc + 1) lv (.long (x + y) :: st) σ) : G l V X nL pc lv (.long y :: .long x :: st) σ := fun H locs ls hP hS hl => lv_ladd F.1 F.2.1 d (k H locs ls hP hS hl)
theorem g_land (F : Fx V X cc own nL lev) {x y : Int64} (d : decode cc pc = .ok (.land, 1)) (k : G l V X nL (pc + 1) lv (.long (x &&& y) :: st) σ) : G l V X nL pc lv (.long y :: .long x :: st) σ := fun H locs ls hP hS hl => lv_land F.1 F.2.1 d (k H locs ls hP hS hl)
theorem g_lor (F : Fx V X cc own nL lev) {x y : Int64} (d : decode cc pc = .ok (.lor, 1)) (k : G l V X nL (pc + 1) lv (.long (x ||| y) :: st) σ) : G l V X nL pc lv (.long y :: .long x :: st) σ := fun H locs ls hP hS hl => lv_lor F.1 F.2.1 d (k H locs ls hP hS hl)
theorem g_lshl (F : Fx V X cc own nL lev) {x : Int64} {y : Int32} (d : decode cc pc = .ok (.lshl, 1)) (k : G l V X nL (pc + 1) lv (.long (x <<< (y.toInt64 &&& 63)) :: st) σ) : G l V X nL pc lv (.int y :: .long x :: st) σ := fun H locs ls hP hS hl => lv_lshl F.1 F.2.1 d rfl (k H locs ls hP hS hl)
theorem g_lshr (F : Fx V X cc own nL lev) {x : Int64} {y : Int32} (d : decode cc pc = .ok (.lshr, 1)) (k : G l V X nL (pc + 1) lv (.long (x >>> (y.toInt64 &&& 63)) :: st) σ) : G l V X nL pc lv (.int y :: .long x :: st) σ := fun H locs ls hP hS hl => lv_lshr F.1 F.2.1 d rfl (k H locs ls hP hS hl)
theorem g_lcmp (F : Fx V X cc own nL lev) {x y : Int64} (d : decode cc pc = .ok (.lcmp, 1)) (k : G l V X nL (pc + 1) lv (.int (lg_cmp x y) :: st) σ) : G l V X nL pc lv (.long y :: .long x :: st) σ := fun H locs ls hP hS hl => W.lcmp F.1 F.2.1 d (k H locs ls hP hS hl)
theorem g_lconst (F : Fx V X cc own nL lev) {n : Fin 2} {v : Int64} (d : decode cc pc = .ok (.lconst n, 1)) (hv : Int64.ofNat (n : Nat) = v) (k : G l V X nL (pc + 1) lv (.long v :: st) σ) : G l V X nL pc lv st σ := fun H locs ls hP hS hl => lv_lconst F.1 F.2.1 d hv (k H locs ls hP hS hl)
theorem g_dup (F : Fx V X cc own nL lev) {v : Value} (d : decode cc pc = .ok (.dup, 1)) (hc : v.category = 1) (k : G l V X nL (pc + 1) lv (v :: v :: st) σ) : G l V X nL pc lv (v :: st) σ := fun H locs ls hP hS hl => lv_dup F.1 F.2.1 d hc (k H locs ls hP hS hl)
theorem g_dup2 (F : Fx V X cc own nL lev) {v w : Value} (d : decode cc pc = .ok (.dup2, 1)) (hc : v.category = 1) (hd : w.category = 1) (k : G l V X nL (pc + 1) lv (v :: w :: v :: w :: st) σ) : G l V X nL pc lv (v :: w :: st) σ := fun H locs ls hP hS hl => lv_dup2_11 F.1 F.2.1 d hc hd (k H locs ls hP hS hl)
theorem g_pop (F : Fx V X cc own nL lev) {v : Value} (d : decode cc pc = .ok (.pop, 1)) (hc : v.category = 1) (k : G l V X nL (pc + 1) lv st σ) : G l V X nL pc lv (v :: st) σ := fun H locs ls hP hS hl => lv_pop F.1 F.2.1 d hc (k H locs ls hP hS hl)
theorem g_goto (F : Fx V X cc own nL lev) {o : Int} (t : Nat) (d : decode cc pc = .ok (.goto o, 3)) (ht : (pc : Int) + o = (t : Int)) (k : G l V X nL t lv st σ) : G l V X nL pc lv st σ := fun H locs ls hP hS hl => lv_goto F.1 F.2.1 d ht (k H locs ls hP hS hl)
theorem g_if_eq (F : Fx V X cc own nL lev) {x : Int32} {o : Int} (t : Nat) (d : decode cc pc = .ok (.ifCond .eq o, 3)) (ht : (pc : Int) + o = (t : Int)) (k : x = 0 → G l V X nL t lv st σ) (k' : ¬ x = 0 → G l V X nL (pc + 3) lv st σ) : G l V X nL pc lv (.int x :: st) σ := fun H locs ls hP hS hl => lv_if_eq F.1 F.2.1 d ht (fun c => k c H locs ls hP hS hl) (fun c => k' c H locs ls hP hS hl)
theorem g_if_ne (F : Fx V X cc own nL lev) {x : Int32} {o : Int} (t : Nat) (d : decode cc pc = .ok (.ifCond .ne o, 3)) (ht : (pc : Int) + o = (t : Int)) (k : ¬ x = 0 → G l V X nL t lv st σ) (k' : x = 0 → G l V X nL (pc + 3) lv st σ) : G l V X nL pc lv (.int x :: st) σ := fun H locs ls hP hS hl => lv_if_ne F.1 F.2.1 d ht (fun c => k c H locs ls hP hS hl) (fun c => k' c H locs ls hP hS hl)
theorem g_if_lt (F : Fx V X cc own nL lev) {x : Int32} {o : Int} (t : Nat) (d : decode cc pc = .ok (.ifCond .lt o, 3)) (ht : (pc : Int) + o = (t : Int)) (k : x < 0 → G l V X nL t lv st σ) (k' : ¬ x < 0 → G l V X nL (pc + 3) lv st σ) : G l V X nL pc lv (.int x :: st) σ := fun H locs ls hP hS hl => lv_if_lt F.1 F.2.1 d ht (fun c => k c H locs ls hP hS hl) (fun c => k' c H locs ls hP hS hl)
theorem g_if_ge (F : Fx V X cc own nL lev) {x : Int32} {o : Int} (t : Nat) (d : decode cc pc = .ok (.ifCond .ge o, 3)) (ht : (pc : Int) + o = (t : Int)) (k : 0 ≤ x → G l V X nL t lv st σ) (k' : ¬ 0 ≤ x → G l V X nL (pc + 3) lv st σ) : G l V X nL pc lv (.int x :: st) σ := fun H locs ls hP hS hl => lv_if_ge F.1 F.2.1 d ht (fun c => k c H locs ls hP hS hl) (fun c => k' c H locs ls hP hS hl)
theorem g_if_gt (F : Fx V X cc own nL lev) {x : Int32} {o : Int} (t : Nat) (d : decode cc pc = .ok (.ifCond .gt o, 3)) (ht : (pc : Int) + o = (t : Int)) (k : 0 < x → G l V X nL t lv st σ) (k' : ¬ 0 < x → G l V X nL (pc + 3) lv st σ) : G l V X nL pc lv (.int x :: st) σ := fun H locs ls hP hS hl => lv_if_gt F.1 F.2.1 d ht (fun c => k c H locs ls hP hS hl) (fun c => k' c H locs ls hP hS hl)
theorem g_if_le (F : Fx V X cc own nL lev) {x : Int32} {o : Int} (t : Nat) (d : decode cc pc = .ok (.ifCond .le o, 3)) (ht : (pc : Int) + o = (t : Int)) (k : x ≤ 0 → G l V X nL t lv st σ) (k' : ¬ x ≤ 0 → G l V X nL (pc + 3) lv st σ) : G l V X nL pc lv (.int x :: st) σ := fun H locs ls hP hS hl => lv_if_le F.1 F.2.1 d ht (fun c => k c H locs ls hP hS hl) (fun c => k' c H locs ls hP hS hl)
theorem g_icmp_eq (F : Fx V X cc own nL lev) {x y : Int32} {o : Int} (t : Nat) (d : decode cc pc = .ok (.if_icmp .eq o, 3)) (ht : (pc : Int) + o = (t : Int)) (k : x = y → G l V X nL t lv st σ) (k' : ¬ x = y → G l V X nL (pc + 3) lv st σ) : G l V X nL pc lv (.int y :: .int x :: st) σ := fun H locs ls hP hS hl => lv_icmp_eq F.1 F.2.1 d ht (fun c => k c H locs ls hP hS hl) (fun c => k' c H locs ls hP hS hl)
theorem g_icmp_ne (F : Fx V X cc own nL lev) {x y : Int32} {o : Int} (t : Nat) (d : decode cc pc = .ok (.if_icmp .ne o, 3)) (ht : (pc : Int) + o = (t : Int)) (k : ¬ x = y → G l V X nL t lv st σ) (k' : x = y → G l V X nL (pc + 3) lv st σ) : G l V X nL pc lv (.int y :: .int x :: st) σ := fun H locs ls hP hS hl => lv_icmp_ne F.1 F.2.1 d ht (fun c => k c H locs ls hP hS hl) (fun c => k' c H locs ls hP hS hl)
theorem g_icmp_lt (F : Fx V X cc own nL lev) {x y : Int32} {o : Int} (t : Nat) (d : decode cc pc = .ok (.if_icmp .lt o, 3)) (ht : (pc : Int) + o = (t : Int)) (k : x < y → G l V X nL t lv st σ) (k' : ¬ x < y → G l V X nL (pc + 3) lv st σ) : G l V X nL pc lv (.int y :: .int x :: st) σ := fun H locs ls hP hS hl => lv_icmp_lt F.1 F.2.1 d ht (fun c => k c H locs ls hP hS hl) (fun c => k' c H locs ls hP hS hl)
theorem g_icmp_ge (F : Fx V X cc own nL lev) {x y : Int32} {o : Int} (t : Nat) (d : decode cc pc = .ok (.if_icmp .ge o, 3)) (ht : (pc : Int) + o = (t : Int)) (k : y ≤ x → G l V X nL t lv st σ) (k' : ¬ y ≤ x → G l V X nL (pc + 3) lv st σ) : G l V X nL pc lv (.int y :: .int x :: st) σ := fun H locs ls hP hS hl => lv_icmp_ge F.1 F.2.1 d ht (fun c => k c H locs ls hP hS hl) (fun c => k' c H locs ls hP hS hl)
theorem g_icmp_gt (F : Fx V X cc own nL lev) {x y : Int32} {o : Int} (t : Nat) (d : decode cc pc = .ok (.if_icmp .gt o, 3)) (ht : (pc : Int) + o = (t : Int)) (k : y < x → G l V X nL t lv st σ) (k' : ¬ y < x → G l V X nL (pc + 3) lv st σ) : G l V X nL pc lv (.int y :: .int x :: st) σ := fun H locs ls hP hS hl => lv_icmp_gt F.1 F.2.1 d ht (fun c => k c H locs ls hP hS hl) (fun c => k' c H locs ls hP hS hl)
theorem g_icmp_le (F : Fx V X cc own nL lev) {x y : Int32} {o : Int} (t : Nat) (d : decode cc pc = .ok (.if_icmp .le o, 3)) (ht : (pc : Int) + o = (t : Int)) (k : x ≤ y → G l V X nL t lv st σ) (k' : ¬ x ≤ y → G l V X nL (pc + 3) lv st σ) : G l V X nL pc lv (.int y :: .int x :: st) σ := fun H locs ls hP hS hl => lv_icmp_le F.1 F.2.1 d ht (fun c => k c H locs ls hP hS hl) (fun c => k' c H locs ls hP hS hl)
end GR
/-! memory -/
def CL (ci : Nat) (C : String) (T : u_T) (N : Nat) : Prop := ci < 11 ∧ vwCl[ci]? = some (C, T, N) ∧ (∀ w ∈ u_ws C T N, w ∈ lw_u) ∧ (∃ ty0 : Nat → FieldType, ∀ k, k < N → parseFieldDescriptor (T k).2.2.1 = some (ty0 k)) ∧ (∀ a, a < N → ∀ b, b < N → a ≠ b → (T a).2.1 ≠ (T b).2.1)
theorem clX0 : CL 0 RX0 TX0 3 := ⟨by decide, rfl, cwX0, ⟨tyX0, tyX0_ok⟩, nmX0⟩
theorem clX1 : CL 1 RX1 TX1 6 := ⟨by decide, rfl, cwX1, ⟨tyX1, tyX1_ok⟩, nmX1⟩
theorem clX2 : CL 2 RX2 TX2 5 := ⟨by decide, rfl, cwX2, ⟨tyX2, tyX2_ok⟩, nmX2⟩
theorem clX3 : CL 3 RX3 TX3 3 := ⟨by decide, rfl, cwX3, ⟨tyX3, tyX3_ok⟩, nmX3⟩
theorem clX4 : CL 4 RX4 TX4 9 := ⟨by decide, rfl, cwX4, ⟨tyX4, tyX4_ok⟩, nmX4⟩
theorem clX5 : CL 5 RX5 TX5 4 := ⟨by decide, rfl, cwX5, ⟨tyX5, tyX5_ok⟩, nmX5⟩
theorem clX6 : CL 6 RX6 TX6 7 := ⟨by decide, rfl, cwX6, ⟨tyX6, tyX6_ok⟩, nmX6⟩
theorem clX7 : CL 7 RX7 TX7 6 := ⟨by decide, rfl, cwX7, ⟨tyX7, tyX7_ok⟩, nmX7⟩
theorem clX8 : CL 8 RX8 TX8 8 := ⟨by decide, rfl, cwX8, ⟨tyX8, tyX8_ok⟩, nmX8⟩
theorem clX9 : CL 9 RX9 TX9 14 := ⟨by decide, rfl, cwX9, ⟨tyX9, tyX9_ok⟩, nmX9⟩
theorem clX10 : CL 10 RX10 TX10 35 := ⟨by decide, rfl, cwX10, ⟨tyX10, tyX10_ok⟩, nmX10⟩
section GM
variable {l : Launch} {V : Wv} {X : Mx} {cc : ByteArray} {own : String} {nL lev pc : Nat} {lv lv' : List (Nat × Value)} {st : List Value} {σ τ : St}
theorem wld_obj {k ci : Nat} {fc : List Nat} (h : V.2.1[k]? = some (ci, fc)) (hci : ci < 11) : (wld V σ)[k]? = some (V.2.2.1 k, .inr (ci, flds V σ k 0 fc)) := by
  rw [wld_get h, celE, if_pos hci]
theorem wld_int {k n : Nat} (h : V.2.1[k]? = some (11, [n])) : (wld V σ)[k]? = some (V.2.2.1 k, .inl (V.2.2.2.1, n, .inl (σ.1 k))) := by
  rw [wld_get h]; rfl
theorem wld_bool {k n : Nat} (h : V.2.1[k]? = some (12, [n])) : (wld V σ)[k]? = some (V.2.2.1 k, .inl (V.2.2.2.2.1, n, .inl (σ.1 k))) := by
  rw [wld_get h]; rfl
theorem g_get (F : Fx V X cc own nL lev) {k j ci idx N : Nat} {fc : List Nat} {C : String} {T : u_T} {v : Value} (hC : CL ci C T N) (hsh : V.2.1[k]? = some (ci, fc)) (hv : (flds V σ k 0 fc)[j]? = some v) (hjN : j < N) (hu : Cond.fieldLink own idx (T j).1 (T j).2.1 (T j).2.2.1 ∈ lw_u) (d : decode cc pc = .ok (.getfield idx, 3)) (kk : G l V X nL (pc + 3) lv (v :: st) σ) : G l V X nL pc lv (rf V k :: st) σ := fun H locs ls hP hS hl =>
  va_get F.1 F.2.1 F.2.2.2.2.1 hC.2.2.1 F.2.2.2.1 F.2.2.2.2.2.1 hP k (wld_obj hsh hC.1) hC.2.1 j hjN (F.2.2.2.2.1 _ hu) (fun _ h => h) hv d (kk H locs ls hP hS hl)
theorem g_getI (F : Fx V X cc own nL lev) {k ci idx N : Nat} {fc : List Nat} {C : String} {T : u_T} (hC : CL ci C T N) (hsh : V.2.1[k]? = some (ci, fc)) (j : Nat) (hj : fc[j]? = some 0) (hjN : j < N) (hu : Cond.fieldLink own idx (T j).1 (T j).2.1 (T j).2.2.1 ∈ lw_u) (d : decode cc pc = .ok (.getfield idx, 3)) (kk : G l V X nL (pc + 3) lv (.int (σ.1 k j) :: st) σ) : G l V X nL pc lv (rf V k :: st) σ :=
  g_get F hC hsh (by rw [flds_get fc 0 j 0 hj, Nat.zero_add]; rfl) hjN hu d kk
theorem g_getL (F : Fx V X cc own nL lev) {k ci idx N : Nat} {fc : List Nat} {C : String} {T : u_T} (hC : CL ci C T N) (hsh : V.2.1[k]? = some (ci, fc)) (j : Nat) (hj : fc[j]? = some 1) (hjN : j < N) (hu : Cond.fieldLink own idx (T j).1 (T j).2.1 (T j).2.2.1 ∈ lw_u) (d : decode cc pc = .ok (.getfield idx, 3)) (kk : G l V X nL (pc + 3) lv (.long (σ.2.1 k) :: st) σ) : G l V X nL pc lv (rf V k :: st) σ :=
  g_get F hC hsh (by rw [flds_get fc 0 j 1 hj]; rfl) hjN hu d kk
theorem g_getG (F : Fx V X cc own nL lev) {k ci idx N : Nat} {fc : List Nat} {C : String} {T : u_T} (hC : CL ci C T N) (hsh : V.2.1[k]? = some (ci, fc)) (j : Nat) (hj : fc[j]? = some 2) (hjN : j < N) (hu : Cond.fieldLink own idx (T j).1 (T j).2.1 (T j).2.2.1 ∈ lw_u) (d : decode cc pc = .ok (.getfield idx, 3)) (kk : G l V X nL (pc + 3) lv (rf V σ.2.2.1 :: st) σ) : G l V X nL pc lv (rf V k :: st) σ :=
  g_get F hC hsh (by rw [flds_get fc 0 j 2 hj]; rfl) hjN hu d kk
theorem g_getH (F : Fx V X cc own nL lev) {k ci idx N : Nat} {fc : List Nat} {C : String} {T : u_T} (hC : CL ci C T N) (hsh : V.2.1[k]? = some (ci, fc)) (j : Nat) (hj : fc[j]? = some 3) (hjN : j < N) (hu : Cond.fieldLink own idx (T j).1 (T j).2.1 (T j).2.2.1 ∈ lw_u) (d : decode cc pc = .ok (.getfield idx, 3)) (kk : G l V X nL (pc + 3) lv (rf V σ.2.2.2 :: st) σ) : G l V X nL pc lv (rf V k :: st) σ :=
  g_get F hC hsh (by rw [flds_get fc 0 j 3 hj]; rfl) hjN hu d kk
theorem g_getR (F : Fx V X cc own nL lev) {k ci idx N : Nat} {fc : List Nat} {C : String} {T : u_T} (hC : CL ci C T N) (hsh : V.2.1[k]? = some (ci, fc)) (j n : Nat) (hj : fc[j]? = some (n + 4)) (hjN : j < N) (hu : Cond.fieldLink own idx (T j).1 (T j).2.1 (T j).2.2.1 ∈ lw_u) (d : decode cc pc = .ok (.getfield idx, 3)) (kk : G l V X nL (pc + 3) lv (rf V n :: st) σ) : G l V X nL pc lv (rf V k :: st) σ :=
  g_get F hC hsh (by rw [flds_get fc 0 j (n + 4) hj]; rfl) hjN hu d kk
theorem g_put (F : Fx V X cc own nL lev) {k j ci idx N : Nat} {fc : List Nat} {C : String} {T : u_T} {v : Value} {ty : FieldType} (hC : CL ci C T N) (hsh : V.2.1[k]? = some (ci, fc)) (hw : wld V τ = (wld V σ).set k (V.2.2.1 k, .inr (ci, (flds V σ k 0 fc).set j v))) (hjl : j < fc.length) (hjN : j < N) (hfin : (T j).2.2.2 = false) (hty : parseFieldDescriptor (T j).2.2.1 = some ty) (hn : narrow ty v = v) (hfit : fits ty v = true) (hu : Cond.fieldLink own idx (T j).1 (T j).2.1 (T j).2.2.1 ∈ lw_u) (d : decode cc pc = .ok (.putfield idx, 3)) (kk : G l V X nL (pc + 3) lv st τ) : G l V X nL pc lv (v :: rf V k :: st) σ := fun H locs ls hP hS hl => by
  obtain ⟨ty0, hty0⟩ := hC.2.2.2.1
  refine va_put F.1 F.2.1 F.2.2.2.2.1 hC.2.2.1 ty0 hty0 hC.2.2.2.2 F.2.2.2.1 F.2.2.2.2.2.1 hP (F.2.2.2.2.2.2.1 σ) hS k (wld_obj hsh hC.1) hC.2.1 j hjN (F.2.2.2.2.1 _ hu) (fun _ h => h) hfin hty hn hfit (by rw [flds_length]; exact hjl) d (fun H1 locs1 h1 _ h3 => ?_)
  rw [← hw] at h1
  exact kk H1 locs1 ls h1 h3 hl
theorem wld_putI {k j ci : Nat} {fc : List Nat} {x : Int32} (hsh : V.2.1[k]? = some (ci, fc)) (hci : ci < 11) (hj : fc[j]? = some 0) : wld V (stI σ k j x) = (wld V σ).set k (V.2.2.1 k, .inr (ci, (flds V σ k 0 fc).set j (.int x))) := by
  rw [wld_set (σ := σ) (τ := stI σ k j x) hsh (fun a h => up_ne h) (fun a _ => rfl) rfl, celE, if_pos hci]
  congr 3
  have hl : j < fc.length := (List.getElem?_eq_some_iff.mp hj).1
  refine congrArg _ (flds_put fc hl (fun cd hcd => ?_) (fun i cd hi hcd => ?_))
  · rw [hj] at hcd; cases hcd
    show Value.int ((stI σ k j x).1 k j) = _
    simp [stI, up_eq, upd]
  · match cd with
    | 0 => simp [fldV, stI, up_eq, upd, hi]
    | 1 => rfl
    | 2 => rfl
    | 3 => rfl
    | n + 4 => rfl
theorem g_putI (F : Fx V X cc own nL lev) {k ci idx N : Nat} {fc : List Nat} {C : String} {T : u_T} {x : Int32} (hC : CL ci C T N) (hsh : V.2.1[k]? = some (ci, fc)) (j : Nat) (hj : fc[j]? = some 0) (hjN : j < N) (hfin : (T j).2.2.2 = false) (hty : parseFieldDescriptor (T j).2.2.1 = some .int) (hu : Cond.fieldLink own idx (T j).1 (T j).2.1 (T j).2.2.1 ∈ lw_u) (d : decode cc pc = .ok (.putfield idx, 3)) (kk : G l V X nL (pc + 3) lv st (stI σ k j x)) : G l V X nL pc lv (.int x :: rf V k :: st) σ :=
  g_put F hC hsh (wld_putI hsh hC.1 hj) (List.getElem?_eq_some_iff.mp hj).1 hjN hfin hty (vp_nar_int x) rfl hu d kk
theorem g_putZ (F : Fx V X cc own nL lev) {k ci idx N : Nat} {fc : List Nat} {C : String} {T : u_T} {x : Int32} (hC : CL ci C T N) (hsh : V.2.1[k]? = some (ci, fc)) (j : Nat) (hj : fc[j]? = some 0) (hjN : j < N) (hfin : (T j).2.2.2 = false) (hty : parseFieldDescriptor (T j).2.2.1 = some .boolean) (hn : narrow .boolean (.int x) = .int x) (hfit : fits .boolean (.int x) = true) (hu : Cond.fieldLink own idx (T j).1 (T j).2.1 (T j).2.2.1 ∈ lw_u) (d : decode cc pc = .ok (.putfield idx, 3)) (kk : G l V X nL (pc + 3) lv st (stI σ k j x)) : G l V X nL pc lv (.int x :: rf V k :: st) σ :=
  g_put F hC hsh (wld_putI hsh hC.1 hj) (List.getElem?_eq_some_iff.mp hj).1 hjN hfin hty hn hfit hu d kk
/-- one long field an object -/
theorem g_putL (F : Fx V X cc own nL lev) {k ci idx N : Nat} {fc : List Nat} {C : String} {T : u_T} {x : Int64} (hC : CL ci C T N) (hsh : V.2.1[k]? = some (ci, fc)) (j : Nat) (hj : fc[j]? = some 1) (hone : ∀ i : Nat, fc[i]? = some 1 → i = j) (hjN : j < N) (hfin : (T j).2.2.2 = false) (hty : parseFieldDescriptor (T j).2.2.1 = some .long) (hu : Cond.fieldLink own idx (T j).1 (T j).2.1 (T j).2.2.1 ∈ lw_u) (d : decode cc pc = .ok (.putfield idx, 3)) (kk : G l V X nL (pc + 3) lv st (stL σ k x)) : G l V X nL pc lv (.long x :: rf V k :: st) σ := by
  have hl : j < fc.length := (List.getElem?_eq_some_iff.mp hj).1
  refine g_put F hC hsh ?_ hl hjN hfin hty rfl rfl hu d kk
  rw [wld_set (σ := σ) (τ := stL σ k x) hsh (fun a _ => rfl) (fun a h => up_ne h) rfl, celE, if_pos hC.1]
  refine congrArg _ (congrArg _ (congrArg _ (congrArg _ (flds_put fc hl (fun cd hcd => ?_) (fun i cd hi hcd => ?_)))))
  · rw [hj] at hcd; cases hcd
    show Value.long ((stL σ k x).2.1 k) = _
    simp [stL, up_eq]
  · match cd, hcd with
    | 0, _ => rfl
    | 1, hc => exact absurd (hone i hc) hi
    | 2, _ => rfl
    | 3, _ => rfl
    | n + 4, _ => rfl
theorem g_putG (F : Fx V X cc own nL lev) {k ci idx N g : Nat} {fc : List Nat} {C : String} {T : u_T} {cn : String} (hC : CL ci C T N) (hsh : V.2.1[k]? = some (ci, fc)) (j : Nat) (hj : fc[j]? = some 2) (hone : ∀ i : Nat, fc[i]? = some 2 → i = j) (hno : ∀ i q, i ≠ k → V.2.1[i]? = some q → q.1 < 11 → ∀ cd ∈ q.2, cd ≠ 2 ∧ cd ≠ 3) (hjN : j < N) (hfin : (T j).2.2.2 = false) (hty : parseFieldDescriptor (T j).2.2.1 = some (.object cn)) (hu : Cond.fieldLink own idx (T j).1 (T j).2.1 (T j).2.2.1 ∈ lw_u) (d : decode cc pc = .ok (.putfield idx, 3)) (kk : G l V X nL (pc + 3) lv st (stG σ g)) : G l V X nL pc lv (rf V g :: rf V k :: st) σ := by
  have hl : j < fc.length := (List.getElem?_eq_some_iff.mp hj).1
  refine g_put F hC hsh ?_ hl hjN hfin hty rfl rfl hu d kk
  rw [wld_setG (σ := σ) (τ := stG σ g) hsh rfl rfl hno, celE, if_pos hC.1]
  refine congrArg _ (congrArg _ (congrArg _ (congrArg _ (flds_put fc hl (fun cd hcd => ?_) (fun i cd hi hcd => ?_)))))
  · rw [hj] at hcd; cases hcd; rfl
  · match cd, hcd with
    | 0, _ => rfl
    | 1, _ => rfl
    | 2, hc => exact absurd (hone i hc) hi
    | 3, _ => rfl
    | n + 4, _ => rfl
theorem g_putH (F : Fx V X cc own nL lev) {k ci idx N g : Nat} {fc : List Nat} {C : String} {T : u_T} {cn : String} (hC : CL ci C T N) (hsh : V.2.1[k]? = some (ci, fc)) (j : Nat) (hj : fc[j]? = some 3) (hone : ∀ i : Nat, fc[i]? = some 3 → i = j) (hno : ∀ i q, i ≠ k → V.2.1[i]? = some q → q.1 < 11 → ∀ cd ∈ q.2, cd ≠ 2 ∧ cd ≠ 3) (hjN : j < N) (hfin : (T j).2.2.2 = false) (hty : parseFieldDescriptor (T j).2.2.1 = some (.object cn)) (hu : Cond.fieldLink own idx (T j).1 (T j).2.1 (T j).2.2.1 ∈ lw_u) (d : decode cc pc = .ok (.putfield idx, 3)) (kk : G l V X nL (pc + 3) lv st (stH σ g)) : G l V X nL pc lv (rf V g :: rf V k :: st) σ := by
  have hl : j < fc.length := (List.getElem?_eq_some_iff.mp hj).1
  refine g_put F hC hsh ?_ hl hjN hfin hty rfl rfl hu d kk
  rw [wld_setG (σ := σ) (τ := stH σ g) hsh rfl rfl hno, celE, if_pos hC.1]
  refine congrArg _ (congrArg _ (congrArg _ (congrArg _ (flds_put fc hl (fun cd hcd => ?_) (fun i cd hi hcd => ?_)))))
  · rw [hj] at hcd; cases hcd; rfl
  · match cd, hcd with
    | 0, _ => rfl
    | 1, _ => rfl
    | 2, _ => rfl
    | 3, hc => exact absurd (hone i hc) hi
    | n + 4, _ => rfl
theorem g_iald (F : Fx V X cc own nL lev) {k n : Nat} {i : Int32} (hsh : V.2.1[k]? = some (11, [n])) (hin : vp_in i n) (d : decode cc pc = .ok (.iaload, 1)) (kk : G l V X nL (pc + 1) lv (.int (σ.1 k i.toNatClampNeg) :: st) σ) : G l V X nL pc lv (.int i :: rf V k :: st) σ := fun H locs ls hP hS hl =>
  va_iald F.1 F.2.1 F.2.2.2.2.2.1 hP k 0 (wld_int hsh) rfl hin d (kk H locs ls hP hS hl)
theorem g_zald (F : Fx V X cc own nL lev) {k n : Nat} {i : Int32} (hsh : V.2.1[k]? = some (12, [n])) (hin : vp_in i n) (d : decode cc pc = .ok (.baload, 1)) (kk : G l V X nL (pc + 1) lv (.int (σ.1 k i.toNatClampNeg) :: st) σ) : G l V X nL pc lv (.int i :: rf V k :: st) σ := fun H locs ls hP hS hl =>
  va_zald F.1 F.2.1 F.2.2.2.2.2.1 hP k 1 (wld_bool hsh) rfl hin d (kk H locs ls hP hS hl)
theorem wld_stA {k j : Nat} {sh : Sh} {x : Int32} (hsh : V.2.1[k]? = some sh) : wld V (stI σ k j x) = (wld V σ).set k (V.2.2.1 k, celE V (stI σ k j x) k sh) := wld_set hsh (fun a h => up_ne h) (fun a _ => rfl) rfl
theorem g_iast (F : Fx V X cc own nL lev) {k n : Nat} {i x : Int32} (hsh : V.2.1[k]? = some (11, [n])) (hin : vp_in i n) (d : decode cc pc = .ok (.iastore, 1)) (kk : G l V X nL (pc + 1) lv st (stI σ k i.toNatClampNeg x)) : G l V X nL pc lv (.int x :: .int i :: rf V k :: st) σ := fun H locs ls hP hS hl => by
  refine va_iast F.1 F.2.1 F.2.2.2.2.2.1 hP (F.2.2.2.2.2.2.1 σ) hS k 0 (wld_int hsh) rfl hin d (fun H1 locs1 h1 _ h3 => ?_)
  have e := wld_stA (σ := σ) (j := i.toNatClampNeg) (x := x) hsh
  have e2 : celE V (stI σ k i.toNatClampNeg x) k (11, [n]) = .inl (V.2.2.2.1, n, .inl (upd (σ.1 k) i.toNatClampNeg x)) := by
    show (Sum.inl (V.2.2.2.1, n, Sum.inl ((stI σ k i.toNatClampNeg x).1 k)) : va_E) = _
    simp only [stI, up_eq]
  rw [e2] at e
  rw [← e] at h1
  exact kk H1 locs1 ls h1 h3 hl
theorem g_zast (F : Fx V X cc own nL lev) {k n : Nat} {i x : Int32} (hsh : V.2.1[k]? = some (12, [n])) (hin : vp_in i n) (hx : vp_nar .boolean x = x) (d : decode cc pc = .ok (.bastore, 1)) (kk : G l V X nL (pc + 1) lv st (stI σ k i.toNatClampNeg x)) : G l V X nL pc lv (.int x :: .int i :: rf V k :: st) σ := fun H locs ls hP hS hl => by
  refine va_zast F.1 F.2.1 F.2.2.2.2.2.1 hP (F.2.2.2.2.2.2.1 σ) hS k 1 (wld_bool hsh) rfl hin d (fun H1 locs1 h1 _ h3 => ?_)
  rw [hx] at h1
  have e := wld_stA (σ := σ) (j := i.toNatClampNeg) (x := x) hsh
  have e2 : celE V (stI σ k i.toNatClampNeg x) k (12, [n]) = .inl (V.2.2.2.2.1, n, .inl (upd (σ.1 k) i.toNatClampNeg x)) := by
    show (Sum.inl (V.2.2.2.2.1, n, Sum.inl ((stI σ k i.toNatClampNeg x).1 k)) : va_E) = _
    simp only [stI, up_eq]
  rw [e2] at e
  rw [← e] at h1
  exact kk H1 locs1 ls h1 h3 hl
theorem refs_in {n b s : Nat} {i : Int32} (hin : vp_in i n) : va_rf (refs V [n, b, s] i.toNatClampNeg) = rf V (b + s * i.toNatClampNeg) := by
  have hlt : i.toNatClampNeg < n := Nat.not_le.mp fun q => hin (Or.inr q)
  show va_rf (if i.toNatClampNeg < n then some (V.2.2.1 (b + s * i.toNatClampNeg)) else none) = _
  rw [if_pos hlt]; rfl
theorem g_aaldN (F : Fx V X cc own nL lev) {k n b s : Nat} {i : Int32} (hsh : V.2.1[k]? = some (13, [n, b, s])) (hin : vp_in i n) (d : decode cc pc = .ok (.aaload, 1)) (kk : G l V X nL (pc + 1) lv (rf V (b + s * i.toNatClampNeg) :: st) σ) : G l V X nL pc lv (.int i :: rf V k :: st) σ := fun H locs ls hP hS hl => by
  have h0 : (wld V σ)[k]? = some (V.2.2.1 k, .inl (V.2.2.2.2.2.1, n, .inr (.inr (.inr (.inr (refs V [n, b, s])))))) := by rw [wld_get hsh]; rfl
  refine va_aldq F.1 F.2.1 F.2.2.2.2.2.1 hP k 2 h0 rfl hin d ?_
  rw [refs_in hin]
  exact kk H locs ls hP hS hl
theorem g_aaldA (F : Fx V X cc own nL lev) {k n b s : Nat} {i : Int32} (hsh : V.2.1[k]? = some (14, [n, b, s])) (hin : vp_in i n) (d : decode cc pc = .ok (.aaload, 1)) (kk : G l V X nL (pc + 1) lv (rf V (b + s * i.toNatClampNeg) :: st) σ) : G l V X nL pc lv (.int i :: rf V k :: st) σ := fun H locs ls hP hS hl => by
  have h0 : (wld V σ)[k]? = some (V.2.2.1 k, .inl (V.2.2.2.2.2.2, n, .inr (.inr (.inr (.inr (refs V [n, b, s])))))) := by rw [wld_get hsh]; rfl
  have hlt : i.toNatClampNeg < n := Nat.not_le.mp fun q => hin (Or.inr q)
  have ht : (tyL V)[3]? = some (V.2.2.2.2.2.2, FieldType.array .int) := rfl
  refine W.aald (v := va_rf (refs V [n, b, s] i.toNatClampNeg)) (ty := .array .int) F.1 F.2.1 (hP k _ h0) ((F.2.2.2.2.2.1.2 3 _ ht).1 n (fun j => va_rf (refs V [n, b, s] j))) rfl (fun q => by cases q) (by show ¬ (i < 0 ∨ (arrV _ _ _).slots.size ≤ _); rw [arrV_size]; exact hin) (by show (arrV _ _ _).slots[_]? = _; rw [arrV_read _ _ hlt]) rfl rfl d ?_
  rw [refs_in hin]
  exact kk H locs ls hP hS hl
theorem g_alen (F : Fx V X cc own nL lev) {k n : Nat} {v : Int32} (hsh : V.2.1[k]? = some (11, [n])) (hv : Int32.ofNat n = v) (d : decode cc pc = .ok (.arraylength, 1)) (kk : G l V X nL (pc + 1) lv (.int v :: st) σ) : G l V X nL pc lv (rf V k :: st) σ := fun H locs ls hP hS hl =>
  va_alen F.1 F.2.1 F.2.2.2.2.2.1 hP k 0 (wld_int hsh) (ty := .int) rfl hv d (kk H locs ls hP hS hl)
theorem g_copy (F : Fx V X cc own nL lev) {k k2 n0 n1 idx : Nat} {sp dp n : Int32} (hsh : V.2.1[k]? = some (11, [n0])) (hsh2 : V.2.1[k2]? = some (11, [n1])) (h1 : ¬ sp < 0) (h2 : ¬ dp < 0) (h3 : ¬ n < 0) (h4 : sp.toNatClampNeg + n.toNatClampNeg ≤ n0) (h5 : dp.toNatClampNeg + n.toNatClampNeg ≤ n1) (hl1 : 1 ≤ lev) (hst : (st.map fun v => v.category).sum ≤ 8) (hu : Cond.methodLink own idx arraycopyName ∈ lw_u) (d : decode cc pc = .ok (.invokestatic idx, 3)) (kk : G l V X nL (pc + 3) lv st (stC σ k k2 sp.toNatClampNeg dp.toNatClampNeg n.toNatClampNeg)) : G l V X nL pc lv (.int n :: .int dp :: rf V k2 :: .int sp :: rf V k :: st) σ := fun H locs ls hP hS hl => by
  have hw : nativeFrameWords "java/lang/System" "arraycopy" 5 + 11 ≤ 32 := by decide +kernel
  refine va_copyi (ty := .int) F.1 F.2.1 (F.2.2.1.trans hl.1.symm) F.2.2.2.1 (F.2.2.2.2.1 _ hu) (F.2.2.2.2.1 _ unat) (F.2.2.2.2.1 _ ustat_arraycopyName) (F.2.2.2.2.1 _ uiniJ10) F.2.2.2.2.2.1 hP (F.2.2.2.2.2.2.1 σ) hS k k2 0 0 (wld_int hsh) (wld_int hsh2) rfl rfl rfl h1 h2 h3 h4 h5 (fun _ _ => rfl) (Nat.le_trans hl1 F.2.2.2.2.2.2.2.2.2.1.1) (by have := F.2.2.2.2.2.2.2.2.2.1.2; omega) d (fun H1 locs1 g1 _ g3 => ?_)
  have e := wld_set (σ := σ) (τ := stC σ k k2 sp.toNatClampNeg dp.toNatClampNeg n.toNatClampNeg) hsh2 (fun a h => up_ne h) (fun a _ => rfl) rfl
  have e2 : celE V (stC σ k k2 sp.toNatClampNeg dp.toNatClampNeg n.toNatClampNeg) k2 (11, [n1]) = .inl (V.2.2.2.1, n1, .inl (va_cpy (σ.1 k) (σ.1 k2) sp.toNatClampNeg dp.toNatClampNeg n.toNatClampNeg)) := by
    show (Sum.inl (V.2.2.2.1, n1, Sum.inl ((stC σ k k2 sp.toNatClampNeg dp.toNatClampNeg n.toNatClampNeg).1 k2)) : va_E) = _
    simp only [stC, up_eq]
  rw [e2] at e
  rw [← e] at g1
  exact kk H1 locs1 ls g1 g3 hl
end GM
/-! contracts: a method from a state that the world holds to a state that it holds -/
def rmL (k : Nat) : Room := { frames := k, cells := 0, slots := 0, locals := 40 * k }
def wsM (y : MethodName) (cc : ByteArray) (maxL : Nat) (ret : Option FieldType) : List Cond := Cond.code y cc maxL ret :: lw_u
def PcW (V : Wv) (avs : List Value) (σ : St) (sz : Nat) : Array Value → State → Prop := va_Pc avs (fun U => U.heap.size = sz ∧ va_P V.1 vwCl (wld V σ) U.heap ∧ va_K V.1 vwCl (tyL V) U ∧ va_D (fun _ => True) (wld V σ))
def BW (V : Wv) : St → State → Prop := fun τ t => va_P V.1 vwCl (wld V τ) t.heap
def Ci (y : MethodName) (cc : ByteArray) (maxL : Nat) (ret : Option FieldType) (lev : Nat) (l : Launch) (V : Wv) (avs : List Value) (σ : St) (post : Int32 → St → Prop) : Prop :=
  ∀ sz, Met l y (wsM y cc maxL ret) (rmL lev) (PcW V avs σ sz) (va_Qi post (BW V) (va_A (wld V σ) sz)) 0 0 (va_A (wld V σ) sz)
def Cl (y : MethodName) (cc : ByteArray) (maxL : Nat) (lev : Nat) (l : Launch) (V : Wv) (avs : List Value) (σ : St) (post : Int64 → St → Prop) : Prop :=
  ∀ sz, Met l y (wsM y cc maxL (some .long)) (rmL lev) (PcW V avs σ sz) (va_Ql post (BW V) (va_A (wld V σ) sz)) 0 0 (va_A (wld V σ) sz)
def Cv (y : MethodName) (cc : ByteArray) (maxL : Nat) (lev : Nat) (l : Launch) (V : Wv) (avs : List Value) (σ : St) (post : St → Prop) : Prop :=
  ∀ sz, Met l y (wsM y cc maxL none) (rmL lev) (PcW V avs σ sz) (va_Qv post (BW V) (va_A (wld V σ) sz)) 0 0 (va_A (wld V σ) sz)
theorem u_good : ∀ w ∈ lw_u, goodWord w = true := fun w h => (List.mem_filter.mp h).2
theorem goodM {y : MethodName} {cc : ByteArray} {maxL : Nat} {ret : Option FieldType} (h : Cond.code y cc maxL ret ∈ lw_u) : GoodIn lw_u (wsM y cc maxL ret) := by
  intro w hw
  rcases List.mem_cons.mp hw with e | e
  · rw [e]; exact ⟨h, good_of_word (u_good _ h)⟩
  · exact ⟨e, good_of_word (u_good _ e)⟩
theorem PcW_blind {V : Wv} {avs : List Value} {σ : St} {sz : Nat} : FrameBlind (PcW V avs σ sz) := fun a U g mk q => by
  obtain ⟨q0, q1, qP, qK, qD⟩ := q
  exact ⟨q0, q1, qP, va_K.moved (u := U) (U := U.calling g mk a) (Vm.Alike.refl U.vm) qK, qD⟩
/-- what the tables say of a method -/
def MVb (y : MethodName) (cc : ByteArray) (maxL : Nat) (ret : Option FieldType) (n : Nat) : Prop :=
  Cond.code y cc maxL ret ∈ lw_u ∧ Cond.initialized y.cls ∈ lw_u ∧ (maxL ≤ 21 ∧ plainName y.cls = true ∧ y.cls ≠ "java/lang/invoke/MethodHandle" ∧ y.cls ≠ "java/lang/invoke/VarHandle" ∧ (parseMethodDescriptor y.desc).map (fun d => d.parameters.length) = some n)
section GC
variable {l : Launch} {V : Wv} {X : Mx} {cc : ByteArray} {own : String} {nL lev pc : Nat} {lv lv' : List (Nat × Value)} {st : List Value} {σ τ : St}
theorem g_callB (F : Fx V X cc own nL lev) {y : MethodName} {bytes : ByteArray} {maxL lev2 idx n : Nat} {ret : Option FieldType} (hm : MVb y bytes maxL ret n) (hu : Cond.methodLink own idx y ∈ lw_u) (hl : lev2 < lev) : CallB X.2.2.1 X.2.2.2.1 X.2.2.2.2.2.1 own idx y bytes maxL ret (wsM y bytes maxL ret) (rmL lev2) 0 0 n := by
  have h1 := F.2.2.2.2.2.2.2.2.2.1
  exact callB_of n F.2.2.2.2.1 (goodM hm.1) rfl rfl rfl (F.2.2.2.2.1 _ hm.2.1) (F.2.2.2.2.1 _ hu) ⟨hm.2.2.2.2.1, hm.2.2.2.2.2.1, hm.2.2.2.2.2.2⟩ ⟨by show lev2 + 1 ≤ _; omega, by show 8 + (maxL + 11) + 40 * lev2 ≤ _; have := hm.2.2.1; omega⟩
theorem g_free (F : Fx V X cc own nL lev) {H : Heap} {locs : List Loc} (hS : va_S X.2.2.2.2.2.2.2.2.2.2.2 X.2.2.2.1.heap H locs) : ∀ q, va_A (wld V σ) H.size q → X.2.2.2.2.2.2.2.2.2.2.2 q := by
  intro q h
  rcases h with ⟨k, e, h⟩ | h
  · exact (F.2.2.2.2.2.2.1 σ).2 k (q, e) h
  · exact F.2.2.2.2.2.2.2.1 q (Nat.le_trans hS.1 h)
theorem g_pre (F : Fx V X cc own nL lev) {H : Heap} {avs : List Value} (hP : va_P V.1 vwCl (wld V σ) H) : ∀ U : State, U.heap = H → X.2.2.2.1.WarmedH U.vm → PcW V avs σ H.size avs.toArray U := fun U hU hW =>
  ⟨rfl, by rw [hU], by rw [hU]; exact hP, va_K.moved hW.alike F.2.2.2.2.2.1, (F.2.2.2.2.2.2.1 σ).weaken (fun _ _ _ _ => trivial)⟩
theorem g_callVi (F : Fx V X cc own nL lev) {y : MethodName} {bytes : ByteArray} {maxL lev2 idx n k ci N : Nat} {ret : Option FieldType} {As stk : List Value} {fc : List Nat} {T : u_T} {post : Int32 → St → Prop} (hM : Ci y bytes maxL ret lev2 l V (rf V k :: As) σ post) (hm : MVb y bytes maxL ret n ∧ Cond.instanceMethod y ∈ lw_u ∧ Cond.selects y.cls y y ∈ lw_u) (hu : Cond.methodLink own idx y ∈ lw_u) (hl : lev2 < lev) (hC : CL ci y.cls T N) (hsh : V.2.1[k]? = some (ci, fc)) (hn : As.length = n) (hs : stk = As.reverse ++ rf V k :: st) (hst : (st.map fun v => v.category).sum ≤ 8) (d : decode cc pc = .ok (.invokevirtual idx, 3)) (kk : ∀ r τ, post r τ → G l V X nL (pc + 3) lv (.int r :: st) τ) : G l V X nL pc lv stk σ := fun H locs ls hP hS hl' => by
  have hf := F.2.2.2.2.2.2.2.2.2.2
  refine va_calli (va_runV (As := As) (rest := st) ⟨F.1, F.2.1, F.2.2.1, F.2.2.2.1, F.2.2.2.2.1⟩ (hM H.size) ⟨g_callB F hm.1 hu hl, F.2.2.2.2.1 _ hm.2.1, F.2.2.2.2.1 _ hm.2.2⟩ ⟨PcW_blind, va_recv F.2.2.2.2.2.1 hP hC.2.1 (wld_obj hsh hC.1), g_pre F hP⟩ rfl hn hl'.1 hs (lv_room hst) d ⟨hf.1, hf.2⟩) hS (fun q _ h => g_free F hS q h) (g_free F hS) (fun r u t H1 locs1 ht hvm hw hB hz hk hS1 => ?_)
  unfold BW at hB
  rw [ht] at hB
  exact kk r u hw H1 locs1 ls hB hS1 hl'
theorem g_callVl (F : Fx V X cc own nL lev) {y : MethodName} {bytes : ByteArray} {maxL lev2 idx n k ci N : Nat} {As stk : List Value} {fc : List Nat} {T : u_T} {post : Int64 → St → Prop} (hM : Cl y bytes maxL lev2 l V (rf V k :: As) σ post) (hm : MVb y bytes maxL (some .long) n ∧ Cond.instanceMethod y ∈ lw_u ∧ Cond.selects y.cls y y ∈ lw_u) (hu : Cond.methodLink own idx y ∈ lw_u) (hl : lev2 < lev) (hC : CL ci y.cls T N) (hsh : V.2.1[k]? = some (ci, fc)) (hn : As.length = n) (hs : stk = As.reverse ++ rf V k :: st) (hst : (st.map fun v => v.category).sum ≤ 8) (d : decode cc pc = .ok (.invokevirtual idx, 3)) (kk : ∀ r τ, post r τ → G l V X nL (pc + 3) lv (.long r :: st) τ) : G l V X nL pc lv stk σ := fun H locs ls hP hS hl' => by
  have hf := F.2.2.2.2.2.2.2.2.2.2
  refine va_calll (va_runV (As := As) (rest := st) ⟨F.1, F.2.1, F.2.2.1, F.2.2.2.1, F.2.2.2.2.1⟩ (hM H.size) ⟨g_callB F hm.1 hu hl, F.2.2.2.2.1 _ hm.2.1, F.2.2.2.2.1 _ hm.2.2⟩ ⟨PcW_blind, va_recv F.2.2.2.2.2.1 hP hC.2.1 (wld_obj hsh hC.1), g_pre F hP⟩ rfl hn hl'.1 hs (lv_room hst) d ⟨hf.1, hf.2⟩) hS (fun q _ h => g_free F hS q h) (g_free F hS) (fun r u t H1 locs1 ht hvm hw hB hz hk hS1 => ?_)
  unfold BW at hB
  rw [ht] at hB
  exact kk r u hw H1 locs1 ls hB hS1 hl'
theorem g_callVv (F : Fx V X cc own nL lev) {y : MethodName} {bytes : ByteArray} {maxL lev2 idx n k ci N : Nat} {As stk : List Value} {fc : List Nat} {T : u_T} {post : St → Prop} (hM : Cv y bytes maxL lev2 l V (rf V k :: As) σ post) (hm : MVb y bytes maxL none n ∧ Cond.instanceMethod y ∈ lw_u ∧ Cond.selects y.cls y y ∈ lw_u) (hu : Cond.methodLink own idx y ∈ lw_u) (hl : lev2 < lev) (hC : CL ci y.cls T N) (hsh : V.2.1[k]? = some (ci, fc)) (hn : As.length = n) (hs : stk = As.reverse ++ rf V k :: st) (hst : (st.map fun v => v.category).sum ≤ 8) (d : decode cc pc = .ok (.invokevirtual idx, 3)) (kk : ∀ τ, post τ → G l V X nL (pc + 3) lv st τ) : G l V X nL pc lv stk σ := fun H locs ls hP hS hl' => by
  have hf := F.2.2.2.2.2.2.2.2.2.2
  refine va_callv (va_runV (As := As) (rest := st) ⟨F.1, F.2.1, F.2.2.1, F.2.2.2.1, F.2.2.2.2.1⟩ (hM H.size) ⟨g_callB F hm.1 hu hl, F.2.2.2.2.1 _ hm.2.1, F.2.2.2.2.1 _ hm.2.2⟩ ⟨PcW_blind, va_recv F.2.2.2.2.2.1 hP hC.2.1 (wld_obj hsh hC.1), g_pre F hP⟩ rfl hn hl'.1 hs (lv_room hst) d ⟨hf.1, hf.2⟩) hS (fun q _ h => g_free F hS q h) (g_free F hS) (fun u t H1 locs1 ht hvm hw hB hz hk hS1 => ?_)
  unfold BW at hB
  rw [ht] at hB
  exact kk u hw H1 locs1 ls hB hS1 hl'
theorem g_callSi (F : Fx V X cc own nL lev) {y : MethodName} {bytes : ByteArray} {maxL lev2 idx n : Nat} {ret : Option FieldType} {As stk : List Value} {post : Int32 → St → Prop} (hM : Ci y bytes maxL ret lev2 l V As σ post) (hm : MVb y bytes maxL ret n ∧ Cond.static y ∈ lw_u) (hu : Cond.methodLink own idx y ∈ lw_u) (hl : lev2 < lev) (hn : As.length = n) (hs : stk = As.reverse ++ st) (hst : (st.map fun v => v.category).sum ≤ 8) (d : decode cc pc = .ok (.invokestatic idx, 3)) (kk : ∀ r τ, post r τ → G l V X nL (pc + 3) lv (.int r :: st) τ) : G l V X nL pc lv stk σ := fun H locs ls hP hS hl' => by
  have hf := F.2.2.2.2.2.2.2.2.2.2
  refine va_calli (va_runS (As := As) (rest := st) ⟨F.1, F.2.1, F.2.2.1, F.2.2.2.1, F.2.2.2.2.1⟩ (hM H.size) ⟨g_callB F hm.1 hu hl, F.2.2.2.2.1 _ hm.2⟩ ⟨PcW_blind, g_pre F hP⟩ rfl hn hl'.1 hs (lv_room hst) d ⟨hf.1, hf.2⟩) hS (fun q _ h => g_free F hS q h) (g_free F hS) (fun r u t H1 locs1 ht hvm hw hB hz hk hS1 => ?_)
  unfold BW at hB
  rw [ht] at hB
  exact kk r u hw H1 locs1 ls hB hS1 hl'
theorem g_callSv (F : Fx V X cc own nL lev) {y : MethodName} {bytes : ByteArray} {maxL lev2 idx n : Nat} {As stk : List Value} {post : St → Prop} (hM : Cv y bytes maxL lev2 l V As σ post) (hm : MVb y bytes maxL none n ∧ Cond.static y ∈ lw_u) (hu : Cond.methodLink own idx y ∈ lw_u) (hl : lev2 < lev) (hn : As.length = n) (hs : stk = As.reverse ++ st) (hst : (st.map fun v => v.category).sum ≤ 8) (d : decode cc pc = .ok (.invokestatic idx, 3)) (kk : ∀ τ, post τ → G l V X nL (pc + 3) lv st τ) : G l V X nL pc lv stk σ := fun H locs ls hP hS hl' => by
  have hf := F.2.2.2.2.2.2.2.2.2.2
  refine va_callv (va_runS (As := As) (rest := st) ⟨F.1, F.2.1, F.2.2.1, F.2.2.2.1, F.2.2.2.2.1⟩ (hM H.size) ⟨g_callB F hm.1 hu hl, F.2.2.2.2.1 _ hm.2⟩ ⟨PcW_blind, g_pre F hP⟩ rfl hn hl'.1 hs (lv_room hst) d ⟨hf.1, hf.2⟩) hS (fun q _ h => g_free F hS q h) (g_free F hS) (fun u t H1 locs1 ht hvm hw hB hz hk hS1 => ?_)
  unfold BW at hB
  rw [ht] at hB
  exact kk u hw H1 locs1 ls hB hS1 hl'
theorem g_min (F : Fx V X cc own nL lev) {x y : Int32} {idx : Nat} (hl1 : 1 ≤ lev) (hst : (st.map fun v => v.category).sum ≤ 8) (hu : Cond.methodLink own idx Lib.Math.min.name ∈ lw_u) (d : decode cc pc = .ok (.invokestatic idx, 3)) (kk : G l V X nL (pc + 3) lv (.int (if y < x then y else x) :: st) σ) : G l V X nL pc lv (.int y :: .int x :: st) σ := fun H locs ls hP hS hl =>
  va_mmin F.1 F.2.1 (F.2.2.1.trans hl.1.symm) F.2.2.2.1 (F.2.2.2.2.1 _ hu) (F.2.2.2.2.1 _ ustat_Lib_Math_min_name) (F.2.2.2.2.1 _ uiniJ9) (F.2.2.2.2.1 _ ucode_min) (Nat.le_trans hl1 F.2.2.2.2.2.2.2.2.2.1.1) (by have := F.2.2.2.2.2.2.2.2.2.1.2; omega) F.2.2.2.2.2.2.2.2.2.2.1 F.2.2.2.2.2.2.2.2.2.2.2 d (kk H locs ls hP hS hl)
theorem g_max (F : Fx V X cc own nL lev) {x y : Int32} {idx : Nat} (hl1 : 1 ≤ lev) (hst : (st.map fun v => v.category).sum ≤ 8) (hu : Cond.methodLink own idx Lib.Math.max.name ∈ lw_u) (d : decode cc pc = .ok (.invokestatic idx, 3)) (kk : G l V X nL (pc + 3) lv (.int (if x < y then y else x) :: st) σ) : G l V X nL pc lv (.int y :: .int x :: st) σ := fun H locs ls hP hS hl =>
  va_mmax F.1 F.2.1 (F.2.2.1.trans hl.1.symm) F.2.2.2.1 (F.2.2.2.2.1 _ hu) (F.2.2.2.2.1 _ ustat_Lib_Math_max_name) (F.2.2.2.2.1 _ uiniJ9) (F.2.2.2.2.1 _ ucode_max) (Nat.le_trans hl1 F.2.2.2.2.2.2.2.2.2.1.1) (by have := F.2.2.2.2.2.2.2.2.2.1.2; omega) F.2.2.2.2.2.2.2.2.2.2.1 F.2.2.2.2.2.2.2.2.2.2.2 d (kk H locs ls hP hS hl)
theorem g_abs (F : Fx V X cc own nL lev) {x : Int32} {idx : Nat} (hl1 : 1 ≤ lev) (hst : (st.map fun v => v.category).sum ≤ 8) (hu : Cond.methodLink own idx Lib.Math.abs.name ∈ lw_u) (d : decode cc pc = .ok (.invokestatic idx, 3)) (kk : G l V X nL (pc + 3) lv (.int (if 0 ≤ x then x else 0 - x) :: st) σ) : G l V X nL pc lv (.int x :: st) σ := fun H locs ls hP hS hl =>
  va_mabs F.1 F.2.1 (F.2.2.1.trans hl.1.symm) F.2.2.2.1 (F.2.2.2.2.1 _ hu) (F.2.2.2.2.1 _ ustat_Lib_Math_abs_name) (F.2.2.2.2.1 _ uiniJ9) (F.2.2.2.2.1 _ ucode_abs) (Nat.le_trans hl1 F.2.2.2.2.2.2.2.2.2.1.1) (by have := F.2.2.2.2.2.2.2.2.2.1.2; omega) F.2.2.2.2.2.2.2.2.2.2.1 F.2.2.2.2.2.2.2.2.2.2.2 d (kk H locs ls hP hS hl)
end GC
/-! the ends, and the entry -/
def RtI (l : Launch) (V : Wv) (X : Mx) (nL : Nat) (cc : ByteArray) (post : Int32 → St → Prop) : Prop := ∀ (pc : Nat) (lv : List (Nat × Value)) (v : Int32) (σ : St), decode cc pc = .ok (.ireturn, 1) → post v σ → G l V X nL pc lv [.int v] σ
def isB (v : Int32) : Prop := v = 0 ∨ v = 1
def RtZ (l : Launch) (V : Wv) (X : Mx) (nL : Nat) (cc : ByteArray) (post : Int32 → St → Prop) : Prop := ∀ (pc : Nat) (lv : List (Nat × Value)) (v : Int32) (σ : St), decode cc pc = .ok (.ireturn, 1) → isB v → post v σ → G l V X nL pc lv [.int v] σ
def RtL (l : Launch) (V : Wv) (X : Mx) (nL : Nat) (cc : ByteArray) (post : Int64 → St → Prop) : Prop := ∀ (pc : Nat) (lv : List (Nat × Value)) (v : Int64) (σ : St), decode cc pc = .ok (.lreturn, 1) → post v σ → G l V X nL pc lv [.long v] σ
def RtV (l : Launch) (V : Wv) (X : Mx) (nL : Nat) (cc : ByteArray) (post : St → Prop) : Prop := ∀ (pc : Nat) (lv : List (Nat × Value)) (σ : St), decode cc pc = .ok (.return_, 1) → post σ → G l V X nL pc lv [] σ
section GE
variable {l : Launch} {V : Wv} {y : MethodName} {cc : ByteArray} {maxL lev n : Nat} {avs : List Value} {σ : St}
theorem c_fx {p : Program} {e : Env} {s : State} {m : MethodId} {args : Array Value} {below : List Frame} {meth : Method} {c : Code} {s₁ : State} {ret : Option FieldType} {Q : State → Prop} (B : BodyLoose p l y (headSpec (wsM y cc maxL ret) (rmL lev)) cc maxL ret e s m args below meth c s₁) (hml : c.maxLocals = maxL) (hK : va_K V.1 vwCl (tyL V) s) (hD : va_D (fun _ => True) (wld V σ)) : Fx V (p, e, (headSpec (wsM y cc maxL ret) (rmL lev)).room, s, m, args, below, meth, c, (0, 0), Q, va_A (wld V σ) s.heap.size) cc y.cls maxL lev :=
  ⟨B.exec, B.bytes, hml, findClass_of_methodNamed B.named, fun w hw => atoms_spec (ws := wsM y cc maxL ret) B.pre w (List.mem_cons_of_mem _ hw), hK, fun _ => wld_D hD.self, fun q h => Or.inr h, B.notSynchronized, ⟨Nat.le_refl _, Nat.le_refl _⟩, Nat.le_refl _, Nat.le_refl _⟩
theorem Ci.of {post : Int32 → St → Prop} (hm : MVb y cc maxL (some .int) n) (hlen : (lg_sl avs).length ≤ maxL) (body : ∀ X : Mx, Fx V X cc y.cls maxL lev → RtI l V X maxL cc post → G l V X maxL 0 (lv_args 0 avs) [] σ) : Ci y cc maxL (some .int) lev l V avs σ post := by
  intro sz
  refine Met.ofW (cc := cc) (maxL := maxL) (ret := some .int) hm.2.2.2.1 rfl ?_
  intro p e s m args below meth c s₁ B hml hv
  obtain ⟨rfl, hsz, hP, hK, hD⟩ := hv
  subst hsz
  rw [lg_entry_eq]
  refine body (p, e, (headSpec (wsM y cc maxL (some .int)) (rmL lev)).room, s, m, avs.toArray, below, meth, c, (0, 0), MQ below (va_Qi post (BW V) (va_A (wld V σ) s.heap.size)) avs.toArray s 0 0 (va_A (wld V σ) s.heap.size), va_A (wld V σ) s.heap.size) (c_fx B hml hK hD) ?_ s.heap [] _ hP va_S.rf (lv_entry avs hlen)
  intro pc lv v τ d hq H locs ls hP1 hS1 hl1
  exact W.iret B.exec B.bytes B.returns (fun t ht _ => ⟨⟨v, τ, rfl, hq, by unfold BW; rw [ht]; exact hP1⟩, hS1.F ht⟩) hS1.2.2 d B.notSynchronized
theorem Cz.of {post : Int32 → St → Prop} (hm : MVb y cc maxL (some .boolean) n) (hlen : (lg_sl avs).length ≤ maxL) (body : ∀ X : Mx, Fx V X cc y.cls maxL lev → RtZ l V X maxL cc post → G l V X maxL 0 (lv_args 0 avs) [] σ) : Ci y cc maxL (some .boolean) lev l V avs σ post := by
  intro sz
  refine Met.ofW (cc := cc) (maxL := maxL) (ret := some .boolean) hm.2.2.2.1 rfl ?_
  intro p e s m args below meth c s₁ B hml hv
  obtain ⟨rfl, hsz, hP, hK, hD⟩ := hv
  subst hsz
  rw [lg_entry_eq]
  refine body (p, e, (headSpec (wsM y cc maxL (some .boolean)) (rmL lev)).room, s, m, avs.toArray, below, meth, c, (0, 0), MQ below (va_Qi post (BW V) (va_A (wld V σ) s.heap.size)) avs.toArray s 0 0 (va_A (wld V σ) s.heap.size), va_A (wld V σ) s.heap.size) (c_fx B hml hK hD) ?_ s.heap [] _ hP va_S.rf (lv_entry avs hlen)
  intro pc lv v τ d hb hq H locs ls hP1 hS1 hl1
  exact W.zret (ty := .boolean) B.exec B.bytes B.returns (by rcases hb with h | h <;> (subst h; decide)) (fun t ht _ => ⟨⟨v, τ, rfl, hq, by unfold BW; rw [ht]; exact hP1⟩, hS1.F ht⟩) hS1.2.2 d B.notSynchronized
theorem Cl.of {post : Int64 → St → Prop} (hm : MVb y cc maxL (some .long) n) (hlen : (lg_sl avs).length ≤ maxL) (body : ∀ X : Mx, Fx V X cc y.cls maxL lev → RtL l V X maxL cc post → G l V X maxL 0 (lv_args 0 avs) [] σ) : Cl y cc maxL lev l V avs σ post := by
  intro sz
  refine Met.ofW (cc := cc) (maxL := maxL) (ret := some .long) hm.2.2.2.1 rfl ?_
  intro p e s m args below meth c s₁ B hml hv
  obtain ⟨rfl, hsz, hP, hK, hD⟩ := hv
  subst hsz
  rw [lg_entry_eq]
  refine body (p, e, (headSpec (wsM y cc maxL (some .long)) (rmL lev)).room, s, m, avs.toArray, below, meth, c, (0, 0), MQ below (va_Ql post (BW V) (va_A (wld V σ) s.heap.size)) avs.toArray s 0 0 (va_A (wld V σ) s.heap.size), va_A (wld V σ) s.heap.size) (c_fx B hml hK hD) ?_ s.heap [] _ hP va_S.rf (lv_entry avs hlen)
  intro pc lv v τ d hq H locs ls hP1 hS1 hl1
  exact W.lret B.exec B.bytes B.returns (fun t ht _ => ⟨⟨v, τ, rfl, hq, by unfold BW; rw [ht]; exact hP1⟩, hS1.F ht⟩) hS1.2.2 d B.notSynchronized
theorem Cv.of {post : St → Prop} (hm : MVb y cc maxL none n) (hlen : (lg_sl avs).length ≤ maxL) (body : ∀ X : Mx, Fx V X cc y.cls maxL lev → RtV l V X maxL cc post → G l V X maxL 0 (lv_args 0 avs) [] σ) : Cv y cc maxL lev l V avs σ post := by
  intro sz
  refine Met.ofW (cc := cc) (maxL := maxL) (ret := none) hm.2.2.2.1 rfl ?_
  intro p e s m args below meth c s₁ B hml hv
  obtain ⟨rfl, hsz, hP, hK, hD⟩ := hv
  subst hsz
  rw [lg_entry_eq]
  refine body (p, e, (headSpec (wsM y cc maxL none) (rmL lev)).room, s, m, avs.toArray, below, meth, c, (0, 0), MQ below (va_Qv post (BW V) (va_A (wld V σ) s.heap.size)) avs.toArray s 0 0 (va_A (wld V σ) s.heap.size), va_A (wld V σ) s.heap.size) (c_fx B hml hK hD) ?_ s.heap [] _ hP va_S.rf (lv_entry avs hlen)
  intro pc lv τ d hq H locs ls hP1 hS1 hl1
  exact W.vret B.exec B.bytes B.returns (fun t ht _ => ⟨⟨τ, rfl, hq, by unfold BW; rw [ht]; exact hP1⟩, hS1.F ht⟩) hS1.2.2 d B.notSynchronized
end GE
end
section
/-! what the tables say of each method: printed by program -/
theorem mvX1_empty : MVb yX1_empty cX1_empty 2 none 0 ∧ Cond.instanceMethod yX1_empty ∈ lw_u ∧ Cond.selects yX1_empty.cls yX1_empty yX1_empty ∈ lw_u := ⟨⟨uw (i := 133) (by decide +kernel) rfl, uiniX1, by decide +kernel⟩, uw (i := 131) (by decide +kernel) rfl, uw (i := 132) (by decide +kernel) rfl⟩
theorem mvX9_type : MVb yX9_type cX9_type 2 (some .int) 1 ∧ Cond.instanceMethod yX9_type ∈ lw_u ∧ Cond.selects yX9_type.cls yX9_type yX9_type ∈ lw_u := ⟨⟨uw (i := 407) (by decide +kernel) rfl, uiniX9, by decide +kernel⟩, uw (i := 405) (by decide +kernel) rfl, uw (i := 406) (by decide +kernel) rfl⟩
theorem mvX7_add : MVb yX7_add cX7_add 2 (some .boolean) 1 ∧ Cond.instanceMethod yX7_add ∈ lw_u ∧ Cond.selects yX7_add.cls yX7_add yX7_add ∈ lw_u := ⟨⟨uw (i := 411) (by decide +kernel) rfl, uiniX7, by decide +kernel⟩, uw (i := 409) (by decide +kernel) rfl, uw (i := 410) (by decide +kernel) rfl⟩
theorem mvX9_clear : MVb yX9_clear cX9_clear 1 (some .int) 0 ∧ Cond.instanceMethod yX9_clear ∈ lw_u ∧ Cond.selects yX9_clear.cls yX9_clear yX9_clear ∈ lw_u := ⟨⟨uw (i := 415) (by decide +kernel) rfl, uiniX9, by decide +kernel⟩, uw (i := 413) (by decide +kernel) rfl, uw (i := 414) (by decide +kernel) rfl⟩
theorem mvX7_empty : MVb yX7_empty cX7_empty 2 (some .int) 0 ∧ Cond.instanceMethod yX7_empty ∈ lw_u ∧ Cond.selects yX7_empty.cls yX7_empty yX7_empty ∈ lw_u := ⟨⟨uw (i := 419) (by decide +kernel) rfl, uiniX7, by decide +kernel⟩, uw (i := 417) (by decide +kernel) rfl, uw (i := 418) (by decide +kernel) rfl⟩
theorem mvX9_land : MVb yX9_land cX9_land 3 (some .int) 0 ∧ Cond.instanceMethod yX9_land ∈ lw_u ∧ Cond.selects yX9_land.cls yX9_land yX9_land ∈ lw_u := ⟨⟨uw (i := 423) (by decide +kernel) rfl, uiniX9, by decide +kernel⟩, uw (i := 421) (by decide +kernel) rfl, uw (i := 422) (by decide +kernel) rfl⟩
theorem mvX2_empty : MVb yX2_empty cX2_empty 1 none 0 ∧ Cond.instanceMethod yX2_empty ∈ lw_u ∧ Cond.selects yX2_empty.cls yX2_empty yX2_empty ∈ lw_u := ⟨⟨uw (i := 428) (by decide +kernel) rfl, uiniX2, by decide +kernel⟩, uw (i := 426) (by decide +kernel) rfl, uw (i := 427) (by decide +kernel) rfl⟩
theorem mvX7_read : MVb yX7_read cX7_read 4 (some .int) 2 ∧ Cond.instanceMethod yX7_read ∈ lw_u ∧ Cond.selects yX7_read.cls yX7_read yX7_read ∈ lw_u := ⟨⟨uw (i := 432) (by decide +kernel) rfl, uiniX7, by decide +kernel⟩, uw (i := 430) (by decide +kernel) rfl, uw (i := 431) (by decide +kernel) rfl⟩
theorem mvX7_step : MVb yX7_step cX7_step 1 none 0 ∧ Cond.instanceMethod yX7_step ∈ lw_u ∧ Cond.selects yX7_step.cls yX7_step yX7_step ∈ lw_u := ⟨⟨uw (i := 436) (by decide +kernel) rfl, uiniX7, by decide +kernel⟩, uw (i := 435) (by decide +kernel) rfl, uw (i := 0) (by decide +kernel) rfl⟩
theorem mvX7_isDigit : MVb yX7_isDigit cX7_isDigit 1 (some .boolean) 1 ∧ Cond.static yX7_isDigit ∈ lw_u := ⟨⟨uw (i := 439) (by decide +kernel) rfl, uiniX7, by decide +kernel⟩, ustat_yX7_isDigit⟩
theorem mvX7_numberToken : MVb yX7_numberToken cX7_numberToken 2 (some .int) 0 ∧ Cond.instanceMethod yX7_numberToken ∈ lw_u ∧ Cond.selects yX7_numberToken.cls yX7_numberToken yX7_numberToken ∈ lw_u := ⟨⟨uw (i := 443) (by decide +kernel) rfl, uiniX7, by decide +kernel⟩, uw (i := 442) (by decide +kernel) rfl, uw (i := 1) (by decide +kernel) rfl⟩
theorem mvX7_letterToken : MVb yX7_letterToken cX7_letterToken 3 (some .int) 0 ∧ Cond.instanceMethod yX7_letterToken ∈ lw_u ∧ Cond.selects yX7_letterToken.cls yX7_letterToken yX7_letterToken ∈ lw_u := ⟨⟨uw (i := 447) (by decide +kernel) rfl, uiniX7, by decide +kernel⟩, uw (i := 446) (by decide +kernel) rfl, uw (i := 2) (by decide +kernel) rfl⟩
theorem mvX7_readItem : MVb yX7_readItem cX7_readItem 4 (some .boolean) 3 ∧ Cond.instanceMethod yX7_readItem ∈ lw_u ∧ Cond.selects yX7_readItem.cls yX7_readItem yX7_readItem ∈ lw_u := ⟨⟨uw (i := 451) (by decide +kernel) rfl, uiniX7, by decide +kernel⟩, uw (i := 450) (by decide +kernel) rfl, uw (i := 3) (by decide +kernel) rfl⟩
theorem mvX7_readPlaces : MVb yX7_readPlaces cX7_readPlaces 2 (some .boolean) 1 ∧ Cond.instanceMethod yX7_readPlaces ∈ lw_u ∧ Cond.selects yX7_readPlaces.cls yX7_readPlaces yX7_readPlaces ∈ lw_u := ⟨⟨uw (i := 455) (by decide +kernel) rfl, uiniX7, by decide +kernel⟩, uw (i := 454) (by decide +kernel) rfl, uw (i := 4) (by decide +kernel) rfl⟩
theorem mvX7_stepTo : MVb yX7_stepTo cX7_stepTo 3 (some .boolean) 2 ∧ Cond.instanceMethod yX7_stepTo ∈ lw_u ∧ Cond.selects yX7_stepTo.cls yX7_stepTo yX7_stepTo ∈ lw_u := ⟨⟨uw (i := 459) (by decide +kernel) rfl, uiniX7, by decide +kernel⟩, uw (i := 458) (by decide +kernel) rfl, uw (i := 5) (by decide +kernel) rfl⟩
theorem mvX7_stepToEnd : MVb yX7_stepToEnd cX7_stepToEnd 1 (some .boolean) 0 ∧ Cond.instanceMethod yX7_stepToEnd ∈ lw_u ∧ Cond.selects yX7_stepToEnd.cls yX7_stepToEnd yX7_stepToEnd ∈ lw_u := ⟨⟨uw (i := 463) (by decide +kernel) rfl, uiniX7, by decide +kernel⟩, uw (i := 462) (by decide +kernel) rfl, uw (i := 6) (by decide +kernel) rfl⟩
theorem mvX7_readLane : MVb yX7_readLane cX7_readLane 5 (some .boolean) 2 ∧ Cond.instanceMethod yX7_readLane ∈ lw_u ∧ Cond.selects yX7_readLane.cls yX7_readLane yX7_readLane ∈ lw_u := ⟨⟨uw (i := 467) (by decide +kernel) rfl, uiniX7, by decide +kernel⟩, uw (i := 466) (by decide +kernel) rfl, uw (i := 7) (by decide +kernel) rfl⟩
theorem mvX1_laneBetween : MVb yX1_laneBetween cX1_laneBetween 3 (some .int) 2 ∧ Cond.instanceMethod yX1_laneBetween ∈ lw_u ∧ Cond.selects yX1_laneBetween.cls yX1_laneBetween yX1_laneBetween ∈ lw_u := ⟨⟨uw (i := 471) (by decide +kernel) rfl, uiniX1, by decide +kernel⟩, uw (i := 469) (by decide +kernel) rfl, uw (i := 470) (by decide +kernel) rfl⟩
theorem mvX1_addLane : MVb yX1_addLane cX1_addLane 4 none 3 ∧ Cond.instanceMethod yX1_addLane ∈ lw_u ∧ Cond.selects yX1_addLane.cls yX1_addLane yX1_addLane ∈ lw_u := ⟨⟨uw (i := 475) (by decide +kernel) rfl, uiniX1, by decide +kernel⟩, uw (i := 473) (by decide +kernel) rfl, uw (i := 474) (by decide +kernel) rfl⟩
theorem mvX7_readMap : MVb yX7_readMap cX7_readMap 6 (some .boolean) 2 ∧ Cond.instanceMethod yX7_readMap ∈ lw_u ∧ Cond.selects yX7_readMap.cls yX7_readMap yX7_readMap ∈ lw_u := ⟨⟨uw (i := 479) (by decide +kernel) rfl, uiniX7, by decide +kernel⟩, uw (i := 478) (by decide +kernel) rfl, uw (i := 8) (by decide +kernel) rfl⟩
theorem mvX2_fits : MVb yX2_fits cX2_fits 6 (some .boolean) 3 ∧ Cond.instanceMethod yX2_fits ∈ lw_u ∧ Cond.selects yX2_fits.cls yX2_fits yX2_fits ∈ lw_u := ⟨⟨uw (i := 483) (by decide +kernel) rfl, uiniX2, by decide +kernel⟩, uw (i := 481) (by decide +kernel) rfl, uw (i := 482) (by decide +kernel) rfl⟩
theorem mvX2_placeAt : MVb yX2_placeAt cX2_placeAt 3 (some .int) 2 ∧ Cond.instanceMethod yX2_placeAt ∈ lw_u ∧ Cond.selects yX2_placeAt.cls yX2_placeAt yX2_placeAt ∈ lw_u := ⟨⟨uw (i := 487) (by decide +kernel) rfl, uiniX2, by decide +kernel⟩, uw (i := 485) (by decide +kernel) rfl, uw (i := 486) (by decide +kernel) rfl⟩
theorem mvX2_append : MVb yX2_append cX2_append 3 none 2 ∧ Cond.instanceMethod yX2_append ∈ lw_u ∧ Cond.selects yX2_append.cls yX2_append yX2_append ∈ lw_u := ⟨⟨uw (i := 492) (by decide +kernel) rfl, uiniX2, by decide +kernel⟩, uw (i := 490) (by decide +kernel) rfl, uw (i := 491) (by decide +kernel) rfl⟩
theorem mvX8_find : MVb yX8_find cX8_find 3 none 1 ∧ Cond.instanceMethod yX8_find ∈ lw_u ∧ Cond.selects yX8_find.cls yX8_find yX8_find ∈ lw_u := ⟨⟨uw (i := 496) (by decide +kernel) rfl, uiniX8, by decide +kernel⟩, uw (i := 494) (by decide +kernel) rfl, uw (i := 495) (by decide +kernel) rfl⟩
theorem mvX8_walk : MVb yX8_walk cX8_walk 7 none 4 ∧ Cond.static yX8_walk ∈ lw_u := ⟨⟨uw (i := 499) (by decide +kernel) rfl, uiniX8, by decide +kernel⟩, ustat_yX8_walk⟩
theorem mvX8_addTrail : MVb yX8_addTrail cX8_addTrail 3 none 2 ∧ Cond.instanceMethod yX8_addTrail ∈ lw_u ∧ Cond.selects yX8_addTrail.cls yX8_addTrail yX8_addTrail ∈ lw_u := ⟨⟨uw (i := 503) (by decide +kernel) rfl, uiniX8, by decide +kernel⟩, uw (i := 502) (by decide +kernel) rfl, uw (i := 9) (by decide +kernel) rfl⟩
theorem mvX8_onTrail : MVb yX8_onTrail cX8_onTrail 4 (some .boolean) 2 ∧ Cond.instanceMethod yX8_onTrail ∈ lw_u ∧ Cond.selects yX8_onTrail.cls yX8_onTrail yX8_onTrail ∈ lw_u := ⟨⟨uw (i := 511) (by decide +kernel) rfl, uiniX8, by decide +kernel⟩, uw (i := 510) (by decide +kernel) rfl, uw (i := 10) (by decide +kernel) rfl⟩
theorem mvX2_become : MVb yX2_become cX2_become 2 none 1 ∧ Cond.instanceMethod yX2_become ∈ lw_u ∧ Cond.selects yX2_become.cls yX2_become yX2_become ∈ lw_u := ⟨⟨uw (i := 515) (by decide +kernel) rfl, uiniX2, by decide +kernel⟩, uw (i := 513) (by decide +kernel) rfl, uw (i := 514) (by decide +kernel) rfl⟩
theorem mvX3_empty : MVb yX3_empty cX3_empty 1 none 0 ∧ Cond.instanceMethod yX3_empty ∈ lw_u ∧ Cond.selects yX3_empty.cls yX3_empty yX3_empty ∈ lw_u := ⟨⟨uw (i := 520) (by decide +kernel) rfl, uiniX3, by decide +kernel⟩, uw (i := 518) (by decide +kernel) rfl, uw (i := 519) (by decide +kernel) rfl⟩
theorem mvX6_empty : MVb yX6_empty cX6_empty 2 (some .int) 0 ∧ Cond.instanceMethod yX6_empty ∈ lw_u ∧ Cond.selects yX6_empty.cls yX6_empty yX6_empty ∈ lw_u := ⟨⟨uw (i := 524) (by decide +kernel) rfl, uiniX6, by decide +kernel⟩, uw (i := 522) (by decide +kernel) rfl, uw (i := 523) (by decide +kernel) rfl⟩
theorem mvX9_forgetAnswers : MVb yX9_forgetAnswers cX9_forgetAnswers 1 none 0 ∧ Cond.instanceMethod yX9_forgetAnswers ∈ lw_u ∧ Cond.selects yX9_forgetAnswers.cls yX9_forgetAnswers yX9_forgetAnswers ∈ lw_u := ⟨⟨uw (i := 528) (by decide +kernel) rfl, uiniX9, by decide +kernel⟩, uw (i := 527) (by decide +kernel) rfl, uw (i := 11) (by decide +kernel) rfl⟩
theorem mvX9_lane : MVb yX9_lane cX9_lane 3 (some .int) 2 ∧ Cond.instanceMethod yX9_lane ∈ lw_u ∧ Cond.selects yX9_lane.cls yX9_lane yX9_lane ∈ lw_u := ⟨⟨uw (i := 532) (by decide +kernel) rfl, uiniX9, by decide +kernel⟩, uw (i := 530) (by decide +kernel) rfl, uw (i := 531) (by decide +kernel) rfl⟩
theorem mvX9_isLane : MVb yX9_isLane cX9_isLane 2 (some .boolean) 1 ∧ Cond.instanceMethod yX9_isLane ∈ lw_u ∧ Cond.selects yX9_isLane.cls yX9_isLane yX9_isLane ∈ lw_u := ⟨⟨uw (i := 536) (by decide +kernel) rfl, uiniX9, by decide +kernel⟩, uw (i := 535) (by decide +kernel) rfl, uw (i := 12) (by decide +kernel) rfl⟩
theorem mvX9_mapsBy : MVb yX9_mapsBy cX9_mapsBy 4 (some .int) 1 ∧ Cond.instanceMethod yX9_mapsBy ∈ lw_u ∧ Cond.selects yX9_mapsBy.cls yX9_mapsBy yX9_mapsBy ∈ lw_u := ⟨⟨uw (i := 540) (by decide +kernel) rfl, uiniX9, by decide +kernel⟩, uw (i := 539) (by decide +kernel) rfl, uw (i := 13) (by decide +kernel) rfl⟩
theorem mvX2_lanesOf : MVb yX2_lanesOf cX2_lanesOf 6 (some .int) 2 ∧ Cond.instanceMethod yX2_lanesOf ∈ lw_u ∧ Cond.selects yX2_lanesOf.cls yX2_lanesOf yX2_lanesOf ∈ lw_u := ⟨⟨uw (i := 544) (by decide +kernel) rfl, uiniX2, by decide +kernel⟩, uw (i := 542) (by decide +kernel) rfl, uw (i := 543) (by decide +kernel) rfl⟩
theorem mvX9_map : MVb yX9_map cX9_map 3 (some .int) 2 ∧ Cond.instanceMethod yX9_map ∈ lw_u ∧ Cond.selects yX9_map.cls yX9_map yX9_map ∈ lw_u := ⟨⟨uw (i := 548) (by decide +kernel) rfl, uiniX9, by decide +kernel⟩, uw (i := 546) (by decide +kernel) rfl, uw (i := 547) (by decide +kernel) rfl⟩
theorem mvX9_isMap : MVb yX9_isMap cX9_isMap 2 (some .boolean) 1 ∧ Cond.instanceMethod yX9_isMap ∈ lw_u ∧ Cond.selects yX9_isMap.cls yX9_isMap yX9_isMap ∈ lw_u := ⟨⟨uw (i := 552) (by decide +kernel) rfl, uiniX9, by decide +kernel⟩, uw (i := 551) (by decide +kernel) rfl, uw (i := 14) (by decide +kernel) rfl⟩
theorem mvX1_lengthOf : MVb yX1_lengthOf cX1_lengthOf 5 (some .int) 2 ∧ Cond.instanceMethod yX1_lengthOf ∈ lw_u ∧ Cond.selects yX1_lengthOf.cls yX1_lengthOf yX1_lengthOf ∈ lw_u := ⟨⟨uw (i := 556) (by decide +kernel) rfl, uiniX1, by decide +kernel⟩, uw (i := 554) (by decide +kernel) rfl, uw (i := 555) (by decide +kernel) rfl⟩
theorem mvX9_heldMaps : MVb yX9_heldMaps cX9_heldMaps 3 (some .int) 0 ∧ Cond.instanceMethod yX9_heldMaps ∈ lw_u ∧ Cond.selects yX9_heldMaps.cls yX9_heldMaps yX9_heldMaps ∈ lw_u := ⟨⟨uw (i := 560) (by decide +kernel) rfl, uiniX9, by decide +kernel⟩, uw (i := 559) (by decide +kernel) rfl, uw (i := 15) (by decide +kernel) rfl⟩
theorem mvX8_measure : MVb yX8_measure cX8_measure 5 none 2 ∧ Cond.instanceMethod yX8_measure ∈ lw_u ∧ Cond.selects yX8_measure.cls yX8_measure yX8_measure ∈ lw_u := ⟨⟨uw (i := 564) (by decide +kernel) rfl, uiniX8, by decide +kernel⟩, uw (i := 562) (by decide +kernel) rfl, uw (i := 563) (by decide +kernel) rfl⟩
theorem mvX8_wayBy : MVb yX8_wayBy cX8_wayBy 3 (some .int) 1 ∧ Cond.instanceMethod yX8_wayBy ∈ lw_u ∧ Cond.selects yX8_wayBy.cls yX8_wayBy yX8_wayBy ∈ lw_u := ⟨⟨uw (i := 572) (by decide +kernel) rfl, uiniX8, by decide +kernel⟩, uw (i := 570) (by decide +kernel) rfl, uw (i := 571) (by decide +kernel) rfl⟩
theorem mvX8_isShortest : MVb yX8_isShortest cX8_isShortest 2 (some .boolean) 1 ∧ Cond.instanceMethod yX8_isShortest ∈ lw_u ∧ Cond.selects yX8_isShortest.cls yX8_isShortest yX8_isShortest ∈ lw_u := ⟨⟨uw (i := 576) (by decide +kernel) rfl, uiniX8, by decide +kernel⟩, uw (i := 574) (by decide +kernel) rfl, uw (i := 575) (by decide +kernel) rfl⟩
theorem mvX9_place : MVb yX9_place cX9_place 3 (some .int) 2 ∧ Cond.instanceMethod yX9_place ∈ lw_u ∧ Cond.selects yX9_place.cls yX9_place yX9_place ∈ lw_u := ⟨⟨uw (i := 580) (by decide +kernel) rfl, uiniX9, by decide +kernel⟩, uw (i := 578) (by decide +kernel) rfl, uw (i := 579) (by decide +kernel) rfl⟩
theorem mvX9_now : MVb yX9_now cX9_now 2 (some .int) 1 ∧ Cond.instanceMethod yX9_now ∈ lw_u ∧ Cond.selects yX9_now.cls yX9_now yX9_now ∈ lw_u := ⟨⟨uw (i := 585) (by decide +kernel) rfl, uiniX9, by decide +kernel⟩, uw (i := 583) (by decide +kernel) rfl, uw (i := 584) (by decide +kernel) rfl⟩
theorem mvX9_names : MVb yX9_names cX9_names 2 (some .int) 1 ∧ Cond.instanceMethod yX9_names ∈ lw_u ∧ Cond.selects yX9_names.cls yX9_names yX9_names ∈ lw_u := ⟨⟨uw (i := 589) (by decide +kernel) rfl, uiniX9, by decide +kernel⟩, uw (i := 587) (by decide +kernel) rfl, uw (i := 588) (by decide +kernel) rfl⟩
theorem mvX9_isPlace : MVb yX9_isPlace cX9_isPlace 2 (some .boolean) 1 ∧ Cond.instanceMethod yX9_isPlace ∈ lw_u ∧ Cond.selects yX9_isPlace.cls yX9_isPlace yX9_isPlace ∈ lw_u := ⟨⟨uw (i := 593) (by decide +kernel) rfl, uiniX9, by decide +kernel⟩, uw (i := 592) (by decide +kernel) rfl, uw (i := 16) (by decide +kernel) rfl⟩
theorem mvX9_beforeChange : MVb yX9_beforeChange cX9_beforeChange 1 none 0 ∧ Cond.instanceMethod yX9_beforeChange ∈ lw_u ∧ Cond.selects yX9_beforeChange.cls yX9_beforeChange yX9_beforeChange ∈ lw_u := ⟨⟨uw (i := 598) (by decide +kernel) rfl, uiniX9, by decide +kernel⟩, uw (i := 597) (by decide +kernel) rfl, uw (i := 17) (by decide +kernel) rfl⟩
theorem mvX3_remember : MVb yX3_remember cX3_remember 2 none 1 ∧ Cond.instanceMethod yX3_remember ∈ lw_u ∧ Cond.selects yX3_remember.cls yX3_remember yX3_remember ∈ lw_u := ⟨⟨uw (i := 602) (by decide +kernel) rfl, uiniX3, by decide +kernel⟩, uw (i := 600) (by decide +kernel) rfl, uw (i := 601) (by decide +kernel) rfl⟩
theorem mvX9_asks : MVb yX9_asks cX9_asks 2 (some .int) 0 ∧ Cond.instanceMethod yX9_asks ∈ lw_u ∧ Cond.selects yX9_asks.cls yX9_asks yX9_asks ∈ lw_u := ⟨⟨uw (i := 609) (by decide +kernel) rfl, uiniX9, by decide +kernel⟩, uw (i := 607) (by decide +kernel) rfl, uw (i := 608) (by decide +kernel) rfl⟩
theorem mvX9_draftIsWay : MVb yX9_draftIsWay cX9_draftIsWay 1 (some .boolean) 0 ∧ Cond.instanceMethod yX9_draftIsWay ∈ lw_u ∧ Cond.selects yX9_draftIsWay.cls yX9_draftIsWay yX9_draftIsWay ∈ lw_u := ⟨⟨uw (i := 613) (by decide +kernel) rfl, uiniX9, by decide +kernel⟩, uw (i := 612) (by decide +kernel) rfl, uw (i := 18) (by decide +kernel) rfl⟩
theorem mvX9_askedCost : MVb yX9_askedCost cX9_askedCost 1 (some .int) 0 ∧ Cond.instanceMethod yX9_askedCost ∈ lw_u ∧ Cond.selects yX9_askedCost.cls yX9_askedCost yX9_askedCost ∈ lw_u := ⟨⟨uw (i := 617) (by decide +kernel) rfl, uiniX9, by decide +kernel⟩, uw (i := 616) (by decide +kernel) rfl, uw (i := 19) (by decide +kernel) rfl⟩
theorem mvX9_allMaps : MVb yX9_allMaps cX9_allMaps 1 (some .int) 0 ∧ Cond.instanceMethod yX9_allMaps ∈ lw_u ∧ Cond.selects yX9_allMaps.cls yX9_allMaps yX9_allMaps ∈ lw_u := ⟨⟨uw (i := 621) (by decide +kernel) rfl, uiniX9, by decide +kernel⟩, uw (i := 620) (by decide +kernel) rfl, uw (i := 20) (by decide +kernel) rfl⟩
theorem mvX9_waysOf : MVb yX9_waysOf cX9_waysOf 5 (some .long) 1 ∧ Cond.instanceMethod yX9_waysOf ∈ lw_u ∧ Cond.selects yX9_waysOf.cls yX9_waysOf yX9_waysOf ∈ lw_u := ⟨⟨uw (i := 625) (by decide +kernel) rfl, uiniX9, by decide +kernel⟩, uw (i := 624) (by decide +kernel) rfl, uw (i := 21) (by decide +kernel) rfl⟩
theorem mvX8_bitBy : MVb yX8_bitBy cX8_bitBy 3 (some .long) 1 ∧ Cond.instanceMethod yX8_bitBy ∈ lw_u ∧ Cond.selects yX8_bitBy.cls yX8_bitBy yX8_bitBy ∈ lw_u := ⟨⟨uw (i := 629) (by decide +kernel) rfl, uiniX8, by decide +kernel⟩, uw (i := 627) (by decide +kernel) rfl, uw (i := 628) (by decide +kernel) rfl⟩
theorem mvX9_costOf : MVb yX9_costOf cX9_costOf 3 (some .int) 1 ∧ Cond.instanceMethod yX9_costOf ∈ lw_u ∧ Cond.selects yX9_costOf.cls yX9_costOf yX9_costOf ∈ lw_u := ⟨⟨uw (i := 634) (by decide +kernel) rfl, uiniX9, by decide +kernel⟩, uw (i := 633) (by decide +kernel) rfl, uw (i := 22) (by decide +kernel) rfl⟩
theorem mvX4_begin : MVb yX4_begin cX4_begin 7 none 4 ∧ Cond.instanceMethod yX4_begin ∈ lw_u ∧ Cond.selects yX4_begin.cls yX4_begin yX4_begin ∈ lw_u := ⟨⟨uw (i := 638) (by decide +kernel) rfl, uiniX4, by decide +kernel⟩, uw (i := 636) (by decide +kernel) rfl, uw (i := 637) (by decide +kernel) rfl⟩
theorem mvX4_bindWay : MVb yX4_bindWay cX4_bindWay 6 none 2 ∧ Cond.instanceMethod yX4_bindWay ∈ lw_u ∧ Cond.selects yX4_bindWay.cls yX4_bindWay yX4_bindWay ∈ lw_u := ⟨⟨uw (i := 643) (by decide +kernel) rfl, uiniX4, by decide +kernel⟩, uw (i := 642) (by decide +kernel) rfl, uw (i := 23) (by decide +kernel) rfl⟩
theorem mvJ6_bitCount_0f7a4 : MVb yJ6_bitCount_0f7a4 cJ6_bitCount_0f7a4 1 (some .int) 1 ∧ Cond.static yJ6_bitCount_0f7a4 ∈ lw_u := ⟨⟨uw (i := 646) (by decide +kernel) rfl, uiniJ6, by decide +kernel⟩, ustat_yJ6_bitCount_0f7a4⟩
theorem mvX4_leastCost : MVb yX4_leastCost cX4_leastCost 1 (some .int) 0 ∧ Cond.instanceMethod yX4_leastCost ∈ lw_u ∧ Cond.selects yX4_leastCost.cls yX4_leastCost yX4_leastCost ∈ lw_u := ⟨⟨uw (i := 653) (by decide +kernel) rfl, uiniX4, by decide +kernel⟩, uw (i := 651) (by decide +kernel) rfl, uw (i := 652) (by decide +kernel) rfl⟩
theorem mvX4_goCheapest : MVb yX4_goCheapest cX4_goCheapest 9 none 3 ∧ Cond.static yX4_goCheapest ∈ lw_u := ⟨⟨uw (i := 656) (by decide +kernel) rfl, uiniX4, by decide +kernel⟩, ustat_yX4_goCheapest⟩
theorem mvX4_lowest : MVb yX4_lowest cX4_lowest 4 (some .int) 1 ∧ Cond.instanceMethod yX4_lowest ∈ lw_u ∧ Cond.selects yX4_lowest.cls yX4_lowest yX4_lowest ∈ lw_u := ⟨⟨uw (i := 661) (by decide +kernel) rfl, uiniX4, by decide +kernel⟩, uw (i := 660) (by decide +kernel) rfl, uw (i := 24) (by decide +kernel) rfl⟩
theorem mvX4_highest : MVb yX4_highest cX4_highest 4 (some .int) 1 ∧ Cond.instanceMethod yX4_highest ∈ lw_u ∧ Cond.selects yX4_highest.cls yX4_highest yX4_highest ∈ lw_u := ⟨⟨uw (i := 668) (by decide +kernel) rfl, uiniX4, by decide +kernel⟩, uw (i := 667) (by decide +kernel) rfl, uw (i := 25) (by decide +kernel) rfl⟩
theorem mvX4_choose : MVb yX4_choose cX4_choose 5 none 2 ∧ Cond.instanceMethod yX4_choose ∈ lw_u ∧ Cond.selects yX4_choose.cls yX4_choose yX4_choose ∈ lw_u := ⟨⟨uw (i := 672) (by decide +kernel) rfl, uiniX4, by decide +kernel⟩, uw (i := 671) (by decide +kernel) rfl, uw (i := 26) (by decide +kernel) rfl⟩
theorem mvX4_findFirst : MVb yX4_findFirst cX4_findFirst 2 (some .boolean) 1 ∧ Cond.instanceMethod yX4_findFirst ∈ lw_u ∧ Cond.selects yX4_findFirst.cls yX4_findFirst yX4_findFirst ∈ lw_u := ⟨⟨uw (i := 676) (by decide +kernel) rfl, uiniX4, by decide +kernel⟩, uw (i := 674) (by decide +kernel) rfl, uw (i := 675) (by decide +kernel) rfl⟩
theorem mvX4_goFirst : MVb yX4_goFirst cX4_goFirst 6 (some .boolean) 3 ∧ Cond.static yX4_goFirst ∈ lw_u := ⟨⟨uw (i := 679) (by decide +kernel) rfl, uiniX4, by decide +kernel⟩, ustat_yX4_goFirst⟩
theorem mvX9_addDug : MVb yX9_addDug cX9_addDug 2 none 1 ∧ Cond.instanceMethod yX9_addDug ∈ lw_u ∧ Cond.selects yX9_addDug.cls yX9_addDug yX9_addDug ∈ lw_u := ⟨⟨uw (i := 687) (by decide +kernel) rfl, uiniX9, by decide +kernel⟩, uw (i := 686) (by decide +kernel) rfl, uw (i := 27) (by decide +kernel) rfl⟩
theorem mvX2_draftToMap : MVb yX2_draftToMap cX2_draftToMap 1 none 0 ∧ Cond.instanceMethod yX2_draftToMap ∈ lw_u ∧ Cond.selects yX2_draftToMap.cls yX2_draftToMap yX2_draftToMap ∈ lw_u := ⟨⟨uw (i := 693) (by decide +kernel) rfl, uiniX2, by decide +kernel⟩, uw (i := 691) (by decide +kernel) rfl, uw (i := 692) (by decide +kernel) rfl⟩
theorem mvX2_copyRow : MVb yX2_copyRow cX2_copyRow 3 none 2 ∧ Cond.instanceMethod yX2_copyRow ∈ lw_u ∧ Cond.selects yX2_copyRow.cls yX2_copyRow yX2_copyRow ∈ lw_u := ⟨⟨uw (i := 697) (by decide +kernel) rfl, uiniX2, by decide +kernel⟩, uw (i := 696) (by decide +kernel) rfl, uw (i := 28) (by decide +kernel) rfl⟩
theorem mvX9_digs : MVb yX9_digs cX9_digs 4 (some .int) 2 ∧ Cond.instanceMethod yX9_digs ∈ lw_u ∧ Cond.selects yX9_digs.cls yX9_digs yX9_digs ∈ lw_u := ⟨⟨uw (i := 701) (by decide +kernel) rfl, uiniX9, by decide +kernel⟩, uw (i := 699) (by decide +kernel) rfl, uw (i := 700) (by decide +kernel) rfl⟩
theorem mvX9_burns : MVb yX9_burns cX9_burns 2 (some .int) 1 ∧ Cond.instanceMethod yX9_burns ∈ lw_u ∧ Cond.selects yX9_burns.cls yX9_burns yX9_burns ∈ lw_u := ⟨⟨uw (i := 706) (by decide +kernel) rfl, uiniX9, by decide +kernel⟩, uw (i := 704) (by decide +kernel) rfl, uw (i := 705) (by decide +kernel) rfl⟩
theorem mvX2_dropMap : MVb yX2_dropMap cX2_dropMap 3 none 1 ∧ Cond.instanceMethod yX2_dropMap ∈ lw_u ∧ Cond.selects yX2_dropMap.cls yX2_dropMap yX2_dropMap ∈ lw_u := ⟨⟨uw (i := 710) (by decide +kernel) rfl, uiniX2, by decide +kernel⟩, uw (i := 708) (by decide +kernel) rfl, uw (i := 709) (by decide +kernel) rfl⟩
theorem mvX9_wipes : MVb yX9_wipes cX9_wipes 2 (some .int) 0 ∧ Cond.instanceMethod yX9_wipes ∈ lw_u ∧ Cond.selects yX9_wipes.cls yX9_wipes yX9_wipes ∈ lw_u := ⟨⟨uw (i := 714) (by decide +kernel) rfl, uiniX9, by decide +kernel⟩, uw (i := 712) (by decide +kernel) rfl, uw (i := 713) (by decide +kernel) rfl⟩
theorem mvX9_undo : MVb yX9_undo cX9_undo 1 (some .int) 0 ∧ Cond.instanceMethod yX9_undo ∈ lw_u ∧ Cond.selects yX9_undo.cls yX9_undo yX9_undo ∈ lw_u := ⟨⟨uw (i := 718) (by decide +kernel) rfl, uiniX9, by decide +kernel⟩, uw (i := 716) (by decide +kernel) rfl, uw (i := 717) (by decide +kernel) rfl⟩
theorem mvX3_restore : MVb yX3_restore cX3_restore 2 none 1 ∧ Cond.instanceMethod yX3_restore ∈ lw_u ∧ Cond.selects yX3_restore.cls yX3_restore yX3_restore ∈ lw_u := ⟨⟨uw (i := 722) (by decide +kernel) rfl, uiniX3, by decide +kernel⟩, uw (i := 720) (by decide +kernel) rfl, uw (i := 721) (by decide +kernel) rfl⟩
theorem mvX9_far : MVb yX9_far cX9_far 3 (some .int) 2 ∧ Cond.instanceMethod yX9_far ∈ lw_u ∧ Cond.selects yX9_far.cls yX9_far yX9_far ∈ lw_u := ⟨⟨uw (i := 726) (by decide +kernel) rfl, uiniX9, by decide +kernel⟩, uw (i := 724) (by decide +kernel) rfl, uw (i := 725) (by decide +kernel) rfl⟩
theorem mvX8_leastBetween : MVb yX8_leastBetween cX8_leastBetween 3 (some .int) 2 ∧ Cond.instanceMethod yX8_leastBetween ∈ lw_u ∧ Cond.selects yX8_leastBetween.cls yX8_leastBetween yX8_leastBetween ∈ lw_u := ⟨⟨uw (i := 730) (by decide +kernel) rfl, uiniX8, by decide +kernel⟩, uw (i := 728) (by decide +kernel) rfl, uw (i := 729) (by decide +kernel) rfl⟩
theorem mvX9_by : MVb yX9_by cX9_by 3 (some .int) 2 ∧ Cond.instanceMethod yX9_by ∈ lw_u ∧ Cond.selects yX9_by.cls yX9_by yX9_by ∈ lw_u := ⟨⟨uw (i := 735) (by decide +kernel) rfl, uiniX9, by decide +kernel⟩, uw (i := 733) (by decide +kernel) rfl, uw (i := 734) (by decide +kernel) rfl⟩
theorem mvX8_shortestBetween : MVb yX8_shortestBetween cX8_shortestBetween 6 (some .int) 2 ∧ Cond.instanceMethod yX8_shortestBetween ∈ lw_u ∧ Cond.selects yX8_shortestBetween.cls yX8_shortestBetween yX8_shortestBetween ∈ lw_u := ⟨⟨uw (i := 739) (by decide +kernel) rfl, uiniX8, by decide +kernel⟩, uw (i := 737) (by decide +kernel) rfl, uw (i := 738) (by decide +kernel) rfl⟩
theorem mvX9_knot : MVb yX9_knot cX9_knot 4 (some .int) 1 ∧ Cond.instanceMethod yX9_knot ∈ lw_u ∧ Cond.selects yX9_knot.cls yX9_knot yX9_knot ∈ lw_u := ⟨⟨uw (i := 744) (by decide +kernel) rfl, uiniX9, by decide +kernel⟩, uw (i := 742) (by decide +kernel) rfl, uw (i := 743) (by decide +kernel) rfl⟩
theorem mvX9_asking : MVb yX9_asking cX9_asking 3 (some .int) 1 ∧ Cond.instanceMethod yX9_asking ∈ lw_u ∧ Cond.selects yX9_asking.cls yX9_asking yX9_asking ∈ lw_u := ⟨⟨uw (i := 748) (by decide +kernel) rfl, uiniX9, by decide +kernel⟩, uw (i := 746) (by decide +kernel) rfl, uw (i := 747) (by decide +kernel) rfl⟩
theorem mvX9_clash : MVb yX9_clash cX9_clash 5 (some .int) 0 ∧ Cond.instanceMethod yX9_clash ∈ lw_u ∧ Cond.selects yX9_clash.cls yX9_clash yX9_clash ∈ lw_u := ⟨⟨uw (i := 752) (by decide +kernel) rfl, uiniX9, by decide +kernel⟩, uw (i := 750) (by decide +kernel) rfl, uw (i := 751) (by decide +kernel) rfl⟩
theorem mvX9_standing : MVb yX9_standing cX9_standing 4 (some .int) 0 ∧ Cond.instanceMethod yX9_standing ∈ lw_u ∧ Cond.selects yX9_standing.cls yX9_standing yX9_standing ∈ lw_u := ⟨⟨uw (i := 756) (by decide +kernel) rfl, uiniX9, by decide +kernel⟩, uw (i := 755) (by decide +kernel) rfl, uw (i := 29) (by decide +kernel) rfl⟩
theorem mvX9_canHold : MVb yX9_canHold cX9_canHold 3 (some .boolean) 1 ∧ Cond.instanceMethod yX9_canHold ∈ lw_u ∧ Cond.selects yX9_canHold.cls yX9_canHold yX9_canHold ∈ lw_u := ⟨⟨uw (i := 760) (by decide +kernel) rfl, uiniX9, by decide +kernel⟩, uw (i := 759) (by decide +kernel) rfl, uw (i := 30) (by decide +kernel) rfl⟩
theorem mvX9_partsStand : MVb yX9_partsStand cX9_partsStand 4 (some .boolean) 2 ∧ Cond.instanceMethod yX9_partsStand ∈ lw_u ∧ Cond.selects yX9_partsStand.cls yX9_partsStand yX9_partsStand ∈ lw_u := ⟨⟨uw (i := 764) (by decide +kernel) rfl, uiniX9, by decide +kernel⟩, uw (i := 763) (by decide +kernel) rfl, uw (i := 31) (by decide +kernel) rfl⟩
theorem mvX9_fire : MVb yX9_fire cX9_fire 6 (some .int) 1 ∧ Cond.instanceMethod yX9_fire ∈ lw_u ∧ Cond.selects yX9_fire.cls yX9_fire yX9_fire ∈ lw_u := ⟨⟨uw (i := 769) (by decide +kernel) rfl, uiniX9, by decide +kernel⟩, uw (i := 767) (by decide +kernel) rfl, uw (i := 768) (by decide +kernel) rfl⟩
theorem mvX9_spite : MVb yX9_spite cX9_spite 2 (some .int) 1 ∧ Cond.instanceMethod yX9_spite ∈ lw_u ∧ Cond.selects yX9_spite.cls yX9_spite yX9_spite ∈ lw_u := ⟨⟨uw (i := 773) (by decide +kernel) rfl, uiniX9, by decide +kernel⟩, uw (i := 771) (by decide +kernel) rfl, uw (i := 772) (by decide +kernel) rfl⟩
theorem mvX9_findSpite : MVb yX9_findSpite cX9_findSpite 5 none 0 ∧ Cond.instanceMethod yX9_findSpite ∈ lw_u ∧ Cond.selects yX9_findSpite.cls yX9_findSpite yX9_findSpite ∈ lw_u := ⟨⟨uw (i := 777) (by decide +kernel) rfl, uiniX9, by decide +kernel⟩, uw (i := 776) (by decide +kernel) rfl, uw (i := 32) (by decide +kernel) rfl⟩
theorem mvX5_empty : MVb yX5_empty cX5_empty 1 none 0 ∧ Cond.instanceMethod yX5_empty ∈ lw_u ∧ Cond.selects yX5_empty.cls yX5_empty yX5_empty ∈ lw_u := ⟨⟨uw (i := 781) (by decide +kernel) rfl, uiniX5, by decide +kernel⟩, uw (i := 779) (by decide +kernel) rfl, uw (i := 780) (by decide +kernel) rfl⟩
theorem mvX5_see : MVb yX5_see cX5_see 3 none 2 ∧ Cond.instanceMethod yX5_see ∈ lw_u ∧ Cond.selects yX5_see.cls yX5_see yX5_see ∈ lw_u := ⟨⟨uw (i := 785) (by decide +kernel) rfl, uiniX5, by decide +kernel⟩, uw (i := 783) (by decide +kernel) rfl, uw (i := 784) (by decide +kernel) rfl⟩
theorem mvX9_spiteful : MVb yX9_spiteful cX9_spiteful 2 (some .int) 1 ∧ Cond.instanceMethod yX9_spiteful ∈ lw_u ∧ Cond.selects yX9_spiteful.cls yX9_spiteful yX9_spiteful ∈ lw_u := ⟨⟨uw (i := 789) (by decide +kernel) rfl, uiniX9, by decide +kernel⟩, uw (i := 787) (by decide +kernel) rfl, uw (i := 788) (by decide +kernel) rfl⟩
theorem mvX8_placeAt : MVb yX8_placeAt cX8_placeAt 3 (some .int) 2 ∧ Cond.instanceMethod yX8_placeAt ∈ lw_u ∧ Cond.selects yX8_placeAt.cls yX8_placeAt yX8_placeAt ∈ lw_u := ⟨⟨uw (i := 793) (by decide +kernel) rfl, uiniX8, by decide +kernel⟩, uw (i := 791) (by decide +kernel) rfl, uw (i := 792) (by decide +kernel) rfl⟩
theorem mvX9_odds : MVb yX9_odds cX9_odds 8 (some .int) 2 ∧ Cond.instanceMethod yX9_odds ∈ lw_u ∧ Cond.selects yX9_odds.cls yX9_odds yX9_odds ∈ lw_u := ⟨⟨uw (i := 797) (by decide +kernel) rfl, uiniX9, by decide +kernel⟩, uw (i := 795) (by decide +kernel) rfl, uw (i := 796) (by decide +kernel) rfl⟩
theorem mvX9_chances : MVb yX9_chances cX9_chances 5 (some .int) 2 ∧ Cond.instanceMethod yX9_chances ∈ lw_u ∧ Cond.selects yX9_chances.cls yX9_chances yX9_chances ∈ lw_u := ⟨⟨uw (i := 801) (by decide +kernel) rfl, uiniX9, by decide +kernel⟩, uw (i := 800) (by decide +kernel) rfl, uw (i := 33) (by decide +kernel) rfl⟩
theorem mvX9_commonDivisor : MVb yX9_commonDivisor cX9_commonDivisor 6 (some .int) 2 ∧ Cond.static yX9_commonDivisor ∈ lw_u := ⟨⟨uw (i := 804) (by decide +kernel) rfl, uiniX9, by decide +kernel⟩, ustat_yX9_commonDivisor⟩
theorem mvX9_took : MVb yX9_took cX9_took 3 (some .int) 2 ∧ Cond.instanceMethod yX9_took ∈ lw_u ∧ Cond.selects yX9_took.cls yX9_took yX9_took ∈ lw_u := ⟨⟨uw (i := 808) (by decide +kernel) rfl, uiniX9, by decide +kernel⟩, uw (i := 806) (by decide +kernel) rfl, uw (i := 807) (by decide +kernel) rfl⟩
theorem mvX6_add : MVb yX6_add cX6_add 3 (some .boolean) 2 ∧ Cond.instanceMethod yX6_add ∈ lw_u ∧ Cond.selects yX6_add.cls yX6_add yX6_add ∈ lw_u := ⟨⟨uw (i := 812) (by decide +kernel) rfl, uiniX6, by decide +kernel⟩, uw (i := 810) (by decide +kernel) rfl, uw (i := 811) (by decide +kernel) rfl⟩
theorem mvX9_forget : MVb yX9_forget cX9_forget 1 (some .int) 0 ∧ Cond.instanceMethod yX9_forget ∈ lw_u ∧ Cond.selects yX9_forget.cls yX9_forget yX9_forget ∈ lw_u := ⟨⟨uw (i := 816) (by decide +kernel) rfl, uiniX9, by decide +kernel⟩, uw (i := 814) (by decide +kernel) rfl, uw (i := 815) (by decide +kernel) rfl⟩
theorem mvX9_can : MVb yX9_can cX9_can 2 (some .int) 1 ∧ Cond.instanceMethod yX9_can ∈ lw_u ∧ Cond.selects yX9_can.cls yX9_can yX9_can ∈ lw_u := ⟨⟨uw (i := 820) (by decide +kernel) rfl, uiniX9, by decide +kernel⟩, uw (i := 818) (by decide +kernel) rfl, uw (i := 819) (by decide +kernel) rfl⟩
theorem mvX6_guess : MVb yX6_guess cX6_guess 5 none 1 ∧ Cond.instanceMethod yX6_guess ∈ lw_u ∧ Cond.selects yX6_guess.cls yX6_guess yX6_guess ∈ lw_u := ⟨⟨uw (i := 824) (by decide +kernel) rfl, uiniX6, by decide +kernel⟩, uw (i := 822) (by decide +kernel) rfl, uw (i := 823) (by decide +kernel) rfl⟩
theorem mvX6_addFitting : MVb yX6_addFitting cX6_addFitting 3 none 1 ∧ Cond.instanceMethod yX6_addFitting ∈ lw_u ∧ Cond.selects yX6_addFitting.cls yX6_addFitting yX6_addFitting ∈ lw_u := ⟨⟨uw (i := 829) (by decide +kernel) rfl, uiniX6, by decide +kernel⟩, uw (i := 828) (by decide +kernel) rfl, uw (i := 34) (by decide +kernel) rfl⟩
theorem mvX9_look : MVb yX9_look cX9_look 6 (some .int) 0 ∧ Cond.instanceMethod yX9_look ∈ lw_u ∧ Cond.selects yX9_look.cls yX9_look yX9_look ∈ lw_u := ⟨⟨uw (i := 833) (by decide +kernel) rfl, uiniX9, by decide +kernel⟩, uw (i := 831) (by decide +kernel) rfl, uw (i := 832) (by decide +kernel) rfl⟩
theorem mvX9_rate : MVb yX9_rate cX9_rate 3 (some .int) 2 ∧ Cond.instanceMethod yX9_rate ∈ lw_u ∧ Cond.selects yX9_rate.cls yX9_rate yX9_rate ∈ lw_u := ⟨⟨uw (i := 838) (by decide +kernel) rfl, uiniX9, by decide +kernel⟩, uw (i := 836) (by decide +kernel) rfl, uw (i := 837) (by decide +kernel) rfl⟩
theorem mvX9_asLane : MVb yX9_asLane cX9_asLane 2 (some .int) 1 ∧ Cond.instanceMethod yX9_asLane ∈ lw_u ∧ Cond.selects yX9_asLane.cls yX9_asLane yX9_asLane ∈ lw_u := ⟨⟨uw (i := 843) (by decide +kernel) rfl, uiniX9, by decide +kernel⟩, uw (i := 842) (by decide +kernel) rfl, uw (i := 35) (by decide +kernel) rfl⟩
theorem mvX9_asBrook : MVb yX9_asBrook cX9_asBrook 2 (some .int) 1 ∧ Cond.instanceMethod yX9_asBrook ∈ lw_u ∧ Cond.selects yX9_asBrook.cls yX9_asBrook yX9_asBrook ∈ lw_u := ⟨⟨uw (i := 847) (by decide +kernel) rfl, uiniX9, by decide +kernel⟩, uw (i := 846) (by decide +kernel) rfl, uw (i := 36) (by decide +kernel) rfl⟩
theorem mvX9_asCart : MVb yX9_asCart cX9_asCart 2 (some .int) 1 ∧ Cond.instanceMethod yX9_asCart ∈ lw_u ∧ Cond.selects yX9_asCart.cls yX9_asCart yX9_asCart ∈ lw_u := ⟨⟨uw (i := 852) (by decide +kernel) rfl, uiniX9, by decide +kernel⟩, uw (i := 851) (by decide +kernel) rfl, uw (i := 37) (by decide +kernel) rfl⟩
theorem mvX9_asParlour : MVb yX9_asParlour cX9_asParlour 2 (some .int) 1 ∧ Cond.instanceMethod yX9_asParlour ∈ lw_u ∧ Cond.selects yX9_asParlour.cls yX9_asParlour yX9_asParlour ∈ lw_u := ⟨⟨uw (i := 857) (by decide +kernel) rfl, uiniX9, by decide +kernel⟩, uw (i := 856) (by decide +kernel) rfl, uw (i := 38) (by decide +kernel) rfl⟩
theorem mvX9_asHome : MVb yX9_asHome cX9_asHome 2 (some .int) 1 ∧ Cond.instanceMethod yX9_asHome ∈ lw_u ∧ Cond.selects yX9_asHome.cls yX9_asHome yX9_asHome ∈ lw_u := ⟨⟨uw (i := 862) (by decide +kernel) rfl, uiniX9, by decide +kernel⟩, uw (i := 861) (by decide +kernel) rfl, uw (i := 39) (by decide +kernel) rfl⟩
theorem mvX9_asSea : MVb yX9_asSea cX9_asSea 2 (some .int) 1 ∧ Cond.instanceMethod yX9_asSea ∈ lw_u ∧ Cond.selects yX9_asSea.cls yX9_asSea yX9_asSea ∈ lw_u := ⟨⟨uw (i := 867) (by decide +kernel) rfl, uiniX9, by decide +kernel⟩, uw (i := 866) (by decide +kernel) rfl, uw (i := 40) (by decide +kernel) rfl⟩
theorem mvX9_keep : MVb yX9_keep cX9_keep 2 (some .int) 1 ∧ Cond.instanceMethod yX9_keep ∈ lw_u ∧ Cond.selects yX9_keep.cls yX9_keep yX9_keep ∈ lw_u := ⟨⟨uw (i := 872) (by decide +kernel) rfl, uiniX9, by decide +kernel⟩, uw (i := 870) (by decide +kernel) rfl, uw (i := 871) (by decide +kernel) rfl⟩
theorem mvX9_back : MVb yX9_back cX9_back 2 (some .int) 1 ∧ Cond.instanceMethod yX9_back ∈ lw_u ∧ Cond.selects yX9_back.cls yX9_back yX9_back ∈ lw_u := ⟨⟨uw (i := 876) (by decide +kernel) rfl, uiniX9, by decide +kernel⟩, uw (i := 874) (by decide +kernel) rfl, uw (i := 875) (by decide +kernel) rfl⟩
theorem mvX9_count : MVb yX9_count cX9_count 2 (some .int) 1 ∧ Cond.instanceMethod yX9_count ∈ lw_u ∧ Cond.selects yX9_count.cls yX9_count yX9_count ∈ lw_u := ⟨⟨uw (i := 880) (by decide +kernel) rfl, uiniX9, by decide +kernel⟩, uw (i := 878) (by decide +kernel) rfl, uw (i := 879) (by decide +kernel) rfl⟩
theorem mvX9_trace : MVb yX9_trace cX9_trace 1 (some .long) 0 ∧ Cond.instanceMethod yX9_trace ∈ lw_u ∧ Cond.selects yX9_trace.cls yX9_trace yX9_trace ∈ lw_u := ⟨⟨uw (i := 884) (by decide +kernel) rfl, uiniX9, by decide +kernel⟩, uw (i := 882) (by decide +kernel) rfl, uw (i := 883) (by decide +kernel) rfl⟩
theorem mvX10_begins : MVb yX10_begins cX10_begins 2 none 0 ∧ Cond.instanceMethod yX10_begins ∈ lw_u ∧ Cond.selects yX10_begins.cls yX10_begins yX10_begins ∈ lw_u := ⟨⟨uw (i := 894) (by decide +kernel) rfl, uiniX10, by decide +kernel⟩, uw (i := 893) (by decide +kernel) rfl, uw (i := 41) (by decide +kernel) rfl⟩
theorem mvX10_settles : MVb yX10_settles cX10_settles 2 none 0 ∧ Cond.instanceMethod yX10_settles ∈ lw_u ∧ Cond.selects yX10_settles.cls yX10_settles yX10_settles ∈ lw_u := ⟨⟨uw (i := 898) (by decide +kernel) rfl, uiniX10, by decide +kernel⟩, uw (i := 897) (by decide +kernel) rfl, uw (i := 42) (by decide +kernel) rfl⟩
theorem mvX10_endsOf : MVb yX10_endsOf cX10_endsOf 10 (some .int) 1 ∧ Cond.instanceMethod yX10_endsOf ∈ lw_u ∧ Cond.selects yX10_endsOf.cls yX10_endsOf yX10_endsOf ∈ lw_u := ⟨⟨uw (i := 902) (by decide +kernel) rfl, uiniX10, by decide +kernel⟩, uw (i := 901) (by decide +kernel) rfl, uw (i := 43) (by decide +kernel) rfl⟩
theorem mvX10_type : MVb yX10_type cX10_type 2 (some .int) 1 ∧ Cond.instanceMethod yX10_type ∈ lw_u ∧ Cond.selects yX10_type.cls yX10_type yX10_type ∈ lw_u := ⟨⟨uw (i := 1013) (by decide +kernel) rfl, uiniX10, by decide +kernel⟩, uw (i := 1011) (by decide +kernel) rfl, uw (i := 1012) (by decide +kernel) rfl⟩
theorem mvX10_in : MVb yX10_in cX10_in 3 (some .boolean) 3 ∧ Cond.static yX10_in ∈ lw_u := ⟨⟨uw (i := 1016) (by decide +kernel) rfl, uiniX10, by decide +kernel⟩, ustat_yX10_in⟩
theorem mvX10_clear : MVb yX10_clear cX10_clear 2 (some .int) 0 ∧ Cond.instanceMethod yX10_clear ∈ lw_u ∧ Cond.selects yX10_clear.cls yX10_clear yX10_clear ∈ lw_u := ⟨⟨uw (i := 1020) (by decide +kernel) rfl, uiniX10, by decide +kernel⟩, uw (i := 1018) (by decide +kernel) rfl, uw (i := 1019) (by decide +kernel) rfl⟩
theorem mvX10_land : MVb yX10_land cX10_land 4 (some .int) 0 ∧ Cond.instanceMethod yX10_land ∈ lw_u ∧ Cond.selects yX10_land.cls yX10_land yX10_land ∈ lw_u := ⟨⟨uw (i := 1024) (by decide +kernel) rfl, uiniX10, by decide +kernel⟩, uw (i := 1022) (by decide +kernel) rfl, uw (i := 1023) (by decide +kernel) rfl⟩
theorem mvX10_advances : MVb yX10_advances cX10_advances 2 none 0 ∧ Cond.instanceMethod yX10_advances ∈ lw_u ∧ Cond.selects yX10_advances.cls yX10_advances yX10_advances ∈ lw_u := ⟨⟨uw (i := 1028) (by decide +kernel) rfl, uiniX10, by decide +kernel⟩, uw (i := 1027) (by decide +kernel) rfl, uw (i := 44) (by decide +kernel) rfl⟩
theorem mvX10_letterAt : MVb yX10_letterAt cX10_letterAt 2 (some .int) 1 ∧ Cond.instanceMethod yX10_letterAt ∈ lw_u ∧ Cond.selects yX10_letterAt.cls yX10_letterAt yX10_letterAt ∈ lw_u := ⟨⟨uw (i := 1032) (by decide +kernel) rfl, uiniX10, by decide +kernel⟩, uw (i := 1031) (by decide +kernel) rfl, uw (i := 45) (by decide +kernel) rfl⟩
theorem mvX10_isWell : MVb yX10_isWell cX10_isWell 1 (some .boolean) 0 ∧ Cond.instanceMethod yX10_isWell ∈ lw_u ∧ Cond.selects yX10_isWell.cls yX10_isWell yX10_isWell ∈ lw_u := ⟨⟨uw (i := 1036) (by decide +kernel) rfl, uiniX10, by decide +kernel⟩, uw (i := 1035) (by decide +kernel) rfl, uw (i := 46) (by decide +kernel) rfl⟩
theorem mvX10_takes : MVb yX10_takes cX10_takes 3 (some .int) 1 ∧ Cond.instanceMethod yX10_takes ∈ lw_u ∧ Cond.selects yX10_takes.cls yX10_takes yX10_takes ∈ lw_u := ⟨⟨uw (i := 1040) (by decide +kernel) rfl, uiniX10, by decide +kernel⟩, uw (i := 1039) (by decide +kernel) rfl, uw (i := 47) (by decide +kernel) rfl⟩
theorem mvX10_readsItem : MVb yX10_readsItem cX10_readsItem 2 none 1 ∧ Cond.instanceMethod yX10_readsItem ∈ lw_u ∧ Cond.selects yX10_readsItem.cls yX10_readsItem yX10_readsItem ∈ lw_u := ⟨⟨uw (i := 1044) (by decide +kernel) rfl, uiniX10, by decide +kernel⟩, uw (i := 1043) (by decide +kernel) rfl, uw (i := 48) (by decide +kernel) rfl⟩
theorem mvX10_number : MVb yX10_number cX10_number 3 (some .int) 2 ∧ Cond.instanceMethod yX10_number ∈ lw_u ∧ Cond.selects yX10_number.cls yX10_number yX10_number ∈ lw_u := ⟨⟨uw (i := 1048) (by decide +kernel) rfl, uiniX10, by decide +kernel⟩, uw (i := 1047) (by decide +kernel) rfl, uw (i := 49) (by decide +kernel) rfl⟩
theorem mvX10_readsLane : MVb yX10_readsLane cX10_readsLane 5 none 0 ∧ Cond.instanceMethod yX10_readsLane ∈ lw_u ∧ Cond.selects yX10_readsLane.cls yX10_readsLane yX10_readsLane ∈ lw_u := ⟨⟨uw (i := 1052) (by decide +kernel) rfl, uiniX10, by decide +kernel⟩, uw (i := 1051) (by decide +kernel) rfl, uw (i := 50) (by decide +kernel) rfl⟩
theorem mvX10_laneOf : MVb yX10_laneOf cX10_laneOf 8 (some .int) 4 ∧ Cond.instanceMethod yX10_laneOf ∈ lw_u ∧ Cond.selects yX10_laneOf.cls yX10_laneOf yX10_laneOf ∈ lw_u := ⟨⟨uw (i := 1056) (by decide +kernel) rfl, uiniX10, by decide +kernel⟩, uw (i := 1055) (by decide +kernel) rfl, uw (i := 51) (by decide +kernel) rfl⟩
theorem mvX10_readsMap : MVb yX10_readsMap cX10_readsMap 5 none 0 ∧ Cond.instanceMethod yX10_readsMap ∈ lw_u ∧ Cond.selects yX10_readsMap.cls yX10_readsMap yX10_readsMap ∈ lw_u := ⟨⟨uw (i := 1060) (by decide +kernel) rfl, uiniX10, by decide +kernel⟩, uw (i := 1059) (by decide +kernel) rfl, uw (i := 52) (by decide +kernel) rfl⟩
theorem mvX10_canBeNext : MVb yX10_canBeNext cX10_canBeNext 9 (some .boolean) 6 ∧ Cond.instanceMethod yX10_canBeNext ∈ lw_u ∧ Cond.selects yX10_canBeNext.cls yX10_canBeNext yX10_canBeNext ∈ lw_u := ⟨⟨uw (i := 1064) (by decide +kernel) rfl, uiniX10, by decide +kernel⟩, uw (i := 1063) (by decide +kernel) rfl, uw (i := 53) (by decide +kernel) rfl⟩
theorem mvX10_lane : MVb yX10_lane cX10_lane 3 (some .int) 2 ∧ Cond.instanceMethod yX10_lane ∈ lw_u ∧ Cond.selects yX10_lane.cls yX10_lane yX10_lane ∈ lw_u := ⟨⟨uw (i := 1068) (by decide +kernel) rfl, uiniX10, by decide +kernel⟩, uw (i := 1066) (by decide +kernel) rfl, uw (i := 1067) (by decide +kernel) rfl⟩
theorem mvX10_isLane : MVb yX10_isLane cX10_isLane 2 (some .boolean) 1 ∧ Cond.instanceMethod yX10_isLane ∈ lw_u ∧ Cond.selects yX10_isLane.cls yX10_isLane yX10_isLane ∈ lw_u := ⟨⟨uw (i := 1072) (by decide +kernel) rfl, uiniX10, by decide +kernel⟩, uw (i := 1071) (by decide +kernel) rfl, uw (i := 54) (by decide +kernel) rfl⟩
theorem mvX10_mapsBy : MVb yX10_mapsBy cX10_mapsBy 4 (some .int) 1 ∧ Cond.instanceMethod yX10_mapsBy ∈ lw_u ∧ Cond.selects yX10_mapsBy.cls yX10_mapsBy yX10_mapsBy ∈ lw_u := ⟨⟨uw (i := 1076) (by decide +kernel) rfl, uiniX10, by decide +kernel⟩, uw (i := 1075) (by decide +kernel) rfl, uw (i := 55) (by decide +kernel) rfl⟩
theorem mvX10_mapLanes : MVb yX10_mapLanes cX10_mapLanes 2 (some .int) 1 ∧ Cond.instanceMethod yX10_mapLanes ∈ lw_u ∧ Cond.selects yX10_mapLanes.cls yX10_mapLanes yX10_mapLanes ∈ lw_u := ⟨⟨uw (i := 1080) (by decide +kernel) rfl, uiniX10, by decide +kernel⟩, uw (i := 1079) (by decide +kernel) rfl, uw (i := 56) (by decide +kernel) rfl⟩
theorem mvX10_lanesOf : MVb yX10_lanesOf cX10_lanesOf 5 (some .int) 2 ∧ Cond.instanceMethod yX10_lanesOf ∈ lw_u ∧ Cond.selects yX10_lanesOf.cls yX10_lanesOf yX10_lanesOf ∈ lw_u := ⟨⟨uw (i := 1084) (by decide +kernel) rfl, uiniX10, by decide +kernel⟩, uw (i := 1083) (by decide +kernel) rfl, uw (i := 57) (by decide +kernel) rfl⟩
theorem mvX10_map : MVb yX10_map cX10_map 3 (some .int) 2 ∧ Cond.instanceMethod yX10_map ∈ lw_u ∧ Cond.selects yX10_map.cls yX10_map yX10_map ∈ lw_u := ⟨⟨uw (i := 1088) (by decide +kernel) rfl, uiniX10, by decide +kernel⟩, uw (i := 1086) (by decide +kernel) rfl, uw (i := 1087) (by decide +kernel) rfl⟩
theorem mvX10_isMap : MVb yX10_isMap cX10_isMap 2 (some .boolean) 1 ∧ Cond.instanceMethod yX10_isMap ∈ lw_u ∧ Cond.selects yX10_isMap.cls yX10_isMap yX10_isMap ∈ lw_u := ⟨⟨uw (i := 1092) (by decide +kernel) rfl, uiniX10, by decide +kernel⟩, uw (i := 1091) (by decide +kernel) rfl, uw (i := 58) (by decide +kernel) rfl⟩
theorem mvX10_measures : MVb yX10_measures cX10_measures 4 none 1 ∧ Cond.instanceMethod yX10_measures ∈ lw_u ∧ Cond.selects yX10_measures.cls yX10_measures yX10_measures ∈ lw_u := ⟨⟨uw (i := 1096) (by decide +kernel) rfl, uiniX10, by decide +kernel⟩, uw (i := 1095) (by decide +kernel) rfl, uw (i := 59) (by decide +kernel) rfl⟩
theorem mvX10_holds : MVb yX10_holds cX10_holds 2 (some .boolean) 1 ∧ Cond.instanceMethod yX10_holds ∈ lw_u ∧ Cond.selects yX10_holds.cls yX10_holds yX10_holds ∈ lw_u := ⟨⟨uw (i := 1101) (by decide +kernel) rfl, uiniX10, by decide +kernel⟩, uw (i := 1100) (by decide +kernel) rfl, uw (i := 60) (by decide +kernel) rfl⟩
theorem mvX10_place : MVb yX10_place cX10_place 3 (some .int) 2 ∧ Cond.instanceMethod yX10_place ∈ lw_u ∧ Cond.selects yX10_place.cls yX10_place yX10_place ∈ lw_u := ⟨⟨uw (i := 1105) (by decide +kernel) rfl, uiniX10, by decide +kernel⟩, uw (i := 1103) (by decide +kernel) rfl, uw (i := 1104) (by decide +kernel) rfl⟩
theorem mvX10_now : MVb yX10_now cX10_now 4 (some .int) 1 ∧ Cond.instanceMethod yX10_now ∈ lw_u ∧ Cond.selects yX10_now.cls yX10_now yX10_now ∈ lw_u := ⟨⟨uw (i := 1109) (by decide +kernel) rfl, uiniX10, by decide +kernel⟩, uw (i := 1107) (by decide +kernel) rfl, uw (i := 1108) (by decide +kernel) rfl⟩
theorem mvX10_names : MVb yX10_names cX10_names 2 (some .int) 1 ∧ Cond.instanceMethod yX10_names ∈ lw_u ∧ Cond.selects yX10_names.cls yX10_names yX10_names ∈ lw_u := ⟨⟨uw (i := 1113) (by decide +kernel) rfl, uiniX10, by decide +kernel⟩, uw (i := 1111) (by decide +kernel) rfl, uw (i := 1112) (by decide +kernel) rfl⟩
theorem mvX10_isPlace : MVb yX10_isPlace cX10_isPlace 2 (some .boolean) 1 ∧ Cond.instanceMethod yX10_isPlace ∈ lw_u ∧ Cond.selects yX10_isPlace.cls yX10_isPlace yX10_isPlace ∈ lw_u := ⟨⟨uw (i := 1117) (by decide +kernel) rfl, uiniX10, by decide +kernel⟩, uw (i := 1116) (by decide +kernel) rfl, uw (i := 61) (by decide +kernel) rfl⟩
theorem mvX10_notes : MVb yX10_notes cX10_notes 2 none 0 ∧ Cond.instanceMethod yX10_notes ∈ lw_u ∧ Cond.selects yX10_notes.cls yX10_notes yX10_notes ∈ lw_u := ⟨⟨uw (i := 1121) (by decide +kernel) rfl, uiniX10, by decide +kernel⟩, uw (i := 1120) (by decide +kernel) rfl, uw (i := 62) (by decide +kernel) rfl⟩
theorem mvX10_asks : MVb yX10_asks cX10_asks 4 (some .int) 0 ∧ Cond.instanceMethod yX10_asks ∈ lw_u ∧ Cond.selects yX10_asks.cls yX10_asks yX10_asks ∈ lw_u := ⟨⟨uw (i := 1125) (by decide +kernel) rfl, uiniX10, by decide +kernel⟩, uw (i := 1123) (by decide +kernel) rfl, uw (i := 1124) (by decide +kernel) rfl⟩
theorem mvX10_draftLanes : MVb yX10_draftLanes cX10_draftLanes 1 (some .int) 0 ∧ Cond.instanceMethod yX10_draftLanes ∈ lw_u ∧ Cond.selects yX10_draftLanes.cls yX10_draftLanes yX10_draftLanes ∈ lw_u := ⟨⟨uw (i := 1129) (by decide +kernel) rfl, uiniX10, by decide +kernel⟩, uw (i := 1128) (by decide +kernel) rfl, uw (i := 63) (by decide +kernel) rfl⟩
theorem mvX10_scans : MVb yX10_scans cX10_scans 3 none 1 ∧ Cond.instanceMethod yX10_scans ∈ lw_u ∧ Cond.selects yX10_scans.cls yX10_scans yX10_scans ∈ lw_u := ⟨⟨uw (i := 1133) (by decide +kernel) rfl, uiniX10, by decide +kernel⟩, uw (i := 1132) (by decide +kernel) rfl, uw (i := 64) (by decide +kernel) rfl⟩
theorem mvX10_scansOne : MVb yX10_scansOne cX10_scansOne 4 none 0 ∧ Cond.instanceMethod yX10_scansOne ∈ lw_u ∧ Cond.selects yX10_scansOne.cls yX10_scansOne yX10_scansOne ∈ lw_u := ⟨⟨uw (i := 1137) (by decide +kernel) rfl, uiniX10, by decide +kernel⟩, uw (i := 1136) (by decide +kernel) rfl, uw (i := 65) (by decide +kernel) rfl⟩
theorem mvX10_apart : MVb yX10_apart cX10_apart 2 (some .int) 2 ∧ Cond.static yX10_apart ∈ lw_u := ⟨⟨uw (i := 1140) (by decide +kernel) rfl, uiniX10, by decide +kernel⟩, ustat_yX10_apart⟩
theorem mvX10_allMaps : MVb yX10_allMaps cX10_allMaps 1 (some .int) 0 ∧ Cond.instanceMethod yX10_allMaps ∈ lw_u ∧ Cond.selects yX10_allMaps.cls yX10_allMaps yX10_allMaps ∈ lw_u := ⟨⟨uw (i := 1144) (by decide +kernel) rfl, uiniX10, by decide +kernel⟩, uw (i := 1143) (by decide +kernel) rfl, uw (i := 66) (by decide +kernel) rfl⟩
theorem mvX10_steps : MVb yX10_steps cX10_steps 2 (some .boolean) 0 ∧ Cond.instanceMethod yX10_steps ∈ lw_u ∧ Cond.selects yX10_steps.cls yX10_steps yX10_steps ∈ lw_u := ⟨⟨uw (i := 1148) (by decide +kernel) rfl, uiniX10, by decide +kernel⟩, uw (i := 1147) (by decide +kernel) rfl, uw (i := 67) (by decide +kernel) rfl⟩
theorem mvX10_costOf : MVb yX10_costOf cX10_costOf 4 (some .int) 1 ∧ Cond.instanceMethod yX10_costOf ∈ lw_u ∧ Cond.selects yX10_costOf.cls yX10_costOf yX10_costOf ∈ lw_u := ⟨⟨uw (i := 1152) (by decide +kernel) rfl, uiniX10, by decide +kernel⟩, uw (i := 1151) (by decide +kernel) rfl, uw (i := 68) (by decide +kernel) rfl⟩
theorem mvX10_digsFor : MVb yX10_digsFor cX10_digsFor 2 none 1 ∧ Cond.instanceMethod yX10_digsFor ∈ lw_u ∧ Cond.selects yX10_digsFor.cls yX10_digsFor yX10_digsFor ∈ lw_u := ⟨⟨uw (i := 1156) (by decide +kernel) rfl, uiniX10, by decide +kernel⟩, uw (i := 1155) (by decide +kernel) rfl, uw (i := 69) (by decide +kernel) rfl⟩
theorem mvX10_digs : MVb yX10_digs cX10_digs 4 (some .int) 2 ∧ Cond.instanceMethod yX10_digs ∈ lw_u ∧ Cond.selects yX10_digs.cls yX10_digs yX10_digs ∈ lw_u := ⟨⟨uw (i := 1161) (by decide +kernel) rfl, uiniX10, by decide +kernel⟩, uw (i := 1159) (by decide +kernel) rfl, uw (i := 1160) (by decide +kernel) rfl⟩
theorem mvX10_burns : MVb yX10_burns cX10_burns 4 (some .int) 1 ∧ Cond.instanceMethod yX10_burns ∈ lw_u ∧ Cond.selects yX10_burns.cls yX10_burns yX10_burns ∈ lw_u := ⟨⟨uw (i := 1165) (by decide +kernel) rfl, uiniX10, by decide +kernel⟩, uw (i := 1163) (by decide +kernel) rfl, uw (i := 1164) (by decide +kernel) rfl⟩
theorem mvX10_wipes : MVb yX10_wipes cX10_wipes 2 (some .int) 0 ∧ Cond.instanceMethod yX10_wipes ∈ lw_u ∧ Cond.selects yX10_wipes.cls yX10_wipes yX10_wipes ∈ lw_u := ⟨⟨uw (i := 1169) (by decide +kernel) rfl, uiniX10, by decide +kernel⟩, uw (i := 1167) (by decide +kernel) rfl, uw (i := 1168) (by decide +kernel) rfl⟩
theorem mvX10_undo : MVb yX10_undo cX10_undo 2 (some .int) 0 ∧ Cond.instanceMethod yX10_undo ∈ lw_u ∧ Cond.selects yX10_undo.cls yX10_undo yX10_undo ∈ lw_u := ⟨⟨uw (i := 1173) (by decide +kernel) rfl, uiniX10, by decide +kernel⟩, uw (i := 1171) (by decide +kernel) rfl, uw (i := 1172) (by decide +kernel) rfl⟩
theorem mvX10_far : MVb yX10_far cX10_far 3 (some .int) 2 ∧ Cond.instanceMethod yX10_far ∈ lw_u ∧ Cond.selects yX10_far.cls yX10_far yX10_far ∈ lw_u := ⟨⟨uw (i := 1177) (by decide +kernel) rfl, uiniX10, by decide +kernel⟩, uw (i := 1175) (by decide +kernel) rfl, uw (i := 1176) (by decide +kernel) rfl⟩
theorem mvX10_endsBetween : MVb yX10_endsBetween cX10_endsBetween 2 (some .int) 2 ∧ Cond.static yX10_endsBetween ∈ lw_u := ⟨⟨uw (i := 1180) (by decide +kernel) rfl, uiniX10, by decide +kernel⟩, ustat_yX10_endsBetween⟩
theorem mvX10_by : MVb yX10_by cX10_by 5 (some .int) 2 ∧ Cond.instanceMethod yX10_by ∈ lw_u ∧ Cond.selects yX10_by.cls yX10_by yX10_by ∈ lw_u := ⟨⟨uw (i := 1184) (by decide +kernel) rfl, uiniX10, by decide +kernel⟩, uw (i := 1182) (by decide +kernel) rfl, uw (i := 1183) (by decide +kernel) rfl⟩
theorem mvX10_knot : MVb yX10_knot cX10_knot 4 (some .int) 1 ∧ Cond.instanceMethod yX10_knot ∈ lw_u ∧ Cond.selects yX10_knot.cls yX10_knot yX10_knot ∈ lw_u := ⟨⟨uw (i := 1188) (by decide +kernel) rfl, uiniX10, by decide +kernel⟩, uw (i := 1186) (by decide +kernel) rfl, uw (i := 1187) (by decide +kernel) rfl⟩
theorem mvX10_asking : MVb yX10_asking cX10_asking 3 (some .int) 1 ∧ Cond.instanceMethod yX10_asking ∈ lw_u ∧ Cond.selects yX10_asking.cls yX10_asking yX10_asking ∈ lw_u := ⟨⟨uw (i := 1192) (by decide +kernel) rfl, uiniX10, by decide +kernel⟩, uw (i := 1190) (by decide +kernel) rfl, uw (i := 1191) (by decide +kernel) rfl⟩
theorem mvX10_clash : MVb yX10_clash cX10_clash 4 (some .int) 0 ∧ Cond.instanceMethod yX10_clash ∈ lw_u ∧ Cond.selects yX10_clash.cls yX10_clash yX10_clash ∈ lw_u := ⟨⟨uw (i := 1196) (by decide +kernel) rfl, uiniX10, by decide +kernel⟩, uw (i := 1194) (by decide +kernel) rfl, uw (i := 1195) (by decide +kernel) rfl⟩
theorem mvX10_ones : MVb yX10_ones cX10_ones 3 (some .int) 1 ∧ Cond.static yX10_ones ∈ lw_u := ⟨⟨uw (i := 1199) (by decide +kernel) rfl, uiniX10, by decide +kernel⟩, ustat_yX10_ones⟩
theorem mvX10_fire : MVb yX10_fire cX10_fire 4 (some .int) 1 ∧ Cond.instanceMethod yX10_fire ∈ lw_u ∧ Cond.selects yX10_fire.cls yX10_fire yX10_fire ∈ lw_u := ⟨⟨uw (i := 1203) (by decide +kernel) rfl, uiniX10, by decide +kernel⟩, uw (i := 1201) (by decide +kernel) rfl, uw (i := 1202) (by decide +kernel) rfl⟩
theorem mvX10_spite : MVb yX10_spite cX10_spite 6 (some .int) 1 ∧ Cond.instanceMethod yX10_spite ∈ lw_u ∧ Cond.selects yX10_spite.cls yX10_spite yX10_spite ∈ lw_u := ⟨⟨uw (i := 1207) (by decide +kernel) rfl, uiniX10, by decide +kernel⟩, uw (i := 1205) (by decide +kernel) rfl, uw (i := 1206) (by decide +kernel) rfl⟩
theorem mvX10_spiteSet : MVb yX10_spiteSet cX10_spiteSet 7 (some .int) 0 ∧ Cond.instanceMethod yX10_spiteSet ∈ lw_u ∧ Cond.selects yX10_spiteSet.cls yX10_spiteSet yX10_spiteSet ∈ lw_u := ⟨⟨uw (i := 1211) (by decide +kernel) rfl, uiniX10, by decide +kernel⟩, uw (i := 1210) (by decide +kernel) rfl, uw (i := 70) (by decide +kernel) rfl⟩
theorem mvX10_reads : MVb yX10_reads cX10_reads 6 (some .int) 1 ∧ Cond.instanceMethod yX10_reads ∈ lw_u ∧ Cond.selects yX10_reads.cls yX10_reads yX10_reads ∈ lw_u := ⟨⟨uw (i := 1215) (by decide +kernel) rfl, uiniX10, by decide +kernel⟩, uw (i := 1214) (by decide +kernel) rfl, uw (i := 71) (by decide +kernel) rfl⟩
theorem mvX10_isAhead : MVb yX10_isAhead cX10_isAhead 4 (some .boolean) 2 ∧ Cond.instanceMethod yX10_isAhead ∈ lw_u ∧ Cond.selects yX10_isAhead.cls yX10_isAhead yX10_isAhead ∈ lw_u := ⟨⟨uw (i := 1219) (by decide +kernel) rfl, uiniX10, by decide +kernel⟩, uw (i := 1218) (by decide +kernel) rfl, uw (i := 72) (by decide +kernel) rfl⟩
theorem mvX10_spiteful : MVb yX10_spiteful cX10_spiteful 2 (some .int) 1 ∧ Cond.instanceMethod yX10_spiteful ∈ lw_u ∧ Cond.selects yX10_spiteful.cls yX10_spiteful yX10_spiteful ∈ lw_u := ⟨⟨uw (i := 1223) (by decide +kernel) rfl, uiniX10, by decide +kernel⟩, uw (i := 1221) (by decide +kernel) rfl, uw (i := 1222) (by decide +kernel) rfl⟩
theorem mvX10_odds : MVb yX10_odds cX10_odds 8 (some .int) 2 ∧ Cond.instanceMethod yX10_odds ∈ lw_u ∧ Cond.selects yX10_odds.cls yX10_odds yX10_odds ∈ lw_u := ⟨⟨uw (i := 1227) (by decide +kernel) rfl, uiniX10, by decide +kernel⟩, uw (i := 1225) (by decide +kernel) rfl, uw (i := 1226) (by decide +kernel) rfl⟩
theorem mvX10_gcd : MVb yX10_gcd cX10_gcd 5 (some .int) 2 ∧ Cond.static yX10_gcd ∈ lw_u := ⟨⟨uw (i := 1230) (by decide +kernel) rfl, uiniX10, by decide +kernel⟩, ustat_yX10_gcd⟩
theorem mvX10_took : MVb yX10_took cX10_took 3 (some .int) 2 ∧ Cond.instanceMethod yX10_took ∈ lw_u ∧ Cond.selects yX10_took.cls yX10_took yX10_took ∈ lw_u := ⟨⟨uw (i := 1234) (by decide +kernel) rfl, uiniX10, by decide +kernel⟩, uw (i := 1232) (by decide +kernel) rfl, uw (i := 1233) (by decide +kernel) rfl⟩
theorem mvX10_forget : MVb yX10_forget cX10_forget 2 (some .int) 0 ∧ Cond.instanceMethod yX10_forget ∈ lw_u ∧ Cond.selects yX10_forget.cls yX10_forget yX10_forget ∈ lw_u := ⟨⟨uw (i := 1238) (by decide +kernel) rfl, uiniX10, by decide +kernel⟩, uw (i := 1236) (by decide +kernel) rfl, uw (i := 1237) (by decide +kernel) rfl⟩
theorem mvX10_can : MVb yX10_can cX10_can 6 (some .int) 1 ∧ Cond.instanceMethod yX10_can ∈ lw_u ∧ Cond.selects yX10_can.cls yX10_can yX10_can ∈ lw_u := ⟨⟨uw (i := 1242) (by decide +kernel) rfl, uiniX10, by decide +kernel⟩, uw (i := 1240) (by decide +kernel) rfl, uw (i := 1241) (by decide +kernel) rfl⟩
theorem mvX10_mayBe : MVb yX10_mayBe cX10_mayBe 4 (some .boolean) 1 ∧ Cond.instanceMethod yX10_mayBe ∈ lw_u ∧ Cond.selects yX10_mayBe.cls yX10_mayBe yX10_mayBe ∈ lw_u := ⟨⟨uw (i := 1246) (by decide +kernel) rfl, uiniX10, by decide +kernel⟩, uw (i := 1245) (by decide +kernel) rfl, uw (i := 73) (by decide +kernel) rfl⟩
theorem mvX10_look : MVb yX10_look cX10_look 7 (some .int) 0 ∧ Cond.instanceMethod yX10_look ∈ lw_u ∧ Cond.selects yX10_look.cls yX10_look yX10_look ∈ lw_u := ⟨⟨uw (i := 1250) (by decide +kernel) rfl, uiniX10, by decide +kernel⟩, uw (i := 1248) (by decide +kernel) rfl, uw (i := 1249) (by decide +kernel) rfl⟩
theorem mvX10_rate : MVb yX10_rate cX10_rate 6 (some .int) 2 ∧ Cond.instanceMethod yX10_rate ∈ lw_u ∧ Cond.selects yX10_rate.cls yX10_rate yX10_rate ∈ lw_u := ⟨⟨uw (i := 1254) (by decide +kernel) rfl, uiniX10, by decide +kernel⟩, uw (i := 1252) (by decide +kernel) rfl, uw (i := 1253) (by decide +kernel) rfl⟩
theorem mvX10_keep : MVb yX10_keep cX10_keep 3 (some .int) 1 ∧ Cond.instanceMethod yX10_keep ∈ lw_u ∧ Cond.selects yX10_keep.cls yX10_keep yX10_keep ∈ lw_u := ⟨⟨uw (i := 1264) (by decide +kernel) rfl, uiniX10, by decide +kernel⟩, uw (i := 1262) (by decide +kernel) rfl, uw (i := 1263) (by decide +kernel) rfl⟩
theorem mvX10_back : MVb yX10_back cX10_back 3 (some .int) 1 ∧ Cond.instanceMethod yX10_back ∈ lw_u ∧ Cond.selects yX10_back.cls yX10_back yX10_back ∈ lw_u := ⟨⟨uw (i := 1268) (by decide +kernel) rfl, uiniX10, by decide +kernel⟩, uw (i := 1266) (by decide +kernel) rfl, uw (i := 1267) (by decide +kernel) rfl⟩
theorem mvX10_count : MVb yX10_count cX10_count 2 (some .int) 1 ∧ Cond.instanceMethod yX10_count ∈ lw_u ∧ Cond.selects yX10_count.cls yX10_count yX10_count ∈ lw_u := ⟨⟨uw (i := 1272) (by decide +kernel) rfl, uiniX10, by decide +kernel⟩, uw (i := 1270) (by decide +kernel) rfl, uw (i := 1271) (by decide +kernel) rfl⟩
theorem mvX10_trace : MVb yX10_trace cX10_trace 1 (some .long) 0 ∧ Cond.instanceMethod yX10_trace ∈ lw_u ∧ Cond.selects yX10_trace.cls yX10_trace yX10_trace ∈ lw_u := ⟨⟨uw (i := 1276) (by decide +kernel) rfl, uiniX10, by decide +kernel⟩, uw (i := 1274) (by decide +kernel) rfl, uw (i := 1275) (by decide +kernel) rfl⟩
end
