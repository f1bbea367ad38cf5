-- ===== PART A: goes FIRST, ahead of the names: the tables' words, and 'selects' of the private methods out of them =====
/-- a private method of a class that the tables say can be made, by its rows of tables_1 -/
def lw_okq (q : MethodName × Nat) : Prop := (q.1.cls ≠ "java/lang/invoke/MethodHandle" ∧ q.1.cls ≠ "java/lang/invoke/VarHandle") ∧ Cond.instantiable q.1.cls q.2 ∈ tables_1 ∧ Cond.privateMethod q.1 ∈ tables_1 ∧ Cond.instanceMethod q.1 ∈ tables_1
theorem lw_p0 : lw_okq (⟨"CanDepths$Page", "fitting", "(I)I"⟩, 2) := ⟨⟨by decide +kernel, by decide +kernel⟩, List.mem_of_getElem? (i := 19) (by decide +kernel), List.mem_of_getElem? (i := 170) (by decide +kernel), List.mem_of_getElem? (i := 171) (by decide +kernel)⟩
theorem lw_p1 : lw_okq (⟨"CanDepths", "isCrowded", "()Z"⟩, 9) := ⟨⟨by decide +kernel, by decide +kernel⟩, List.mem_of_getElem? (i := 11) (by decide +kernel), List.mem_of_getElem? (i := 195) (by decide +kernel), List.mem_of_getElem? (i := 196) (by decide +kernel)⟩
theorem lw_p2 : lw_okq (⟨"CanDepths$Head", "resize", "(I)V"⟩, 2) := ⟨⟨by decide +kernel, by decide +kernel⟩, List.mem_of_getElem? (i := 93) (by decide +kernel), List.mem_of_getElem? (i := 203) (by decide +kernel), List.mem_of_getElem? (i := 204) (by decide +kernel)⟩
theorem lw_p3 : lw_okq (⟨"CanDepths", "isKnown", "(I)Z"⟩, 9) := ⟨⟨by decide +kernel, by decide +kernel⟩, List.mem_of_getElem? (i := 11) (by decide +kernel), List.mem_of_getElem? (i := 218) (by decide +kernel), List.mem_of_getElem? (i := 219) (by decide +kernel)⟩
theorem lw_p4 : lw_okq (⟨"CanDepths$Head", "turnedAt", "(III)I"⟩, 2) := ⟨⟨by decide +kernel, by decide +kernel⟩, List.mem_of_getElem? (i := 93) (by decide +kernel), List.mem_of_getElem? (i := 235) (by decide +kernel), List.mem_of_getElem? (i := 236) (by decide +kernel)⟩
theorem lw_p5 : lw_okq (⟨"CanDepths$Head", "put", "(III)V"⟩, 2) := ⟨⟨by decide +kernel, by decide +kernel⟩, List.mem_of_getElem? (i := 93) (by decide +kernel), List.mem_of_getElem? (i := 244) (by decide +kernel), List.mem_of_getElem? (i := 245) (by decide +kernel)⟩
theorem lw_p6 : lw_okq (⟨"CanDepths$Head", "greatest", "()I"⟩, 2) := ⟨⟨by decide +kernel, by decide +kernel⟩, List.mem_of_getElem? (i := 93) (by decide +kernel), List.mem_of_getElem? (i := 269) (by decide +kernel), List.mem_of_getElem? (i := 270) (by decide +kernel)⟩
theorem lw_p7 : lw_okq (⟨"CanDepths$Head", "leastTurn", "()I"⟩, 2) := ⟨⟨by decide +kernel, by decide +kernel⟩, List.mem_of_getElem? (i := 93) (by decide +kernel), List.mem_of_getElem? (i := 273) (by decide +kernel), List.mem_of_getElem? (i := 274) (by decide +kernel)⟩
theorem lw_p8 : lw_okq (⟨"CanDepths$Head", "isSame", "(IZ)Z"⟩, 2) := ⟨⟨by decide +kernel, by decide +kernel⟩, List.mem_of_getElem? (i := 93) (by decide +kernel), List.mem_of_getElem? (i := 277) (by decide +kernel), List.mem_of_getElem? (i := 278) (by decide +kernel)⟩
theorem lw_p9 : lw_okq (⟨"CanDepths$Ground", "many", "()I"⟩, 5) := ⟨⟨by decide +kernel, by decide +kernel⟩, List.mem_of_getElem? (i := 33) (by decide +kernel), List.mem_of_getElem? (i := 307) (by decide +kernel), List.mem_of_getElem? (i := 308) (by decide +kernel)⟩
theorem lw_p10 : lw_okq (⟨"CanDepths$Ground", "wrappedPlace", "(II)I"⟩, 5) := ⟨⟨by decide +kernel, by decide +kernel⟩, List.mem_of_getElem? (i := 33) (by decide +kernel), List.mem_of_getElem? (i := 316) (by decide +kernel), List.mem_of_getElem? (i := 317) (by decide +kernel)⟩
theorem lw_p11 : lw_okq (⟨"CanDepths$Ground", "driestPlace", "()I"⟩, 5) := ⟨⟨by decide +kernel, by decide +kernel⟩, List.mem_of_getElem? (i := 33) (by decide +kernel), List.mem_of_getElem? (i := 340) (by decide +kernel), List.mem_of_getElem? (i := 341) (by decide +kernel)⟩
theorem lw_p12 : lw_okq (⟨"CanDepths$Ground", "greatest", "()I"⟩, 5) := ⟨⟨by decide +kernel, by decide +kernel⟩, List.mem_of_getElem? (i := 33) (by decide +kernel), List.mem_of_getElem? (i := 344) (by decide +kernel), List.mem_of_getElem? (i := 345) (by decide +kernel)⟩
theorem lw_p13 : lw_okq (⟨"CanDepths$Ground", "low", "()LCanDepths$Ratio;"⟩, 5) := ⟨⟨by decide +kernel, by decide +kernel⟩, List.mem_of_getElem? (i := 33) (by decide +kernel), List.mem_of_getElem? (i := 372) (by decide +kernel), List.mem_of_getElem? (i := 373) (by decide +kernel)⟩
theorem lw_p14 : lw_okq (⟨"CanDepths$Ground", "driestTogether", "(I)I"⟩, 5) := ⟨⟨by decide +kernel, by decide +kernel⟩, List.mem_of_getElem? (i := 33) (by decide +kernel), List.mem_of_getElem? (i := 376) (by decide +kernel), List.mem_of_getElem? (i := 377) (by decide +kernel)⟩
theorem lw_p15 : lw_okq (⟨"CanDepths$Ground", "tallyDepths", "()V"⟩, 5) := ⟨⟨by decide +kernel, by decide +kernel⟩, List.mem_of_getElem? (i := 33) (by decide +kernel), List.mem_of_getElem? (i := 380) (by decide +kernel), List.mem_of_getElem? (i := 381) (by decide +kernel)⟩
def lw_privs_1 : List (MethodName × Nat) := [(⟨"CanDepths$Page", "fitting", "(I)I"⟩, 2), (⟨"CanDepths", "isCrowded", "()Z"⟩, 9), (⟨"CanDepths$Head", "resize", "(I)V"⟩, 2), (⟨"CanDepths", "isKnown", "(I)Z"⟩, 9), (⟨"CanDepths$Head", "turnedAt", "(III)I"⟩, 2), (⟨"CanDepths$Head", "put", "(III)V"⟩, 2), (⟨"CanDepths$Head", "greatest", "()I"⟩, 2), (⟨"CanDepths$Head", "leastTurn", "()I"⟩, 2), (⟨"CanDepths$Head", "isSame", "(IZ)Z"⟩, 2), (⟨"CanDepths$Ground", "many", "()I"⟩, 5), (⟨"CanDepths$Ground", "wrappedPlace", "(II)I"⟩, 5), (⟨"CanDepths$Ground", "driestPlace", "()I"⟩, 5), (⟨"CanDepths$Ground", "greatest", "()I"⟩, 5), (⟨"CanDepths$Ground", "low", "()LCanDepths$Ratio;"⟩, 5), (⟨"CanDepths$Ground", "driestTogether", "(I)I"⟩, 5), (⟨"CanDepths$Ground", "tallyDepths", "()V"⟩, 5)]
theorem lw_r1 : ∀ q ∈ lw_privs_1, lw_okq q := List.forall_mem_cons.mpr ⟨lw_p0, List.forall_mem_cons.mpr ⟨lw_p1, List.forall_mem_cons.mpr ⟨lw_p2, List.forall_mem_cons.mpr ⟨lw_p3, List.forall_mem_cons.mpr ⟨lw_p4, List.forall_mem_cons.mpr ⟨lw_p5, List.forall_mem_cons.mpr ⟨lw_p6, List.forall_mem_cons.mpr ⟨lw_p7, List.forall_mem_cons.mpr ⟨lw_p8, List.forall_mem_cons.mpr ⟨lw_p9, List.forall_mem_cons.mpr ⟨lw_p10, List.forall_mem_cons.mpr ⟨lw_p11, List.forall_mem_cons.mpr ⟨lw_p12, List.forall_mem_cons.mpr ⟨lw_p13, List.forall_mem_cons.mpr ⟨lw_p14, List.forall_mem_cons.mpr ⟨lw_p15, fun _ h => absurd h List.not_mem_nil⟩⟩⟩⟩⟩⟩⟩⟩⟩⟩⟩⟩⟩⟩⟩⟩
theorem lw_p16 : lw_okq (⟨"CanDepths", "findBest", "(LCanDepths$Head;I)V"⟩, 9) := ⟨⟨by decide +kernel, by decide +kernel⟩, List.mem_of_getElem? (i := 11) (by decide +kernel), List.mem_of_getElem? (i := 401) (by decide +kernel), List.mem_of_getElem? (i := 402) (by decide +kernel)⟩
theorem lw_p17 : lw_okq (⟨"CanDepths$Best", "isBetter", "(IIILCanDepths$Ratio;)Z"⟩, 6) := ⟨⟨by decide +kernel, by decide +kernel⟩, List.mem_of_getElem? (i := 68) (by decide +kernel), List.mem_of_getElem? (i := 414) (by decide +kernel), List.mem_of_getElem? (i := 415) (by decide +kernel)⟩
theorem lw_p18 : lw_okq (⟨"CanDepths", "layField", "(LCanDepths$Head;IIIII)V"⟩, 9) := ⟨⟨by decide +kernel, by decide +kernel⟩, List.mem_of_getElem? (i := 11) (by decide +kernel), List.mem_of_getElem? (i := 436) (by decide +kernel), List.mem_of_getElem? (i := 437) (by decide +kernel)⟩
theorem lw_p19 : lw_okq (⟨"CanDepths", "tellMissed", "(LCanDepths$Head;IIIIII)I"⟩, 9) := ⟨⟨by decide +kernel, by decide +kernel⟩, List.mem_of_getElem? (i := 11) (by decide +kernel), List.mem_of_getElem? (i := 459) (by decide +kernel), List.mem_of_getElem? (i := 460) (by decide +kernel)⟩
theorem lw_p20 : lw_okq (⟨"CanDepths", "thrownOfAll", "()I"⟩, 9) := ⟨⟨by decide +kernel, by decide +kernel⟩, List.mem_of_getElem? (i := 11) (by decide +kernel), List.mem_of_getElem? (i := 473) (by decide +kernel), List.mem_of_getElem? (i := 474) (by decide +kernel)⟩
theorem lw_p21 : lw_okq (⟨"CanDepths", "mixTile", "(JLCanDepths$Head;I)J"⟩, 9) := ⟨⟨by decide +kernel, by decide +kernel⟩, List.mem_of_getElem? (i := 11) (by decide +kernel), List.mem_of_getElem? (i := 490) (by decide +kernel), List.mem_of_getElem? (i := 491) (by decide +kernel)⟩
theorem lw_p22 : lw_okq (⟨"CanDepths", "mixBest", "(JLCanDepths$Head;)J"⟩, 9) := ⟨⟨by decide +kernel, by decide +kernel⟩, List.mem_of_getElem? (i := 11) (by decide +kernel), List.mem_of_getElem? (i := 494) (by decide +kernel), List.mem_of_getElem? (i := 495) (by decide +kernel)⟩
theorem lw_p23 : lw_okq (⟨"CanDepthsModel", "goAlong", "()I"⟩, 20) := ⟨⟨by decide +kernel, by decide +kernel⟩, List.mem_of_getElem? (i := 500) (by decide +kernel), List.mem_of_getElem? (i := 584) (by decide +kernel), List.mem_of_getElem? (i := 585) (by decide +kernel)⟩
theorem lw_p24 : lw_okq (⟨"CanDepthsModel", "takes", "(I)Z"⟩, 20) := ⟨⟨by decide +kernel, by decide +kernel⟩, List.mem_of_getElem? (i := 500) (by decide +kernel), List.mem_of_getElem? (i := 588) (by decide +kernel), List.mem_of_getElem? (i := 589) (by decide +kernel)⟩
theorem lw_p25 : lw_okq (⟨"CanDepthsModel", "isHead", "(I)Z"⟩, 20) := ⟨⟨by decide +kernel, by decide +kernel⟩, List.mem_of_getElem? (i := 500) (by decide +kernel), List.mem_of_getElem? (i := 608) (by decide +kernel), List.mem_of_getElem? (i := 609) (by decide +kernel)⟩
theorem lw_p26 : lw_okq (⟨"CanDepthsModel", "copy", "(II)V"⟩, 20) := ⟨⟨by decide +kernel, by decide +kernel⟩, List.mem_of_getElem? (i := 500) (by decide +kernel), List.mem_of_getElem? (i := 613) (by decide +kernel), List.mem_of_getElem? (i := 614) (by decide +kernel)⟩
theorem lw_p27 : lw_okq (⟨"CanDepthsModel", "turnedAt", "(IIII)I"⟩, 20) := ⟨⟨by decide +kernel, by decide +kernel⟩, List.mem_of_getElem? (i := 500) (by decide +kernel), List.mem_of_getElem? (i := 621) (by decide +kernel), List.mem_of_getElem? (i := 622) (by decide +kernel)⟩
theorem lw_p28 : lw_okq (⟨"CanDepthsModel", "depthAt", "(III)I"⟩, 20) := ⟨⟨by decide +kernel, by decide +kernel⟩, List.mem_of_getElem? (i := 500) (by decide +kernel), List.mem_of_getElem? (i := 625) (by decide +kernel), List.mem_of_getElem? (i := 626) (by decide +kernel)⟩
theorem lw_p29 : lw_okq (⟨"CanDepthsModel", "thrownBy", "(I)I"⟩, 20) := ⟨⟨by decide +kernel, by decide +kernel⟩, List.mem_of_getElem? (i := 500) (by decide +kernel), List.mem_of_getElem? (i := 633) (by decide +kernel), List.mem_of_getElem? (i := 634) (by decide +kernel)⟩
theorem lw_p30 : lw_okq (⟨"CanDepthsModel", "headNow", "(II)I"⟩, 20) := ⟨⟨by decide +kernel, by decide +kernel⟩, List.mem_of_getElem? (i := 500) (by decide +kernel), List.mem_of_getElem? (i := 641) (by decide +kernel), List.mem_of_getElem? (i := 642) (by decide +kernel)⟩
theorem lw_p31 : lw_okq (⟨"CanDepthsModel", "deepest", "(I)I"⟩, 20) := ⟨⟨by decide +kernel, by decide +kernel⟩, List.mem_of_getElem? (i := 500) (by decide +kernel), List.mem_of_getElem? (i := 645) (by decide +kernel), List.mem_of_getElem? (i := 646) (by decide +kernel)⟩
def lw_privs_2 : List (MethodName × Nat) := [(⟨"CanDepths", "findBest", "(LCanDepths$Head;I)V"⟩, 9), (⟨"CanDepths$Best", "isBetter", "(IIILCanDepths$Ratio;)Z"⟩, 6), (⟨"CanDepths", "layField", "(LCanDepths$Head;IIIII)V"⟩, 9), (⟨"CanDepths", "tellMissed", "(LCanDepths$Head;IIIIII)I"⟩, 9), (⟨"CanDepths", "thrownOfAll", "()I"⟩, 9), (⟨"CanDepths", "mixTile", "(JLCanDepths$Head;I)J"⟩, 9), (⟨"CanDepths", "mixBest", "(JLCanDepths$Head;)J"⟩, 9), (⟨"CanDepthsModel", "goAlong", "()I"⟩, 20), (⟨"CanDepthsModel", "takes", "(I)Z"⟩, 20), (⟨"CanDepthsModel", "isHead", "(I)Z"⟩, 20), (⟨"CanDepthsModel", "copy", "(II)V"⟩, 20), (⟨"CanDepthsModel", "turnedAt", "(IIII)I"⟩, 20), (⟨"CanDepthsModel", "depthAt", "(III)I"⟩, 20), (⟨"CanDepthsModel", "thrownBy", "(I)I"⟩, 20), (⟨"CanDepthsModel", "headNow", "(II)I"⟩, 20), (⟨"CanDepthsModel", "deepest", "(I)I"⟩, 20)]
theorem lw_r2 : ∀ q ∈ lw_privs_2, lw_okq q := List.forall_mem_cons.mpr ⟨lw_p16, List.forall_mem_cons.mpr ⟨lw_p17, List.forall_mem_cons.mpr ⟨lw_p18, List.forall_mem_cons.mpr ⟨lw_p19, List.forall_mem_cons.mpr ⟨lw_p20, List.forall_mem_cons.mpr ⟨lw_p21, List.forall_mem_cons.mpr ⟨lw_p22, List.forall_mem_cons.mpr ⟨lw_p23, List.forall_mem_cons.mpr ⟨lw_p24, List.forall_mem_cons.mpr ⟨lw_p25, List.forall_mem_cons.mpr ⟨lw_p26, List.forall_mem_cons.mpr ⟨lw_p27, List.forall_mem_cons.mpr ⟨lw_p28, List.forall_mem_cons.mpr ⟨lw_p29, List.forall_mem_cons.mpr ⟨lw_p30, List.forall_mem_cons.mpr ⟨lw_p31, fun _ h => absurd h List.not_mem_nil⟩⟩⟩⟩⟩⟩⟩⟩⟩⟩⟩⟩⟩⟩⟩⟩
theorem lw_p32 : lw_okq (⟨"CanDepthsModel", "sameTurn", "(I)I"⟩, 20) := ⟨⟨by decide +kernel, by decide +kernel⟩, List.mem_of_getElem? (i := 500) (by decide +kernel), List.mem_of_getElem? (i := 649) (by decide +kernel), List.mem_of_getElem? (i := 650) (by decide +kernel)⟩
theorem lw_p33 : lw_okq (⟨"CanDepthsModel", "isSameTurned", "(II)Z"⟩, 20) := ⟨⟨by decide +kernel, by decide +kernel⟩, List.mem_of_getElem? (i := 500) (by decide +kernel), List.mem_of_getElem? (i := 653) (by decide +kernel), List.mem_of_getElem? (i := 654) (by decide +kernel)⟩
theorem lw_p34 : lw_okq (⟨"CanDepthsModel", "isSameMirrored", "(I)Z"⟩, 20) := ⟨⟨by decide +kernel, by decide +kernel⟩, List.mem_of_getElem? (i := 500) (by decide +kernel), List.mem_of_getElem? (i := 657) (by decide +kernel), List.mem_of_getElem? (i := 658) (by decide +kernel)⟩
theorem lw_p35 : lw_okq (⟨"CanDepthsModel", "groundAt", "(IIIIIII)I"⟩, 20) := ⟨⟨by decide +kernel, by decide +kernel⟩, List.mem_of_getElem? (i := 500) (by decide +kernel), List.mem_of_getElem? (i := 672) (by decide +kernel), List.mem_of_getElem? (i := 673) (by decide +kernel)⟩
theorem lw_p36 : lw_okq (⟨"CanDepthsModel", "rowGround", "(IIIIII)I"⟩, 20) := ⟨⟨by decide +kernel, by decide +kernel⟩, List.mem_of_getElem? (i := 500) (by decide +kernel), List.mem_of_getElem? (i := 676) (by decide +kernel), List.mem_of_getElem? (i := 677) (by decide +kernel)⟩
theorem lw_p37 : lw_okq (⟨"CanDepthsModel", "tileNow", "(IIIII)I"⟩, 20) := ⟨⟨by decide +kernel, by decide +kernel⟩, List.mem_of_getElem? (i := 500) (by decide +kernel), List.mem_of_getElem? (i := 684) (by decide +kernel), List.mem_of_getElem? (i := 685) (by decide +kernel)⟩
theorem lw_p38 : lw_okq (⟨"CanDepthsModel", "layLayout", "(IIII)V"⟩, 20) := ⟨⟨by decide +kernel, by decide +kernel⟩, List.mem_of_getElem? (i := 500) (by decide +kernel), List.mem_of_getElem? (i := 688) (by decide +kernel), List.mem_of_getElem? (i := 689) (by decide +kernel)⟩
theorem lw_p39 : lw_okq (⟨"CanDepthsModel", "layTile", "(IIIIIII)V"⟩, 20) := ⟨⟨by decide +kernel, by decide +kernel⟩, List.mem_of_getElem? (i := 500) (by decide +kernel), List.mem_of_getElem? (i := 692) (by decide +kernel), List.mem_of_getElem? (i := 693) (by decide +kernel)⟩
theorem lw_p40 : lw_okq (⟨"CanDepthsModel", "begins", "()V"⟩, 20) := ⟨⟨by decide +kernel, by decide +kernel⟩, List.mem_of_getElem? (i := 500) (by decide +kernel), List.mem_of_getElem? (i := 696) (by decide +kernel), List.mem_of_getElem? (i := 697) (by decide +kernel)⟩
theorem lw_p41 : lw_okq (⟨"CanDepthsModel", "lay", "(I)V"⟩, 20) := ⟨⟨by decide +kernel, by decide +kernel⟩, List.mem_of_getElem? (i := 500) (by decide +kernel), List.mem_of_getElem? (i := 700) (by decide +kernel), List.mem_of_getElem? (i := 701) (by decide +kernel)⟩
theorem lw_p42 : lw_okq (⟨"CanDepthsModel", "laidNow", "(I)I"⟩, 20) := ⟨⟨by decide +kernel, by decide +kernel⟩, List.mem_of_getElem? (i := 500) (by decide +kernel), List.mem_of_getElem? (i := 704) (by decide +kernel), List.mem_of_getElem? (i := 705) (by decide +kernel)⟩
theorem lw_p43 : lw_okq (⟨"CanDepthsModel", "least", "()I"⟩, 20) := ⟨⟨by decide +kernel, by decide +kernel⟩, List.mem_of_getElem? (i := 500) (by decide +kernel), List.mem_of_getElem? (i := 708) (by decide +kernel), List.mem_of_getElem? (i := 709) (by decide +kernel)⟩
theorem lw_p44 : lw_okq (⟨"CanDepthsModel", "greatest", "()I"⟩, 20) := ⟨⟨by decide +kernel, by decide +kernel⟩, List.mem_of_getElem? (i := 500) (by decide +kernel), List.mem_of_getElem? (i := 712) (by decide +kernel), List.mem_of_getElem? (i := 713) (by decide +kernel)⟩
theorem lw_p45 : lw_okq (⟨"CanDepthsModel", "evenAbove", "()J"⟩, 20) := ⟨⟨by decide +kernel, by decide +kernel⟩, List.mem_of_getElem? (i := 500) (by decide +kernel), List.mem_of_getElem? (i := 716) (by decide +kernel), List.mem_of_getElem? (i := 717) (by decide +kernel)⟩
theorem lw_p46 : lw_okq (⟨"CanDepthsModel", "lowNow", "(I)I"⟩, 20) := ⟨⟨by decide +kernel, by decide +kernel⟩, List.mem_of_getElem? (i := 500) (by decide +kernel), List.mem_of_getElem? (i := 726) (by decide +kernel), List.mem_of_getElem? (i := 727) (by decide +kernel)⟩
theorem lw_p47 : lw_okq (⟨"CanDepthsModel", "dry", "()J"⟩, 20) := ⟨⟨by decide +kernel, by decide +kernel⟩, List.mem_of_getElem? (i := 500) (by decide +kernel), List.mem_of_getElem? (i := 730) (by decide +kernel), List.mem_of_getElem? (i := 731) (by decide +kernel)⟩
def lw_privs_3 : List (MethodName × Nat) := [(⟨"CanDepthsModel", "sameTurn", "(I)I"⟩, 20), (⟨"CanDepthsModel", "isSameTurned", "(II)Z"⟩, 20), (⟨"CanDepthsModel", "isSameMirrored", "(I)Z"⟩, 20), (⟨"CanDepthsModel", "groundAt", "(IIIIIII)I"⟩, 20), (⟨"CanDepthsModel", "rowGround", "(IIIIII)I"⟩, 20), (⟨"CanDepthsModel", "tileNow", "(IIIII)I"⟩, 20), (⟨"CanDepthsModel", "layLayout", "(IIII)V"⟩, 20), (⟨"CanDepthsModel", "layTile", "(IIIIIII)V"⟩, 20), (⟨"CanDepthsModel", "begins", "()V"⟩, 20), (⟨"CanDepthsModel", "lay", "(I)V"⟩, 20), (⟨"CanDepthsModel", "laidNow", "(I)I"⟩, 20), (⟨"CanDepthsModel", "least", "()I"⟩, 20), (⟨"CanDepthsModel", "greatest", "()I"⟩, 20), (⟨"CanDepthsModel", "evenAbove", "()J"⟩, 20), (⟨"CanDepthsModel", "lowNow", "(I)I"⟩, 20), (⟨"CanDepthsModel", "dry", "()J"⟩, 20)]
theorem lw_r3 : ∀ q ∈ lw_privs_3, lw_okq q := List.forall_mem_cons.mpr ⟨lw_p32, List.forall_mem_cons.mpr ⟨lw_p33, List.forall_mem_cons.mpr ⟨lw_p34, List.forall_mem_cons.mpr ⟨lw_p35, List.forall_mem_cons.mpr ⟨lw_p36, List.forall_mem_cons.mpr ⟨lw_p37, List.forall_mem_cons.mpr ⟨lw_p38, List.forall_mem_cons.mpr ⟨lw_p39, List.forall_mem_cons.mpr ⟨lw_p40, List.forall_mem_cons.mpr ⟨lw_p41, List.forall_mem_cons.mpr ⟨lw_p42, List.forall_mem_cons.mpr ⟨lw_p43, List.forall_mem_cons.mpr ⟨lw_p44, List.forall_mem_cons.mpr ⟨lw_p45, List.forall_mem_cons.mpr ⟨lw_p46, List.forall_mem_cons.mpr ⟨lw_p47, fun _ h => absurd h List.not_mem_nil⟩⟩⟩⟩⟩⟩⟩⟩⟩⟩⟩⟩⟩⟩⟩⟩
theorem lw_p48 : lw_okq (⟨"CanDepthsModel", "turnsNow", "(IIIII)I"⟩, 20) := ⟨⟨by decide +kernel, by decide +kernel⟩, List.mem_of_getElem? (i := 500) (by decide +kernel), List.mem_of_getElem? (i := 738) (by decide +kernel), List.mem_of_getElem? (i := 739) (by decide +kernel)⟩
theorem lw_p49 : lw_okq (⟨"CanDepthsModel", "layBest", "(II)V"⟩, 20) := ⟨⟨by decide +kernel, by decide +kernel⟩, List.mem_of_getElem? (i := 500) (by decide +kernel), List.mem_of_getElem? (i := 746) (by decide +kernel), List.mem_of_getElem? (i := 747) (by decide +kernel)⟩
theorem lw_p50 : lw_okq (⟨"CanDepthsModel", "isBetter", "(II)Z"⟩, 20) := ⟨⟨by decide +kernel, by decide +kernel⟩, List.mem_of_getElem? (i := 500) (by decide +kernel), List.mem_of_getElem? (i := 750) (by decide +kernel), List.mem_of_getElem? (i := 751) (by decide +kernel)⟩
theorem lw_p51 : lw_okq (⟨"CanDepthsModel", "bestNow", "(I)I"⟩, 20) := ⟨⟨by decide +kernel, by decide +kernel⟩, List.mem_of_getElem? (i := 500) (by decide +kernel), List.mem_of_getElem? (i := 754) (by decide +kernel), List.mem_of_getElem? (i := 755) (by decide +kernel)⟩
theorem lw_p52 : lw_okq (⟨"CanDepthsModel", "fieldNow", "(IIIIIII)I"⟩, 20) := ⟨⟨by decide +kernel, by decide +kernel⟩, List.mem_of_getElem? (i := 500) (by decide +kernel), List.mem_of_getElem? (i := 765) (by decide +kernel), List.mem_of_getElem? (i := 766) (by decide +kernel)⟩
theorem lw_p53 : lw_okq (⟨"CanDepthsModel", "missedOf", "(IIIIIIZ)I"⟩, 20) := ⟨⟨by decide +kernel, by decide +kernel⟩, List.mem_of_getElem? (i := 500) (by decide +kernel), List.mem_of_getElem? (i := 769) (by decide +kernel), List.mem_of_getElem? (i := 770) (by decide +kernel)⟩
theorem lw_p54 : lw_okq (⟨"CanDepthsModel", "layField", "(IIIIII)V"⟩, 20) := ⟨⟨by decide +kernel, by decide +kernel⟩, List.mem_of_getElem? (i := 500) (by decide +kernel), List.mem_of_getElem? (i := 773) (by decide +kernel), List.mem_of_getElem? (i := 774) (by decide +kernel)⟩
theorem lw_p55 : lw_okq (⟨"CanDepthsModel", "fieldAt", "(IIIIII)I"⟩, 20) := ⟨⟨by decide +kernel, by decide +kernel⟩, List.mem_of_getElem? (i := 500) (by decide +kernel), List.mem_of_getElem? (i := 777) (by decide +kernel), List.mem_of_getElem? (i := 778) (by decide +kernel)⟩
theorem lw_p56 : lw_okq (⟨"CanDepthsModel", "driest", "()I"⟩, 20) := ⟨⟨by decide +kernel, by decide +kernel⟩, List.mem_of_getElem? (i := 500) (by decide +kernel), List.mem_of_getElem? (i := 781) (by decide +kernel), List.mem_of_getElem? (i := 782) (by decide +kernel)⟩
theorem lw_p57 : lw_okq (⟨"CanDepthsModel", "howMany", "(I)I"⟩, 20) := ⟨⟨by decide +kernel, by decide +kernel⟩, List.mem_of_getElem? (i := 500) (by decide +kernel), List.mem_of_getElem? (i := 789) (by decide +kernel), List.mem_of_getElem? (i := 790) (by decide +kernel)⟩
theorem lw_p58 : lw_okq (⟨"CanDepthsModel", "thrownAll", "()I"⟩, 20) := ⟨⟨by decide +kernel, by decide +kernel⟩, List.mem_of_getElem? (i := 500) (by decide +kernel), List.mem_of_getElem? (i := 793) (by decide +kernel), List.mem_of_getElem? (i := 794) (by decide +kernel)⟩
theorem lw_p59 : lw_okq (⟨"CanDepthsModel", "mixHead", "(I)V"⟩, 20) := ⟨⟨by decide +kernel, by decide +kernel⟩, List.mem_of_getElem? (i := 500) (by decide +kernel), List.mem_of_getElem? (i := 802) (by decide +kernel), List.mem_of_getElem? (i := 803) (by decide +kernel)⟩
theorem lw_p60 : lw_okq (⟨"CanDepthsModel", "mix", "(J)V"⟩, 20) := ⟨⟨by decide +kernel, by decide +kernel⟩, List.mem_of_getElem? (i := 500) (by decide +kernel), List.mem_of_getElem? (i := 806) (by decide +kernel), List.mem_of_getElem? (i := 807) (by decide +kernel)⟩
def lw_privs_4 : List (MethodName × Nat) := [(⟨"CanDepthsModel", "turnsNow", "(IIIII)I"⟩, 20), (⟨"CanDepthsModel", "layBest", "(II)V"⟩, 20), (⟨"CanDepthsModel", "isBetter", "(II)Z"⟩, 20), (⟨"CanDepthsModel", "bestNow", "(I)I"⟩, 20), (⟨"CanDepthsModel", "fieldNow", "(IIIIIII)I"⟩, 20), (⟨"CanDepthsModel", "missedOf", "(IIIIIIZ)I"⟩, 20), (⟨"CanDepthsModel", "layField", "(IIIIII)V"⟩, 20), (⟨"CanDepthsModel", "fieldAt", "(IIIIII)I"⟩, 20), (⟨"CanDepthsModel", "driest", "()I"⟩, 20), (⟨"CanDepthsModel", "howMany", "(I)I"⟩, 20), (⟨"CanDepthsModel", "thrownAll", "()I"⟩, 20), (⟨"CanDepthsModel", "mixHead", "(I)V"⟩, 20), (⟨"CanDepthsModel", "mix", "(J)V"⟩, 20)]
theorem lw_r4 : ∀ q ∈ lw_privs_4, lw_okq q := List.forall_mem_cons.mpr ⟨lw_p48, List.forall_mem_cons.mpr ⟨lw_p49, List.forall_mem_cons.mpr ⟨lw_p50, List.forall_mem_cons.mpr ⟨lw_p51, List.forall_mem_cons.mpr ⟨lw_p52, List.forall_mem_cons.mpr ⟨lw_p53, List.forall_mem_cons.mpr ⟨lw_p54, List.forall_mem_cons.mpr ⟨lw_p55, List.forall_mem_cons.mpr ⟨lw_p56, List.forall_mem_cons.mpr ⟨lw_p57, List.forall_mem_cons.mpr ⟨lw_p58, List.forall_mem_cons.mpr ⟨lw_p59, List.forall_mem_cons.mpr ⟨lw_p60, fun _ h => absurd h List.not_mem_nil⟩⟩⟩⟩⟩⟩⟩⟩⟩⟩⟩⟩⟩
def lw_privs : List (MethodName × Nat) := lw_privs_1 ++ (lw_privs_2 ++ (lw_privs_3 ++ (lw_privs_4)))
def lw_tbl : List Cond := k2_sels lw_privs ++ tables_1
theorem lw_privs_ok : ∀ q ∈ lw_privs, lw_okq q := by
  show ∀ q ∈ lw_privs_1 ++ (lw_privs_2 ++ (lw_privs_3 ++ (lw_privs_4))), lw_okq q
  exact List.forall_mem_append.mpr ⟨lw_r1, List.forall_mem_append.mpr ⟨lw_r2, List.forall_mem_append.mpr ⟨lw_r3, lw_r4⟩⟩⟩
/-! ===== BEGIN words of one list among another's, by their places ===== -/
theorem goodIn_r {big : List Cond} (ws : List Cond) (ps : List Nat) (hp : ws = ps.filterMap (fun i => big[i]?)) (h : ws.all goodWord = true) : GoodIn big ws := by
  intro w hw
  have h1 := List.all_eq_true.mp h w hw
  rw [hp] at hw
  obtain ⟨i, -, hi⟩ := List.mem_filterMap.mp hw
  have hm : w ∈ big := by first | exact List.mem_of_getElem? hi | exact List.getElem?_mem hi
  exact ⟨hm, good_of_word h1⟩
theorem goodIn_app {big a b : List Cond} (ha : GoodIn big a) (hb : GoodIn big b) : GoodIn big (a ++ b) := fun w h => (List.mem_append.mp h).elim (ha w) (hb w)
theorem goodIn_ca {big a b : List Cond} {c : Cond} (ha : GoodIn big (c :: a)) (hb : GoodIn big b) : GoodIn big (c :: (a ++ b)) := fun w h => (List.mem_cons.mp h).elim (fun e => ha w (List.mem_cons.mpr (Or.inl e))) (fun h => (List.mem_append.mp h).elim (fun h => ha w (List.mem_cons.mpr (Or.inr h))) (hb w))
theorem goodIn_sub {big ws : List Cond} (hm : ∀ w ∈ ws, w ∈ big) (h : ws.all goodWord = true) : GoodIn big ws := fun w hw => ⟨hm w hw, good_of_word (List.all_eq_true.mp h w hw)⟩
/-! ===== END ===== -/

/-! ===== BEGIN printed: names, fields, word lists, decode rows ===== -/
def RX0 : String := "CanDepths$Best"
def TX0 : u_T := fun k => match k with
  | 0 => ("CanDepths$Best", "known", "Z", false)
  | 1 => ("CanDepths$Best", "layout", "I", false)
  | 2 => ("CanDepths$Best", "a", "I", false)
  | 3 => ("CanDepths$Best", "b", "I", false)
  | 4 => ("CanDepths$Best", "above", "I", false)
  | _ => ("CanDepths$Best", "below", "I", false)
def tyX0 : Nat → FieldType := fun k => match k with
  | 0 => .boolean
  | 1 => .int
  | 2 => .int
  | 3 => .int
  | 4 => .int
  | _ => .int
abbrev wsX00 : List Cond := u_ws RX0 TX0 6
theorem nmX0 : ∀ a, a < 6 → ∀ b, b < 6 → a ≠ b → (TX0 a).2.1 ≠ (TX0 b).2.1 := by decide +kernel
theorem tyX0_ok : ∀ k, k < 6 → parseFieldDescriptor (TX0 k).2.2.1 = some (tyX0 k) := by decide +kernel
abbrev cX0_init : ByteArray := prog_2_method_1_code
def yX0_init : MethodName := ⟨RX0, "<init>", "()V"⟩
abbrev cX0_forget : ByteArray := prog_2_method_2_code
def yX0_forget : MethodName := ⟨RX0, "forget", "()V"⟩
abbrev cX0_weigh : ByteArray := prog_2_method_3_code
def yX0_weigh : MethodName := ⟨RX0, "weigh", "(IIILCanDepths$Ratio;)V"⟩
abbrev cX0_tell : ByteArray := prog_2_method_4_code
def yX0_tell : MethodName := ⟨RX0, "tell", "(I)I"⟩
abbrev cX0_isBetter : ByteArray := prog_2_method_5_code
def yX0_isBetter : MethodName := ⟨RX0, "isBetter", "(IIILCanDepths$Ratio;)Z"⟩
def RX1 : String := "CanDepths$Ground"
def TX1 : u_T := fun k => match k with
  | 0 => ("CanDepths$Ground", "cells", "[I", true)
  | 1 => ("CanDepths$Ground", "tally", "[I", true)
  | 2 => ("CanDepths$Ground", "ratio", "LCanDepths$Ratio;", true)
  | 3 => ("CanDepths$Ground", "width", "I", false)
  | _ => ("CanDepths$Ground", "height", "I", false)
def tyX1 : Nat → FieldType := fun k => match k with
  | 0 => .array .int
  | 1 => .array .int
  | 2 => .object "CanDepths$Ratio"
  | 3 => .int
  | _ => .int
abbrev wsX10 : List Cond := u_ws RX1 TX1 5
theorem nmX1 : ∀ a, a < 5 → ∀ b, b < 5 → a ≠ b → (TX1 a).2.1 ≠ (TX1 b).2.1 := by decide +kernel
theorem tyX1_ok : ∀ k, k < 5 → parseFieldDescriptor (TX1 k).2.2.1 = some (tyX1 k) := by decide +kernel
abbrev cX1_init : ByteArray := prog_3_method_1_code
def yX1_init : MethodName := ⟨RX1, "<init>", "()V"⟩
abbrev cX1_clear : ByteArray := prog_3_method_2_code
def yX1_clear : MethodName := ⟨RX1, "clear", "(II)V"⟩
abbrev cX1_layTile : ByteArray := prog_3_method_3_code
def yX1_layTile : MethodName := ⟨RX1, "layTile", "(LCanDepths$Head;III)V"⟩
abbrev cX1_layInTurns : ByteArray := prog_3_method_4_code
def yX1_layInTurns : MethodName := ⟨RX1, "layInTurns", "(LCanDepths$Head;LCanDepths$Head;II)V"⟩
abbrev cX1_addWrapped : ByteArray := prog_3_method_5_code
def yX1_addWrapped : MethodName := ⟨RX1, "addWrapped", "(LCanDepths$Head;II)V"⟩
abbrev cX1_addWithin : ByteArray := prog_3_method_6_code
def yX1_addWithin : MethodName := ⟨RX1, "addWithin", "(LCanDepths$Head;II)V"⟩
abbrev cX1_shareWithin : ByteArray := prog_3_method_7_code
def yX1_shareWithin : MethodName := ⟨RX1, "shareWithin", "(LCanDepths$Head;II)I"⟩
abbrev cX1_wrappedAt : ByteArray := prog_3_method_8_code
def yX1_wrappedAt : MethodName := ⟨RX1, "wrappedAt", "(II)I"⟩
abbrev cX1_tell : ByteArray := prog_3_method_9_code
def yX1_tell : MethodName := ⟨RX1, "tell", "(I)I"⟩
abbrev cX1_total : ByteArray := prog_3_method_10_code
def yX1_total : MethodName := ⟨RX1, "total", "()I"⟩
abbrev cX1_even : ByteArray := prog_3_method_11_code
def yX1_even : MethodName := ⟨RX1, "even", "()LCanDepths$Ratio;"⟩
abbrev cX1_driestX : ByteArray := prog_3_method_12_code
def yX1_driestX : MethodName := ⟨RX1, "driestX", "()I"⟩
abbrev cX1_driestY : ByteArray := prog_3_method_13_code
def yX1_driestY : MethodName := ⟨RX1, "driestY", "()I"⟩
abbrev cX1_many : ByteArray := prog_3_method_14_code
def yX1_many : MethodName := ⟨RX1, "many", "()I"⟩
abbrev cX1_wrappedPlace : ByteArray := prog_3_method_15_code
def yX1_wrappedPlace : MethodName := ⟨RX1, "wrappedPlace", "(II)I"⟩
abbrev cX1_driestPlace : ByteArray := prog_3_method_16_code
def yX1_driestPlace : MethodName := ⟨RX1, "driestPlace", "()I"⟩
abbrev cX1_greatest : ByteArray := prog_3_method_17_code
def yX1_greatest : MethodName := ⟨RX1, "greatest", "()I"⟩
abbrev cX1_low : ByteArray := prog_3_method_18_code
def yX1_low : MethodName := ⟨RX1, "low", "()LCanDepths$Ratio;"⟩
abbrev cX1_driestTogether : ByteArray := prog_3_method_19_code
def yX1_driestTogether : MethodName := ⟨RX1, "driestTogether", "(I)I"⟩
abbrev cX1_tallyDepths : ByteArray := prog_3_method_20_code
def yX1_tallyDepths : MethodName := ⟨RX1, "tallyDepths", "()V"⟩
def RX2 : String := "CanDepths$Head"
def TX2 : u_T := fun k => match k with
  | 0 => ("CanDepths$Head", "depths", "[I", true)
  | _ => ("CanDepths$Head", "side", "I", false)
def tyX2 : Nat → FieldType := fun k => match k with
  | 0 => .array .int
  | _ => .int
abbrev wsX20 : List Cond := u_ws RX2 TX2 2
theorem nmX2 : ∀ a, a < 2 → ∀ b, b < 2 → a ≠ b → (TX2 a).2.1 ≠ (TX2 b).2.1 := by decide +kernel
theorem tyX2_ok : ∀ k, k < 2 → parseFieldDescriptor (TX2 k).2.2.1 = some (tyX2 k) := by decide +kernel
abbrev cX2_init : ByteArray := prog_4_method_1_code
def yX2_init : MethodName := ⟨RX2, "<init>", "()V"⟩
abbrev cX2_reach : ByteArray := prog_4_method_2_code
def yX2_reach : MethodName := ⟨RX2, "reach", "()I"⟩
abbrev cX2_depthAt : ByteArray := prog_4_method_3_code
def yX2_depthAt : MethodName := ⟨RX2, "depthAt", "(II)I"⟩
abbrev cX2_read : ByteArray := prog_4_method_4_code
def yX2_read : MethodName := ⟨RX2, "read", "(LCanDepths$Page;I)V"⟩
abbrev cX2_copyTurned : ByteArray := prog_4_method_5_code
def yX2_copyTurned : MethodName := ⟨RX2, "copyTurned", "(LCanDepths$Head;IZ)V"⟩
abbrev cX2_copyBent : ByteArray := prog_4_method_6_code
def yX2_copyBent : MethodName := ⟨RX2, "copyBent", "(LCanDepths$Head;II)V"⟩
abbrev cX2_tell : ByteArray := prog_4_method_7_code
def yX2_tell : MethodName := ⟨RX2, "tell", "(I)I"⟩
abbrev cX2_thrown : ByteArray := prog_4_method_8_code
def yX2_thrown : MethodName := ⟨RX2, "thrown", "()I"⟩
abbrev cX2_resize : ByteArray := prog_4_method_9_code
def yX2_resize : MethodName := ⟨RX2, "resize", "(I)V"⟩
abbrev cX2_put : ByteArray := prog_4_method_10_code
def yX2_put : MethodName := ⟨RX2, "put", "(III)V"⟩
abbrev cX2_turnedAt : ByteArray := prog_4_method_11_code
def yX2_turnedAt : MethodName := ⟨RX2, "turnedAt", "(III)I"⟩
abbrev cX2_greatest : ByteArray := prog_4_method_12_code
def yX2_greatest : MethodName := ⟨RX2, "greatest", "()I"⟩
abbrev cX2_leastTurn : ByteArray := prog_4_method_13_code
def yX2_leastTurn : MethodName := ⟨RX2, "leastTurn", "()I"⟩
abbrev cX2_isSame : ByteArray := prog_4_method_14_code
def yX2_isSame : MethodName := ⟨RX2, "isSame", "(IZ)Z"⟩
def RX3 : String := "CanDepths$Page"
def TX3 : u_T := fun k => match k with
  | 0 => ("CanDepths$Page", "codes", "[I", true)
  | _ => ("CanDepths$Page", "length", "I", false)
def tyX3 : Nat → FieldType := fun k => match k with
  | 0 => .array .int
  | _ => .int
abbrev wsX30 : List Cond := u_ws RX3 TX3 2
theorem nmX3 : ∀ a, a < 2 → ∀ b, b < 2 → a ≠ b → (TX3 a).2.1 ≠ (TX3 b).2.1 := by decide +kernel
theorem tyX3_ok : ∀ k, k < 2 → parseFieldDescriptor (TX3 k).2.2.1 = some (tyX3 k) := by decide +kernel
abbrev cX3_init : ByteArray := prog_5_method_1_code
def yX3_init : MethodName := ⟨RX3, "<init>", "()V"⟩
abbrev cX3_length : ByteArray := prog_5_method_2_code
def yX3_length : MethodName := ⟨RX3, "length", "()I"⟩
abbrev cX3_codeAt : ByteArray := prog_5_method_3_code
def yX3_codeAt : MethodName := ⟨RX3, "codeAt", "(I)I"⟩
abbrev cX3_append : ByteArray := prog_5_method_4_code
def yX3_append : MethodName := ⟨RX3, "append", "(I)Z"⟩
abbrev cX3_clear : ByteArray := prog_5_method_5_code
def yX3_clear : MethodName := ⟨RX3, "clear", "()V"⟩
abbrev cX3_firstFault : ByteArray := prog_5_method_6_code
def yX3_firstFault : MethodName := ⟨RX3, "firstFault", "()I"⟩
abbrev cX3_sideOfHead : ByteArray := prog_5_method_7_code
def yX3_sideOfHead : MethodName := ⟨RX3, "sideOfHead", "()I"⟩
abbrev cX3_figure : ByteArray := prog_5_method_8_code
def yX3_figure : MethodName := ⟨RX3, "figure", "(I)I"⟩
abbrev cX3_lettersOf : ByteArray := prog_5_method_9_code
def yX3_lettersOf : MethodName := ⟨RX3, "lettersOf", "(I)I"⟩
abbrev cX3_fitting : ByteArray := prog_5_method_10_code
def yX3_fitting : MethodName := ⟨RX3, "fitting", "(I)I"⟩
def RX4 : String := "CanDepths$Ratio"
def TX4 : u_T := fun k => match k with
  | 0 => ("CanDepths$Ratio", "above", "I", false)
  | _ => ("CanDepths$Ratio", "below", "I", false)
def tyX4 : Nat → FieldType := fun k => match k with
  | 0 => .int
  | _ => .int
abbrev wsX40 : List Cond := u_ws RX4 TX4 2
theorem nmX4 : ∀ a, a < 2 → ∀ b, b < 2 → a ≠ b → (TX4 a).2.1 ≠ (TX4 b).2.1 := by decide +kernel
theorem tyX4_ok : ∀ k, k < 2 → parseFieldDescriptor (TX4 k).2.2.1 = some (tyX4 k) := by decide +kernel
abbrev cX4_init : ByteArray := prog_6_method_1_code
def yX4_init : MethodName := ⟨RX4, "<init>", "()V"⟩
abbrev cX4_set : ByteArray := prog_6_method_2_code
def yX4_set : MethodName := ⟨RX4, "set", "(II)V"⟩
abbrev cX4_above : ByteArray := prog_6_method_3_code
def yX4_above : MethodName := ⟨RX4, "above", "()I"⟩
abbrev cX4_below : ByteArray := prog_6_method_4_code
def yX4_below : MethodName := ⟨RX4, "below", "()I"⟩
abbrev cX4_inCommon : ByteArray := prog_6_method_5_code
def yX4_inCommon : MethodName := ⟨RX4, "inCommon", "(II)I"⟩
def RX5 : String := "CanDepths"
def TX5 : u_T := fun k => match k with
  | 0 => ("CanDepths", "page", "LCanDepths$Page;", true)
  | 1 => ("CanDepths", "heads", "[LCanDepths$Head;", true)
  | 2 => ("CanDepths", "laid", "LCanDepths$Ground;", true)
  | 3 => ("CanDepths", "found", "LCanDepths$Best;", true)
  | 4 => ("CanDepths", "spare", "LCanDepths$Head;", false)
  | 5 => ("CanDepths", "standing", "I", false)
  | 6 => ("CanDepths", "texts", "I", false)
  | 7 => ("CanDepths", "turns", "I", false)
  | _ => ("CanDepths", "gone", "I", false)
def tyX5 : Nat → FieldType := fun k => match k with
  | 0 => .object "CanDepths$Page"
  | 1 => .array (.object "CanDepths$Head")
  | 2 => .object "CanDepths$Ground"
  | 3 => .object "CanDepths$Best"
  | 4 => .object "CanDepths$Head"
  | 5 => .int
  | 6 => .int
  | 7 => .int
  | _ => .int
abbrev wsX50 : List Cond := u_ws RX5 TX5 9
theorem nmX5 : ∀ a, a < 9 → ∀ b, b < 9 → a ≠ b → (TX5 a).2.1 ≠ (TX5 b).2.1 := by decide +kernel
theorem tyX5_ok : ∀ k, k < 9 → parseFieldDescriptor (TX5 k).2.2.1 = some (tyX5 k) := by decide +kernel
abbrev cX5_init : ByteArray := prog_1_method_1_code
def yX5_init : MethodName := ⟨RX5, "<init>", "()V"⟩
abbrev cX5_letter : ByteArray := prog_1_method_2_code
def yX5_letter : MethodName := ⟨RX5, "letter", "(I)I"⟩
abbrev cX5_blank : ByteArray := prog_1_method_3_code
def yX5_blank : MethodName := ⟨RX5, "blank", "()I"⟩
abbrev cX5_fault : ByteArray := prog_1_method_4_code
def yX5_fault : MethodName := ⟨RX5, "fault", "()I"⟩
abbrev cX5_take : ByteArray := prog_1_method_5_code
def yX5_take : MethodName := ⟨RX5, "take", "()I"⟩
abbrev cX5_drop : ByteArray := prog_1_method_6_code
def yX5_drop : MethodName := ⟨RX5, "drop", "(I)I"⟩
abbrev cX5_turn : ByteArray := prog_1_method_7_code
def yX5_turn : MethodName := ⟨RX5, "turn", "(IIZ)I"⟩
abbrev cX5_bend : ByteArray := prog_1_method_8_code
def yX5_bend : MethodName := ⟨RX5, "bend", "(III)I"⟩
abbrev cX5_head : ByteArray := prog_1_method_9_code
def yX5_head : MethodName := ⟨RX5, "head", "(II)I"⟩
abbrev cX5_depth : ByteArray := prog_1_method_10_code
def yX5_depth : MethodName := ⟨RX5, "depth", "(III)I"⟩
abbrev cX5_ground : ByteArray := prog_1_method_11_code
def yX5_ground : MethodName := ⟨RX5, "ground", "(IIIIII)I"⟩
abbrev cX5_tile : ByteArray := prog_1_method_12_code
def yX5_tile : MethodName := ⟨RX5, "tile", "(IIIII)I"⟩
abbrev cX5_byTurns : ByteArray := prog_1_method_13_code
def yX5_byTurns : MethodName := ⟨RX5, "byTurns", "(IIIII)I"⟩
abbrev cX5_best : ByteArray := prog_1_method_14_code
def yX5_best : MethodName := ⟨RX5, "best", "(III)I"⟩
abbrev cX5_field : ByteArray := prog_1_method_15_code
def yX5_field : MethodName := ⟨RX5, "field", "(IIIIIII)I"⟩
abbrev cX5_count : ByteArray := prog_1_method_16_code
def yX5_count : MethodName := ⟨RX5, "count", "(I)I"⟩
abbrev cX5_digest : ByteArray := prog_1_method_17_code
def yX5_digest : MethodName := ⟨RX5, "digest", "()J"⟩
abbrev cX5_mix : ByteArray := prog_1_method_18_code
def yX5_mix : MethodName := ⟨RX5, "mix", "(JI)J"⟩
abbrev cX5_mixHead : ByteArray := prog_1_method_19_code
def yX5_mixHead : MethodName := ⟨RX5, "mixHead", "(JLCanDepths$Head;)J"⟩
abbrev cX5_mixTile : ByteArray := prog_1_method_20_code
def yX5_mixTile : MethodName := ⟨RX5, "mixTile", "(JLCanDepths$Head;I)J"⟩
abbrev cX5_mixBest : ByteArray := prog_1_method_21_code
def yX5_mixBest : MethodName := ⟨RX5, "mixBest", "(JLCanDepths$Head;)J"⟩
abbrev cX5_isWithin : ByteArray := prog_1_method_22_code
def yX5_isWithin : MethodName := ⟨RX5, "isWithin", "(III)Z"⟩
abbrev cX5_isSpacing : ByteArray := prog_1_method_23_code
def yX5_isSpacing : MethodName := ⟨RX5, "isSpacing", "(I)Z"⟩
abbrev cX5_isLaidOut : ByteArray := prog_1_method_24_code
def yX5_isLaidOut : MethodName := ⟨RX5, "isLaidOut", "(III)Z"⟩
abbrev cX5_isKnown : ByteArray := prog_1_method_25_code
def yX5_isKnown : MethodName := ⟨RX5, "isKnown", "(I)Z"⟩
abbrev cX5_isCrowded : ByteArray := prog_1_method_26_code
def yX5_isCrowded : MethodName := ⟨RX5, "isCrowded", "()Z"⟩
abbrev cX5_thrownOfAll : ByteArray := prog_1_method_27_code
def yX5_thrownOfAll : MethodName := ⟨RX5, "thrownOfAll", "()I"⟩
abbrev cX5_findBest : ByteArray := prog_1_method_28_code
def yX5_findBest : MethodName := ⟨RX5, "findBest", "(LCanDepths$Head;I)V"⟩
abbrev cX5_numberInField : ByteArray := prog_1_method_29_code
def yX5_numberInField : MethodName := ⟨RX5, "numberInField", "(II)I"⟩
abbrev cX5_bitsOfField : ByteArray := prog_1_method_30_code
def yX5_bitsOfField : MethodName := ⟨RX5, "bitsOfField", "(II)I"⟩
abbrev cX5_hasFailed : ByteArray := prog_1_method_31_code
def yX5_hasFailed : MethodName := ⟨RX5, "hasFailed", "(II)Z"⟩
abbrev cX5_layField : ByteArray := prog_1_method_32_code
def yX5_layField : MethodName := ⟨RX5, "layField", "(LCanDepths$Head;IIIII)V"⟩
abbrev cX5_tellMissed : ByteArray := prog_1_method_33_code
def yX5_tellMissed : MethodName := ⟨RX5, "tellMissed", "(LCanDepths$Head;IIIIII)I"⟩
def RX6 : String := "CanDepthsModel"
def TX6 : u_T := fun k => match k with
  | 0 => ("CanDepthsModel", "pageLength", "I", false)
  | 1 => ("CanDepthsModel", "page", "[I", true)
  | 2 => ("CanDepthsModel", "heads", "I", false)
  | 3 => ("CanDepthsModel", "sideOf", "[I", true)
  | 4 => ("CanDepthsModel", "depths", "[I", true)
  | 5 => ("CanDepthsModel", "cameEver", "I", false)
  | 6 => ("CanDepthsModel", "turnedEver", "I", false)
  | 7 => ("CanDepthsModel", "wentEver", "I", false)
  | 8 => ("CanDepthsModel", "signs", "I", false)
  | 9 => ("CanDepthsModel", "rowNow", "I", false)
  | 10 => ("CanDepthsModel", "newSide", "I", false)
  | 11 => ("CanDepthsModel", "many", "I", false)
  | 12 => ("CanDepthsModel", "total", "I", false)
  | 13 => ("CanDepthsModel", "grounds", "[I", true)
  | 14 => ("CanDepthsModel", "bestLayout", "I", false)
  | 15 => ("CanDepthsModel", "bestA", "I", false)
  | 16 => ("CanDepthsModel", "bestB", "I", false)
  | 17 => ("CanDepthsModel", "bestAbove", "J", false)
  | 18 => ("CanDepthsModel", "bestBelow", "J", false)
  | _ => ("CanDepthsModel", "h", "J", false)
def tyX6 : Nat → FieldType := fun k => match k with
  | 0 => .int
  | 1 => .array .int
  | 2 => .int
  | 3 => .array .int
  | 4 => .array .int
  | 5 => .int
  | 6 => .int
  | 7 => .int
  | 8 => .int
  | 9 => .int
  | 10 => .int
  | 11 => .int
  | 12 => .int
  | 13 => .array .int
  | 14 => .int
  | 15 => .int
  | 16 => .int
  | 17 => .long
  | 18 => .long
  | _ => .long
abbrev wsX60 : List Cond := u_ws RX6 TX6 20
theorem nmX6 : ∀ a, a < 20 → ∀ b, b < 20 → a ≠ b → (TX6 a).2.1 ≠ (TX6 b).2.1 := by decide +kernel
theorem tyX6_ok : ∀ k, k < 20 → parseFieldDescriptor (TX6 k).2.2.1 = some (tyX6 k) := by decide +kernel
abbrev cX6_init : ByteArray := prog_8_method_1_code
def yX6_init : MethodName := ⟨RX6, "<init>", "()V"⟩
abbrev cX6_within : ByteArray := prog_8_method_3_code
def yX6_within : MethodName := ⟨RX6, "within", "(III)Z"⟩
abbrev cX6_letter : ByteArray := prog_8_method_4_code
def yX6_letter : MethodName := ⟨RX6, "letter", "(I)I"⟩
abbrev cX6_blank : ByteArray := prog_8_method_5_code
def yX6_blank : MethodName := ⟨RX6, "blank", "()I"⟩
abbrev cX6_depthOf : ByteArray := prog_8_method_6_code
def yX6_depthOf : MethodName := ⟨RX6, "depthOf", "(I)I"⟩
abbrev cX6_takes : ByteArray := prog_8_method_7_code
def yX6_takes : MethodName := ⟨RX6, "takes", "(I)Z"⟩
abbrev cX6_goAlong : ByteArray := prog_8_method_8_code
def yX6_goAlong : MethodName := ⟨RX6, "goAlong", "()I"⟩
abbrev cX6_fault : ByteArray := prog_8_method_9_code
def yX6_fault : MethodName := ⟨RX6, "fault", "()I"⟩
abbrev cX6_cell : ByteArray := prog_8_method_10_code
def yX6_cell : MethodName := ⟨RX6, "cell", "(III)I"⟩
abbrev cX6_depthAt : ByteArray := prog_8_method_11_code
def yX6_depthAt : MethodName := ⟨RX6, "depthAt", "(III)I"⟩
abbrev cX6_take : ByteArray := prog_8_method_12_code
def yX6_take : MethodName := ⟨RX6, "take", "()I"⟩
abbrev cX6_isHead : ByteArray := prog_8_method_13_code
def yX6_isHead : MethodName := ⟨RX6, "isHead", "(I)Z"⟩
abbrev cX6_copy : ByteArray := prog_8_method_14_code
def yX6_copy : MethodName := ⟨RX6, "copy", "(II)V"⟩
abbrev cX6_drop : ByteArray := prog_8_method_15_code
def yX6_drop : MethodName := ⟨RX6, "drop", "(I)I"⟩
abbrev cX6_turnedAt : ByteArray := prog_8_method_16_code
def yX6_turnedAt : MethodName := ⟨RX6, "turnedAt", "(IIII)I"⟩
abbrev cX6_turn : ByteArray := prog_8_method_17_code
def yX6_turn : MethodName := ⟨RX6, "turn", "(IIZ)I"⟩
abbrev cX6_thrownBy : ByteArray := prog_8_method_18_code
def yX6_thrownBy : MethodName := ⟨RX6, "thrownBy", "(I)I"⟩
abbrev cX6_bend : ByteArray := prog_8_method_19_code
def yX6_bend : MethodName := ⟨RX6, "bend", "(III)I"⟩
abbrev cX6_deepest : ByteArray := prog_8_method_20_code
def yX6_deepest : MethodName := ⟨RX6, "deepest", "(I)I"⟩
abbrev cX6_isSameTurned : ByteArray := prog_8_method_21_code
def yX6_isSameTurned : MethodName := ⟨RX6, "isSameTurned", "(II)Z"⟩
abbrev cX6_sameTurn : ByteArray := prog_8_method_22_code
def yX6_sameTurn : MethodName := ⟨RX6, "sameTurn", "(I)I"⟩
abbrev cX6_isSameMirrored : ByteArray := prog_8_method_23_code
def yX6_isSameMirrored : MethodName := ⟨RX6, "isSameMirrored", "(I)Z"⟩
abbrev cX6_headNow : ByteArray := prog_8_method_24_code
def yX6_headNow : MethodName := ⟨RX6, "headNow", "(II)I"⟩
abbrev cX6_head : ByteArray := prog_8_method_25_code
def yX6_head : MethodName := ⟨RX6, "head", "(II)I"⟩
abbrev cX6_depth : ByteArray := prog_8_method_26_code
def yX6_depth : MethodName := ⟨RX6, "depth", "(III)I"⟩
abbrev cX6_rowGround : ByteArray := prog_8_method_27_code
def yX6_rowGround : MethodName := ⟨RX6, "rowGround", "(IIIIII)I"⟩
abbrev cX6_groundAt : ByteArray := prog_8_method_28_code
def yX6_groundAt : MethodName := ⟨RX6, "groundAt", "(IIIIIII)I"⟩
abbrev cX6_isLaid : ByteArray := prog_8_method_29_code
def yX6_isLaid : MethodName := ⟨RX6, "isLaid", "(III)Z"⟩
abbrev cX6_ground : ByteArray := prog_8_method_30_code
def yX6_ground : MethodName := ⟨RX6, "ground", "(IIIIII)I"⟩
abbrev cX6_begins : ByteArray := prog_8_method_31_code
def yX6_begins : MethodName := ⟨RX6, "begins", "()V"⟩
abbrev cX6_lay : ByteArray := prog_8_method_32_code
def yX6_lay : MethodName := ⟨RX6, "lay", "(I)V"⟩
abbrev cX6_layTile : ByteArray := prog_8_method_33_code
def yX6_layTile : MethodName := ⟨RX6, "layTile", "(IIIIIII)V"⟩
abbrev cX6_layLayout : ByteArray := prog_8_method_34_code
def yX6_layLayout : MethodName := ⟨RX6, "layLayout", "(IIII)V"⟩
abbrev cX6_least : ByteArray := prog_8_method_35_code
def yX6_least : MethodName := ⟨RX6, "least", "()I"⟩
abbrev cX6_greatest : ByteArray := prog_8_method_36_code
def yX6_greatest : MethodName := ⟨RX6, "greatest", "()I"⟩
abbrev cX6_common : ByteArray := prog_8_method_37_code
def yX6_common : MethodName := ⟨RX6, "common", "(JJ)J"⟩
abbrev cX6_lowest : ByteArray := prog_8_method_38_code
def yX6_lowest : MethodName := ⟨RX6, "lowest", "(JJI)I"⟩
abbrev cX6_evenAbove : ByteArray := prog_8_method_39_code
def yX6_evenAbove : MethodName := ⟨RX6, "evenAbove", "()J"⟩
abbrev cX6_dry : ByteArray := prog_8_method_40_code
def yX6_dry : MethodName := ⟨RX6, "dry", "()J"⟩
abbrev cX6_lowNow : ByteArray := prog_8_method_41_code
def yX6_lowNow : MethodName := ⟨RX6, "lowNow", "(I)I"⟩
abbrev cX6_laidNow : ByteArray := prog_8_method_42_code
def yX6_laidNow : MethodName := ⟨RX6, "laidNow", "(I)I"⟩
abbrev cX6_tileNow : ByteArray := prog_8_method_43_code
def yX6_tileNow : MethodName := ⟨RX6, "tileNow", "(IIIII)I"⟩
abbrev cX6_tile : ByteArray := prog_8_method_44_code
def yX6_tile : MethodName := ⟨RX6, "tile", "(IIIII)I"⟩
abbrev cX6_turnsNow : ByteArray := prog_8_method_45_code
def yX6_turnsNow : MethodName := ⟨RX6, "turnsNow", "(IIIII)I"⟩
abbrev cX6_byTurns : ByteArray := prog_8_method_46_code
def yX6_byTurns : MethodName := ⟨RX6, "byTurns", "(IIIII)I"⟩
abbrev cX6_isBetter : ByteArray := prog_8_method_47_code
def yX6_isBetter : MethodName := ⟨RX6, "isBetter", "(II)Z"⟩
abbrev cX6_layBest : ByteArray := prog_8_method_48_code
def yX6_layBest : MethodName := ⟨RX6, "layBest", "(II)V"⟩
abbrev cX6_bestNow : ByteArray := prog_8_method_49_code
def yX6_bestNow : MethodName := ⟨RX6, "bestNow", "(I)I"⟩
abbrev cX6_best : ByteArray := prog_8_method_50_code
def yX6_best : MethodName := ⟨RX6, "best", "(III)I"⟩
abbrev cX6_fieldAt : ByteArray := prog_8_method_51_code
def yX6_fieldAt : MethodName := ⟨RX6, "fieldAt", "(IIIIII)I"⟩
abbrev cX6_layField : ByteArray := prog_8_method_52_code
def yX6_layField : MethodName := ⟨RX6, "layField", "(IIIIII)V"⟩
abbrev cX6_driest : ByteArray := prog_8_method_53_code
def yX6_driest : MethodName := ⟨RX6, "driest", "()I"⟩
abbrev cX6_missedOf : ByteArray := prog_8_method_54_code
def yX6_missedOf : MethodName := ⟨RX6, "missedOf", "(IIIIIIZ)I"⟩
abbrev cX6_allOf : ByteArray := prog_8_method_55_code
def yX6_allOf : MethodName := ⟨RX6, "allOf", "(II)I"⟩
abbrev cX6_fieldNow : ByteArray := prog_8_method_56_code
def yX6_fieldNow : MethodName := ⟨RX6, "fieldNow", "(IIIIIII)I"⟩
abbrev cX6_field : ByteArray := prog_8_method_57_code
def yX6_field : MethodName := ⟨RX6, "field", "(IIIIIII)I"⟩
abbrev cX6_thrownAll : ByteArray := prog_8_method_58_code
def yX6_thrownAll : MethodName := ⟨RX6, "thrownAll", "()I"⟩
abbrev cX6_howMany : ByteArray := prog_8_method_59_code
def yX6_howMany : MethodName := ⟨RX6, "howMany", "(I)I"⟩
abbrev cX6_count : ByteArray := prog_8_method_60_code
def yX6_count : MethodName := ⟨RX6, "count", "(I)I"⟩
abbrev cX6_mix : ByteArray := prog_8_method_61_code
def yX6_mix : MethodName := ⟨RX6, "mix", "(J)V"⟩
abbrev cX6_mixHead : ByteArray := prog_8_method_62_code
def yX6_mixHead : MethodName := ⟨RX6, "mixHead", "(I)V"⟩
abbrev cX6_digest : ByteArray := prog_8_method_63_code
def yX6_digest : MethodName := ⟨RX6, "digest", "()J"⟩
def RJ9 : String := "java/lang/Math"
def TJ9 : u_T := fun k => match k with
  | _ => ("", "", "", false)
def tyJ9 : Nat → FieldType := fun k => match k with
  | _ => .int
abbrev wsJ90 : List Cond := u_ws RJ9 TJ9 0
theorem nmJ9 : ∀ a, a < 0 → ∀ b, b < 0 → a ≠ b → (TJ9 a).2.1 ≠ (TJ9 b).2.1 := by decide +kernel
theorem tyJ9_ok : ∀ k, k < 0 → parseFieldDescriptor (TJ9 k).2.2.1 = some (tyJ9 k) := by decide +kernel
abbrev cJ9_floorDiv_7cf53 : ByteArray := prog_9_method_47_code
def yJ9_floorDiv_7cf53 : MethodName := ⟨RJ9, "floorDiv", "(II)I"⟩
abbrev cJ9_floorMod_7cf53 : ByteArray := prog_9_method_50_code
def yJ9_floorMod_7cf53 : MethodName := ⟨RJ9, "floorMod", "(II)I"⟩
abbrev cJ9_abs_0f7a4 : ByteArray := prog_9_method_59_code
def yJ9_abs_0f7a4 : MethodName := ⟨RJ9, "abs", "(I)I"⟩
abbrev cJ9_max_7cf53 : ByteArray := prog_9_method_65_code
def yJ9_max_7cf53 : MethodName := ⟨RJ9, "max", "(II)I"⟩
abbrev cJ9_min_7cf53 : ByteArray := prog_9_method_69_code
def yJ9_min_7cf53 : MethodName := ⟨RJ9, "min", "(II)I"⟩
def RJ7 : String := "java/util/Arrays"
def TJ7 : u_T := fun k => match k with
  | _ => ("", "", "", false)
def tyJ7 : Nat → FieldType := fun k => match k with
  | _ => .int
abbrev wsJ70 : List Cond := u_ws RJ7 TJ7 0
theorem nmJ7 : ∀ a, a < 0 → ∀ b, b < 0 → a ≠ b → (TJ7 a).2.1 ≠ (TJ7 b).2.1 := by decide +kernel
theorem tyJ7_ok : ∀ k, k < 0 → parseFieldDescriptor (TJ7 k).2.2.1 = some (tyJ7 k) := by decide +kernel
abbrev cJ7_fill_53178 : ByteArray := prog_10_method_103_code
def yJ7_fill_53178 : MethodName := ⟨RJ7, "fill", "([II)V"⟩
def RL : String := "CanDepthsLaw"
abbrev cL_law : ByteArray := code
def yL_law : MethodName := ⟨RL, "law", "([I)Z"⟩
def wsL_law_r1 : List Cond := [Cond.classLink RL 7 RX5, Cond.instantiable RX5 9, Cond.initialized RX5, Cond.classLink RL 10 RX6, Cond.instantiable RX6 20, Cond.initialized RX6, Cond.methodLink RL 9 yX5_init, Cond.instanceMethod yX5_init, Cond.code yX5_init cX5_init 2 none, Cond.methodLink RX5 1 objectInit, Cond.instanceMethod objectInit, Cond.code objectInit ⟨#[0xb1]⟩ 1 none, Cond.classLink RX5 7 RX3, Cond.instantiable RX3 2, Cond.initialized RX3, Cond.fieldLink RX5 10 "CanDepths" "page" "LCanDepths$Page;", Cond.classLink RX5 16 RX1, Cond.instantiable RX1 5, Cond.initialized RX1, Cond.fieldLink RX5 19 "CanDepths" "laid" "LCanDepths$Ground;", Cond.classLink RX5 23 RX0, Cond.instantiable RX0 6, Cond.initialized RX0, Cond.fieldLink RX5 26 "CanDepths" "found" "LCanDepths$Best;"]
def wsL_law_r2 : List Cond := [Cond.classLink RX5 30 RX2, Cond.instantiable RX2 2, Cond.initialized RX2, Cond.fieldLink RX5 33 "CanDepths" "spare" "LCanDepths$Head;", Cond.fieldLink RX5 37 "CanDepths" "heads" "[LCanDepths$Head;", Cond.instanceMethod yX3_init, Cond.code yX3_init cX3_init 1 none, Cond.methodLink RX3 1 objectInit, Cond.arrayClass .int, Cond.fieldLink RX3 9 "CanDepths$Page" "codes" "[I", Cond.instanceMethod yX1_init, Cond.code yX1_init cX1_init 1 none, Cond.methodLink RX1 3 objectInit, Cond.fieldLink RX1 11 "CanDepths$Ground" "cells" "[I", Cond.fieldLink RX1 15 "CanDepths$Ground" "tally" "[I", Cond.classLink RX1 18 RX4, Cond.instantiable RX4 2, Cond.initialized RX4, Cond.fieldLink RX1 21 "CanDepths$Ground" "ratio" "LCanDepths$Ratio;", Cond.fieldLink RX1 25 "CanDepths$Ground" "width" "I", Cond.fieldLink RX1 29 "CanDepths$Ground" "height" "I", Cond.instanceMethod yX4_init, Cond.code yX4_init cX4_init 1 none, Cond.methodLink RX4 1 objectInit]
def wsL_law_r3 : List Cond := [Cond.fieldLink RX4 7 "CanDepths$Ratio" "below" "I", Cond.instanceMethod yX0_init, Cond.code yX0_init cX0_init 1 none, Cond.methodLink RX0 3 objectInit, Cond.instanceMethod yX2_init, Cond.code yX2_init cX2_init 1 none, Cond.methodLink RX2 3 objectInit, Cond.fieldLink RX2 11 "CanDepths$Head" "depths" "[I", Cond.fieldLink RX2 15 "CanDepths$Head" "side" "I", Cond.methodLink RL 12 yX6_init, Cond.instanceMethod yX6_init, Cond.code yX6_init cX6_init 1 none, Cond.methodLink RX6 1 objectInit, Cond.fieldLink RX6 7 "CanDepthsModel" "page" "[I", Cond.fieldLink RX6 13 "CanDepthsModel" "sideOf" "[I", Cond.fieldLink RX6 16 "CanDepthsModel" "depths" "[I", Cond.fieldLink RX6 19 "CanDepthsModel" "grounds" "[I", Cond.methodLink RL 13 yX5_letter, Cond.instanceMethod yX5_letter, Cond.selects RX5 yX5_letter yX5_letter, Cond.code yX5_letter cX5_letter 2 (some .int), Cond.constant RX5 45 (-1000003), Cond.constant RX5 54 (-1000005), Cond.methodLink RX5 41 yX5_isWithin]
def wsL_law_r4 : List Cond := [Cond.static yX5_isWithin, Cond.code yX5_isWithin cX5_isWithin 3 (some .boolean), Cond.methodLink RX5 46 yX3_append, Cond.instanceMethod yX3_append, Cond.selects RX3 yX3_append yX3_append, Cond.code yX3_append cX3_append 2 (some .boolean), Cond.fieldLink RX3 13 "CanDepths$Page" "length" "I", Cond.methodLink RX5 50 yX3_length, Cond.instanceMethod yX3_length, Cond.selects RX3 yX3_length yX3_length, Cond.code yX3_length cX3_length 1 (some .int), Cond.methodLink RL 17 yX6_letter, Cond.instanceMethod yX6_letter, Cond.selects RX6 yX6_letter yX6_letter, Cond.code yX6_letter cX6_letter 2 (some .int), Cond.constant RX6 26 (-1000003), Cond.fieldLink RX6 27 "CanDepthsModel" "pageLength" "I", Cond.constant RX6 31 (-1000005), Cond.methodLink RX6 22 yX6_within, Cond.static yX6_within, Cond.code yX6_within cX6_within 3 (some .boolean), Cond.methodLink RL 18 yX5_blank, Cond.instanceMethod yX5_blank, Cond.selects RX5 yX5_blank yX5_blank]
def wsL_law_r5 : List Cond := [Cond.code yX5_blank cX5_blank 2 (some .int), Cond.methodLink RX5 55 yX3_clear, Cond.instanceMethod yX3_clear, Cond.selects RX3 yX3_clear yX3_clear, Cond.code yX3_clear cX3_clear 1 none, Cond.methodLink RL 22 yX6_blank, Cond.instanceMethod yX6_blank, Cond.selects RX6 yX6_blank yX6_blank, Cond.code yX6_blank cX6_blank 2 (some .int), Cond.methodLink RL 23 yX5_fault, Cond.instanceMethod yX5_fault, Cond.selects RX5 yX5_fault yX5_fault, Cond.code yX5_fault cX5_fault 1 (some .int), Cond.methodLink RX5 58 yX3_firstFault, Cond.instanceMethod yX3_firstFault, Cond.selects RX3 yX3_firstFault yX3_firstFault, Cond.code yX3_firstFault cX3_firstFault 6 (some .int), Cond.fieldLink RX3 17 "CanDepths$Page" "SIDES" "[I", Cond.methodLink RX3 24 Lib.Math.max.name, Cond.static Lib.Math.max.name, Cond.initialized "java/lang/Math", Cond.code Lib.Math.max.name Lib.Math.max.code 2 (some .int), Cond.methodLink RX3 20 yX3_fitting, Cond.instanceMethod yX3_fitting]
def wsL_law_r6 : List Cond := [Cond.selects RX3 yX3_fitting yX3_fitting, Cond.code yX3_fitting cX3_fitting 6 (some .int), Cond.methodLink RX3 33 Lib.Math.min.name, Cond.static Lib.Math.min.name, Cond.code Lib.Math.min.name Lib.Math.min.code 2 (some .int), Cond.methodLink RX3 30 yX3_lettersOf, Cond.static yX3_lettersOf, Cond.code yX3_lettersOf cX3_lettersOf 1 (some .int), Cond.methodLink RX3 36 yX3_figure, Cond.static yX3_figure, Cond.code yX3_figure cX3_figure 1 (some .int), Cond.methodLink RL 26 yX6_fault, Cond.instanceMethod yX6_fault, Cond.selects RX6 yX6_fault yX6_fault, Cond.code yX6_fault cX6_fault 1 (some .int), Cond.methodLink RX6 50 yX6_goAlong, Cond.instanceMethod yX6_goAlong, Cond.selects RX6 yX6_goAlong yX6_goAlong, Cond.code yX6_goAlong cX6_goAlong 2 (some .int), Cond.fieldLink RX6 36 "CanDepthsModel" "signs" "I", Cond.fieldLink RX6 39 "CanDepthsModel" "rowNow" "I", Cond.fieldLink RX6 33 "CanDepthsModel" "newSide" "I", Cond.methodLink RX6 46 yX6_takes, Cond.instanceMethod yX6_takes]
def wsL_law_r7 : List Cond := [Cond.selects RX6 yX6_takes yX6_takes, Cond.code yX6_takes cX6_takes 3 (some .boolean), Cond.constant RX6 32 (-1000001), Cond.methodLink RX6 42 yX6_depthOf, Cond.static yX6_depthOf, Cond.code yX6_depthOf cX6_depthOf 1 (some .int), Cond.methodLink RL 27 yX5_take, Cond.instanceMethod yX5_take, Cond.selects RX5 yX5_take yX5_take, Cond.code yX5_take cX5_take 2 (some .int), Cond.constant RX5 64 (-1000004), Cond.fieldLink RX5 69 "CanDepths" "standing" "I", Cond.fieldLink RX5 77 "CanDepths" "texts" "I", Cond.methodLink RX5 61 yX3_sideOfHead, Cond.instanceMethod yX3_sideOfHead, Cond.selects RX3 yX3_sideOfHead yX3_sideOfHead, Cond.code yX3_sideOfHead cX3_sideOfHead 5 (some .int), Cond.methodLink RX5 65 yX5_isCrowded, Cond.instanceMethod yX5_isCrowded, Cond.selects RX5 yX5_isCrowded yX5_isCrowded, Cond.code yX5_isCrowded cX5_isCrowded 1 (some .boolean), Cond.methodLink RX5 73 yX2_read, Cond.instanceMethod yX2_read, Cond.selects RX2 yX2_read yX2_read]
def wsL_law_r8 : List Cond := [Cond.code yX2_read cX2_read 6 none, Cond.methodLink RX2 40 Lib.Math.max.name, Cond.methodLink RX2 27 yX2_resize, Cond.instanceMethod yX2_resize, Cond.selects RX2 yX2_resize yX2_resize, Cond.code yX2_resize cX2_resize 2 none, Cond.methodLink RX2 71 Lib.Math.min.name, Cond.methodLink RX2 31 yX3_codeAt, Cond.instanceMethod yX3_codeAt, Cond.selects RX3 yX3_codeAt yX3_codeAt, Cond.code yX3_codeAt cX3_codeAt 2 (some .int), Cond.methodLink RX2 37 yX3_figure, Cond.methodLink RL 30 yX6_take, Cond.instanceMethod yX6_take, Cond.selects RX6 yX6_take yX6_take, Cond.code yX6_take cX6_take 4 (some .int), Cond.constant RX6 58 (-1000004), Cond.fieldLink RX6 59 "CanDepthsModel" "heads" "I", Cond.fieldLink RX6 62 "CanDepthsModel" "cameEver" "I", Cond.methodLink RX6 54 yX6_cell, Cond.static yX6_cell, Cond.code yX6_cell cX6_cell 3 (some .int), Cond.methodLink RL 31 yX5_drop, Cond.instanceMethod yX5_drop]
def wsL_law_r9 : List Cond := [Cond.selects RX5 yX5_drop yX5_drop, Cond.code yX5_drop cX5_drop 4 (some .int), Cond.constant RX5 83 (-1000002), Cond.fieldLink RX5 84 "CanDepths" "gone" "I", Cond.methodLink RX5 80 yX5_isKnown, Cond.instanceMethod yX5_isKnown, Cond.selects RX5 yX5_isKnown yX5_isKnown, Cond.code yX5_isKnown cX5_isKnown 2 (some .boolean), Cond.methodLink RL 34 yX6_drop, Cond.instanceMethod yX6_drop, Cond.selects RX6 yX6_drop yX6_drop, Cond.code yX6_drop cX6_drop 3 (some .int), Cond.constant RX6 68 (-1000002), Cond.fieldLink RX6 69 "CanDepthsModel" "wentEver" "I", Cond.methodLink RX6 65 yX6_isHead, Cond.instanceMethod yX6_isHead, Cond.selects RX6 yX6_isHead yX6_isHead, Cond.code yX6_isHead cX6_isHead 2 (some .boolean), Cond.methodLink RX6 72 yX6_copy, Cond.instanceMethod yX6_copy, Cond.selects RX6 yX6_copy yX6_copy, Cond.code yX6_copy cX6_copy 4 none, Cond.methodLink RL 35 yX5_turn, Cond.instanceMethod yX5_turn]
def wsL_law_r10 : List Cond := [Cond.selects RX5 yX5_turn yX5_turn, Cond.code yX5_turn cX5_turn 4 (some .int), Cond.fieldLink RX5 91 "CanDepths" "turns" "I", Cond.methodLink RX5 87 yX2_copyTurned, Cond.instanceMethod yX2_copyTurned, Cond.selects RX2 yX2_copyTurned yX2_copyTurned, Cond.code yX2_copyTurned cX2_copyTurned 7 none, Cond.methodLink RX2 19 yX2_reach, Cond.instanceMethod yX2_reach, Cond.selects RX2 yX2_reach yX2_reach, Cond.code yX2_reach cX2_reach 1 (some .int), Cond.methodLink RX2 46 yX2_turnedAt, Cond.instanceMethod yX2_turnedAt, Cond.selects RX2 yX2_turnedAt yX2_turnedAt, Cond.code yX2_turnedAt cX2_turnedAt 4 (some .int), Cond.methodLink RX2 54 yX2_depthAt, Cond.instanceMethod yX2_depthAt, Cond.selects RX2 yX2_depthAt yX2_depthAt, Cond.code yX2_depthAt cX2_depthAt 4 (some .int), Cond.methodLink RX2 50 yX2_put, Cond.instanceMethod yX2_put, Cond.selects RX2 yX2_put yX2_put, Cond.code yX2_put cX2_put 5 none, Cond.methodLink RL 39 yX6_turn]
def wsL_law_r11 : List Cond := [Cond.instanceMethod yX6_turn, Cond.selects RX6 yX6_turn yX6_turn, Cond.code yX6_turn cX6_turn 7 (some .int), Cond.fieldLink RX6 83 "CanDepthsModel" "turnedEver" "I", Cond.methodLink RX6 79 yX6_turnedAt, Cond.instanceMethod yX6_turnedAt, Cond.selects RX6 yX6_turnedAt yX6_turnedAt, Cond.code yX6_turnedAt cX6_turnedAt 5 (some .int), Cond.methodLink RX6 76 yX6_depthAt, Cond.instanceMethod yX6_depthAt, Cond.selects RX6 yX6_depthAt yX6_depthAt, Cond.code yX6_depthAt cX6_depthAt 4 (some .int), Cond.methodLink RL 40 yX5_bend, Cond.instanceMethod yX5_bend, Cond.selects RX5 yX5_bend yX5_bend, Cond.code yX5_bend cX5_bend 5 (some .int), Cond.methodLink RX5 94 yX2_copyBent, Cond.instanceMethod yX2_copyBent, Cond.selects RX2 yX2_copyBent yX2_copyBent, Cond.code yX2_copyBent cX2_copyBent 7 none, Cond.methodLink RX5 98 yX2_thrown, Cond.instanceMethod yX2_thrown, Cond.selects RX2 yX2_thrown yX2_thrown, Cond.code yX2_thrown cX2_thrown 3 (some .int)]
def wsL_law_r12 : List Cond := [Cond.methodLink RL 44 yX6_bend, Cond.instanceMethod yX6_bend, Cond.selects RX6 yX6_bend yX6_bend, Cond.code yX6_bend cX6_bend 9 (some .int), Cond.methodLink RX6 86 yX6_thrownBy, Cond.instanceMethod yX6_thrownBy, Cond.selects RX6 yX6_thrownBy yX6_thrownBy, Cond.code yX6_thrownBy cX6_thrownBy 4 (some .int), Cond.methodLink RL 45 yX5_head, Cond.instanceMethod yX5_head, Cond.selects RX5 yX5_head yX5_head, Cond.code yX5_head cX5_head 3 (some .int), Cond.methodLink RX5 101 yX2_tell, Cond.instanceMethod yX2_tell, Cond.selects RX2 yX2_tell yX2_tell, Cond.code yX2_tell cX2_tell 2 (some .int), Cond.constant RX2 70 (-1000003), Cond.methodLink RX2 57 yX2_thrown, Cond.methodLink RX2 60 yX2_greatest, Cond.instanceMethod yX2_greatest, Cond.selects RX2 yX2_greatest yX2_greatest, Cond.code yX2_greatest cX2_greatest 3 (some .int), Cond.methodLink RX2 63 yX2_leastTurn, Cond.instanceMethod yX2_leastTurn]
def wsL_law_r13 : List Cond := [Cond.selects RX2 yX2_leastTurn yX2_leastTurn, Cond.code yX2_leastTurn cX2_leastTurn 2 (some .int), Cond.methodLink RX2 66 yX2_isSame, Cond.instanceMethod yX2_isSame, Cond.selects RX2 yX2_isSame yX2_isSame, Cond.code yX2_isSame cX2_isSame 6 (some .boolean), Cond.methodLink RL 49 yX6_head, Cond.instanceMethod yX6_head, Cond.selects RX6 yX6_head yX6_head, Cond.code yX6_head cX6_head 3 (some .int), Cond.methodLink RX6 102 yX6_headNow, Cond.instanceMethod yX6_headNow, Cond.selects RX6 yX6_headNow yX6_headNow, Cond.code yX6_headNow cX6_headNow 3 (some .int), Cond.methodLink RX6 93 yX6_deepest, Cond.instanceMethod yX6_deepest, Cond.selects RX6 yX6_deepest yX6_deepest, Cond.code yX6_deepest cX6_deepest 4 (some .int), Cond.methodLink RX6 96 yX6_sameTurn, Cond.instanceMethod yX6_sameTurn, Cond.selects RX6 yX6_sameTurn yX6_sameTurn, Cond.code yX6_sameTurn cX6_sameTurn 3 (some .int), Cond.methodLink RX6 89 yX6_isSameTurned, Cond.instanceMethod yX6_isSameTurned]
def wsL_law_r14 : List Cond := [Cond.selects RX6 yX6_isSameTurned yX6_isSameTurned, Cond.code yX6_isSameTurned cX6_isSameTurned 5 (some .boolean), Cond.methodLink RX6 99 yX6_isSameMirrored, Cond.instanceMethod yX6_isSameMirrored, Cond.selects RX6 yX6_isSameMirrored yX6_isSameMirrored, Cond.code yX6_isSameMirrored cX6_isSameMirrored 4 (some .boolean), Cond.methodLink RL 50 yX5_depth, Cond.instanceMethod yX5_depth, Cond.selects RX5 yX5_depth yX5_depth, Cond.code yX5_depth cX5_depth 4 (some .int), Cond.methodLink RX5 105 yX2_depthAt, Cond.methodLink RL 53 yX6_depth, Cond.instanceMethod yX6_depth, Cond.selects RX6 yX6_depth yX6_depth, Cond.code yX6_depth cX6_depth 4 (some .int), Cond.methodLink RL 54 yX5_ground, Cond.instanceMethod yX5_ground, Cond.selects RX5 yX5_ground yX5_ground, Cond.code yX5_ground cX5_ground 7 (some .int), Cond.methodLink RX5 109 yX5_isLaidOut, Cond.static yX5_isLaidOut, Cond.code yX5_isLaidOut cX5_isLaidOut 3 (some .boolean), Cond.methodLink RX5 120 yX5_isSpacing, Cond.static yX5_isSpacing]
def wsL_law_r15 : List Cond := [Cond.code yX5_isSpacing cX5_isSpacing 1 (some .boolean), Cond.methodLink RX5 112 yX1_layTile, Cond.instanceMethod yX1_layTile, Cond.selects RX1 yX1_layTile yX1_layTile, Cond.code yX1_layTile cX1_layTile 5 none, Cond.methodLink RX1 45 yX1_clear, Cond.instanceMethod yX1_clear, Cond.selects RX1 yX1_clear yX1_clear, Cond.code yX1_clear cX1_clear 4 none, Cond.methodLink RX1 32 Lib.Math.min.name, Cond.methodLink RX1 38 Lib.Math.max.name, Cond.methodLink RX1 41 yX1_many, Cond.instanceMethod yX1_many, Cond.selects RX1 yX1_many yX1_many, Cond.code yX1_many cX1_many 1 (some .int), Cond.methodLink RX1 49 yX1_addWrapped, Cond.instanceMethod yX1_addWrapped, Cond.selects RX1 yX1_addWrapped yX1_addWrapped, Cond.code yX1_addWrapped cX1_addWrapped 7 none, Cond.methodLink RX1 53 yX2_reach, Cond.methodLink RX1 58 yX1_wrappedPlace, Cond.instanceMethod yX1_wrappedPlace, Cond.selects RX1 yX1_wrappedPlace yX1_wrappedPlace, Cond.code yX1_wrappedPlace cX1_wrappedPlace 3 (some .int)]
def wsL_law_r16 : List Cond := [Cond.methodLink RX1 95 yJ9_floorMod_7cf53, Cond.static yJ9_floorMod_7cf53, Cond.initialized RJ9, Cond.code yJ9_floorMod_7cf53 cJ9_floorMod_7cf53 3 (some .int), Cond.methodLink RX1 61 yX2_depthAt, Cond.methodLink RX5 116 yX1_wrappedAt, Cond.instanceMethod yX1_wrappedAt, Cond.selects RX1 yX1_wrappedAt yX1_wrappedAt, Cond.code yX1_wrappedAt cX1_wrappedAt 3 (some .int), Cond.methodLink RL 58 yX6_ground, Cond.instanceMethod yX6_ground, Cond.selects RX6 yX6_ground yX6_ground, Cond.code yX6_ground cX6_ground 8 (some .int), Cond.methodLink RX6 110 yX6_isLaid, Cond.static yX6_isLaid, Cond.code yX6_isLaid cX6_isLaid 3 (some .boolean), Cond.methodLink RX6 113 yX6_groundAt, Cond.instanceMethod yX6_groundAt, Cond.selects RX6 yX6_groundAt yX6_groundAt, Cond.code yX6_groundAt cX6_groundAt 12 (some .int), Cond.methodLink RX6 106 yX6_rowGround, Cond.instanceMethod yX6_rowGround, Cond.selects RX6 yX6_rowGround yX6_rowGround, Cond.code yX6_rowGround cX6_rowGround 10 (some .int)]
def wsL_law_r17 : List Cond := [Cond.methodLink RL 59 yX5_tile, Cond.instanceMethod yX5_tile, Cond.selects RX5 yX5_tile yX5_tile, Cond.code yX5_tile cX5_tile 6 (some .int), Cond.methodLink RX5 119 yX1_tell, Cond.instanceMethod yX1_tell, Cond.selects RX1 yX1_tell yX1_tell, Cond.code yX1_tell cX1_tell 2 (some .int), Cond.constant RX1 73 (-1000001), Cond.constant RX1 87 (-1000003), Cond.methodLink RX1 64 yX1_total, Cond.instanceMethod yX1_total, Cond.selects RX1 yX1_total yX1_total, Cond.code yX1_total cX1_total 3 (some .int), Cond.methodLink RX1 67 yX1_driestPlace, Cond.instanceMethod yX1_driestPlace, Cond.selects RX1 yX1_driestPlace yX1_driestPlace, Cond.code yX1_driestPlace cX1_driestPlace 3 (some .int), Cond.methodLink RX1 70 yX1_greatest, Cond.instanceMethod yX1_greatest, Cond.selects RX1 yX1_greatest yX1_greatest, Cond.code yX1_greatest cX1_greatest 3 (some .int), Cond.methodLink RX1 74 yX1_even, Cond.instanceMethod yX1_even]
def wsL_law_r18 : List Cond := [Cond.selects RX1 yX1_even yX1_even, Cond.code yX1_even cX1_even 5 (some (.object "CanDepths$Ratio")), Cond.methodLink RX1 88 Lib.Math.abs.name, Cond.static Lib.Math.abs.name, Cond.code Lib.Math.abs.name Lib.Math.abs.code 1 (some .int), Cond.methodLink RX1 92 yX4_set, Cond.instanceMethod yX4_set, Cond.selects RX4 yX4_set yX4_set, Cond.code yX4_set cX4_set 4 none, Cond.methodLink RX4 13 Lib.Math.abs.name, Cond.fieldLink RX4 23 "CanDepths$Ratio" "above" "I", Cond.methodLink RX4 19 yX4_inCommon, Cond.static yX4_inCommon, Cond.code yX4_inCommon cX4_inCommon 4 (some .int), Cond.methodLink RX1 78 yX4_above, Cond.instanceMethod yX4_above, Cond.selects RX4 yX4_above yX4_above, Cond.code yX4_above cX4_above 1 (some .int), Cond.methodLink RX1 81 yX4_below, Cond.instanceMethod yX4_below, Cond.selects RX4 yX4_below yX4_below, Cond.code yX4_below cX4_below 1 (some .int), Cond.methodLink RX1 84 yX1_low, Cond.instanceMethod yX1_low]
def wsL_law_r19 : List Cond := [Cond.selects RX1 yX1_low yX1_low, Cond.code yX1_low cX1_low 2 (some (.object "CanDepths$Ratio")), Cond.methodLink RX1 101 yX1_driestTogether, Cond.instanceMethod yX1_driestTogether, Cond.selects RX1 yX1_driestTogether yX1_driestTogether, Cond.code yX1_driestTogether cX1_driestTogether 6 (some .int), Cond.methodLink RX1 104 yX1_tallyDepths, Cond.instanceMethod yX1_tallyDepths, Cond.selects RX1 yX1_tallyDepths yX1_tallyDepths, Cond.code yX1_tallyDepths cX1_tallyDepths 2 none, Cond.methodLink RX1 107 yJ7_fill_53178, Cond.static yJ7_fill_53178, Cond.initialized RJ7, Cond.code yJ7_fill_53178 cJ7_fill_53178 4 none, Cond.methodLink RL 63 yX6_tile, Cond.instanceMethod yX6_tile, Cond.selects RX6 yX6_tile yX6_tile, Cond.code yX6_tile cX6_tile 6 (some .int), Cond.methodLink RX6 165 yX6_tileNow, Cond.instanceMethod yX6_tileNow, Cond.selects RX6 yX6_tileNow yX6_tileNow, Cond.code yX6_tileNow cX6_tileNow 6 (some .int), Cond.methodLink RX6 158 yX6_layLayout, Cond.instanceMethod yX6_layLayout]
def wsL_law_r20 : List Cond := [Cond.selects RX6 yX6_layLayout yX6_layLayout, Cond.code yX6_layLayout cX6_layLayout 5 none, Cond.methodLink RX6 130 yX6_layTile, Cond.instanceMethod yX6_layTile, Cond.selects RX6 yX6_layTile yX6_layTile, Cond.code yX6_layTile cX6_layTile 10 none, Cond.methodLink RX6 123 yX6_begins, Cond.instanceMethod yX6_begins, Cond.selects RX6 yX6_begins yX6_begins, Cond.code yX6_begins cX6_begins 1 none, Cond.fieldLink RX6 117 "CanDepthsModel" "many" "I", Cond.fieldLink RX6 120 "CanDepthsModel" "total" "I", Cond.methodLink RX6 126 yX6_lay, Cond.instanceMethod yX6_lay, Cond.selects RX6 yX6_lay yX6_lay, Cond.code yX6_lay cX6_lay 2 none, Cond.methodLink RX6 162 yX6_laidNow, Cond.instanceMethod yX6_laidNow, Cond.selects RX6 yX6_laidNow yX6_laidNow, Cond.code yX6_laidNow cX6_laidNow 2 (some .int), Cond.methodLink RX6 138 yX6_least, Cond.instanceMethod yX6_least, Cond.selects RX6 yX6_least yX6_least, Cond.code yX6_least cX6_least 3 (some .int)]
def wsL_law_r21 : List Cond := [Cond.methodLink RX6 149 yX6_greatest, Cond.instanceMethod yX6_greatest, Cond.selects RX6 yX6_greatest yX6_greatest, Cond.code yX6_greatest cX6_greatest 3 (some .int), Cond.methodLink RX6 152 yX6_evenAbove, Cond.instanceMethod yX6_evenAbove, Cond.selects RX6 yX6_evenAbove yX6_evenAbove, Cond.code yX6_evenAbove cX6_evenAbove 6 (some .long), Cond.methodLink RX6 145 yX6_lowest, Cond.static yX6_lowest, Cond.code yX6_lowest cX6_lowest 7 (some .int), Cond.methodLink RX6 134 yX6_common, Cond.static yX6_common, Cond.code yX6_common cX6_common 10 (some .long), Cond.methodLink RX6 155 yX6_lowNow, Cond.instanceMethod yX6_lowNow, Cond.selects RX6 yX6_lowNow yX6_lowNow, Cond.code yX6_lowNow cX6_lowNow 2 (some .int), Cond.methodLink RX6 141 yX6_dry, Cond.instanceMethod yX6_dry, Cond.selects RX6 yX6_dry yX6_dry, Cond.code yX6_dry cX6_dry 6 (some .long), Cond.methodLink RL 64 yX5_byTurns, Cond.instanceMethod yX5_byTurns]
def wsL_law_r22 : List Cond := [Cond.selects RX5 yX5_byTurns yX5_byTurns, Cond.code yX5_byTurns cX5_byTurns 6 (some .int), Cond.methodLink RX5 123 yX1_layInTurns, Cond.instanceMethod yX1_layInTurns, Cond.selects RX1 yX1_layInTurns yX1_layInTurns, Cond.code yX1_layInTurns cX1_layInTurns 5 none, Cond.methodLink RL 67 yX6_byTurns, Cond.instanceMethod yX6_byTurns, Cond.selects RX6 yX6_byTurns yX6_byTurns, Cond.code yX6_byTurns cX6_byTurns 6 (some .int), Cond.methodLink RX6 169 yX6_turnsNow, Cond.instanceMethod yX6_turnsNow, Cond.selects RX6 yX6_turnsNow yX6_turnsNow, Cond.code yX6_turnsNow cX6_turnsNow 6 (some .int), Cond.methodLink RL 68 yX5_best, Cond.instanceMethod yX5_best, Cond.selects RX5 yX5_best yX5_best, Cond.code yX5_best cX5_best 4 (some .int), Cond.methodLink RX5 127 yX5_findBest, Cond.instanceMethod yX5_findBest, Cond.selects RX5 yX5_findBest yX5_findBest, Cond.code yX5_findBest cX5_findBest 7 none, Cond.methodLink RX5 180 yX0_forget, Cond.instanceMethod yX0_forget]
def wsL_law_r23 : List Cond := [Cond.selects RX0 yX0_forget yX0_forget, Cond.code yX0_forget cX0_forget 1 none, Cond.fieldLink RX0 9 "CanDepths$Best" "known" "Z", Cond.methodLink RX5 183 yX1_even, Cond.methodLink RX5 187 yX0_weigh, Cond.instanceMethod yX0_weigh, Cond.selects RX0 yX0_weigh yX0_weigh, Cond.code yX0_weigh cX0_weigh 5 none, Cond.fieldLink RX0 19 "CanDepths$Best" "layout" "I", Cond.fieldLink RX0 23 "CanDepths$Best" "a" "I", Cond.fieldLink RX0 26 "CanDepths$Best" "b" "I", Cond.fieldLink RX0 35 "CanDepths$Best" "above" "I", Cond.fieldLink RX0 40 "CanDepths$Best" "below" "I", Cond.methodLink RX0 15 yX0_isBetter, Cond.instanceMethod yX0_isBetter, Cond.selects RX0 yX0_isBetter yX0_isBetter, Cond.code yX0_isBetter cX0_isBetter 9 (some .boolean), Cond.methodLink RX0 37 yX4_below, Cond.methodLink RX0 29 yX4_above, Cond.methodLink RX5 131 yX0_tell, Cond.instanceMethod yX0_tell, Cond.selects RX0 yX0_tell yX0_tell, Cond.code yX0_tell cX0_tell 2 (some .int), Cond.constant RX0 42 (-1000001)]
def wsL_law_r24 : List Cond := [Cond.constant RX0 43 (-1000003), Cond.methodLink RL 71 yX6_best, Cond.instanceMethod yX6_best, Cond.selects RX6 yX6_best yX6_best, Cond.code yX6_best cX6_best 4 (some .int), Cond.methodLink RX6 191 yX6_layBest, Cond.instanceMethod yX6_layBest, Cond.selects RX6 yX6_layBest yX6_layBest, Cond.code yX6_layBest cX6_layBest 7 none, Cond.fieldLink RX6 172 "CanDepthsModel" "bestLayout" "I", Cond.fieldLink RX6 182 "CanDepthsModel" "bestA" "I", Cond.fieldLink RX6 185 "CanDepthsModel" "bestB" "I", Cond.fieldLink RX6 179 "CanDepthsModel" "bestAbove" "J", Cond.fieldLink RX6 175 "CanDepthsModel" "bestBelow" "J", Cond.methodLink RX6 188 yX6_isBetter, Cond.instanceMethod yX6_isBetter, Cond.selects RX6 yX6_isBetter yX6_isBetter, Cond.code yX6_isBetter cX6_isBetter 5 (some .boolean), Cond.methodLink RX6 194 yX6_bestNow, Cond.instanceMethod yX6_bestNow, Cond.selects RX6 yX6_bestNow yX6_bestNow, Cond.code yX6_bestNow cX6_bestNow 2 (some .int), Cond.methodLink RL 72 yX5_field, Cond.instanceMethod yX5_field]
def wsL_law_r25 : List Cond := [Cond.selects RX5 yX5_field yX5_field, Cond.code yX5_field cX5_field 8 (some .int), Cond.methodLink RX5 132 yX5_bitsOfField, Cond.static yX5_bitsOfField, Cond.code yX5_bitsOfField cX5_bitsOfField 5 (some .int), Cond.methodLink RX5 191 yX5_numberInField, Cond.static yX5_numberInField, Cond.code yX5_numberInField cX5_numberInField 2 (some .int), Cond.methodLink RX5 135 yX5_layField, Cond.instanceMethod yX5_layField, Cond.selects RX5 yX5_layField yX5_layField, Cond.code yX5_layField cX5_layField 9 none, Cond.methodLink RX5 194 yX1_clear, Cond.methodLink RX5 197 yX5_hasFailed, Cond.static yX5_hasFailed, Cond.code yX5_hasFailed cX5_hasFailed 2 (some .boolean), Cond.methodLink RX5 201 yX1_addWithin, Cond.instanceMethod yX1_addWithin, Cond.selects RX1 yX1_addWithin yX1_addWithin, Cond.code yX1_addWithin cX1_addWithin 6 none, Cond.methodLink RX5 139 yX1_driestX, Cond.instanceMethod yX1_driestX, Cond.selects RX1 yX1_driestX yX1_driestX, Cond.code yX1_driestX cX1_driestX 1 (some .int)]
def wsL_law_r26 : List Cond := [Cond.methodLink RX5 142 yX1_driestY, Cond.instanceMethod yX1_driestY, Cond.selects RX1 yX1_driestY yX1_driestY, Cond.code yX1_driestY cX1_driestY 1 (some .int), Cond.methodLink RX1 98 yJ9_floorDiv_7cf53, Cond.static yJ9_floorDiv_7cf53, Cond.code yJ9_floorDiv_7cf53 cJ9_floorDiv_7cf53 3 (some .int), Cond.methodLink RX5 145 yX5_tellMissed, Cond.instanceMethod yX5_tellMissed, Cond.selects RX5 yX5_tellMissed yX5_tellMissed, Cond.code yX5_tellMissed cX5_tellMissed 14 (some .int), Cond.constant RX5 204 (-1000001), Cond.methodLink RX5 205 yX1_shareWithin, Cond.instanceMethod yX1_shareWithin, Cond.selects RX1 yX1_shareWithin yX1_shareWithin, Cond.code yX1_shareWithin cX1_shareWithin 7 (some .int), Cond.methodLink RX5 209 yX1_total, Cond.methodLink RL 76 yX6_field, Cond.instanceMethod yX6_field, Cond.selects RX6 yX6_field yX6_field, Cond.code yX6_field cX6_field 9 (some .int), Cond.methodLink RX6 211 yX6_allOf, Cond.static yX6_allOf, Cond.code yX6_allOf cX6_allOf 4 (some .int)]
def wsL_law_r27 : List Cond := [Cond.methodLink RX6 214 yX6_fieldNow, Cond.instanceMethod yX6_fieldNow, Cond.selects RX6 yX6_fieldNow yX6_fieldNow, Cond.code yX6_fieldNow cX6_fieldNow 9 (some .int), Cond.methodLink RX6 204 yX6_missedOf, Cond.instanceMethod yX6_missedOf, Cond.selects RX6 yX6_missedOf yX6_missedOf, Cond.code yX6_missedOf cX6_missedOf 12 (some .int), Cond.methodLink RX6 200 yX6_layField, Cond.instanceMethod yX6_layField, Cond.selects RX6 yX6_layField yX6_layField, Cond.code yX6_layField cX6_layField 9 none, Cond.methodLink RX6 197 yX6_fieldAt, Cond.instanceMethod yX6_fieldAt, Cond.selects RX6 yX6_fieldAt yX6_fieldAt, Cond.code yX6_fieldAt cX6_fieldAt 9 (some .int), Cond.methodLink RX6 208 yX6_driest, Cond.instanceMethod yX6_driest, Cond.selects RX6 yX6_driest yX6_driest, Cond.code yX6_driest cX6_driest 3 (some .int), Cond.methodLink RL 77 yX5_count, Cond.instanceMethod yX5_count, Cond.selects RX5 yX5_count yX5_count, Cond.code yX5_count cX5_count 2 (some .int)]
def wsL_law_r28 : List Cond := [Cond.methodLink RX5 149 yX5_thrownOfAll, Cond.instanceMethod yX5_thrownOfAll, Cond.selects RX5 yX5_thrownOfAll yX5_thrownOfAll, Cond.code yX5_thrownOfAll cX5_thrownOfAll 3 (some .int), Cond.methodLink RL 80 yX6_count, Cond.instanceMethod yX6_count, Cond.selects RX6 yX6_count yX6_count, Cond.code yX6_count cX6_count 2 (some .int), Cond.methodLink RX6 220 yX6_howMany, Cond.instanceMethod yX6_howMany, Cond.selects RX6 yX6_howMany yX6_howMany, Cond.code yX6_howMany cX6_howMany 2 (some .int), Cond.methodLink RX6 217 yX6_thrownAll, Cond.instanceMethod yX6_thrownAll, Cond.selects RX6 yX6_thrownAll yX6_thrownAll, Cond.code yX6_thrownAll cX6_thrownAll 3 (some .int), Cond.methodLink RL 81 yX5_digest, Cond.instanceMethod yX5_digest, Cond.selects RX5 yX5_digest yX5_digest, Cond.code yX5_digest cX5_digest 4 (some .long), Cond.constantLong RX5 152 (1621), Cond.methodLink RX5 154 yX5_mixHead, Cond.static yX5_mixHead, Cond.code yX5_mixHead cX5_mixHead 6 (some .long)]
def wsL_law_r29 : List Cond := [Cond.methodLink RX5 168 yX5_mix, Cond.static yX5_mix, Cond.code yX5_mix cX5_mix 3 (some .long), Cond.constantLong RX5 175 (31), Cond.methodLink RX5 177 yX2_reach, Cond.methodLink RX5 158 yX5_mixTile, Cond.instanceMethod yX5_mixTile, Cond.selects RX5 yX5_mixTile yX5_mixTile, Cond.code yX5_mixTile cX5_mixTile 6 (some .long), Cond.methodLink RX5 162 yX5_mixBest, Cond.instanceMethod yX5_mixBest, Cond.selects RX5 yX5_mixBest yX5_mixBest, Cond.code yX5_mixBest cX5_mixBest 5 (some .long), Cond.methodLink RX5 165 yX3_codeAt, Cond.methodLink RX5 172 yX5_count, Cond.methodLink RL 85 yX6_digest, Cond.instanceMethod yX6_digest, Cond.selects RX6 yX6_digest yX6_digest, Cond.code yX6_digest cX6_digest 2 (some .long), Cond.constantLong RX6 232 (1621), Cond.fieldLink RX6 225 "CanDepthsModel" "h" "J", Cond.methodLink RX6 234 yX6_mixHead, Cond.instanceMethod yX6_mixHead, Cond.selects RX6 yX6_mixHead yX6_mixHead]
def wsL_law_r30 : List Cond := [Cond.code yX6_mixHead cX6_mixHead 5 none, Cond.methodLink RX6 228 yX6_mix, Cond.instanceMethod yX6_mix, Cond.selects RX6 yX6_mix yX6_mix, Cond.code yX6_mix cX6_mix 3 none, Cond.constantLong RX6 223 (31)]
def wsL_law : List Cond := (wsL_law_r1 ++ (wsL_law_r2 ++ (wsL_law_r3 ++ (wsL_law_r4 ++ (wsL_law_r5 ++ (wsL_law_r6 ++ (wsL_law_r7 ++ (wsL_law_r8 ++ (wsL_law_r9 ++ (wsL_law_r10 ++ (wsL_law_r11 ++ (wsL_law_r12 ++ (wsL_law_r13 ++ (wsL_law_r14 ++ (wsL_law_r15 ++ (wsL_law_r16 ++ (wsL_law_r17 ++ (wsL_law_r18 ++ (wsL_law_r19 ++ (wsL_law_r20 ++ (wsL_law_r21 ++ (wsL_law_r22 ++ (wsL_law_r23 ++ (wsL_law_r24 ++ (wsL_law_r25 ++ (wsL_law_r26 ++ (wsL_law_r27 ++ (wsL_law_r28 ++ (wsL_law_r29 ++ wsL_law_r30))))))))))))))))))))))))))))) ++ wsX50 ++ wsX60 ++ wsX30 ++ wsX10 ++ wsX00 ++ wsX20 ++ wsX40 ++ ([] : List Cond)
set_option maxRecDepth 20000 in
theorem wsL_law_in : ∀ w ∈ wsL_law, w ∈ lw_tbl := fun w h => (goodIn_p wsL_law [75, 78, 83, 97, 103, 132, 157, 564, 198, 201, 206, 210, 630, 633, 215, 219, 639, 223, 227, 245, 233, 239, 236, 242, 643, 647, 651, 654, 249, 253, 258, 262, 266, 272, 659, 663, 277, 281, 667, 671, 676, 286, 290, 294, 298, 302, 307, 680, 684, 688, 311, 315, 319, 692, 696, 323, 327, 332, 336, 340, 700, 704, 708, 712, 716, 720, 345, 724, 350, 353, 356, 360, 364, 370, 374, 379, 382, 387, 728, 731, 735, 739, 391, 395, 399, 403, 407, 412, 415, 419, 423, 427, 431, 435, 439, 443, 446, 743, 747, 751, 755, 759, 763, 767, 771, 775, 779, 782, 785, 789, 793, 452, 456, 797, 801, 460, 464, 468, 473, 477, 483, 805, 809, 813, 817, 489, 492, 495, 499, 503, 507, 511, 515, 518, 522, 527, 821, 824, 828, 832, 836, 840, 844, 532, 536, 848, 852, 856, 540, 544, 547, 553, 557, 860, 865, 869] (by decide +kernel) (by decide +kernel) w h).1
theorem inlX0 : ∀ w ∈ wsX00, w ∈ wsL_law := fun _ h => List.mem_append_left _ (List.mem_append_left _ (List.mem_append_left _ (List.mem_append_right _ h)))
theorem inX0 : ∀ w ∈ wsX00, w ∈ lw_tbl := fun w h => wsL_law_in w (inlX0 w h)
theorem inlX1 : ∀ w ∈ wsX10, w ∈ wsL_law := fun _ h => List.mem_append_left _ (List.mem_append_left _ (List.mem_append_left _ (List.mem_append_left _ (List.mem_append_right _ h))))
theorem inX1 : ∀ w ∈ wsX10, w ∈ lw_tbl := fun w h => wsL_law_in w (inlX1 w h)
theorem inlX2 : ∀ w ∈ wsX20, w ∈ wsL_law := fun _ h => List.mem_append_left _ (List.mem_append_left _ (List.mem_append_right _ h))
theorem inX2 : ∀ w ∈ wsX20, w ∈ lw_tbl := fun w h => wsL_law_in w (inlX2 w h)
theorem inlX3 : ∀ w ∈ wsX30, w ∈ wsL_law := fun _ h => List.mem_append_left _ (List.mem_append_left _ (List.mem_append_left _ (List.mem_append_left _ (List.mem_append_left _ (List.mem_append_right _ h)))))
theorem inX3 : ∀ w ∈ wsX30, w ∈ lw_tbl := fun w h => wsL_law_in w (inlX3 w h)
theorem inlX4 : ∀ w ∈ wsX40, w ∈ wsL_law := fun _ h => List.mem_append_left _ (List.mem_append_right _ h)
theorem inX4 : ∀ w ∈ wsX40, w ∈ lw_tbl := fun w h => wsL_law_in w (inlX4 w h)
theorem inlX5 : ∀ w ∈ wsX50, w ∈ wsL_law := fun _ h => List.mem_append_left _ (List.mem_append_left _ (List.mem_append_left _ (List.mem_append_left _ (List.mem_append_left _ (List.mem_append_left _ (List.mem_append_left _ (List.mem_append_right _ h)))))))
theorem inX5 : ∀ w ∈ wsX50, w ∈ lw_tbl := fun w h => wsL_law_in w (inlX5 w h)
theorem inlX6 : ∀ w ∈ wsX60, w ∈ wsL_law := fun _ h => List.mem_append_left _ (List.mem_append_left _ (List.mem_append_left _ (List.mem_append_left _ (List.mem_append_left _ (List.mem_append_left _ (List.mem_append_right _ h))))))
theorem inX6 : ∀ w ∈ wsX60, w ∈ lw_tbl := fun w h => wsL_law_in w (inlX6 w h)
theorem inJ9 : ∀ w ∈ wsJ90, w ∈ lw_tbl := by decide +kernel
theorem inJ7 : ∀ w ∈ wsJ70, w ∈ lw_tbl := by decide +kernel
abbrev vwCl : List vw_C := [(RX0, TX0, 6), (RX1, TX1, 5), (RX2, TX2, 2), (RX3, TX3, 2), (RX4, TX4, 2), (RX5, TX5, 9), (RX6, TX6, 20)]
