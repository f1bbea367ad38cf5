-- ===== PART A: goes FIRST, ahead of the names: the tables' words, and 'selects' of the private methods out of them =====
/-- a private method of a class that the tables say can be made, by its rows of tables_1 -/
def lw_okq (q : MethodName × Nat) : Prop := (q.1.cls ≠ "java/lang/invoke/MethodHandle" ∧ q.1.cls ≠ "java/lang/invoke/VarHandle") ∧ Cond.instantiable q.1.cls q.2 ∈ tables_1 ∧ Cond.privateMethod q.1 ∈ tables_1 ∧ Cond.instanceMethod q.1 ∈ tables_1
theorem lw_p0 : lw_okq (⟨"CanDepths$Page", "fitting", "(I)I"⟩, 2) := ⟨⟨by decide +kernel, by decide +kernel⟩, List.mem_of_getElem? (i := 19) (by decide +kernel), List.mem_of_getElem? (i := 170) (by decide +kernel), List.mem_of_getElem? (i := 171) (by decide +kernel)⟩
theorem lw_p1 : lw_okq (⟨"CanDepths", "isCrowded", "()Z"⟩, 9) := ⟨⟨by decide +kernel, by decide +kernel⟩, List.mem_of_getElem? (i := 11) (by decide +kernel), List.mem_of_getElem? (i := 195) (by decide +kernel), List.mem_of_getElem? (i := 196) (by decide +kernel)⟩
theorem lw_p2 : lw_okq (⟨"CanDepths$Head", "resize", "(I)V"⟩, 2) := ⟨⟨by decide +kernel, by decide +kernel⟩, List.mem_of_getElem? (i := 93) (by decide +kernel), List.mem_of_getElem? (i := 203) (by decide +kernel), List.mem_of_getElem? (i := 204) (by decide +kernel)⟩
theorem lw_p3 : lw_okq (⟨"CanDepths", "isKnown", "(I)Z"⟩, 9) := ⟨⟨by decide +kernel, by decide +kernel⟩, List.mem_of_getElem? (i := 11) (by decide +kernel), List.mem_of_getElem? (i := 218) (by decide +kernel), List.mem_of_getElem? (i := 219) (by decide +kernel)⟩
theorem lw_p4 : lw_okq (⟨"CanDepths$Head", "turnedAt", "(III)I"⟩, 2) := ⟨⟨by decide +kernel, by decide +kernel⟩, List.mem_of_getElem? (i := 93) (by decide +kernel), List.mem_of_getElem? (i := 235) (by decide +kernel), List.mem_of_getElem? (i := 236) (by decide +kernel)⟩
theorem lw_p5 : lw_okq (⟨"CanDepths$Head", "put", "(III)V"⟩, 2) := ⟨⟨by decide +kernel, by decide +kernel⟩, List.mem_of_getElem? (i := 93) (by decide +kernel), List.mem_of_getElem? (i := 243) (by decide +kernel), List.mem_of_getElem? (i := 244) (by decide +kernel)⟩
theorem lw_p6 : lw_okq (⟨"CanDepths$Head", "greatest", "()I"⟩, 2) := ⟨⟨by decide +kernel, by decide +kernel⟩, List.mem_of_getElem? (i := 93) (by decide +kernel), List.mem_of_getElem? (i := 269) (by decide +kernel), List.mem_of_getElem? (i := 270) (by decide +kernel)⟩
theorem lw_p7 : lw_okq (⟨"CanDepths$Head", "leastTurn", "()I"⟩, 2) := ⟨⟨by decide +kernel, by decide +kernel⟩, List.mem_of_getElem? (i := 93) (by decide +kernel), List.mem_of_getElem? (i := 273) (by decide +kernel), List.mem_of_getElem? (i := 274) (by decide +kernel)⟩
theorem lw_p8 : lw_okq (⟨"CanDepths$Head", "isSame", "(IZ)Z"⟩, 2) := ⟨⟨by decide +kernel, by decide +kernel⟩, List.mem_of_getElem? (i := 93) (by decide +kernel), List.mem_of_getElem? (i := 277) (by decide +kernel), List.mem_of_getElem? (i := 278) (by decide +kernel)⟩
theorem lw_p9 : lw_okq (⟨"CanDepths$Ground", "many", "()I"⟩, 5) := ⟨⟨by decide +kernel, by decide +kernel⟩, List.mem_of_getElem? (i := 33) (by decide +kernel), List.mem_of_getElem? (i := 307) (by decide +kernel), List.mem_of_getElem? (i := 308) (by decide +kernel)⟩
theorem lw_p10 : lw_okq (⟨"CanDepths$Ground", "wrappedPlace", "(II)I"⟩, 5) := ⟨⟨by decide +kernel, by decide +kernel⟩, List.mem_of_getElem? (i := 33) (by decide +kernel), List.mem_of_getElem? (i := 316) (by decide +kernel), List.mem_of_getElem? (i := 317) (by decide +kernel)⟩
theorem lw_p11 : lw_okq (⟨"CanDepths$Ground", "driestPlace", "()I"⟩, 5) := ⟨⟨by decide +kernel, by decide +kernel⟩, List.mem_of_getElem? (i := 33) (by decide +kernel), List.mem_of_getElem? (i := 340) (by decide +kernel), List.mem_of_getElem? (i := 341) (by decide +kernel)⟩
theorem lw_p12 : lw_okq (⟨"CanDepths$Ground", "greatest", "()I"⟩, 5) := ⟨⟨by decide +kernel, by decide +kernel⟩, List.mem_of_getElem? (i := 33) (by decide +kernel), List.mem_of_getElem? (i := 344) (by decide +kernel), List.mem_of_getElem? (i := 345) (by decide +kernel)⟩
theorem lw_p13 : lw_okq (⟨"CanDepths$Ground", "low", "()LCanDepths$Ratio;"⟩, 5) := ⟨⟨by decide +kernel, by decide +kernel⟩, List.mem_of_getElem? (i := 33) (by decide +kernel), List.mem_of_getElem? (i := 372) (by decide +kernel), List.mem_of_getElem? (i := 373) (by decide +kernel)⟩
theorem lw_p14 : lw_okq (⟨"CanDepths$Ground", "driestTogether", "(I)I"⟩, 5) := ⟨⟨by decide +kernel, by decide +kernel⟩, List.mem_of_getElem? (i := 33) (by decide +kernel), List.mem_of_getElem? (i := 376) (by decide +kernel), List.mem_of_getElem? (i := 377) (by decide +kernel)⟩
theorem lw_p15 : lw_okq (⟨"CanDepths$Ground", "tallyDepths", "()V"⟩, 5) := ⟨⟨by decide +kernel, by decide +kernel⟩, List.mem_of_getElem? (i := 33) (by decide +kernel), List.mem_of_getElem? (i := 380) (by decide +kernel), List.mem_of_getElem? (i := 381) (by decide +kernel)⟩
def lw_privs_1 : List (MethodName × Nat) := [(⟨"CanDepths$Page", "fitting", "(I)I"⟩, 2), (⟨"CanDepths", "isCrowded", "()Z"⟩, 9), (⟨"CanDepths$Head", "resize", "(I)V"⟩, 2), (⟨"CanDepths", "isKnown", "(I)Z"⟩, 9), (⟨"CanDepths$Head", "turnedAt", "(III)I"⟩, 2), (⟨"CanDepths$Head", "put", "(III)V"⟩, 2), (⟨"CanDepths$Head", "greatest", "()I"⟩, 2), (⟨"CanDepths$Head", "leastTurn", "()I"⟩, 2), (⟨"CanDepths$Head", "isSame", "(IZ)Z"⟩, 2), (⟨"CanDepths$Ground", "many", "()I"⟩, 5), (⟨"CanDepths$Ground", "wrappedPlace", "(II)I"⟩, 5), (⟨"CanDepths$Ground", "driestPlace", "()I"⟩, 5), (⟨"CanDepths$Ground", "greatest", "()I"⟩, 5), (⟨"CanDepths$Ground", "low", "()LCanDepths$Ratio;"⟩, 5), (⟨"CanDepths$Ground", "driestTogether", "(I)I"⟩, 5), (⟨"CanDepths$Ground", "tallyDepths", "()V"⟩, 5)]
theorem lw_r1 : ∀ q ∈ lw_privs_1, lw_okq q := List.forall_mem_cons.mpr ⟨lw_p0, List.forall_mem_cons.mpr ⟨lw_p1, List.forall_mem_cons.mpr ⟨lw_p2, List.forall_mem_cons.mpr ⟨lw_p3, List.forall_mem_cons.mpr ⟨lw_p4, List.forall_mem_cons.mpr ⟨lw_p5, List.forall_mem_cons.mpr ⟨lw_p6, List.forall_mem_cons.mpr ⟨lw_p7, List.forall_mem_cons.mpr ⟨lw_p8, List.forall_mem_cons.mpr ⟨lw_p9, List.forall_mem_cons.mpr ⟨lw_p10, List.forall_mem_cons.mpr ⟨lw_p11, List.forall_mem_cons.mpr ⟨lw_p12, List.forall_mem_cons.mpr ⟨lw_p13, List.forall_mem_cons.mpr ⟨lw_p14, List.forall_mem_cons.mpr ⟨lw_p15, fun _ h => absurd h List.not_mem_nil⟩⟩⟩⟩⟩⟩⟩⟩⟩⟩⟩⟩⟩⟩⟩⟩
theorem lw_p16 : lw_okq (⟨"CanDepths", "findBest", "(LCanDepths$Head;I)V"⟩, 9) := ⟨⟨by decide +kernel, by decide +kernel⟩, List.mem_of_getElem? (i := 11) (by decide +kernel), List.mem_of_getElem? (i := 401) (by decide +kernel), List.mem_of_getElem? (i := 402) (by decide +kernel)⟩
theorem lw_p17 : lw_okq (⟨"CanDepths$Best", "isBetter", "(IIILCanDepths$Ratio;)Z"⟩, 6) := ⟨⟨by decide +kernel, by decide +kernel⟩, List.mem_of_getElem? (i := 68) (by decide +kernel), List.mem_of_getElem? (i := 414) (by decide +kernel), List.mem_of_getElem? (i := 415) (by decide +kernel)⟩
theorem lw_p18 : lw_okq (⟨"CanDepths", "layField", "(LCanDepths$Head;IIIII)V"⟩, 9) := ⟨⟨by decide +kernel, by decide +kernel⟩, List.mem_of_getElem? (i := 11) (by decide +kernel), List.mem_of_getElem? (i := 436) (by decide +kernel), List.mem_of_getElem? (i := 437) (by decide +kernel)⟩
theorem lw_p19 : lw_okq (⟨"CanDepths", "tellMissed", "(LCanDepths$Head;IIIIII)I"⟩, 9) := ⟨⟨by decide +kernel, by decide +kernel⟩, List.mem_of_getElem? (i := 11) (by decide +kernel), List.mem_of_getElem? (i := 459) (by decide +kernel), List.mem_of_getElem? (i := 460) (by decide +kernel)⟩
theorem lw_p20 : lw_okq (⟨"CanDepths", "thrownOfAll", "()I"⟩, 9) := ⟨⟨by decide +kernel, by decide +kernel⟩, List.mem_of_getElem? (i := 11) (by decide +kernel), List.mem_of_getElem? (i := 473) (by decide +kernel), List.mem_of_getElem? (i := 474) (by decide +kernel)⟩
theorem lw_p21 : lw_okq (⟨"CanDepths", "mixTile", "(JLCanDepths$Head;I)J"⟩, 9) := ⟨⟨by decide +kernel, by decide +kernel⟩, List.mem_of_getElem? (i := 11) (by decide +kernel), List.mem_of_getElem? (i := 490) (by decide +kernel), List.mem_of_getElem? (i := 491) (by decide +kernel)⟩
theorem lw_p22 : lw_okq (⟨"CanDepths", "mixBest", "(JLCanDepths$Head;)J"⟩, 9) := ⟨⟨by decide +kernel, by decide +kernel⟩, List.mem_of_getElem? (i := 11) (by decide +kernel), List.mem_of_getElem? (i := 494) (by decide +kernel), List.mem_of_getElem? (i := 495) (by decide +kernel)⟩
theorem lw_p23 : lw_okq (⟨"CanDepthsModel", "goAlong", "()I"⟩, 20) := ⟨⟨by decide +kernel, by decide +kernel⟩, List.mem_of_getElem? (i := 500) (by decide +kernel), List.mem_of_getElem? (i := 584) (by decide +kernel), List.mem_of_getElem? (i := 585) (by decide +kernel)⟩
theorem lw_p24 : lw_okq (⟨"CanDepthsModel", "takes", "(I)Z"⟩, 20) := ⟨⟨by decide +kernel, by decide +kernel⟩, List.mem_of_getElem? (i := 500) (by decide +kernel), List.mem_of_getElem? (i := 588) (by decide +kernel), List.mem_of_getElem? (i := 589) (by decide +kernel)⟩
theorem lw_p25 : lw_okq (⟨"CanDepthsModel", "isHead", "(I)Z"⟩, 20) := ⟨⟨by decide +kernel, by decide +kernel⟩, List.mem_of_getElem? (i := 500) (by decide +kernel), List.mem_of_getElem? (i := 608) (by decide +kernel), List.mem_of_getElem? (i := 609) (by decide +kernel)⟩
theorem lw_p26 : lw_okq (⟨"CanDepthsModel", "copy", "(II)V"⟩, 20) := ⟨⟨by decide +kernel, by decide +kernel⟩, List.mem_of_getElem? (i := 500) (by decide +kernel), List.mem_of_getElem? (i := 613) (by decide +kernel), List.mem_of_getElem? (i := 614) (by decide +kernel)⟩
theorem lw_p27 : lw_okq (⟨"CanDepthsModel", "turnedAt", "(IIII)I"⟩, 20) := ⟨⟨by decide +kernel, by decide +kernel⟩, List.mem_of_getElem? (i := 500) (by decide +kernel), List.mem_of_getElem? (i := 621) (by decide +kernel), List.mem_of_getElem? (i := 622) (by decide +kernel)⟩
theorem lw_p28 : lw_okq (⟨"CanDepthsModel", "depthAt", "(III)I"⟩, 20) := ⟨⟨by decide +kernel, by decide +kernel⟩, List.mem_of_getElem? (i := 500) (by decide +kernel), List.mem_of_getElem? (i := 625) (by decide +kernel), List.mem_of_getElem? (i := 626) (by decide +kernel)⟩
theorem lw_p29 : lw_okq (⟨"CanDepthsModel", "thrownBy", "(I)I"⟩, 20) := ⟨⟨by decide +kernel, by decide +kernel⟩, List.mem_of_getElem? (i := 500) (by decide +kernel), List.mem_of_getElem? (i := 633) (by decide +kernel), List.mem_of_getElem? (i := 634) (by decide +kernel)⟩
theorem lw_p30 : lw_okq (⟨"CanDepthsModel", "headNow", "(II)I"⟩, 20) := ⟨⟨by decide +kernel, by decide +kernel⟩, List.mem_of_getElem? (i := 500) (by decide +kernel), List.mem_of_getElem? (i := 641) (by decide +kernel), List.mem_of_getElem? (i := 642) (by decide +kernel)⟩
theorem lw_p31 : lw_okq (⟨"CanDepthsModel", "deepest", "(I)I"⟩, 20) := ⟨⟨by decide +kernel, by decide +kernel⟩, List.mem_of_getElem? (i := 500) (by decide +kernel), List.mem_of_getElem? (i := 645) (by decide +kernel), List.mem_of_getElem? (i := 646) (by decide +kernel)⟩
def lw_privs_2 : List (MethodName × Nat) := [(⟨"CanDepths", "findBest", "(LCanDepths$Head;I)V"⟩, 9), (⟨"CanDepths$Best", "isBetter", "(IIILCanDepths$Ratio;)Z"⟩, 6), (⟨"CanDepths", "layField", "(LCanDepths$Head;IIIII)V"⟩, 9), (⟨"CanDepths", "tellMissed", "(LCanDepths$Head;IIIIII)I"⟩, 9), (⟨"CanDepths", "thrownOfAll", "()I"⟩, 9), (⟨"CanDepths", "mixTile", "(JLCanDepths$Head;I)J"⟩, 9), (⟨"CanDepths", "mixBest", "(JLCanDepths$Head;)J"⟩, 9), (⟨"CanDepthsModel", "goAlong", "()I"⟩, 20), (⟨"CanDepthsModel", "takes", "(I)Z"⟩, 20), (⟨"CanDepthsModel", "isHead", "(I)Z"⟩, 20), (⟨"CanDepthsModel", "copy", "(II)V"⟩, 20), (⟨"CanDepthsModel", "turnedAt", "(IIII)I"⟩, 20), (⟨"CanDepthsModel", "depthAt", "(III)I"⟩, 20), (⟨"CanDepthsModel", "thrownBy", "(I)I"⟩, 20), (⟨"CanDepthsModel", "headNow", "(II)I"⟩, 20), (⟨"CanDepthsModel", "deepest", "(I)I"⟩, 20)]
theorem lw_r2 : ∀ q ∈ lw_privs_2, lw_okq q := List.forall_mem_cons.mpr ⟨lw_p16, List.forall_mem_cons.mpr ⟨lw_p17, List.forall_mem_cons.mpr ⟨lw_p18, List.forall_mem_cons.mpr ⟨lw_p19, List.forall_mem_cons.mpr ⟨lw_p20, List.forall_mem_cons.mpr ⟨lw_p21, List.forall_mem_cons.mpr ⟨lw_p22, List.forall_mem_cons.mpr ⟨lw_p23, List.forall_mem_cons.mpr ⟨lw_p24, List.forall_mem_cons.mpr ⟨lw_p25, List.forall_mem_cons.mpr ⟨lw_p26, List.forall_mem_cons.mpr ⟨lw_p27, List.forall_mem_cons.mpr ⟨lw_p28, List.forall_mem_cons.mpr ⟨lw_p29, List.forall_mem_cons.mpr ⟨lw_p30, List.forall_mem_cons.mpr ⟨lw_p31, fun _ h => absurd h List.not_mem_nil⟩⟩⟩⟩⟩⟩⟩⟩⟩⟩⟩⟩⟩⟩⟩⟩
theorem lw_p32 : lw_okq (⟨"CanDepthsModel", "sameTurn", "(I)I"⟩, 20) := ⟨⟨by decide +kernel, by decide +kernel⟩, List.mem_of_getElem? (i := 500) (by decide +kernel), List.mem_of_getElem? (i := 649) (by decide +kernel), List.mem_of_getElem? (i := 650) (by decide +kernel)⟩
theorem lw_p33 : lw_okq (⟨"CanDepthsModel", "isSameTurned", "(II)Z"⟩, 20) := ⟨⟨by decide +kernel, by decide +kernel⟩, List.mem_of_getElem? (i := 500) (by decide +kernel), List.mem_of_getElem? (i := 653) (by decide +kernel), List.mem_of_getElem? (i := 654) (by decide +kernel)⟩
theorem lw_p34 : lw_okq (⟨"CanDepthsModel", "isSameMirrored", "(I)Z"⟩, 20) := ⟨⟨by decide +kernel, by decide +kernel⟩, List.mem_of_getElem? (i := 500) (by decide +kernel), List.mem_of_getElem? (i := 657) (by decide +kernel), List.mem_of_getElem? (i := 658) (by decide +kernel)⟩
theorem lw_p35 : lw_okq (⟨"CanDepthsModel", "groundAt", "(IIIIIII)I"⟩, 20) := ⟨⟨by decide +kernel, by decide +kernel⟩, List.mem_of_getElem? (i := 500) (by decide +kernel), List.mem_of_getElem? (i := 672) (by decide +kernel), List.mem_of_getElem? (i := 673) (by decide +kernel)⟩
theorem lw_p36 : lw_okq (⟨"CanDepthsModel", "rowGround", "(IIIIII)I"⟩, 20) := ⟨⟨by decide +kernel, by decide +kernel⟩, List.mem_of_getElem? (i := 500) (by decide +kernel), List.mem_of_getElem? (i := 676) (by decide +kernel), List.mem_of_getElem? (i := 677) (by decide +kernel)⟩
theorem lw_p37 : lw_okq (⟨"CanDepthsModel", "tileNow", "(IIIII)I"⟩, 20) := ⟨⟨by decide +kernel, by decide +kernel⟩, List.mem_of_getElem? (i := 500) (by decide +kernel), List.mem_of_getElem? (i := 684) (by decide +kernel), List.mem_of_getElem? (i := 685) (by decide +kernel)⟩
theorem lw_p38 : lw_okq (⟨"CanDepthsModel", "layLayout", "(IIII)V"⟩, 20) := ⟨⟨by decide +kernel, by decide +kernel⟩, List.mem_of_getElem? (i := 500) (by decide +kernel), List.mem_of_getElem? (i := 688) (by decide +kernel), List.mem_of_getElem? (i := 689) (by decide +kernel)⟩
theorem lw_p39 : lw_okq (⟨"CanDepthsModel", "layTile", "(IIIIIII)V"⟩, 20) := ⟨⟨by decide +kernel, by decide +kernel⟩, List.mem_of_getElem? (i := 500) (by decide +kernel), List.mem_of_getElem? (i := 692) (by decide +kernel), List.mem_of_getElem? (i := 693) (by decide +kernel)⟩
theorem lw_p40 : lw_okq (⟨"CanDepthsModel", "begins", "()V"⟩, 20) := ⟨⟨by decide +kernel, by decide +kernel⟩, List.mem_of_getElem? (i := 500) (by decide +kernel), List.mem_of_getElem? (i := 696) (by decide +kernel), List.mem_of_getElem? (i := 697) (by decide +kernel)⟩
theorem lw_p41 : lw_okq (⟨"CanDepthsModel", "lay", "(I)V"⟩, 20) := ⟨⟨by decide +kernel, by decide +kernel⟩, List.mem_of_getElem? (i := 500) (by decide +kernel), List.mem_of_getElem? (i := 700) (by decide +kernel), List.mem_of_getElem? (i := 701) (by decide +kernel)⟩
theorem lw_p42 : lw_okq (⟨"CanDepthsModel", "laidNow", "(I)I"⟩, 20) := ⟨⟨by decide +kernel, by decide +kernel⟩, List.mem_of_getElem? (i := 500) (by decide +kernel), List.mem_of_getElem? (i := 704) (by decide +kernel), List.mem_of_getElem? (i := 705) (by decide +kernel)⟩
theorem lw_p43 : lw_okq (⟨"CanDepthsModel", "least", "()I"⟩, 20) := ⟨⟨by decide +kernel, by decide +kernel⟩, List.mem_of_getElem? (i := 500) (by decide +kernel), List.mem_of_getElem? (i := 708) (by decide +kernel), List.mem_of_getElem? (i := 709) (by decide +kernel)⟩
theorem lw_p44 : lw_okq (⟨"CanDepthsModel", "greatest", "()I"⟩, 20) := ⟨⟨by decide +kernel, by decide +kernel⟩, List.mem_of_getElem? (i := 500) (by decide +kernel), List.mem_of_getElem? (i := 712) (by decide +kernel), List.mem_of_getElem? (i := 713) (by decide +kernel)⟩
theorem lw_p45 : lw_okq (⟨"CanDepthsModel", "evenAbove", "()J"⟩, 20) := ⟨⟨by decide +kernel, by decide +kernel⟩, List.mem_of_getElem? (i := 500) (by decide +kernel), List.mem_of_getElem? (i := 716) (by decide +kernel), List.mem_of_getElem? (i := 717) (by decide +kernel)⟩
theorem lw_p46 : lw_okq (⟨"CanDepthsModel", "lowNow", "(I)I"⟩, 20) := ⟨⟨by decide +kernel, by decide +kernel⟩, List.mem_of_getElem? (i := 500) (by decide +kernel), List.mem_of_getElem? (i := 726) (by decide +kernel), List.mem_of_getElem? (i := 727) (by decide +kernel)⟩
theorem lw_p47 : lw_okq (⟨"CanDepthsModel", "dry", "()J"⟩, 20) := ⟨⟨by decide +kernel, by decide +kernel⟩, List.mem_of_getElem? (i := 500) (by decide +kernel), List.mem_of_getElem? (i := 730) (by decide +kernel), List.mem_of_getElem? (i := 731) (by decide +kernel)⟩
def lw_privs_3 : List (MethodName × Nat) := [(⟨"CanDepthsModel", "sameTurn", "(I)I"⟩, 20), (⟨"CanDepthsModel", "isSameTurned", "(II)Z"⟩, 20), (⟨"CanDepthsModel", "isSameMirrored", "(I)Z"⟩, 20), (⟨"CanDepthsModel", "groundAt", "(IIIIIII)I"⟩, 20), (⟨"CanDepthsModel", "rowGround", "(IIIIII)I"⟩, 20), (⟨"CanDepthsModel", "tileNow", "(IIIII)I"⟩, 20), (⟨"CanDepthsModel", "layLayout", "(IIII)V"⟩, 20), (⟨"CanDepthsModel", "layTile", "(IIIIIII)V"⟩, 20), (⟨"CanDepthsModel", "begins", "()V"⟩, 20), (⟨"CanDepthsModel", "lay", "(I)V"⟩, 20), (⟨"CanDepthsModel", "laidNow", "(I)I"⟩, 20), (⟨"CanDepthsModel", "least", "()I"⟩, 20), (⟨"CanDepthsModel", "greatest", "()I"⟩, 20), (⟨"CanDepthsModel", "evenAbove", "()J"⟩, 20), (⟨"CanDepthsModel", "lowNow", "(I)I"⟩, 20), (⟨"CanDepthsModel", "dry", "()J"⟩, 20)]
theorem lw_r3 : ∀ q ∈ lw_privs_3, lw_okq q := List.forall_mem_cons.mpr ⟨lw_p32, List.forall_mem_cons.mpr ⟨lw_p33, List.forall_mem_cons.mpr ⟨lw_p34, List.forall_mem_cons.mpr ⟨lw_p35, List.forall_mem_cons.mpr ⟨lw_p36, List.forall_mem_cons.mpr ⟨lw_p37, List.forall_mem_cons.mpr ⟨lw_p38, List.forall_mem_cons.mpr ⟨lw_p39, List.forall_mem_cons.mpr ⟨lw_p40, List.forall_mem_cons.mpr ⟨lw_p41, List.forall_mem_cons.mpr ⟨lw_p42, List.forall_mem_cons.mpr ⟨lw_p43, List.forall_mem_cons.mpr ⟨lw_p44, List.forall_mem_cons.mpr ⟨lw_p45, List.forall_mem_cons.mpr ⟨lw_p46, List.forall_mem_cons.mpr ⟨lw_p47, fun _ h => absurd h List.not_mem_nil⟩⟩⟩⟩⟩⟩⟩⟩⟩⟩⟩⟩⟩⟩⟩⟩
theorem lw_p48 : lw_okq (⟨"CanDepthsModel", "turnsNow", "(IIIII)I"⟩, 20) := ⟨⟨by decide +kernel, by decide +kernel⟩, List.mem_of_getElem? (i := 500) (by decide +kernel), List.mem_of_getElem? (i := 738) (by decide +kernel), List.mem_of_getElem? (i := 739) (by decide +kernel)⟩
theorem lw_p49 : lw_okq (⟨"CanDepthsModel", "layBest", "(II)V"⟩, 20) := ⟨⟨by decide +kernel, by decide +kernel⟩, List.mem_of_getElem? (i := 500) (by decide +kernel), List.mem_of_getElem? (i := 746) (by decide +kernel), List.mem_of_getElem? (i := 747) (by decide +kernel)⟩
theorem lw_p50 : lw_okq (⟨"CanDepthsModel", "isBetter", "(II)Z"⟩, 20) := ⟨⟨by decide +kernel, by decide +kernel⟩, List.mem_of_getElem? (i := 500) (by decide +kernel), List.mem_of_getElem? (i := 750) (by decide +kernel), List.mem_of_getElem? (i := 751) (by decide +kernel)⟩
theorem lw_p51 : lw_okq (⟨"CanDepthsModel", "bestNow", "(I)I"⟩, 20) := ⟨⟨by decide +kernel, by decide +kernel⟩, List.mem_of_getElem? (i := 500) (by decide +kernel), List.mem_of_getElem? (i := 754) (by decide +kernel), List.mem_of_getElem? (i := 755) (by decide +kernel)⟩
theorem lw_p52 : lw_okq (⟨"CanDepthsModel", "fieldNow", "(IIIIIII)I"⟩, 20) := ⟨⟨by decide +kernel, by decide +kernel⟩, List.mem_of_getElem? (i := 500) (by decide +kernel), List.mem_of_getElem? (i := 765) (by decide +kernel), List.mem_of_getElem? (i := 766) (by decide +kernel)⟩
theorem lw_p53 : lw_okq (⟨"CanDepthsModel", "missedOf", "(IIIIIIZ)I"⟩, 20) := ⟨⟨by decide +kernel, by decide +kernel⟩, List.mem_of_getElem? (i := 500) (by decide +kernel), List.mem_of_getElem? (i := 769) (by decide +kernel), List.mem_of_getElem? (i := 770) (by decide +kernel)⟩
theorem lw_p54 : lw_okq (⟨"CanDepthsModel", "layField", "(IIIIII)V"⟩, 20) := ⟨⟨by decide +kernel, by decide +kernel⟩, List.mem_of_getElem? (i := 500) (by decide +kernel), List.mem_of_getElem? (i := 773) (by decide +kernel), List.mem_of_getElem? (i := 774) (by decide +kernel)⟩
theorem lw_p55 : lw_okq (⟨"CanDepthsModel", "fieldAt", "(IIIIII)I"⟩, 20) := ⟨⟨by decide +kernel, by decide +kernel⟩, List.mem_of_getElem? (i := 500) (by decide +kernel), List.mem_of_getElem? (i := 777) (by decide +kernel), List.mem_of_getElem? (i := 778) (by decide +kernel)⟩
theorem lw_p56 : lw_okq (⟨"CanDepthsModel", "driest", "()I"⟩, 20) := ⟨⟨by decide +kernel, by decide +kernel⟩, List.mem_of_getElem? (i := 500) (by decide +kernel), List.mem_of_getElem? (i := 781) (by decide +kernel), List.mem_of_getElem? (i := 782) (by decide +kernel)⟩
theorem lw_p57 : lw_okq (⟨"CanDepthsModel", "howMany", "(I)I"⟩, 20) := ⟨⟨by decide +kernel, by decide +kernel⟩, List.mem_of_getElem? (i := 500) (by decide +kernel), List.mem_of_getElem? (i := 789) (by decide +kernel), List.mem_of_getElem? (i := 790) (by decide +kernel)⟩
theorem lw_p58 : lw_okq (⟨"CanDepthsModel", "thrownAll", "()I"⟩, 20) := ⟨⟨by decide +kernel, by decide +kernel⟩, List.mem_of_getElem? (i := 500) (by decide +kernel), List.mem_of_getElem? (i := 793) (by decide +kernel), List.mem_of_getElem? (i := 794) (by decide +kernel)⟩
theorem lw_p59 : lw_okq (⟨"CanDepthsModel", "mixHead", "(I)V"⟩, 20) := ⟨⟨by decide +kernel, by decide +kernel⟩, List.mem_of_getElem? (i := 500) (by decide +kernel), List.mem_of_getElem? (i := 802) (by decide +kernel), List.mem_of_getElem? (i := 803) (by decide +kernel)⟩
theorem lw_p60 : lw_okq (⟨"CanDepthsModel", "mix", "(J)V"⟩, 20) := ⟨⟨by decide +kernel, by decide +kernel⟩, List.mem_of_getElem? (i := 500) (by decide +kernel), List.mem_of_getElem? (i := 806) (by decide +kernel), List.mem_of_getElem? (i := 807) (by decide +kernel)⟩
def lw_privs_4 : List (MethodName × Nat) := [(⟨"CanDepthsModel", "turnsNow", "(IIIII)I"⟩, 20), (⟨"CanDepthsModel", "layBest", "(II)V"⟩, 20), (⟨"CanDepthsModel", "isBetter", "(II)Z"⟩, 20), (⟨"CanDepthsModel", "bestNow", "(I)I"⟩, 20), (⟨"CanDepthsModel", "fieldNow", "(IIIIIII)I"⟩, 20), (⟨"CanDepthsModel", "missedOf", "(IIIIIIZ)I"⟩, 20), (⟨"CanDepthsModel", "layField", "(IIIIII)V"⟩, 20), (⟨"CanDepthsModel", "fieldAt", "(IIIIII)I"⟩, 20), (⟨"CanDepthsModel", "driest", "()I"⟩, 20), (⟨"CanDepthsModel", "howMany", "(I)I"⟩, 20), (⟨"CanDepthsModel", "thrownAll", "()I"⟩, 20), (⟨"CanDepthsModel", "mixHead", "(I)V"⟩, 20), (⟨"CanDepthsModel", "mix", "(J)V"⟩, 20)]
theorem lw_r4 : ∀ q ∈ lw_privs_4, lw_okq q := List.forall_mem_cons.mpr ⟨lw_p48, List.forall_mem_cons.mpr ⟨lw_p49, List.forall_mem_cons.mpr ⟨lw_p50, List.forall_mem_cons.mpr ⟨lw_p51, List.forall_mem_cons.mpr ⟨lw_p52, List.forall_mem_cons.mpr ⟨lw_p53, List.forall_mem_cons.mpr ⟨lw_p54, List.forall_mem_cons.mpr ⟨lw_p55, List.forall_mem_cons.mpr ⟨lw_p56, List.forall_mem_cons.mpr ⟨lw_p57, List.forall_mem_cons.mpr ⟨lw_p58, List.forall_mem_cons.mpr ⟨lw_p59, List.forall_mem_cons.mpr ⟨lw_p60, fun _ h => absurd h List.not_mem_nil⟩⟩⟩⟩⟩⟩⟩⟩⟩⟩⟩⟩⟩
def lw_privs : List (MethodName × Nat) := lw_privs_1 ++ (lw_privs_2 ++ (lw_privs_3 ++ (lw_privs_4)))
def lw_tbl : List Cond := k2_sels lw_privs ++ tables_1
theorem lw_privs_ok : ∀ q ∈ lw_privs, lw_okq q := by
  show ∀ q ∈ lw_privs_1 ++ (lw_privs_2 ++ (lw_privs_3 ++ (lw_privs_4))), lw_okq q
  exact List.forall_mem_append.mpr ⟨lw_r1, List.forall_mem_append.mpr ⟨lw_r2, List.forall_mem_append.mpr ⟨lw_r3, lw_r4⟩⟩⟩
/-! ===== BEGIN words of one list among another's, by their places ===== -/
/-! ===== END ===== -/

/-! ===== BEGIN printed: names, fields, word lists, decode rows ===== -/
def RX0 : String := "CanDepths$Best"
def TX0 : u_T := fun k => match k with
  | 0 => ("CanDepths$Best", "known", "Z", false)
  | 1 => ("CanDepths$Best", "layout", "I", false)
  | 2 => ("CanDepths$Best", "a", "I", false)
  | 3 => ("CanDepths$Best", "b", "I", false)
  | 4 => ("CanDepths$Best", "above", "I", false)
  | _ => ("CanDepths$Best", "below", "I", false)
def tyX0 : Nat → FieldType := fun k => match k with
  | 0 => .boolean
  | 1 => .int
  | 2 => .int
  | 3 => .int
  | 4 => .int
  | _ => .int
abbrev wsX00 : List Cond := u_ws RX0 TX0 6
theorem nmX0 : ∀ a, a < 6 → ∀ b, b < 6 → a ≠ b → (TX0 a).2.1 ≠ (TX0 b).2.1 := by decide +kernel
theorem tyX0_ok : ∀ k, k < 6 → parseFieldDescriptor (TX0 k).2.2.1 = some (tyX0 k) := by decide +kernel
abbrev cX0_init : ByteArray := prog_2_method_1_code
def yX0_init : MethodName := ⟨RX0, "<init>", "()V"⟩
abbrev cX0_forget : ByteArray := prog_2_method_2_code
def yX0_forget : MethodName := ⟨RX0, "forget", "()V"⟩
abbrev cX0_weigh : ByteArray := prog_2_method_3_code
def yX0_weigh : MethodName := ⟨RX0, "weigh", "(IIILCanDepths$Ratio;)V"⟩
abbrev cX0_tell : ByteArray := prog_2_method_4_code
def yX0_tell : MethodName := ⟨RX0, "tell", "(I)I"⟩
abbrev cX0_isBetter : ByteArray := prog_2_method_5_code
def yX0_isBetter : MethodName := ⟨RX0, "isBetter", "(IIILCanDepths$Ratio;)Z"⟩
def RX1 : String := "CanDepths$Ground"
def TX1 : u_T := fun k => match k with
  | 0 => ("CanDepths$Ground", "cells", "[I", true)
  | 1 => ("CanDepths$Ground", "tally", "[I", true)
  | 2 => ("CanDepths$Ground", "ratio", "LCanDepths$Ratio;", true)
  | 3 => ("CanDepths$Ground", "width", "I", false)
  | _ => ("CanDepths$Ground", "height", "I", false)
def tyX1 : Nat → FieldType := fun k => match k with
  | 0 => .array .int
  | 1 => .array .int
  | 2 => .object "CanDepths$Ratio"
  | 3 => .int
  | _ => .int
abbrev wsX10 : List Cond := u_ws RX1 TX1 5
theorem nmX1 : ∀ a, a < 5 → ∀ b, b < 5 → a ≠ b → (TX1 a).2.1 ≠ (TX1 b).2.1 := by decide +kernel
theorem tyX1_ok : ∀ k, k < 5 → parseFieldDescriptor (TX1 k).2.2.1 = some (tyX1 k) := by decide +kernel
abbrev cX1_init : ByteArray := prog_3_method_1_code
def yX1_init : MethodName := ⟨RX1, "<init>", "()V"⟩
abbrev cX1_clear : ByteArray := prog_3_method_2_code
def yX1_clear : MethodName := ⟨RX1, "clear", "(II)V"⟩
abbrev cX1_layTile : ByteArray := prog_3_method_3_code
def yX1_layTile : MethodName := ⟨RX1, "layTile", "(LCanDepths$Head;III)V"⟩
abbrev cX1_layInTurns : ByteArray := prog_3_method_4_code
def yX1_layInTurns : MethodName := ⟨RX1, "layInTurns", "(LCanDepths$Head;LCanDepths$Head;II)V"⟩
abbrev cX1_addWrapped : ByteArray := prog_3_method_5_code
def yX1_addWrapped : MethodName := ⟨RX1, "addWrapped", "(LCanDepths$Head;II)V"⟩
abbrev cX1_addWithin : ByteArray := prog_3_method_6_code
def yX1_addWithin : MethodName := ⟨RX1, "addWithin", "(LCanDepths$Head;II)V"⟩
abbrev cX1_shareWithin : ByteArray := prog_3_method_7_code
def yX1_shareWithin : MethodName := ⟨RX1, "shareWithin", "(LCanDepths$Head;II)I"⟩
abbrev cX1_wrappedAt : ByteArray := prog_3_method_8_code
def yX1_wrappedAt : MethodName := ⟨RX1, "wrappedAt", "(II)I"⟩
abbrev cX1_tell : ByteArray := prog_3_method_9_code
def yX1_tell : MethodName := ⟨RX1, "tell", "(I)I"⟩
abbrev cX1_total : ByteArray := prog_3_method_10_code
def yX1_total : MethodName := ⟨RX1, "total", "()I"⟩
abbrev cX1_even : ByteArray := prog_3_method_11_code
def yX1_even : MethodName := ⟨RX1, "even", "()LCanDepths$Ratio;"⟩
abbrev cX1_driestX : ByteArray := prog_3_method_12_code
def yX1_driestX : MethodName := ⟨RX1, "driestX", "()I"⟩
abbrev cX1_driestY : ByteArray := prog_3_method_13_code
def yX1_driestY : MethodName := ⟨RX1, "driestY", "()I"⟩
abbrev cX1_many : ByteArray := prog_3_method_14_code
def yX1_many : MethodName := ⟨RX1, "many", "()I"⟩
abbrev cX1_wrappedPlace : ByteArray := prog_3_method_15_code
def yX1_wrappedPlace : MethodName := ⟨RX1, "wrappedPlace", "(II)I"⟩
abbrev cX1_driestPlace : ByteArray := prog_3_method_16_code
def yX1_driestPlace : MethodName := ⟨RX1, "driestPlace", "()I"⟩
abbrev cX1_greatest : ByteArray := prog_3_method_17_code
def yX1_greatest : MethodName := ⟨RX1, "greatest", "()I"⟩
abbrev cX1_low : ByteArray := prog_3_method_18_code
def yX1_low : MethodName := ⟨RX1, "low", "()LCanDepths$Ratio;"⟩
abbrev cX1_driestTogether : ByteArray := prog_3_method_19_code
def yX1_driestTogether : MethodName := ⟨RX1, "driestTogether", "(I)I"⟩
abbrev cX1_tallyDepths : ByteArray := prog_3_method_20_code
def yX1_tallyDepths : MethodName := ⟨RX1, "tallyDepths", "()V"⟩
def RX2 : String := "CanDepths$Head"
def TX2 : u_T := fun k => match k with
  | 0 => ("CanDepths$Head", "depths", "[I", true)
  | _ => ("CanDepths$Head", "side", "I", false)
def tyX2 : Nat → FieldType := fun k => match k with
  | 0 => .array .int
  | _ => .int
abbrev wsX20 : List Cond := u_ws RX2 TX2 2
theorem nmX2 : ∀ a, a < 2 → ∀ b, b < 2 → a ≠ b → (TX2 a).2.1 ≠ (TX2 b).2.1 := by decide +kernel
theorem tyX2_ok : ∀ k, k < 2 → parseFieldDescriptor (TX2 k).2.2.1 = some (tyX2 k) := by decide +kernel
abbrev cX2_init : ByteArray := prog_4_method_1_code
def yX2_init : MethodName := ⟨RX2, "<init>", "()V"⟩
abbrev cX2_reach : ByteArray := prog_4_method_2_code
def yX2_reach : MethodName := ⟨RX2, "reach", "()I"⟩
abbrev cX2_depthAt : ByteArray := prog_4_method_3_code
def yX2_depthAt : MethodName := ⟨RX2, "depthAt", "(II)I"⟩
abbrev cX2_read : ByteArray := prog_4_method_4_code
def yX2_read : MethodName := ⟨RX2, "read", "(LCanDepths$Page;I)V"⟩
abbrev cX2_copyTurned : ByteArray := prog_4_method_5_code
def yX2_copyTurned : MethodName := ⟨RX2, "copyTurned", "(LCanDepths$Head;IZ)V"⟩
abbrev cX2_copyBent : ByteArray := prog_4_method_6_code
def yX2_copyBent : MethodName := ⟨RX2, "copyBent", "(LCanDepths$Head;II)V"⟩
abbrev cX2_tell : ByteArray := prog_4_method_7_code
def yX2_tell : MethodName := ⟨RX2, "tell", "(I)I"⟩
abbrev cX2_thrown : ByteArray := prog_4_method_8_code
def yX2_thrown : MethodName := ⟨RX2, "thrown", "()I"⟩
abbrev cX2_resize : ByteArray := prog_4_method_9_code
def yX2_resize : MethodName := ⟨RX2, "resize", "(I)V"⟩
abbrev cX2_put : ByteArray := prog_4_method_10_code
def yX2_put : MethodName := ⟨RX2, "put", "(III)V"⟩
abbrev cX2_turnedAt : ByteArray := prog_4_method_11_code
def yX2_turnedAt : MethodName := ⟨RX2, "turnedAt", "(III)I"⟩
abbrev cX2_greatest : ByteArray := prog_4_method_12_code
def yX2_greatest : MethodName := ⟨RX2, "greatest", "()I"⟩
abbrev cX2_leastTurn : ByteArray := prog_4_method_13_code
def yX2_leastTurn : MethodName := ⟨RX2, "leastTurn", "()I"⟩
abbrev cX2_isSame : ByteArray := prog_4_method_14_code
def yX2_isSame : MethodName := ⟨RX2, "isSame", "(IZ)Z"⟩
def RX3 : String := "CanDepths$Page"
def TX3 : u_T := fun k => match k with
  | 0 => ("CanDepths$Page", "codes", "[I", true)
  | _ => ("CanDepths$Page", "length", "I", false)
def tyX3 : Nat → FieldType := fun k => match k with
  | 0 => .array .int
  | _ => .int
abbrev wsX30 : List Cond := u_ws RX3 TX3 2
theorem nmX3 : ∀ a, a < 2 → ∀ b, b < 2 → a ≠ b → (TX3 a).2.1 ≠ (TX3 b).2.1 := by decide +kernel
theorem tyX3_ok : ∀ k, k < 2 → parseFieldDescriptor (TX3 k).2.2.1 = some (tyX3 k) := by decide +kernel
abbrev cX3_init : ByteArray := prog_5_method_1_code
def yX3_init : MethodName := ⟨RX3, "<init>", "()V"⟩
abbrev cX3_length : ByteArray := prog_5_method_2_code
def yX3_length : MethodName := ⟨RX3, "length", "()I"⟩
abbrev cX3_codeAt : ByteArray := prog_5_method_3_code
def yX3_codeAt : MethodName := ⟨RX3, "codeAt", "(I)I"⟩
abbrev cX3_append : ByteArray := prog_5_method_4_code
def yX3_append : MethodName := ⟨RX3, "append", "(I)Z"⟩
abbrev cX3_clear : ByteArray := prog_5_method_5_code
def yX3_clear : MethodName := ⟨RX3, "clear", "()V"⟩
abbrev cX3_firstFault : ByteArray := prog_5_method_6_code
def yX3_firstFault : MethodName := ⟨RX3, "firstFault", "()I"⟩
abbrev cX3_sideOfHead : ByteArray := prog_5_method_7_code
def yX3_sideOfHead : MethodName := ⟨RX3, "sideOfHead", "()I"⟩
abbrev cX3_figure : ByteArray := prog_5_method_8_code
def yX3_figure : MethodName := ⟨RX3, "figure", "(I)I"⟩
abbrev cX3_lettersOf : ByteArray := prog_5_method_9_code
def yX3_lettersOf : MethodName := ⟨RX3, "lettersOf", "(I)I"⟩
abbrev cX3_fitting : ByteArray := prog_5_method_10_code
def yX3_fitting : MethodName := ⟨RX3, "fitting", "(I)I"⟩
def RX4 : String := "CanDepths$Ratio"
def TX4 : u_T := fun k => match k with
  | 0 => ("CanDepths$Ratio", "above", "I", false)
  | _ => ("CanDepths$Ratio", "below", "I", false)
def tyX4 : Nat → FieldType := fun k => match k with
  | 0 => .int
  | _ => .int
abbrev wsX40 : List Cond := u_ws RX4 TX4 2
theorem nmX4 : ∀ a, a < 2 → ∀ b, b < 2 → a ≠ b → (TX4 a).2.1 ≠ (TX4 b).2.1 := by decide +kernel
theorem tyX4_ok : ∀ k, k < 2 → parseFieldDescriptor (TX4 k).2.2.1 = some (tyX4 k) := by decide +kernel
abbrev cX4_init : ByteArray := prog_6_method_1_code
def yX4_init : MethodName := ⟨RX4, "<init>", "()V"⟩
abbrev cX4_set : ByteArray := prog_6_method_2_code
def yX4_set : MethodName := ⟨RX4, "set", "(II)V"⟩
abbrev cX4_above : ByteArray := prog_6_method_3_code
def yX4_above : MethodName := ⟨RX4, "above", "()I"⟩
abbrev cX4_below : ByteArray := prog_6_method_4_code
def yX4_below : MethodName := ⟨RX4, "below", "()I"⟩
abbrev cX4_inCommon : ByteArray := prog_6_method_5_code
def yX4_inCommon : MethodName := ⟨RX4, "inCommon", "(II)I"⟩
def RX5 : String := "CanDepths"
def TX5 : u_T := fun k => match k with
  | 0 => ("CanDepths", "page", "LCanDepths$Page;", true)
  | 1 => ("CanDepths", "heads", "[LCanDepths$Head;", true)
  | 2 => ("CanDepths", "laid", "LCanDepths$Ground;", true)
  | 3 => ("CanDepths", "found", "LCanDepths$Best;", true)
  | 4 => ("CanDepths", "spare", "LCanDepths$Head;", false)
  | 5 => ("CanDepths", "standing", "I", false)
  | 6 => ("CanDepths", "texts", "I", false)
  | 7 => ("CanDepths", "turns", "I", false)
  | _ => ("CanDepths", "gone", "I", false)
def tyX5 : Nat → FieldType := fun k => match k with
  | 0 => .object "CanDepths$Page"
  | 1 => .array (.object "CanDepths$Head")
  | 2 => .object "CanDepths$Ground"
  | 3 => .object "CanDepths$Best"
  | 4 => .object "CanDepths$Head"
  | 5 => .int
  | 6 => .int
  | 7 => .int
  | _ => .int
abbrev wsX50 : List Cond := u_ws RX5 TX5 9
theorem nmX5 : ∀ a, a < 9 → ∀ b, b < 9 → a ≠ b → (TX5 a).2.1 ≠ (TX5 b).2.1 := by decide +kernel
theorem tyX5_ok : ∀ k, k < 9 → parseFieldDescriptor (TX5 k).2.2.1 = some (tyX5 k) := by decide +kernel
abbrev cX5_init : ByteArray := prog_1_method_1_code
def yX5_init : MethodName := ⟨RX5, "<init>", "()V"⟩
abbrev cX5_letter : ByteArray := prog_1_method_2_code
def yX5_letter : MethodName := ⟨RX5, "letter", "(I)I"⟩
abbrev cX5_blank : ByteArray := prog_1_method_3_code
def yX5_blank : MethodName := ⟨RX5, "blank", "()I"⟩
abbrev cX5_fault : ByteArray := prog_1_method_4_code
def yX5_fault : MethodName := ⟨RX5, "fault", "()I"⟩
abbrev cX5_take : ByteArray := prog_1_method_5_code
def yX5_take : MethodName := ⟨RX5, "take", "()I"⟩
abbrev cX5_drop : ByteArray := prog_1_method_6_code
def yX5_drop : MethodName := ⟨RX5, "drop", "(I)I"⟩
abbrev cX5_turn : ByteArray := prog_1_method_7_code
def yX5_turn : MethodName := ⟨RX5, "turn", "(IIZ)I"⟩
abbrev cX5_bend : ByteArray := prog_1_method_8_code
def yX5_bend : MethodName := ⟨RX5, "bend", "(III)I"⟩
abbrev cX5_head : ByteArray := prog_1_method_9_code
def yX5_head : MethodName := ⟨RX5, "head", "(II)I"⟩
abbrev cX5_depth : ByteArray := prog_1_method_10_code
def yX5_depth : MethodName := ⟨RX5, "depth", "(III)I"⟩
abbrev cX5_ground : ByteArray := prog_1_method_11_code
def yX5_ground : MethodName := ⟨RX5, "ground", "(IIIIII)I"⟩
abbrev cX5_tile : ByteArray := prog_1_method_12_code
def yX5_tile : MethodName := ⟨RX5, "tile", "(IIIII)I"⟩
abbrev cX5_byTurns : ByteArray := prog_1_method_13_code
def yX5_byTurns : MethodName := ⟨RX5, "byTurns", "(IIIII)I"⟩
abbrev cX5_best : ByteArray := prog_1_method_14_code
def yX5_best : MethodName := ⟨RX5, "best", "(III)I"⟩
abbrev cX5_field : ByteArray := prog_1_method_15_code
def yX5_field : MethodName := ⟨RX5, "field", "(IIIIIII)I"⟩
abbrev cX5_count : ByteArray := prog_1_method_16_code
def yX5_count : MethodName := ⟨RX5, "count", "(I)I"⟩
abbrev cX5_digest : ByteArray := prog_1_method_17_code
def yX5_digest : MethodName := ⟨RX5, "digest", "()J"⟩
abbrev cX5_mix : ByteArray := prog_1_method_18_code
def yX5_mix : MethodName := ⟨RX5, "mix", "(JI)J"⟩
abbrev cX5_mixHead : ByteArray := prog_1_method_19_code
def yX5_mixHead : MethodName := ⟨RX5, "mixHead", "(JLCanDepths$Head;)J"⟩
abbrev cX5_mixTile : ByteArray := prog_1_method_20_code
def yX5_mixTile : MethodName := ⟨RX5, "mixTile", "(JLCanDepths$Head;I)J"⟩
abbrev cX5_mixBest : ByteArray := prog_1_method_21_code
def yX5_mixBest : MethodName := ⟨RX5, "mixBest", "(JLCanDepths$Head;)J"⟩
abbrev cX5_isWithin : ByteArray := prog_1_method_22_code
def yX5_isWithin : MethodName := ⟨RX5, "isWithin", "(III)Z"⟩
abbrev cX5_isSpacing : ByteArray := prog_1_method_23_code
def yX5_isSpacing : MethodName := ⟨RX5, "isSpacing", "(I)Z"⟩
abbrev cX5_isLaidOut : ByteArray := prog_1_method_24_code
def yX5_isLaidOut : MethodName := ⟨RX5, "isLaidOut", "(III)Z"⟩
abbrev cX5_isKnown : ByteArray := prog_1_method_25_code
def yX5_isKnown : MethodName := ⟨RX5, "isKnown", "(I)Z"⟩
abbrev cX5_isCrowded : ByteArray := prog_1_method_26_code
def yX5_isCrowded : MethodName := ⟨RX5, "isCrowded", "()Z"⟩
abbrev cX5_thrownOfAll : ByteArray := prog_1_method_27_code
def yX5_thrownOfAll : MethodName := ⟨RX5, "thrownOfAll", "()I"⟩
abbrev cX5_findBest : ByteArray := prog_1_method_28_code
def yX5_findBest : MethodName := ⟨RX5, "findBest", "(LCanDepths$Head;I)V"⟩
abbrev cX5_numberInField : ByteArray := prog_1_method_29_code
def yX5_numberInField : MethodName := ⟨RX5, "numberInField", "(II)I"⟩
abbrev cX5_bitsOfField : ByteArray := prog_1_method_30_code
def yX5_bitsOfField : MethodName := ⟨RX5, "bitsOfField", "(II)I"⟩
abbrev cX5_hasFailed : ByteArray := prog_1_method_31_code
def yX5_hasFailed : MethodName := ⟨RX5, "hasFailed", "(II)Z"⟩
abbrev cX5_layField : ByteArray := prog_1_method_32_code
def yX5_layField : MethodName := ⟨RX5, "layField", "(LCanDepths$Head;IIIII)V"⟩
abbrev cX5_tellMissed : ByteArray := prog_1_method_33_code
def yX5_tellMissed : MethodName := ⟨RX5, "tellMissed", "(LCanDepths$Head;IIIIII)I"⟩
def RX6 : String := "CanDepthsModel"
def TX6 : u_T := fun k => match k with
  | 0 => ("CanDepthsModel", "pageLength", "I", false)
  | 1 => ("CanDepthsModel", "page", "[I", true)
  | 2 => ("CanDepthsModel", "heads", "I", false)
  | 3 => ("CanDepthsModel", "sideOf", "[I", true)
  | 4 => ("CanDepthsModel", "depths", "[I", true)
  | 5 => ("CanDepthsModel", "cameEver", "I", false)
  | 6 => ("CanDepthsModel", "turnedEver", "I", false)
  | 7 => ("CanDepthsModel", "wentEver", "I", false)
  | 8 => ("CanDepthsModel", "signs", "I", false)
  | 9 => ("CanDepthsModel", "rowNow", "I", false)
  | 10 => ("CanDepthsModel", "newSide", "I", false)
  | 11 => ("CanDepthsModel", "many", "I", false)
  | 12 => ("CanDepthsModel", "total", "I", false)
  | 13 => ("CanDepthsModel", "grounds", "[I", true)
  | 14 => ("CanDepthsModel", "bestLayout", "I", false)
  | 15 => ("CanDepthsModel", "bestA", "I", false)
  | 16 => ("CanDepthsModel", "bestB", "I", false)
  | 17 => ("CanDepthsModel", "bestAbove", "J", false)
  | 18 => ("CanDepthsModel", "bestBelow", "J", false)
  | _ => ("CanDepthsModel", "h", "J", false)
def tyX6 : Nat → FieldType := fun k => match k with
  | 0 => .int
  | 1 => .array .int
  | 2 => .int
  | 3 => .array .int
  | 4 => .array .int
  | 5 => .int
  | 6 => .int
  | 7 => .int
  | 8 => .int
  | 9 => .int
  | 10 => .int
  | 11 => .int
  | 12 => .int
  | 13 => .array .int
  | 14 => .int
  | 15 => .int
  | 16 => .int
  | 17 => .long
  | 18 => .long
  | _ => .long
abbrev wsX60 : List Cond := u_ws RX6 TX6 20
theorem nmX6 : ∀ a, a < 20 → ∀ b, b < 20 → a ≠ b → (TX6 a).2.1 ≠ (TX6 b).2.1 := by decide +kernel
theorem tyX6_ok : ∀ k, k < 20 → parseFieldDescriptor (TX6 k).2.2.1 = some (tyX6 k) := by decide +kernel
abbrev cX6_init : ByteArray := prog_8_method_1_code
def yX6_init : MethodName := ⟨RX6, "<init>", "()V"⟩
abbrev cX6_within : ByteArray := prog_8_method_3_code
def yX6_within : MethodName := ⟨RX6, "within", "(III)Z"⟩
abbrev cX6_letter : ByteArray := prog_8_method_4_code
def yX6_letter : MethodName := ⟨RX6, "letter", "(I)I"⟩
abbrev cX6_blank : ByteArray := prog_8_method_5_code
def yX6_blank : MethodName := ⟨RX6, "blank", "()I"⟩
abbrev cX6_depthOf : ByteArray := prog_8_method_6_code
def yX6_depthOf : MethodName := ⟨RX6, "depthOf", "(I)I"⟩
abbrev cX6_takes : ByteArray := prog_8_method_7_code
def yX6_takes : MethodName := ⟨RX6, "takes", "(I)Z"⟩
abbrev cX6_goAlong : ByteArray := prog_8_method_8_code
def yX6_goAlong : MethodName := ⟨RX6, "goAlong", "()I"⟩
abbrev cX6_fault : ByteArray := prog_8_method_9_code
def yX6_fault : MethodName := ⟨RX6, "fault", "()I"⟩
abbrev cX6_cell : ByteArray := prog_8_method_10_code
def yX6_cell : MethodName := ⟨RX6, "cell", "(III)I"⟩
abbrev cX6_depthAt : ByteArray := prog_8_method_11_code
def yX6_depthAt : MethodName := ⟨RX6, "depthAt", "(III)I"⟩
abbrev cX6_take : ByteArray := prog_8_method_12_code
def yX6_take : MethodName := ⟨RX6, "take", "()I"⟩
abbrev cX6_isHead : ByteArray := prog_8_method_13_code
def yX6_isHead : MethodName := ⟨RX6, "isHead", "(I)Z"⟩
abbrev cX6_copy : ByteArray := prog_8_method_14_code
def yX6_copy : MethodName := ⟨RX6, "copy", "(II)V"⟩
abbrev cX6_drop : ByteArray := prog_8_method_15_code
def yX6_drop : MethodName := ⟨RX6, "drop", "(I)I"⟩
abbrev cX6_turnedAt : ByteArray := prog_8_method_16_code
def yX6_turnedAt : MethodName := ⟨RX6, "turnedAt", "(IIII)I"⟩
abbrev cX6_turn : ByteArray := prog_8_method_17_code
def yX6_turn : MethodName := ⟨RX6, "turn", "(IIZ)I"⟩
abbrev cX6_thrownBy : ByteArray := prog_8_method_18_code
def yX6_thrownBy : MethodName := ⟨RX6, "thrownBy", "(I)I"⟩
abbrev cX6_bend : ByteArray := prog_8_method_19_code
def yX6_bend : MethodName := ⟨RX6, "bend", "(III)I"⟩
abbrev cX6_deepest : ByteArray := prog_8_method_20_code
def yX6_deepest : MethodName := ⟨RX6, "deepest", "(I)I"⟩
abbrev cX6_isSameTurned : ByteArray := prog_8_method_21_code
def yX6_isSameTurned : MethodName := ⟨RX6, "isSameTurned", "(II)Z"⟩
abbrev cX6_sameTurn : ByteArray := prog_8_method_22_code
def yX6_sameTurn : MethodName := ⟨RX6, "sameTurn", "(I)I"⟩
abbrev cX6_isSameMirrored : ByteArray := prog_8_method_23_code
def yX6_isSameMirrored : MethodName := ⟨RX6, "isSameMirrored", "(I)Z"⟩
abbrev cX6_headNow : ByteArray := prog_8_method_24_code
def yX6_headNow : MethodName := ⟨RX6, "headNow", "(II)I"⟩
abbrev cX6_head : ByteArray := prog_8_method_25_code
def yX6_head : MethodName := ⟨RX6, "head", "(II)I"⟩
abbrev cX6_depth : ByteArray := prog_8_method_26_code
def yX6_depth : MethodName := ⟨RX6, "depth", "(III)I"⟩
abbrev cX6_rowGround : ByteArray := prog_8_method_27_code
def yX6_rowGround : MethodName := ⟨RX6, "rowGround", "(IIIIII)I"⟩
abbrev cX6_groundAt : ByteArray := prog_8_method_28_code
def yX6_groundAt : MethodName := ⟨RX6, "groundAt", "(IIIIIII)I"⟩
abbrev cX6_isLaid : ByteArray := prog_8_method_29_code
def yX6_isLaid : MethodName := ⟨RX6, "isLaid", "(III)Z"⟩
abbrev cX6_ground : ByteArray := prog_8_method_30_code
def yX6_ground : MethodName := ⟨RX6, "ground", "(IIIIII)I"⟩
abbrev cX6_begins : ByteArray := prog_8_method_31_code
def yX6_begins : MethodName := ⟨RX6, "begins", "()V"⟩
abbrev cX6_lay : ByteArray := prog_8_method_32_code
def yX6_lay : MethodName := ⟨RX6, "lay", "(I)V"⟩
abbrev cX6_layTile : ByteArray := prog_8_method_33_code
def yX6_layTile : MethodName := ⟨RX6, "layTile", "(IIIIIII)V"⟩
abbrev cX6_layLayout : ByteArray := prog_8_method_34_code
def yX6_layLayout : MethodName := ⟨RX6, "layLayout", "(IIII)V"⟩
abbrev cX6_least : ByteArray := prog_8_method_35_code
def yX6_least : MethodName := ⟨RX6, "least", "()I"⟩
abbrev cX6_greatest : ByteArray := prog_8_method_36_code
def yX6_greatest : MethodName := ⟨RX6, "greatest", "()I"⟩
abbrev cX6_common : ByteArray := prog_8_method_37_code
def yX6_common : MethodName := ⟨RX6, "common", "(JJ)J"⟩
abbrev cX6_lowest : ByteArray := prog_8_method_38_code
def yX6_lowest : MethodName := ⟨RX6, "lowest", "(JJI)I"⟩
abbrev cX6_evenAbove : ByteArray := prog_8_method_39_code
def yX6_evenAbove : MethodName := ⟨RX6, "evenAbove", "()J"⟩
abbrev cX6_dry : ByteArray := prog_8_method_40_code
def yX6_dry : MethodName := ⟨RX6, "dry", "()J"⟩
abbrev cX6_lowNow : ByteArray := prog_8_method_41_code
def yX6_lowNow : MethodName := ⟨RX6, "lowNow", "(I)I"⟩
abbrev cX6_laidNow : ByteArray := prog_8_method_42_code
def yX6_laidNow : MethodName := ⟨RX6, "laidNow", "(I)I"⟩
abbrev cX6_tileNow : ByteArray := prog_8_method_43_code
def yX6_tileNow : MethodName := ⟨RX6, "tileNow", "(IIIII)I"⟩
abbrev cX6_tile : ByteArray := prog_8_method_44_code
def yX6_tile : MethodName := ⟨RX6, "tile", "(IIIII)I"⟩
abbrev cX6_turnsNow : ByteArray := prog_8_method_45_code
def yX6_turnsNow : MethodName := ⟨RX6, "turnsNow", "(IIIII)I"⟩
abbrev cX6_byTurns : ByteArray := prog_8_method_46_code
def yX6_byTurns : MethodName := ⟨RX6, "byTurns", "(IIIII)I"⟩
abbrev cX6_isBetter : ByteArray := prog_8_method_47_code
def yX6_isBetter : MethodName := ⟨RX6, "isBetter", "(II)Z"⟩
abbrev cX6_layBest : ByteArray := prog_8_method_48_code
def yX6_layBest : MethodName := ⟨RX6, "layBest", "(II)V"⟩
abbrev cX6_bestNow : ByteArray := prog_8_method_49_code
def yX6_bestNow : MethodName := ⟨RX6, "bestNow", "(I)I"⟩
abbrev cX6_best : ByteArray := prog_8_method_50_code
def yX6_best : MethodName := ⟨RX6, "best", "(III)I"⟩
abbrev cX6_fieldAt : ByteArray := prog_8_method_51_code
def yX6_fieldAt : MethodName := ⟨RX6, "fieldAt", "(IIIIII)I"⟩
abbrev cX6_layField : ByteArray := prog_8_method_52_code
def yX6_layField : MethodName := ⟨RX6, "layField", "(IIIIII)V"⟩
abbrev cX6_driest : ByteArray := prog_8_method_53_code
def yX6_driest : MethodName := ⟨RX6, "driest", "()I"⟩
abbrev cX6_missedOf : ByteArray := prog_8_method_54_code
def yX6_missedOf : MethodName := ⟨RX6, "missedOf", "(IIIIIIZ)I"⟩
abbrev cX6_allOf : ByteArray := prog_8_method_55_code
def yX6_allOf : MethodName := ⟨RX6, "allOf", "(II)I"⟩
abbrev cX6_fieldNow : ByteArray := prog_8_method_56_code
def yX6_fieldNow : MethodName := ⟨RX6, "fieldNow", "(IIIIIII)I"⟩
abbrev cX6_field : ByteArray := prog_8_method_57_code
def yX6_field : MethodName := ⟨RX6, "field", "(IIIIIII)I"⟩
abbrev cX6_thrownAll : ByteArray := prog_8_method_58_code
def yX6_thrownAll : MethodName := ⟨RX6, "thrownAll", "()I"⟩
abbrev cX6_howMany : ByteArray := prog_8_method_59_code
def yX6_howMany : MethodName := ⟨RX6, "howMany", "(I)I"⟩
abbrev cX6_count : ByteArray := prog_8_method_60_code
def yX6_count : MethodName := ⟨RX6, "count", "(I)I"⟩
abbrev cX6_mix : ByteArray := prog_8_method_61_code
def yX6_mix : MethodName := ⟨RX6, "mix", "(J)V"⟩
abbrev cX6_mixHead : ByteArray := prog_8_method_62_code
def yX6_mixHead : MethodName := ⟨RX6, "mixHead", "(I)V"⟩
abbrev cX6_digest : ByteArray := prog_8_method_63_code
def yX6_digest : MethodName := ⟨RX6, "digest", "()J"⟩
def RJ9 : String := "java/lang/Math"
def TJ9 : u_T := fun k => match k with
  | _ => ("", "", "", false)
def tyJ9 : Nat → FieldType := fun k => match k with
  | _ => .int
abbrev wsJ90 : List Cond := u_ws RJ9 TJ9 0
theorem nmJ9 : ∀ a, a < 0 → ∀ b, b < 0 → a ≠ b → (TJ9 a).2.1 ≠ (TJ9 b).2.1 := by decide +kernel
theorem tyJ9_ok : ∀ k, k < 0 → parseFieldDescriptor (TJ9 k).2.2.1 = some (tyJ9 k) := by decide +kernel
abbrev cJ9_floorDiv_7cf53 : ByteArray := prog_9_method_47_code
def yJ9_floorDiv_7cf53 : MethodName := ⟨RJ9, "floorDiv", "(II)I"⟩
abbrev cJ9_floorMod_7cf53 : ByteArray := prog_9_method_50_code
def yJ9_floorMod_7cf53 : MethodName := ⟨RJ9, "floorMod", "(II)I"⟩
abbrev cJ9_abs_0f7a4 : ByteArray := prog_9_method_59_code
def yJ9_abs_0f7a4 : MethodName := ⟨RJ9, "abs", "(I)I"⟩
abbrev cJ9_max_7cf53 : ByteArray := prog_9_method_65_code
def yJ9_max_7cf53 : MethodName := ⟨RJ9, "max", "(II)I"⟩
abbrev cJ9_min_7cf53 : ByteArray := prog_9_method_69_code
def yJ9_min_7cf53 : MethodName := ⟨RJ9, "min", "(II)I"⟩
def RJ7 : String := "java/util/Arrays"
def TJ7 : u_T := fun k => match k with
  | _ => ("", "", "", false)
def tyJ7 : Nat → FieldType := fun k => match k with
  | _ => .int
abbrev wsJ70 : List Cond := u_ws RJ7 TJ7 0
theorem nmJ7 : ∀ a, a < 0 → ∀ b, b < 0 → a ≠ b → (TJ7 a).2.1 ≠ (TJ7 b).2.1 := by decide +kernel
theorem tyJ7_ok : ∀ k, k < 0 → parseFieldDescriptor (TJ7 k).2.2.1 = some (tyJ7 k) := by decide +kernel
abbrev cJ7_fill_53178 : ByteArray := prog_10_method_103_code
def yJ7_fill_53178 : MethodName := ⟨RJ7, "fill", "([II)V"⟩
def RL : String := "CanDepthsLaw"
abbrev cL_law : ByteArray := code
def yL_law : MethodName := ⟨RL, "law", "([I)Z"⟩
abbrev vwCl : List vw_C := [(RX0, TX0, 6), (RX1, TX1, 5), (RX2, TX2, 2), (RX3, TX3, 2), (RX4, TX4, 2), (RX5, TX5, 9), (RX6, TX6, 20)]
