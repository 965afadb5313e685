-- ===== PART A: goes FIRST, ahead of the names: the tables' words, and 'selects' of the private methods out of them =====
/-- a private method of a class that the tables say can be made, by its rows of tables_1 -/
def lw_okq (q : MethodName × Nat) : Prop := (q.1.cls ≠ "java/lang/invoke/MethodHandle" ∧ q.1.cls ≠ "java/lang/invoke/VarHandle") ∧ Cond.instantiable q.1.cls q.2 ∈ tables_1 ∧ Cond.privateMethod q.1 ∈ tables_1 ∧ Cond.instanceMethod q.1 ∈ tables_1
theorem lw_p0 : lw_okq (⟨"FlueStack$Reader", "part", "()V"⟩, 9) := ⟨⟨by decide +kernel, by decide +kernel⟩, List.mem_of_getElem? (i := 26) (by decide +kernel), List.mem_of_getElem? (i := 307) (by decide +kernel), List.mem_of_getElem? (i := 308) (by decide +kernel)⟩
theorem lw_p1 : lw_okq (⟨"FlueStack$Reader", "byteAt", "(I)I"⟩, 9) := ⟨⟨by decide +kernel, by decide +kernel⟩, List.mem_of_getElem? (i := 26) (by decide +kernel), List.mem_of_getElem? (i := 311) (by decide +kernel), List.mem_of_getElem? (i := 312) (by decide +kernel)⟩
theorem lw_p2 : lw_okq (⟨"FlueStack$Reader", "partToken", "()I"⟩, 9) := ⟨⟨by decide +kernel, by decide +kernel⟩, List.mem_of_getElem? (i := 26) (by decide +kernel), List.mem_of_getElem? (i := 315) (by decide +kernel), List.mem_of_getElem? (i := 316) (by decide +kernel)⟩
theorem lw_p3 : lw_okq (⟨"FlueStack$Reader", "letterAt", "(I)Z"⟩, 9) := ⟨⟨by decide +kernel, by decide +kernel⟩, List.mem_of_getElem? (i := 26) (by decide +kernel), List.mem_of_getElem? (i := 319) (by decide +kernel), List.mem_of_getElem? (i := 320) (by decide +kernel)⟩
theorem lw_p4 : lw_okq (⟨"FlueStack$Reader", "partWord", "(I)I"⟩, 9) := ⟨⟨by decide +kernel, by decide +kernel⟩, List.mem_of_getElem? (i := 26) (by decide +kernel), List.mem_of_getElem? (i := 323) (by decide +kernel), List.mem_of_getElem? (i := 324) (by decide +kernel)⟩
theorem lw_p5 : lw_okq (⟨"FlueStack$Reader", "wordIs", "(ILjava/lang/String;)Z"⟩, 9) := ⟨⟨by decide +kernel, by decide +kernel⟩, List.mem_of_getElem? (i := 26) (by decide +kernel), List.mem_of_getElem? (i := 328) (by decide +kernel), List.mem_of_getElem? (i := 329) (by decide +kernel)⟩
theorem lw_p6 : lw_okq (⟨"FlueStack$Reader", "digitAt", "(I)Z"⟩, 9) := ⟨⟨by decide +kernel, by decide +kernel⟩, List.mem_of_getElem? (i := 26) (by decide +kernel), List.mem_of_getElem? (i := 383) (by decide +kernel), List.mem_of_getElem? (i := 384) (by decide +kernel)⟩
theorem lw_p7 : lw_okq (⟨"FlueStack$Reader", "partNumber", "(I)I"⟩, 9) := ⟨⟨by decide +kernel, by decide +kernel⟩, List.mem_of_getElem? (i := 26) (by decide +kernel), List.mem_of_getElem? (i := 387) (by decide +kernel), List.mem_of_getElem? (i := 388) (by decide +kernel)⟩
theorem lw_p8 : lw_okq (⟨"FlueStack$Reader", "readItem", "(LFlueStack$Wall;)Z"⟩, 9) := ⟨⟨by decide +kernel, by decide +kernel⟩, List.mem_of_getElem? (i := 26) (by decide +kernel), List.mem_of_getElem? (i := 398) (by decide +kernel), List.mem_of_getElem? (i := 399) (by decide +kernel)⟩
theorem lw_p9 : lw_okq (⟨"FlueStack$Reader", "readSize", "(LFlueStack$Wall;)Z"⟩, 9) := ⟨⟨by decide +kernel, by decide +kernel⟩, List.mem_of_getElem? (i := 26) (by decide +kernel), List.mem_of_getElem? (i := 402) (by decide +kernel), List.mem_of_getElem? (i := 403) (by decide +kernel)⟩
theorem lw_p10 : lw_okq (⟨"FlueStack$Reader", "readNumber", "(II)Z"⟩, 9) := ⟨⟨by decide +kernel, by decide +kernel⟩, List.mem_of_getElem? (i := 26) (by decide +kernel), List.mem_of_getElem? (i := 406) (by decide +kernel), List.mem_of_getElem? (i := 407) (by decide +kernel)⟩
theorem lw_p11 : lw_okq (⟨"FlueStack$Reader", "readClose", "()Z"⟩, 9) := ⟨⟨by decide +kernel, by decide +kernel⟩, List.mem_of_getElem? (i := 26) (by decide +kernel), List.mem_of_getElem? (i := 410) (by decide +kernel), List.mem_of_getElem? (i := 411) (by decide +kernel)⟩
theorem lw_p12 : lw_okq (⟨"FlueStack$Reader", "readBeam", "(LFlueStack$Wall;)Z"⟩, 9) := ⟨⟨by decide +kernel, by decide +kernel⟩, List.mem_of_getElem? (i := 26) (by decide +kernel), List.mem_of_getElem? (i := 414) (by decide +kernel), List.mem_of_getElem? (i := 415) (by decide +kernel)⟩
theorem lw_p13 : lw_okq (⟨"FlueStack$Reader", "readSpan", "(LFlueStack$Wall;)I"⟩, 9) := ⟨⟨by decide +kernel, by decide +kernel⟩, List.mem_of_getElem? (i := 26) (by decide +kernel), List.mem_of_getElem? (i := 418) (by decide +kernel), List.mem_of_getElem? (i := 419) (by decide +kernel)⟩
theorem lw_p14 : lw_okq (⟨"FlueStack$Reader", "readCold", "(LFlueStack$Wall;)Z"⟩, 9) := ⟨⟨by decide +kernel, by decide +kernel⟩, List.mem_of_getElem? (i := 26) (by decide +kernel), List.mem_of_getElem? (i := 422) (by decide +kernel), List.mem_of_getElem? (i := 423) (by decide +kernel)⟩
theorem lw_p15 : lw_okq (⟨"FlueStack$Reader", "readHearth", "(LFlueStack$Wall;)Z"⟩, 9) := ⟨⟨by decide +kernel, by decide +kernel⟩, List.mem_of_getElem? (i := 26) (by decide +kernel), List.mem_of_getElem? (i := 426) (by decide +kernel), List.mem_of_getElem? (i := 427) (by decide +kernel)⟩
def lw_privs_1 : List (MethodName × Nat) := [(⟨"FlueStack$Reader", "part", "()V"⟩, 9), (⟨"FlueStack$Reader", "byteAt", "(I)I"⟩, 9), (⟨"FlueStack$Reader", "partToken", "()I"⟩, 9), (⟨"FlueStack$Reader", "letterAt", "(I)Z"⟩, 9), (⟨"FlueStack$Reader", "partWord", "(I)I"⟩, 9), (⟨"FlueStack$Reader", "wordIs", "(ILjava/lang/String;)Z"⟩, 9), (⟨"FlueStack$Reader", "digitAt", "(I)Z"⟩, 9), (⟨"FlueStack$Reader", "partNumber", "(I)I"⟩, 9), (⟨"FlueStack$Reader", "readItem", "(LFlueStack$Wall;)Z"⟩, 9), (⟨"FlueStack$Reader", "readSize", "(LFlueStack$Wall;)Z"⟩, 9), (⟨"FlueStack$Reader", "readNumber", "(II)Z"⟩, 9), (⟨"FlueStack$Reader", "readClose", "()Z"⟩, 9), (⟨"FlueStack$Reader", "readBeam", "(LFlueStack$Wall;)Z"⟩, 9), (⟨"FlueStack$Reader", "readSpan", "(LFlueStack$Wall;)I"⟩, 9), (⟨"FlueStack$Reader", "readCold", "(LFlueStack$Wall;)Z"⟩, 9), (⟨"FlueStack$Reader", "readHearth", "(LFlueStack$Wall;)Z"⟩, 9)]
theorem lw_r1 : ∀ q ∈ lw_privs_1, lw_okq q := List.forall_mem_cons.mpr ⟨lw_p0, List.forall_mem_cons.mpr ⟨lw_p1, List.forall_mem_cons.mpr ⟨lw_p2, List.forall_mem_cons.mpr ⟨lw_p3, List.forall_mem_cons.mpr ⟨lw_p4, List.forall_mem_cons.mpr ⟨lw_p5, List.forall_mem_cons.mpr ⟨lw_p6, List.forall_mem_cons.mpr ⟨lw_p7, List.forall_mem_cons.mpr ⟨lw_p8, List.forall_mem_cons.mpr ⟨lw_p9, List.forall_mem_cons.mpr ⟨lw_p10, List.forall_mem_cons.mpr ⟨lw_p11, List.forall_mem_cons.mpr ⟨lw_p12, List.forall_mem_cons.mpr ⟨lw_p13, List.forall_mem_cons.mpr ⟨lw_p14, List.forall_mem_cons.mpr ⟨lw_p15, fun _ h => absurd h List.not_mem_nil⟩⟩⟩⟩⟩⟩⟩⟩⟩⟩⟩⟩⟩⟩⟩⟩
theorem lw_p16 : lw_okq (⟨"FlueStack$Ways", "isOpen", "(II)Z"⟩, 11) := ⟨⟨by decide +kernel, by decide +kernel⟩, List.mem_of_getElem? (i := 168) (by decide +kernel), List.mem_of_getElem? (i := 514) (by decide +kernel), List.mem_of_getElem? (i := 515) (by decide +kernel)⟩
theorem lw_p17 : lw_okq (⟨"FlueStack$Ways", "numberBelow", "(I)J"⟩, 11) := ⟨⟨by decide +kernel, by decide +kernel⟩, List.mem_of_getElem? (i := 168) (by decide +kernel), List.mem_of_getElem? (i := 518) (by decide +kernel), List.mem_of_getElem? (i := 519) (by decide +kernel)⟩
theorem lw_p18 : lw_okq (⟨"FlueStack$Ways", "leastRest", "(III)I"⟩, 11) := ⟨⟨by decide +kernel, by decide +kernel⟩, List.mem_of_getElem? (i := 168) (by decide +kernel), List.mem_of_getElem? (i := 538) (by decide +kernel), List.mem_of_getElem? (i := 539) (by decide +kernel)⟩
theorem lw_p19 : lw_okq (⟨"FlueStack$Ways", "restBy", "(IIII)I"⟩, 11) := ⟨⟨by decide +kernel, by decide +kernel⟩, List.mem_of_getElem? (i := 168) (by decide +kernel), List.mem_of_getElem? (i := 543) (by decide +kernel), List.mem_of_getElem? (i := 544) (by decide +kernel)⟩
theorem lw_p20 : lw_okq (⟨"FlueStack$Ways", "walk", "()V"⟩, 11) := ⟨⟨by decide +kernel, by decide +kernel⟩, List.mem_of_getElem? (i := 168) (by decide +kernel), List.mem_of_getElem? (i := 548) (by decide +kernel), List.mem_of_getElem? (i := 549) (by decide +kernel)⟩
theorem lw_p21 : lw_okq (⟨"FlueStack", "isSet", "(I)Z"⟩, 15) := ⟨⟨by decide +kernel, by decide +kernel⟩, List.mem_of_getElem? (i := 18) (by decide +kernel), List.mem_of_getElem? (i := 556) (by decide +kernel), List.mem_of_getElem? (i := 557) (by decide +kernel)⟩
theorem lw_p22 : lw_okq (⟨"FlueStack", "putSet", "(I)V"⟩, 15) := ⟨⟨by decide +kernel, by decide +kernel⟩, List.mem_of_getElem? (i := 18) (by decide +kernel), List.mem_of_getElem? (i := 560) (by decide +kernel), List.mem_of_getElem? (i := 561) (by decide +kernel)⟩
theorem lw_p23 : lw_okq (⟨"FlueStack$Search", "restFrom", "(II)I"⟩, 7) := ⟨⟨by decide +kernel, by decide +kernel⟩, List.mem_of_getElem? (i := 213) (by decide +kernel), List.mem_of_getElem? (i := 583) (by decide +kernel), List.mem_of_getElem? (i := 584) (by decide +kernel)⟩
theorem lw_p24 : lw_okq (⟨"FlueStack$Search", "breadthOf", "(I)I"⟩, 7) := ⟨⟨by decide +kernel, by decide +kernel⟩, List.mem_of_getElem? (i := 213) (by decide +kernel), List.mem_of_getElem? (i := 588) (by decide +kernel), List.mem_of_getElem? (i := 589) (by decide +kernel)⟩
theorem lw_p25 : lw_okq (⟨"FlueStack$Search", "leastRest", "(IIII)I"⟩, 7) := ⟨⟨by decide +kernel, by decide +kernel⟩, List.mem_of_getElem? (i := 213) (by decide +kernel), List.mem_of_getElem? (i := 599) (by decide +kernel), List.mem_of_getElem? (i := 600) (by decide +kernel)⟩
theorem lw_p26 : lw_okq (⟨"FlueStack$Search", "highest", "(III)I"⟩, 7) := ⟨⟨by decide +kernel, by decide +kernel⟩, List.mem_of_getElem? (i := 213) (by decide +kernel), List.mem_of_getElem? (i := 603) (by decide +kernel), List.mem_of_getElem? (i := 604) (by decide +kernel)⟩
theorem lw_p27 : lw_okq (⟨"FlueStack$Search", "lowest", "(III)I"⟩, 7) := ⟨⟨by decide +kernel, by decide +kernel⟩, List.mem_of_getElem? (i := 213) (by decide +kernel), List.mem_of_getElem? (i := 607) (by decide +kernel), List.mem_of_getElem? (i := 608) (by decide +kernel)⟩
theorem lw_p28 : lw_okq (⟨"FlueStack$Search", "leftBy", "(IIIIZ)I"⟩, 7) := ⟨⟨by decide +kernel, by decide +kernel⟩, List.mem_of_getElem? (i := 213) (by decide +kernel), List.mem_of_getElem? (i := 611) (by decide +kernel), List.mem_of_getElem? (i := 612) (by decide +kernel)⟩
theorem lw_p29 : lw_okq (⟨"FlueStack$Search", "lean", "(III)I"⟩, 7) := ⟨⟨by decide +kernel, by decide +kernel⟩, List.mem_of_getElem? (i := 213) (by decide +kernel), List.mem_of_getElem? (i := 615) (by decide +kernel), List.mem_of_getElem? (i := 616) (by decide +kernel)⟩
theorem lw_p30 : lw_okq (⟨"FlueStack$Search", "restBy", "(III)I"⟩, 7) := ⟨⟨by decide +kernel, by decide +kernel⟩, List.mem_of_getElem? (i := 213) (by decide +kernel), List.mem_of_getElem? (i := 619) (by decide +kernel), List.mem_of_getElem? (i := 620) (by decide +kernel)⟩
theorem lw_p31 : lw_okq (⟨"FlueStack", "sharedSet", "()I"⟩, 15) := ⟨⟨by decide +kernel, by decide +kernel⟩, List.mem_of_getElem? (i := 18) (by decide +kernel), List.mem_of_getElem? (i := 635) (by decide +kernel), List.mem_of_getElem? (i := 636) (by decide +kernel)⟩
def lw_privs_2 : List (MethodName × Nat) := [(⟨"FlueStack$Ways", "isOpen", "(II)Z"⟩, 11), (⟨"FlueStack$Ways", "numberBelow", "(I)J"⟩, 11), (⟨"FlueStack$Ways", "leastRest", "(III)I"⟩, 11), (⟨"FlueStack$Ways", "restBy", "(IIII)I"⟩, 11), (⟨"FlueStack$Ways", "walk", "()V"⟩, 11), (⟨"FlueStack", "isSet", "(I)Z"⟩, 15), (⟨"FlueStack", "putSet", "(I)V"⟩, 15), (⟨"FlueStack$Search", "restFrom", "(II)I"⟩, 7), (⟨"FlueStack$Search", "breadthOf", "(I)I"⟩, 7), (⟨"FlueStack$Search", "leastRest", "(IIII)I"⟩, 7), (⟨"FlueStack$Search", "highest", "(III)I"⟩, 7), (⟨"FlueStack$Search", "lowest", "(III)I"⟩, 7), (⟨"FlueStack$Search", "leftBy", "(IIIIZ)I"⟩, 7), (⟨"FlueStack$Search", "lean", "(III)I"⟩, 7), (⟨"FlueStack$Search", "restBy", "(III)I"⟩, 7), (⟨"FlueStack", "sharedSet", "()I"⟩, 15)]
theorem lw_r2 : ∀ q ∈ lw_privs_2, lw_okq q := List.forall_mem_cons.mpr ⟨lw_p16, List.forall_mem_cons.mpr ⟨lw_p17, List.forall_mem_cons.mpr ⟨lw_p18, List.forall_mem_cons.mpr ⟨lw_p19, List.forall_mem_cons.mpr ⟨lw_p20, List.forall_mem_cons.mpr ⟨lw_p21, List.forall_mem_cons.mpr ⟨lw_p22, List.forall_mem_cons.mpr ⟨lw_p23, List.forall_mem_cons.mpr ⟨lw_p24, List.forall_mem_cons.mpr ⟨lw_p25, List.forall_mem_cons.mpr ⟨lw_p26, List.forall_mem_cons.mpr ⟨lw_p27, List.forall_mem_cons.mpr ⟨lw_p28, List.forall_mem_cons.mpr ⟨lw_p29, List.forall_mem_cons.mpr ⟨lw_p30, List.forall_mem_cons.mpr ⟨lw_p31, fun _ h => absurd h List.not_mem_nil⟩⟩⟩⟩⟩⟩⟩⟩⟩⟩⟩⟩⟩⟩⟩⟩
theorem lw_p32 : lw_okq (⟨"FlueStack", "doors", "(I)I"⟩, 15) := ⟨⟨by decide +kernel, by decide +kernel⟩, List.mem_of_getElem? (i := 18) (by decide +kernel), List.mem_of_getElem? (i := 711) (by decide +kernel), List.mem_of_getElem? (i := 712) (by decide +kernel)⟩
theorem lw_p33 : lw_okq (⟨"FlueStack", "strength", "(II)I"⟩, 15) := ⟨⟨by decide +kernel, by decide +kernel⟩, List.mem_of_getElem? (i := 18) (by decide +kernel), List.mem_of_getElem? (i := 719) (by decide +kernel), List.mem_of_getElem? (i := 720) (by decide +kernel)⟩
theorem lw_p34 : lw_okq (⟨"FlueStack", "wanted", "(III)I"⟩, 15) := ⟨⟨by decide +kernel, by decide +kernel⟩, List.mem_of_getElem? (i := 18) (by decide +kernel), List.mem_of_getElem? (i := 731) (by decide +kernel), List.mem_of_getElem? (i := 732) (by decide +kernel)⟩
theorem lw_p35 : lw_okq (⟨"FlueStack", "fewestMoved", "(I)I"⟩, 15) := ⟨⟨by decide +kernel, by decide +kernel⟩, List.mem_of_getElem? (i := 18) (by decide +kernel), List.mem_of_getElem? (i := 744) (by decide +kernel), List.mem_of_getElem? (i := 745) (by decide +kernel)⟩
theorem lw_p36 : lw_okq (⟨"FlueStack", "putAllMoving", "(II)V"⟩, 15) := ⟨⟨by decide +kernel, by decide +kernel⟩, List.mem_of_getElem? (i := 18) (by decide +kernel), List.mem_of_getElem? (i := 748) (by decide +kernel), List.mem_of_getElem? (i := 749) (by decide +kernel)⟩
theorem lw_p37 : lw_okq (⟨"FlueStack", "rateFlue", "(I)I"⟩, 15) := ⟨⟨by decide +kernel, by decide +kernel⟩, List.mem_of_getElem? (i := 18) (by decide +kernel), List.mem_of_getElem? (i := 772) (by decide +kernel), List.mem_of_getElem? (i := 773) (by decide +kernel)⟩
theorem lw_p38 : lw_okq (⟨"FlueStack", "rateStraight", "(I)I"⟩, 15) := ⟨⟨by decide +kernel, by decide +kernel⟩, List.mem_of_getElem? (i := 18) (by decide +kernel), List.mem_of_getElem? (i := 776) (by decide +kernel), List.mem_of_getElem? (i := 777) (by decide +kernel)⟩
theorem lw_p39 : lw_okq (⟨"FlueStack", "rateLean", "(I)I"⟩, 15) := ⟨⟨by decide +kernel, by decide +kernel⟩, List.mem_of_getElem? (i := 18) (by decide +kernel), List.mem_of_getElem? (i := 781) (by decide +kernel), List.mem_of_getElem? (i := 782) (by decide +kernel)⟩
theorem lw_p40 : lw_okq (⟨"FlueStack", "rateGather", "(I)I"⟩, 15) := ⟨⟨by decide +kernel, by decide +kernel⟩, List.mem_of_getElem? (i := 18) (by decide +kernel), List.mem_of_getElem? (i := 786) (by decide +kernel), List.mem_of_getElem? (i := 787) (by decide +kernel)⟩
theorem lw_p41 : lw_okq (⟨"FlueStack", "rateShared", "(I)I"⟩, 15) := ⟨⟨by decide +kernel, by decide +kernel⟩, List.mem_of_getElem? (i := 18) (by decide +kernel), List.mem_of_getElem? (i := 791) (by decide +kernel), List.mem_of_getElem? (i := 792) (by decide +kernel)⟩
theorem lw_p42 : lw_okq (⟨"FlueStack", "rateOld", "(I)I"⟩, 15) := ⟨⟨by decide +kernel, by decide +kernel⟩, List.mem_of_getElem? (i := 18) (by decide +kernel), List.mem_of_getElem? (i := 796) (by decide +kernel), List.mem_of_getElem? (i := 797) (by decide +kernel)⟩
theorem lw_p43 : lw_okq (⟨"FlueStack", "imageOf", "(I)LFlueStack$Scheme;"⟩, 15) := ⟨⟨by decide +kernel, by decide +kernel⟩, List.mem_of_getElem? (i := 18) (by decide +kernel), List.mem_of_getElem? (i := 805) (by decide +kernel), List.mem_of_getElem? (i := 806) (by decide +kernel)⟩
theorem lw_p44 : lw_okq (⟨"FlueStackModel", "next", "()V"⟩, 35) := ⟨⟨by decide +kernel, by decide +kernel⟩, List.mem_of_getElem? (i := 832) (by decide +kernel), List.mem_of_getElem? (i := 960) (by decide +kernel), List.mem_of_getElem? (i := 961) (by decide +kernel)⟩
theorem lw_p45 : lw_okq (⟨"FlueStackModel", "here", "()I"⟩, 35) := ⟨⟨by decide +kernel, by decide +kernel⟩, List.mem_of_getElem? (i := 832) (by decide +kernel), List.mem_of_getElem? (i := 964) (by decide +kernel), List.mem_of_getElem? (i := 965) (by decide +kernel)⟩
theorem lw_p46 : lw_okq (⟨"FlueStackModel", "item", "(II)V"⟩, 35) := ⟨⟨by decide +kernel, by decide +kernel⟩, List.mem_of_getElem? (i := 832) (by decide +kernel), List.mem_of_getElem? (i := 972) (by decide +kernel), List.mem_of_getElem? (i := 973) (by decide +kernel)⟩
theorem lw_p47 : lw_okq (⟨"FlueStackModel", "due", "(Z)I"⟩, 35) := ⟨⟨by decide +kernel, by decide +kernel⟩, List.mem_of_getElem? (i := 832) (by decide +kernel), List.mem_of_getElem? (i := 976) (by decide +kernel), List.mem_of_getElem? (i := 977) (by decide +kernel)⟩
def lw_privs_3 : List (MethodName × Nat) := [(⟨"FlueStack", "doors", "(I)I"⟩, 15), (⟨"FlueStack", "strength", "(II)I"⟩, 15), (⟨"FlueStack", "wanted", "(III)I"⟩, 15), (⟨"FlueStack", "fewestMoved", "(I)I"⟩, 15), (⟨"FlueStack", "putAllMoving", "(II)V"⟩, 15), (⟨"FlueStack", "rateFlue", "(I)I"⟩, 15), (⟨"FlueStack", "rateStraight", "(I)I"⟩, 15), (⟨"FlueStack", "rateLean", "(I)I"⟩, 15), (⟨"FlueStack", "rateGather", "(I)I"⟩, 15), (⟨"FlueStack", "rateShared", "(I)I"⟩, 15), (⟨"FlueStack", "rateOld", "(I)I"⟩, 15), (⟨"FlueStack", "imageOf", "(I)LFlueStack$Scheme;"⟩, 15), (⟨"FlueStackModel", "next", "()V"⟩, 35), (⟨"FlueStackModel", "here", "()I"⟩, 35), (⟨"FlueStackModel", "item", "(II)V"⟩, 35), (⟨"FlueStackModel", "due", "(Z)I"⟩, 35)]
theorem lw_r3 : ∀ q ∈ lw_privs_3, lw_okq q := List.forall_mem_cons.mpr ⟨lw_p32, List.forall_mem_cons.mpr ⟨lw_p33, List.forall_mem_cons.mpr ⟨lw_p34, List.forall_mem_cons.mpr ⟨lw_p35, List.forall_mem_cons.mpr ⟨lw_p36, List.forall_mem_cons.mpr ⟨lw_p37, List.forall_mem_cons.mpr ⟨lw_p38, List.forall_mem_cons.mpr ⟨lw_p39, List.forall_mem_cons.mpr ⟨lw_p40, List.forall_mem_cons.mpr ⟨lw_p41, List.forall_mem_cons.mpr ⟨lw_p42, List.forall_mem_cons.mpr ⟨lw_p43, List.forall_mem_cons.mpr ⟨lw_p44, List.forall_mem_cons.mpr ⟨lw_p45, List.forall_mem_cons.mpr ⟨lw_p46, List.forall_mem_cons.mpr ⟨lw_p47, fun _ h => absurd h List.not_mem_nil⟩⟩⟩⟩⟩⟩⟩⟩⟩⟩⟩⟩⟩⟩⟩⟩
theorem lw_p48 : lw_okq (⟨"FlueStackModel", "number", "(II)I"⟩, 35) := ⟨⟨by decide +kernel, by decide +kernel⟩, List.mem_of_getElem? (i := 832) (by decide +kernel), List.mem_of_getElem? (i := 980) (by decide +kernel), List.mem_of_getElem? (i := 981) (by decide +kernel)⟩
theorem lw_p49 : lw_okq (⟨"FlueStackModel", "span", "()I"⟩, 35) := ⟨⟨by decide +kernel, by decide +kernel⟩, List.mem_of_getElem? (i := 832) (by decide +kernel), List.mem_of_getElem? (i := 984) (by decide +kernel), List.mem_of_getElem? (i := 985) (by decide +kernel)⟩
theorem lw_p50 : lw_okq (⟨"FlueStackModel", "isCourse", "(I)Z"⟩, 35) := ⟨⟨by decide +kernel, by decide +kernel⟩, List.mem_of_getElem? (i := 832) (by decide +kernel), List.mem_of_getElem? (i := 992) (by decide +kernel), List.mem_of_getElem? (i := 993) (by decide +kernel)⟩
theorem lw_p51 : lw_okq (⟨"FlueStackModel", "isIn", "(I)Z"⟩, 35) := ⟨⟨by decide +kernel, by decide +kernel⟩, List.mem_of_getElem? (i := 832) (by decide +kernel), List.mem_of_getElem? (i := 996) (by decide +kernel), List.mem_of_getElem? (i := 997) (by decide +kernel)⟩
theorem lw_p52 : lw_okq (⟨"FlueStackModel", "isBarred", "(II)Z"⟩, 35) := ⟨⟨by decide +kernel, by decide +kernel⟩, List.mem_of_getElem? (i := 832) (by decide +kernel), List.mem_of_getElem? (i := 1000) (by decide +kernel), List.mem_of_getElem? (i := 1001) (by decide +kernel)⟩
theorem lw_p53 : lw_okq (⟨"FlueStackModel", "isCold", "(I)Z"⟩, 35) := ⟨⟨by decide +kernel, by decide +kernel⟩, List.mem_of_getElem? (i := 832) (by decide +kernel), List.mem_of_getElem? (i := 1004) (by decide +kernel), List.mem_of_getElem? (i := 1005) (by decide +kernel)⟩
theorem lw_p54 : lw_okq (⟨"FlueStackModel", "isHearth", "(I)Z"⟩, 35) := ⟨⟨by decide +kernel, by decide +kernel⟩, List.mem_of_getElem? (i := 832) (by decide +kernel), List.mem_of_getElem? (i := 1012) (by decide +kernel), List.mem_of_getElem? (i := 1013) (by decide +kernel)⟩
theorem lw_p55 : lw_okq (⟨"FlueStackModel", "countWays", "(IZ)J"⟩, 35) := ⟨⟨by decide +kernel, by decide +kernel⟩, List.mem_of_getElem? (i := 832) (by decide +kernel), List.mem_of_getElem? (i := 1029) (by decide +kernel), List.mem_of_getElem? (i := 1030) (by decide +kernel)⟩
theorem lw_p56 : lw_okq (⟨"FlueStackModel", "isMarked", "(IIZ)Z"⟩, 35) := ⟨⟨by decide +kernel, by decide +kernel⟩, List.mem_of_getElem? (i := 832) (by decide +kernel), List.mem_of_getElem? (i := 1033) (by decide +kernel), List.mem_of_getElem? (i := 1034) (by decide +kernel)⟩
theorem lw_p57 : lw_okq (⟨"FlueStackModel", "leastOne", "(I)I"⟩, 35) := ⟨⟨by decide +kernel, by decide +kernel⟩, List.mem_of_getElem? (i := 832) (by decide +kernel), List.mem_of_getElem? (i := 1046) (by decide +kernel), List.mem_of_getElem? (i := 1047) (by decide +kernel)⟩
theorem lw_p58 : lw_okq (⟨"FlueStackModel", "byStep", "(IIII)I"⟩, 35) := ⟨⟨by decide +kernel, by decide +kernel⟩, List.mem_of_getElem? (i := 832) (by decide +kernel), List.mem_of_getElem? (i := 1051) (by decide +kernel), List.mem_of_getElem? (i := 1052) (by decide +kernel)⟩
theorem lw_p59 : lw_okq (⟨"FlueStackModel", "stillAt", "(III)I"⟩, 35) := ⟨⟨by decide +kernel, by decide +kernel⟩, List.mem_of_getElem? (i := 832) (by decide +kernel), List.mem_of_getElem? (i := 1055) (by decide +kernel), List.mem_of_getElem? (i := 1056) (by decide +kernel)⟩
theorem lw_p60 : lw_okq (⟨"FlueStackModel", "isSet", "(I)Z"⟩, 35) := ⟨⟨by decide +kernel, by decide +kernel⟩, List.mem_of_getElem? (i := 832) (by decide +kernel), List.mem_of_getElem? (i := 1063) (by decide +kernel), List.mem_of_getElem? (i := 1064) (by decide +kernel)⟩
theorem lw_p61 : lw_okq (⟨"FlueStackModel", "gather", "(I)V"⟩, 35) := ⟨⟨by decide +kernel, by decide +kernel⟩, List.mem_of_getElem? (i := 832) (by decide +kernel), List.mem_of_getElem? (i := 1067) (by decide +kernel), List.mem_of_getElem? (i := 1068) (by decide +kernel)⟩
theorem lw_p62 : lw_okq (⟨"FlueStackModel", "add", "(III)V"⟩, 35) := ⟨⟨by decide +kernel, by decide +kernel⟩, List.mem_of_getElem? (i := 832) (by decide +kernel), List.mem_of_getElem? (i := 1071) (by decide +kernel), List.mem_of_getElem? (i := 1072) (by decide +kernel)⟩
theorem lw_p63 : lw_okq (⟨"FlueStackModel", "goTogether", "()I"⟩, 35) := ⟨⟨by decide +kernel, by decide +kernel⟩, List.mem_of_getElem? (i := 832) (by decide +kernel), List.mem_of_getElem? (i := 1075) (by decide +kernel), List.mem_of_getElem? (i := 1076) (by decide +kernel)⟩
def lw_privs_4 : List (MethodName × Nat) := [(⟨"FlueStackModel", "number", "(II)I"⟩, 35), (⟨"FlueStackModel", "span", "()I"⟩, 35), (⟨"FlueStackModel", "isCourse", "(I)Z"⟩, 35), (⟨"FlueStackModel", "isIn", "(I)Z"⟩, 35), (⟨"FlueStackModel", "isBarred", "(II)Z"⟩, 35), (⟨"FlueStackModel", "isCold", "(I)Z"⟩, 35), (⟨"FlueStackModel", "isHearth", "(I)Z"⟩, 35), (⟨"FlueStackModel", "countWays", "(IZ)J"⟩, 35), (⟨"FlueStackModel", "isMarked", "(IIZ)Z"⟩, 35), (⟨"FlueStackModel", "leastOne", "(I)I"⟩, 35), (⟨"FlueStackModel", "byStep", "(IIII)I"⟩, 35), (⟨"FlueStackModel", "stillAt", "(III)I"⟩, 35), (⟨"FlueStackModel", "isSet", "(I)Z"⟩, 35), (⟨"FlueStackModel", "gather", "(I)V"⟩, 35), (⟨"FlueStackModel", "add", "(III)V"⟩, 35), (⟨"FlueStackModel", "goTogether", "()I"⟩, 35)]
theorem lw_r4 : ∀ q ∈ lw_privs_4, lw_okq q := List.forall_mem_cons.mpr ⟨lw_p48, List.forall_mem_cons.mpr ⟨lw_p49, List.forall_mem_cons.mpr ⟨lw_p50, List.forall_mem_cons.mpr ⟨lw_p51, List.forall_mem_cons.mpr ⟨lw_p52, List.forall_mem_cons.mpr ⟨lw_p53, List.forall_mem_cons.mpr ⟨lw_p54, List.forall_mem_cons.mpr ⟨lw_p55, List.forall_mem_cons.mpr ⟨lw_p56, List.forall_mem_cons.mpr ⟨lw_p57, List.forall_mem_cons.mpr ⟨lw_p58, List.forall_mem_cons.mpr ⟨lw_p59, List.forall_mem_cons.mpr ⟨lw_p60, List.forall_mem_cons.mpr ⟨lw_p61, List.forall_mem_cons.mpr ⟨lw_p62, List.forall_mem_cons.mpr ⟨lw_p63, fun _ h => absurd h List.not_mem_nil⟩⟩⟩⟩⟩⟩⟩⟩⟩⟩⟩⟩⟩⟩⟩⟩
theorem lw_p64 : lw_okq (⟨"FlueStackModel", "goBroad", "(I)I"⟩, 35) := ⟨⟨by decide +kernel, by decide +kernel⟩, List.mem_of_getElem? (i := 832) (by decide +kernel), List.mem_of_getElem? (i := 1079) (by decide +kernel), List.mem_of_getElem? (i := 1080) (by decide +kernel)⟩
theorem lw_p65 : lw_okq (⟨"FlueStackModel", "spots", "()I"⟩, 35) := ⟨⟨by decide +kernel, by decide +kernel⟩, List.mem_of_getElem? (i := 832) (by decide +kernel), List.mem_of_getElem? (i := 1083) (by decide +kernel), List.mem_of_getElem? (i := 1084) (by decide +kernel)⟩
theorem lw_p66 : lw_okq (⟨"FlueStackModel", "isSpot", "(II)Z"⟩, 35) := ⟨⟨by decide +kernel, by decide +kernel⟩, List.mem_of_getElem? (i := 832) (by decide +kernel), List.mem_of_getElem? (i := 1087) (by decide +kernel), List.mem_of_getElem? (i := 1088) (by decide +kernel)⟩
theorem lw_p67 : lw_okq (⟨"FlueStackModel", "placeIn", "(II)I"⟩, 35) := ⟨⟨by decide +kernel, by decide +kernel⟩, List.mem_of_getElem? (i := 832) (by decide +kernel), List.mem_of_getElem? (i := 1091) (by decide +kernel), List.mem_of_getElem? (i := 1092) (by decide +kernel)⟩
theorem lw_p68 : lw_okq (⟨"FlueStackModel", "mayBe", "(III)Z"⟩, 35) := ⟨⟨by decide +kernel, by decide +kernel⟩, List.mem_of_getElem? (i := 832) (by decide +kernel), List.mem_of_getElem? (i := 1095) (by decide +kernel), List.mem_of_getElem? (i := 1096) (by decide +kernel)⟩
theorem lw_p69 : lw_okq (⟨"FlueStackModel", "leastNext", "(II)I"⟩, 35) := ⟨⟨by decide +kernel, by decide +kernel⟩, List.mem_of_getElem? (i := 832) (by decide +kernel), List.mem_of_getElem? (i := 1099) (by decide +kernel), List.mem_of_getElem? (i := 1100) (by decide +kernel)⟩
theorem lw_p70 : lw_okq (⟨"FlueStackModel", "firstOf", "(III)I"⟩, 35) := ⟨⟨by decide +kernel, by decide +kernel⟩, List.mem_of_getElem? (i := 832) (by decide +kernel), List.mem_of_getElem? (i := 1103) (by decide +kernel), List.mem_of_getElem? (i := 1104) (by decide +kernel)⟩
theorem lw_p71 : lw_okq (⟨"FlueStackModel", "lastOf", "(III)I"⟩, 35) := ⟨⟨by decide +kernel, by decide +kernel⟩, List.mem_of_getElem? (i := 832) (by decide +kernel), List.mem_of_getElem? (i := 1107) (by decide +kernel), List.mem_of_getElem? (i := 1108) (by decide +kernel)⟩
theorem lw_p72 : lw_okq (⟨"FlueStackModel", "leansTo", "(III)I"⟩, 35) := ⟨⟨by decide +kernel, by decide +kernel⟩, List.mem_of_getElem? (i := 832) (by decide +kernel), List.mem_of_getElem? (i := 1111) (by decide +kernel), List.mem_of_getElem? (i := 1112) (by decide +kernel)⟩
theorem lw_p73 : lw_okq (⟨"FlueStackModel", "breadthOf", "(I)I"⟩, 35) := ⟨⟨by decide +kernel, by decide +kernel⟩, List.mem_of_getElem? (i := 832) (by decide +kernel), List.mem_of_getElem? (i := 1115) (by decide +kernel), List.mem_of_getElem? (i := 1116) (by decide +kernel)⟩
theorem lw_p74 : lw_okq (⟨"FlueStackModel", "firstSpot", "()I"⟩, 35) := ⟨⟨by decide +kernel, by decide +kernel⟩, List.mem_of_getElem? (i := 832) (by decide +kernel), List.mem_of_getElem? (i := 1119) (by decide +kernel), List.mem_of_getElem? (i := 1120) (by decide +kernel)⟩
theorem lw_p75 : lw_okq (⟨"FlueStackModel", "troubleAt", "(II)I"⟩, 35) := ⟨⟨by decide +kernel, by decide +kernel⟩, List.mem_of_getElem? (i := 832) (by decide +kernel), List.mem_of_getElem? (i := 1150) (by decide +kernel), List.mem_of_getElem? (i := 1151) (by decide +kernel)⟩
theorem lw_p76 : lw_okq (⟨"FlueStackModel", "bendsOf", "(I)I"⟩, 35) := ⟨⟨by decide +kernel, by decide +kernel⟩, List.mem_of_getElem? (i := 832) (by decide +kernel), List.mem_of_getElem? (i := 1158) (by decide +kernel), List.mem_of_getElem? (i := 1159) (by decide +kernel)⟩
theorem lw_p77 : lw_okq (⟨"FlueStackModel", "stepInto", "(II)I"⟩, 35) := ⟨⟨by decide +kernel, by decide +kernel⟩, List.mem_of_getElem? (i := 832) (by decide +kernel), List.mem_of_getElem? (i := 1162) (by decide +kernel), List.mem_of_getElem? (i := 1163) (by decide +kernel)⟩
theorem lw_p78 : lw_okq (⟨"FlueStackModel", "leansOf", "(I)I"⟩, 35) := ⟨⟨by decide +kernel, by decide +kernel⟩, List.mem_of_getElem? (i := 832) (by decide +kernel), List.mem_of_getElem? (i := 1166) (by decide +kernel), List.mem_of_getElem? (i := 1167) (by decide +kernel)⟩
theorem lw_p79 : lw_okq (⟨"FlueStackModel", "coldOf", "(I)I"⟩, 35) := ⟨⟨by decide +kernel, by decide +kernel⟩, List.mem_of_getElem? (i := 832) (by decide +kernel), List.mem_of_getElem? (i := 1170) (by decide +kernel), List.mem_of_getElem? (i := 1171) (by decide +kernel)⟩
def lw_privs_5 : List (MethodName × Nat) := [(⟨"FlueStackModel", "goBroad", "(I)I"⟩, 35), (⟨"FlueStackModel", "spots", "()I"⟩, 35), (⟨"FlueStackModel", "isSpot", "(II)Z"⟩, 35), (⟨"FlueStackModel", "placeIn", "(II)I"⟩, 35), (⟨"FlueStackModel", "mayBe", "(III)Z"⟩, 35), (⟨"FlueStackModel", "leastNext", "(II)I"⟩, 35), (⟨"FlueStackModel", "firstOf", "(III)I"⟩, 35), (⟨"FlueStackModel", "lastOf", "(III)I"⟩, 35), (⟨"FlueStackModel", "leansTo", "(III)I"⟩, 35), (⟨"FlueStackModel", "breadthOf", "(I)I"⟩, 35), (⟨"FlueStackModel", "firstSpot", "()I"⟩, 35), (⟨"FlueStackModel", "troubleAt", "(II)I"⟩, 35), (⟨"FlueStackModel", "bendsOf", "(I)I"⟩, 35), (⟨"FlueStackModel", "stepInto", "(II)I"⟩, 35), (⟨"FlueStackModel", "leansOf", "(I)I"⟩, 35), (⟨"FlueStackModel", "coldOf", "(I)I"⟩, 35)]
theorem lw_r5 : ∀ q ∈ lw_privs_5, lw_okq q := List.forall_mem_cons.mpr ⟨lw_p64, List.forall_mem_cons.mpr ⟨lw_p65, List.forall_mem_cons.mpr ⟨lw_p66, List.forall_mem_cons.mpr ⟨lw_p67, List.forall_mem_cons.mpr ⟨lw_p68, List.forall_mem_cons.mpr ⟨lw_p69, List.forall_mem_cons.mpr ⟨lw_p70, List.forall_mem_cons.mpr ⟨lw_p71, List.forall_mem_cons.mpr ⟨lw_p72, List.forall_mem_cons.mpr ⟨lw_p73, List.forall_mem_cons.mpr ⟨lw_p74, List.forall_mem_cons.mpr ⟨lw_p75, List.forall_mem_cons.mpr ⟨lw_p76, List.forall_mem_cons.mpr ⟨lw_p77, List.forall_mem_cons.mpr ⟨lw_p78, List.forall_mem_cons.mpr ⟨lw_p79, fun _ h => absurd h List.not_mem_nil⟩⟩⟩⟩⟩⟩⟩⟩⟩⟩⟩⟩⟩⟩⟩⟩
theorem lw_p80 : lw_okq (⟨"FlueStackModel", "drawOf", "(II)I"⟩, 35) := ⟨⟨by decide +kernel, by decide +kernel⟩, List.mem_of_getElem? (i := 832) (by decide +kernel), List.mem_of_getElem? (i := 1178) (by decide +kernel), List.mem_of_getElem? (i := 1179) (by decide +kernel)⟩
theorem lw_p81 : lw_okq (⟨"FlueStackModel", "isWellWith", "(II)Z"⟩, 35) := ⟨⟨by decide +kernel, by decide +kernel⟩, List.mem_of_getElem? (i := 832) (by decide +kernel), List.mem_of_getElem? (i := 1195) (by decide +kernel), List.mem_of_getElem? (i := 1196) (by decide +kernel)⟩
theorem lw_p82 : lw_okq (⟨"FlueStackModel", "copy", "(II)V"⟩, 35) := ⟨⟨by decide +kernel, by decide +kernel⟩, List.mem_of_getElem? (i := 832) (by decide +kernel), List.mem_of_getElem? (i := 1216) (by decide +kernel), List.mem_of_getElem? (i := 1217) (by decide +kernel)⟩
def lw_privs_6 : List (MethodName × Nat) := [(⟨"FlueStackModel", "drawOf", "(II)I"⟩, 35), (⟨"FlueStackModel", "isWellWith", "(II)Z"⟩, 35), (⟨"FlueStackModel", "copy", "(II)V"⟩, 35)]
theorem lw_r6 : ∀ q ∈ lw_privs_6, lw_okq q := List.forall_mem_cons.mpr ⟨lw_p80, List.forall_mem_cons.mpr ⟨lw_p81, List.forall_mem_cons.mpr ⟨lw_p82, fun _ h => absurd h List.not_mem_nil⟩⟩⟩
def lw_privs : List (MethodName × Nat) := lw_privs_1 ++ (lw_privs_2 ++ (lw_privs_3 ++ (lw_privs_4 ++ (lw_privs_5 ++ (lw_privs_6)))))
def lw_tbl : List Cond := k2_sels lw_privs ++ tables_1
theorem lw_privs_ok : ∀ q ∈ lw_privs, lw_okq q := by
  show ∀ q ∈ lw_privs_1 ++ (lw_privs_2 ++ (lw_privs_3 ++ (lw_privs_4 ++ (lw_privs_5 ++ (lw_privs_6))))), lw_okq q
  exact List.forall_mem_append.mpr ⟨lw_r1, List.forall_mem_append.mpr ⟨lw_r2, List.forall_mem_append.mpr ⟨lw_r3, List.forall_mem_append.mpr ⟨lw_r4, List.forall_mem_append.mpr ⟨lw_r5, lw_r6⟩⟩⟩⟩⟩
-- ===== end of PART A; then your names; then what follows =====
/-! ===== BEGIN words of one list among another's, by their places ===== -/
theorem goodIn_r {big : List Cond} (ws : List Cond) (ps : List Nat) (hp : ws = ps.filterMap (fun i => big[i]?)) (h : ws.all goodWord = true) : GoodIn big ws := by
  intro w hw
  have h1 := List.all_eq_true.mp h w hw
  rw [hp] at hw
  obtain ⟨i, -, hi⟩ := List.mem_filterMap.mp hw
  have hm : w ∈ big := by first | exact List.mem_of_getElem? hi | exact List.getElem?_mem hi
  exact ⟨hm, good_of_word h1⟩
theorem goodIn_app {big a b : List Cond} (ha : GoodIn big a) (hb : GoodIn big b) : GoodIn big (a ++ b) := fun w h => (List.mem_append.mp h).elim (ha w) (hb w)
theorem goodIn_ca {big a b : List Cond} {c : Cond} (ha : GoodIn big (c :: a)) (hb : GoodIn big b) : GoodIn big (c :: (a ++ b)) := fun w h => (List.mem_cons.mp h).elim (fun e => ha w (List.mem_cons.mpr (Or.inl e))) (fun h => (List.mem_append.mp h).elim (fun h => ha w (List.mem_cons.mpr (Or.inr h))) (hb w))
theorem goodIn_sub {big ws : List Cond} (hm : ∀ w ∈ ws, w ∈ big) (h : ws.all goodWord = true) : GoodIn big ws := fun w hw => ⟨hm w hw, good_of_word (List.all_eq_true.mp h w hw)⟩
/-! ===== END ===== -/

/-! ===== BEGIN new T[n][m]: the outer array a place, the inner ones among the pooled ===== -/
/-- f, but v at every address of l -/
def vr_up {α : Type} (f : Nat → α) (l : List Nat) (v : α) : Nat → α := fun a => if a ∈ l then v else f a
theorem vr_up_in {α : Type} {f : Nat → α} {l : List Nat} {v : α} {a : Nat} (h : a ∈ l) : vr_up f l v a = v := if_pos h
theorem vr_up_ne {α : Type} {f : Nat → α} {l : List Nat} {v : α} {a : Nat} (h : a ∉ l) : vr_up f l v a = f a := if_neg h
theorem vr_rows {L l : List Nat} {f : Nat → va_E} {e : va_E} (h : ∀ a, a ∈ l → a ∉ L) : va_pl L f ++ l.map (fun a => (a, e)) = va_pl (L ++ l) (vr_up f l e) := by
  unfold va_pl
  rw [List.map_append]
  congr 1
  · apply List.map_congr_left
    intro a ha
    rw [vr_up_ne (fun q => h a q ha)]
  · apply List.map_congr_left
    intro a ha
    rw [vr_up_in ha]
theorem vr_lay {X rows : va_W} {x : Nat × va_E} {pl : va_W} {D : va_G} {cl : List vw_C} {H : Heap} (hP : va_P D cl (((X ++ pl) ++ [x]) ++ rows) H) : va_P D cl ((X ++ [x]) ++ (pl ++ rows)) H := by
  rw [List.append_assoc (X ++ pl)] at hP
  have h := va_P.swap hP
  rw [← List.append_assoc X] at h
  have h2 := va_P.swap h
  rw [List.append_assoc (X ++ [x])] at h2
  exact h2
theorem vr_layD {X rows : va_W} {x : Nat × va_E} {pl : va_W} {A : Nat → Prop} (hD : va_D A (((X ++ pl) ++ [x]) ++ rows)) : va_D A ((X ++ [x]) ++ (pl ++ rows)) := by
  rw [List.append_assoc (X ++ pl)] at hD
  have h := va_D.swap hD
  rw [← List.append_assoc X] at h
  have h2 := va_D.swap h
  rw [List.append_assoc (X ++ [x])] at h2
  exact h2
theorem vr_outer (c : ClassId) (N h0 : Nat) : ∀ i : Nat, Jvm.Free.Multi.outerC c N h0 i = arrV c N (fun j => va_rf (if j < i then some (h0 + 1 + j) else none))
  | 0 => by
    show ({ cls := c, slots := Array.replicate N .null, vm := .none } : Cell) = _
    rw [arrV_new]
    refine congrArg (arrV c N) (funext fun j => ?_)
    simp [va_rf]
  | i + 1 => by
    show (Jvm.Free.Multi.outerC c N h0 i).setSlot i (.ref (h0 + 1 + i)) = _
    rw [vr_outer c N h0 i, arrV_store]
    refine congrArg (arrV c N) (funext fun j => ?_)
    by_cases e : j = i
    · subst e
      simp [updV, va_rf]
    · by_cases h : j < i
      · simp [updV, e, h, Nat.lt_succ_of_lt h]
      · simp [updV, e, h, show ¬ j < i + 1 by omega]
/-! ===== END ===== -/

/-! ===== BEGIN printed: names, fields, word lists, decode rows ===== -/
def RX0 : String := "FlueStack$Judge"
def TX0 : u_T := fun k => match k with
  | 0 => ("FlueStack$Judge", "trouble", "I", false)
  | 1 => ("FlueStack$Judge", "culprit", "I", false)
  | _ => ("FlueStack$Judge", "course", "I", false)
def tyX0 : Nat → FieldType := fun k => match k with
  | 0 => .int
  | 1 => .int
  | _ => .int
abbrev wsX00 : List Cond := u_ws RX0 TX0 3
theorem nmX0 : ∀ a, a < 3 → ∀ b, b < 3 → a ≠ b → (TX0 a).2.1 ≠ (TX0 b).2.1 := by decide +kernel
theorem tyX0_ok : ∀ k, k < 3 → parseFieldDescriptor (TX0 k).2.2.1 = some (tyX0 k) := by decide +kernel
abbrev cX0_init : ByteArray := prog_2_method_1_code
def yX0_init : MethodName := ⟨RX0, "<init>", "()V"⟩
abbrev cX0_findsNone : ByteArray := prog_2_method_2_code
def yX0_findsNone : MethodName := ⟨RX0, "findsNone", "(LFlueStack$Wall;LFlueStack$Scheme;I)Z"⟩
abbrev cX0_troubleOf : ByteArray := prog_2_method_3_code
def yX0_troubleOf : MethodName := ⟨RX0, "troubleOf", "(LFlueStack$Wall;LFlueStack$Scheme;III)I"⟩
abbrev cX0_crosses : ByteArray := prog_2_method_4_code
def yX0_crosses : MethodName := ⟨RX0, "crosses", "(LFlueStack$Wall;LFlueStack$Scheme;III)Z"⟩
def RX1 : String := "FlueStack$Reader"
def TX1 : u_T := fun k => match k with
  | 0 => ("FlueStack$Reader", "bytes", "[B", false)
  | 1 => ("FlueStack$Reader", "length", "I", false)
  | 2 => ("FlueStack$Reader", "next", "I", false)
  | 3 => ("FlueStack$Reader", "kinds", "[I", true)
  | 4 => ("FlueStack$Reader", "places", "[I", true)
  | 5 => ("FlueStack$Reader", "values", "[I", true)
  | 6 => ("FlueStack$Reader", "tokens", "I", false)
  | 7 => ("FlueStack$Reader", "hand", "I", false)
  | _ => ("FlueStack$Reader", "value", "I", false)
def tyX1 : Nat → FieldType := fun k => match k with
  | 0 => .array .byte
  | 1 => .int
  | 2 => .int
  | 3 => .array .int
  | 4 => .array .int
  | 5 => .array .int
  | 6 => .int
  | 7 => .int
  | _ => .int
abbrev wsX10 : List Cond := u_ws RX1 TX1 9
theorem nmX1 : ∀ a, a < 9 → ∀ b, b < 9 → a ≠ b → (TX1 a).2.1 ≠ (TX1 b).2.1 := by decide +kernel
theorem tyX1_ok : ∀ k, k < 9 → parseFieldDescriptor (TX1 k).2.2.1 = some (tyX1 k) := by decide +kernel
abbrev cX1_init : ByteArray := prog_3_method_1_code
def yX1_init : MethodName := ⟨RX1, "<init>", "()V"⟩
abbrev cX1_read : ByteArray := prog_3_method_2_code
def yX1_read : MethodName := ⟨RX1, "read", "([BILFlueStack$Wall;)I"⟩
abbrev cX1_readItem : ByteArray := prog_3_method_3_code
def yX1_readItem : MethodName := ⟨RX1, "readItem", "(LFlueStack$Wall;)Z"⟩
abbrev cX1_readSize : ByteArray := prog_3_method_4_code
def yX1_readSize : MethodName := ⟨RX1, "readSize", "(LFlueStack$Wall;)Z"⟩
abbrev cX1_readBeam : ByteArray := prog_3_method_5_code
def yX1_readBeam : MethodName := ⟨RX1, "readBeam", "(LFlueStack$Wall;)Z"⟩
abbrev cX1_readCold : ByteArray := prog_3_method_6_code
def yX1_readCold : MethodName := ⟨RX1, "readCold", "(LFlueStack$Wall;)Z"⟩
abbrev cX1_readHearth : ByteArray := prog_3_method_7_code
def yX1_readHearth : MethodName := ⟨RX1, "readHearth", "(LFlueStack$Wall;)Z"⟩
abbrev cX1_readSpan : ByteArray := prog_3_method_8_code
def yX1_readSpan : MethodName := ⟨RX1, "readSpan", "(LFlueStack$Wall;)I"⟩
abbrev cX1_readNumber : ByteArray := prog_3_method_9_code
def yX1_readNumber : MethodName := ⟨RX1, "readNumber", "(II)Z"⟩
abbrev cX1_readClose : ByteArray := prog_3_method_10_code
def yX1_readClose : MethodName := ⟨RX1, "readClose", "()Z"⟩
abbrev cX1_part : ByteArray := prog_3_method_11_code
def yX1_part : MethodName := ⟨RX1, "part", "()V"⟩
abbrev cX1_partToken : ByteArray := prog_3_method_12_code
def yX1_partToken : MethodName := ⟨RX1, "partToken", "()I"⟩
abbrev cX1_partWord : ByteArray := prog_3_method_13_code
def yX1_partWord : MethodName := ⟨RX1, "partWord", "(I)I"⟩
abbrev cX1_wordIs : ByteArray := prog_3_method_14_code
def yX1_wordIs : MethodName := ⟨RX1, "wordIs", "(ILjava/lang/String;)Z"⟩
abbrev cX1_partNumber : ByteArray := prog_3_method_15_code
def yX1_partNumber : MethodName := ⟨RX1, "partNumber", "(I)I"⟩
abbrev cX1_letterAt : ByteArray := prog_3_method_16_code
def yX1_letterAt : MethodName := ⟨RX1, "letterAt", "(I)Z"⟩
abbrev cX1_digitAt : ByteArray := prog_3_method_17_code
def yX1_digitAt : MethodName := ⟨RX1, "digitAt", "(I)Z"⟩
abbrev cX1_byteAt : ByteArray := prog_3_method_18_code
def yX1_byteAt : MethodName := ⟨RX1, "byteAt", "(I)I"⟩
def RX2 : String := "FlueStack$Scheme"
def TX2 : u_T := fun k => match k with
  | 0 => ("FlueStack$Scheme", "columns", "[[I", true)
  | 1 => ("FlueStack$Scheme", "markCourses", "[I", true)
  | 2 => ("FlueStack$Scheme", "markColumns", "[I", true)
  | _ => ("FlueStack$Scheme", "marks", "I", false)
def tyX2 : Nat → FieldType := fun k => match k with
  | 0 => .array (.array .int)
  | 1 => .array .int
  | 2 => .array .int
  | _ => .int
abbrev wsX20 : List Cond := u_ws RX2 TX2 4
theorem nmX2 : ∀ a, a < 4 → ∀ b, b < 4 → a ≠ b → (TX2 a).2.1 ≠ (TX2 b).2.1 := by decide +kernel
theorem tyX2_ok : ∀ k, k < 4 → parseFieldDescriptor (TX2 k).2.2.1 = some (tyX2 k) := by decide +kernel
abbrev cX2_init : ByteArray := prog_4_method_1_code
def yX2_init : MethodName := ⟨RX2, "<init>", "()V"⟩
abbrev cX2_copyFrom : ByteArray := prog_4_method_2_code
def yX2_copyFrom : MethodName := ⟨RX2, "copyFrom", "(LFlueStack$Scheme;)V"⟩
abbrev cX2_goStraightUp : ByteArray := prog_4_method_3_code
def yX2_goStraightUp : MethodName := ⟨RX2, "goStraightUp", "(LFlueStack$Wall;)V"⟩
abbrev cX2_leans : ByteArray := prog_4_method_4_code
def yX2_leans : MethodName := ⟨RX2, "leans", "(LFlueStack$Wall;I)I"⟩
abbrev cX2_bends : ByteArray := prog_4_method_5_code
def yX2_bends : MethodName := ⟨RX2, "bends", "(LFlueStack$Wall;I)I"⟩
abbrev cX2_coldCourses : ByteArray := prog_4_method_6_code
def yX2_coldCourses : MethodName := ⟨RX2, "coldCourses", "(LFlueStack$Wall;I)I"⟩
def RX3 : String := "FlueStack$Search"
def TX3 : u_T := fun k => match k with
  | 0 => ("FlueStack$Search", "known", "[[I", true)
  | 1 => ("FlueStack$Search", "free", "[I", true)
  | 2 => ("FlueStack$Search", "open", "[[I", true)
  | 3 => ("FlueStack$Search", "firsts", "[I", true)
  | 4 => ("FlueStack$Search", "last", "I", false)
  | 5 => ("FlueStack$Search", "gap", "I", false)
  | _ => ("FlueStack$Search", "anyWillDo", "Z", false)
def tyX3 : Nat → FieldType := fun k => match k with
  | 0 => .array (.array .int)
  | 1 => .array .int
  | 2 => .array (.array .int)
  | 3 => .array .int
  | 4 => .int
  | 5 => .int
  | _ => .boolean
abbrev wsX30 : List Cond := u_ws RX3 TX3 7
theorem nmX3 : ∀ a, a < 7 → ∀ b, b < 7 → a ≠ b → (TX3 a).2.1 ≠ (TX3 b).2.1 := by decide +kernel
theorem tyX3_ok : ∀ k, k < 7 → parseFieldDescriptor (TX3 k).2.2.1 = some (tyX3 k) := by decide +kernel
abbrev cX3_init : ByteArray := prog_5_method_1_code
def yX3_init : MethodName := ⟨RX3, "<init>", "()V"⟩
abbrev cX3_prepare : ByteArray := prog_5_method_2_code
def yX3_prepare : MethodName := ⟨RX3, "prepare", "(LFlueStack$Wall;II)V"⟩
abbrev cX3_put : ByteArray := prog_5_method_3_code
def yX3_put : MethodName := ⟨RX3, "put", "(III)V"⟩
abbrev cX3_fix : ByteArray := prog_5_method_4_code
def yX3_fix : MethodName := ⟨RX3, "fix", "(ILFlueStack$Scheme;)V"⟩
abbrev cX3_forgetUpTo : ByteArray := prog_5_method_5_code
def yX3_forgetUpTo : MethodName := ⟨RX3, "forgetUpTo", "(I)V"⟩
abbrev cX3_findsAny : ByteArray := prog_5_method_6_code
def yX3_findsAny : MethodName := ⟨RX3, "findsAny", "()Z"⟩
abbrev cX3_findsBest : ByteArray := prog_5_method_7_code
def yX3_findsBest : MethodName := ⟨RX3, "findsBest", "()Z"⟩
abbrev cX3_breadth : ByteArray := prog_5_method_8_code
def yX3_breadth : MethodName := ⟨RX3, "breadth", "()I"⟩
abbrev cX3_leans : ByteArray := prog_5_method_9_code
def yX3_leans : MethodName := ⟨RX3, "leans", "()I"⟩
abbrev cX3_tell : ByteArray := prog_5_method_10_code
def yX3_tell : MethodName := ⟨RX3, "tell", "(LFlueStack$Scheme;)V"⟩
abbrev cX3_columnIn : ByteArray := prog_5_method_11_code
def yX3_columnIn : MethodName := ⟨RX3, "columnIn", "(II)I"⟩
abbrev cX3_restFrom : ByteArray := prog_5_method_12_code
def yX3_restFrom : MethodName := ⟨RX3, "restFrom", "(II)I"⟩
abbrev cX3_breadthOf : ByteArray := prog_5_method_13_code
def yX3_breadthOf : MethodName := ⟨RX3, "breadthOf", "(I)I"⟩
abbrev cX3_leastRest : ByteArray := prog_5_method_14_code
def yX3_leastRest : MethodName := ⟨RX3, "leastRest", "(IIII)I"⟩
abbrev cX3_restBy : ByteArray := prog_5_method_15_code
def yX3_restBy : MethodName := ⟨RX3, "restBy", "(III)I"⟩
abbrev cX3_lowest : ByteArray := prog_5_method_16_code
def yX3_lowest : MethodName := ⟨RX3, "lowest", "(III)I"⟩
abbrev cX3_highest : ByteArray := prog_5_method_17_code
def yX3_highest : MethodName := ⟨RX3, "highest", "(III)I"⟩
abbrev cX3_leftBy : ByteArray := prog_5_method_18_code
def yX3_leftBy : MethodName := ⟨RX3, "leftBy", "(IIIIZ)I"⟩
abbrev cX3_lean : ByteArray := prog_5_method_19_code
def yX3_lean : MethodName := ⟨RX3, "lean", "(III)I"⟩
def RX4 : String := "FlueStack$Wall"
def TX4 : u_T := fun k => match k with
  | 0 => ("FlueStack$Wall", "width", "I", false)
  | 1 => ("FlueStack$Wall", "height", "I", false)
  | 2 => ("FlueStack$Wall", "cold", "I", false)
  | 3 => ("FlueStack$Wall", "hearths", "I", false)
  | 4 => ("FlueStack$Wall", "barred", "[I", true)
  | 5 => ("FlueStack$Wall", "courses", "[I", true)
  | 6 => ("FlueStack$Wall", "columns", "[I", true)
  | _ => ("FlueStack$Wall", "needs", "[I", true)
def tyX4 : Nat → FieldType := fun k => match k with
  | 0 => .int
  | 1 => .int
  | 2 => .int
  | 3 => .int
  | 4 => .array .int
  | 5 => .array .int
  | 6 => .array .int
  | _ => .array .int
abbrev wsX40 : List Cond := u_ws RX4 TX4 8
theorem nmX4 : ∀ a, a < 8 → ∀ b, b < 8 → a ≠ b → (TX4 a).2.1 ≠ (TX4 b).2.1 := by decide +kernel
theorem tyX4_ok : ∀ k, k < 8 → parseFieldDescriptor (TX4 k).2.2.1 = some (tyX4 k) := by decide +kernel
abbrev cX4_init : ByteArray := prog_6_method_1_code
def yX4_init : MethodName := ⟨RX4, "<init>", "()V"⟩
abbrev cX4_reset : ByteArray := prog_6_method_2_code
def yX4_reset : MethodName := ⟨RX4, "reset", "()V"⟩
abbrev cX4_copyFrom : ByteArray := prog_6_method_3_code
def yX4_copyFrom : MethodName := ⟨RX4, "copyFrom", "(LFlueStack$Wall;)V"⟩
abbrev cX4_hasCourse : ByteArray := prog_6_method_4_code
def yX4_hasCourse : MethodName := ⟨RX4, "hasCourse", "(I)Z"⟩
abbrev cX4_hasColumn : ByteArray := prog_6_method_5_code
def yX4_hasColumn : MethodName := ⟨RX4, "hasColumn", "(I)Z"⟩
abbrev cX4_hasBrick : ByteArray := prog_6_method_6_code
def yX4_hasBrick : MethodName := ⟨RX4, "hasBrick", "(II)Z"⟩
abbrev cX4_hasHearth : ByteArray := prog_6_method_7_code
def yX4_hasHearth : MethodName := ⟨RX4, "hasHearth", "(I)Z"⟩
abbrev cX4_isFree : ByteArray := prog_6_method_8_code
def yX4_isFree : MethodName := ⟨RX4, "isFree", "(II)Z"⟩
abbrev cX4_isCold : ByteArray := prog_6_method_9_code
def yX4_isCold : MethodName := ⟨RX4, "isCold", "(I)Z"⟩
abbrev cX4_reaches : ByteArray := prog_6_method_10_code
def yX4_reaches : MethodName := ⟨RX4, "reaches", "(IJ)Z"⟩
abbrev cX4_above : ByteArray := prog_6_method_11_code
def yX4_above : MethodName := ⟨RX4, "above", "(I)I"⟩
abbrev cX4_freeColumns : ByteArray := prog_6_method_12_code
def yX4_freeColumns : MethodName := ⟨RX4, "freeColumns", "(I)I"⟩
abbrev cX4_barredBricks : ByteArray := prog_6_method_13_code
def yX4_barredBricks : MethodName := ⟨RX4, "barredBricks", "()I"⟩
def RX5 : String := "FlueStack$Ways"
def TX5 : u_T := fun k => match k with
  | 0 => ("FlueStack$Ways", "open", "[I", true)
  | 1 => ("FlueStack$Ways", "numbers", "[J", true)
  | 2 => ("FlueStack$Ways", "higher", "[J", true)
  | 3 => ("FlueStack$Ways", "rests", "[I", true)
  | 4 => ("FlueStack$Ways", "width", "I", false)
  | 5 => ("FlueStack$Ways", "first", "I", false)
  | 6 => ("FlueStack$Ways", "last", "I", false)
  | 7 => ("FlueStack$Ways", "start", "I", false)
  | 8 => ("FlueStack$Ways", "path", "[I", true)
  | 9 => ("FlueStack$Ways", "bends", "I", false)
  | _ => ("FlueStack$Ways", "leans", "I", false)
def tyX5 : Nat → FieldType := fun k => match k with
  | 0 => .array .int
  | 1 => .array .long
  | 2 => .array .long
  | 3 => .array .int
  | 4 => .int
  | 5 => .int
  | 6 => .int
  | 7 => .int
  | 8 => .array .int
  | 9 => .int
  | _ => .int
abbrev wsX50 : List Cond := u_ws RX5 TX5 11
theorem nmX5 : ∀ a, a < 11 → ∀ b, b < 11 → a ≠ b → (TX5 a).2.1 ≠ (TX5 b).2.1 := by decide +kernel
theorem tyX5_ok : ∀ k, k < 11 → parseFieldDescriptor (TX5 k).2.2.1 = some (tyX5 k) := by decide +kernel
abbrev cX5_init : ByteArray := prog_7_method_1_code
def yX5_init : MethodName := ⟨RX5, "<init>", "()V"⟩
abbrev cX5_prepare : ByteArray := prog_7_method_2_code
def yX5_prepare : MethodName := ⟨RX5, "prepare", "(LFlueStack$Wall;I)V"⟩
abbrev cX5_hear : ByteArray := prog_7_method_3_code
def yX5_hear : MethodName := ⟨RX5, "hear", "(LFlueStack$Scheme;)V"⟩
abbrev cX5_isOpen : ByteArray := prog_7_method_4_code
def yX5_isOpen : MethodName := ⟨RX5, "isOpen", "(II)Z"⟩
abbrev cX5_number : ByteArray := prog_7_method_5_code
def yX5_number : MethodName := ⟨RX5, "number", "()J"⟩
abbrev cX5_numberBelow : ByteArray := prog_7_method_6_code
def yX5_numberBelow : MethodName := ⟨RX5, "numberBelow", "(I)J"⟩
abbrev cX5_findFewestBends : ByteArray := prog_7_method_7_code
def yX5_findFewestBends : MethodName := ⟨RX5, "findFewestBends", "()Z"⟩
abbrev cX5_place : ByteArray := prog_7_method_8_code
def yX5_place : MethodName := ⟨RX5, "place", "(III)I"⟩
abbrev cX5_leastRest : ByteArray := prog_7_method_9_code
def yX5_leastRest : MethodName := ⟨RX5, "leastRest", "(III)I"⟩
abbrev cX5_restBy : ByteArray := prog_7_method_10_code
def yX5_restBy : MethodName := ⟨RX5, "restBy", "(IIII)I"⟩
abbrev cX5_walk : ByteArray := prog_7_method_11_code
def yX5_walk : MethodName := ⟨RX5, "walk", "()V"⟩
def RX6 : String := "FlueStack"
def TX6 : u_T := fun k => match k with
  | 0 => ("FlueStack", "text", "[B", true)
  | 1 => ("FlueStack", "textLength", "I", false)
  | 2 => ("FlueStack", "reader", "LFlueStack$Reader;", true)
  | 3 => ("FlueStack", "bricks", "LFlueStack$Wall;", true)
  | 4 => ("FlueStack", "draft", "LFlueStack$Wall;", true)
  | 5 => ("FlueStack", "tunes", "[I", true)
  | 6 => ("FlueStack", "winds", "[[I", true)
  | 7 => ("FlueStack", "scheme", "LFlueStack$Scheme;", true)
  | 8 => ("FlueStack", "judging", "LFlueStack$Judge;", true)
  | 9 => ("FlueStack", "firstImage", "LFlueStack$Scheme;", true)
  | 10 => ("FlueStack", "secondImage", "LFlueStack$Scheme;", true)
  | 11 => ("FlueStack", "kept", "[Z", true)
  | 12 => ("FlueStack", "ways", "LFlueStack$Ways;", true)
  | 13 => ("FlueStack", "search", "LFlueStack$Search;", true)
  | _ => ("FlueStack", "traced", "J", false)
def tyX6 : Nat → FieldType := fun k => match k with
  | 0 => .array .byte
  | 1 => .int
  | 2 => .object "FlueStack$Reader"
  | 3 => .object "FlueStack$Wall"
  | 4 => .object "FlueStack$Wall"
  | 5 => .array .int
  | 6 => .array (.array .int)
  | 7 => .object "FlueStack$Scheme"
  | 8 => .object "FlueStack$Judge"
  | 9 => .object "FlueStack$Scheme"
  | 10 => .object "FlueStack$Scheme"
  | 11 => .array .boolean
  | 12 => .object "FlueStack$Ways"
  | 13 => .object "FlueStack$Search"
  | _ => .long
abbrev wsX60 : List Cond := u_ws RX6 TX6 15
theorem nmX6 : ∀ a, a < 15 → ∀ b, b < 15 → a ≠ b → (TX6 a).2.1 ≠ (TX6 b).2.1 := by decide +kernel
theorem tyX6_ok : ∀ k, k < 15 → parseFieldDescriptor (TX6 k).2.2.1 = some (tyX6 k) := by decide +kernel
abbrev cX6_init : ByteArray := prog_1_method_1_code
def yX6_init : MethodName := ⟨RX6, "<init>", "()V"⟩
abbrev cX6_type : ByteArray := prog_1_method_2_code
def yX6_type : MethodName := ⟨RX6, "type", "(JI)I"⟩
abbrev cX6_clear : ByteArray := prog_1_method_3_code
def yX6_clear : MethodName := ⟨RX6, "clear", "()I"⟩
abbrev cX6_wall : ByteArray := prog_1_method_4_code
def yX6_wall : MethodName := ⟨RX6, "wall", "()I"⟩
abbrev cX6_brick : ByteArray := prog_1_method_5_code
def yX6_brick : MethodName := ⟨RX6, "brick", "(II)I"⟩
abbrev cX6_hearth : ByteArray := prog_1_method_6_code
def yX6_hearth : MethodName := ⟨RX6, "hearth", "(II)I"⟩
abbrev cX6_tune : ByteArray := prog_1_method_7_code
def yX6_tune : MethodName := ⟨RX6, "tune", "(II)I"⟩
abbrev cX6_wind : ByteArray := prog_1_method_8_code
def yX6_wind : MethodName := ⟨RX6, "wind", "(III)I"⟩
abbrev cX6_hasQuarter : ByteArray := prog_1_method_9_code
def yX6_hasQuarter : MethodName := ⟨RX6, "hasQuarter", "(I)Z"⟩
abbrev cX6_many : ByteArray := prog_1_method_10_code
def yX6_many : MethodName := ⟨RX6, "many", "(I)J"⟩
abbrev cX6_one : ByteArray := prog_1_method_11_code
def yX6_one : MethodName := ⟨RX6, "one", "(II)I"⟩
abbrev cX6_together : ByteArray := prog_1_method_12_code
def yX6_together : MethodName := ⟨RX6, "together", "(II)I"⟩
abbrev cX6_share : ByteArray := prog_1_method_13_code
def yX6_share : MethodName := ⟨RX6, "share", "(I)I"⟩
abbrev cX6_more : ByteArray := prog_1_method_14_code
def yX6_more : MethodName := ⟨RX6, "more", "(III)I"⟩
abbrev cX6_isSet : ByteArray := prog_1_method_15_code
def yX6_isSet : MethodName := ⟨RX6, "isSet", "(I)Z"⟩
abbrev cX6_placeBeside : ByteArray := prog_1_method_16_code
def yX6_placeBeside : MethodName := ⟨RX6, "placeBeside", "(I)I"⟩
abbrev cX6_putSet : ByteArray := prog_1_method_17_code
def yX6_putSet : MethodName := ⟨RX6, "putSet", "(I)V"⟩
abbrev cX6_sharedSet : ByteArray := prog_1_method_18_code
def yX6_sharedSet : MethodName := ⟨RX6, "sharedSet", "()I"⟩
abbrev cX6_take : ByteArray := prog_1_method_19_code
def yX6_take : MethodName := ⟨RX6, "take", "(I)I"⟩
abbrev cX6_way : ByteArray := prog_1_method_20_code
def yX6_way : MethodName := ⟨RX6, "way", "(II)I"⟩
abbrev cX6_turn : ByteArray := prog_1_method_21_code
def yX6_turn : MethodName := ⟨RX6, "turn", "(III)I"⟩
abbrev cX6_judge : ByteArray := prog_1_method_22_code
def yX6_judge : MethodName := ⟨RX6, "judge", "(I)I"⟩
abbrev cX6_plan : ByteArray := prog_1_method_23_code
def yX6_plan : MethodName := ⟨RX6, "plan", "(II)I"⟩
abbrev cX6_draw : ByteArray := prog_1_method_24_code
def yX6_draw : MethodName := ⟨RX6, "draw", "(II)I"⟩
abbrev cX6_smokes : ByteArray := prog_1_method_25_code
def yX6_smokes : MethodName := ⟨RX6, "smokes", "(III)I"⟩
abbrev cX6_mend : ByteArray := prog_1_method_26_code
def yX6_mend : MethodName := ⟨RX6, "mend", "(I)I"⟩
abbrev cX6_moved : ByteArray := prog_1_method_27_code
def yX6_moved : MethodName := ⟨RX6, "moved", "(II)I"⟩
abbrev cX6_doors : ByteArray := prog_1_method_28_code
def yX6_doors : MethodName := ⟨RX6, "doors", "(I)I"⟩
abbrev cX6_strength : ByteArray := prog_1_method_29_code
def yX6_strength : MethodName := ⟨RX6, "strength", "(II)I"⟩
abbrev cX6_wanted : ByteArray := prog_1_method_30_code
def yX6_wanted : MethodName := ⟨RX6, "wanted", "(III)I"⟩
abbrev cX6_fewestMoved : ByteArray := prog_1_method_31_code
def yX6_fewestMoved : MethodName := ⟨RX6, "fewestMoved", "(I)I"⟩
abbrev cX6_putAllMoving : ByteArray := prog_1_method_32_code
def yX6_putAllMoving : MethodName := ⟨RX6, "putAllMoving", "(II)V"⟩
abbrev cX6_mark : ByteArray := prog_1_method_33_code
def yX6_mark : MethodName := ⟨RX6, "mark", "(II)I"⟩
abbrev cX6_guess : ByteArray := prog_1_method_34_code
def yX6_guess : MethodName := ⟨RX6, "guess", "(I)J"⟩
abbrev cX6_rate : ByteArray := prog_1_method_35_code
def yX6_rate : MethodName := ⟨RX6, "rate", "(II)I"⟩
abbrev cX6_keep : ByteArray := prog_1_method_36_code
def yX6_keep : MethodName := ⟨RX6, "keep", "(I)I"⟩
abbrev cX6_back : ByteArray := prog_1_method_37_code
def yX6_back : MethodName := ⟨RX6, "back", "(I)I"⟩
abbrev cX6_count : ByteArray := prog_1_method_38_code
def yX6_count : MethodName := ⟨RX6, "count", "(I)I"⟩
abbrev cX6_trace : ByteArray := prog_1_method_39_code
def yX6_trace : MethodName := ⟨RX6, "trace", "()J"⟩
abbrev cX6_imageOf : ByteArray := prog_1_method_40_code
def yX6_imageOf : MethodName := ⟨RX6, "imageOf", "(I)LFlueStack$Scheme;"⟩
abbrev cX6_rateFlue : ByteArray := prog_1_method_41_code
def yX6_rateFlue : MethodName := ⟨RX6, "rateFlue", "(I)I"⟩
abbrev cX6_rateStraight : ByteArray := prog_1_method_42_code
def yX6_rateStraight : MethodName := ⟨RX6, "rateStraight", "(I)I"⟩
abbrev cX6_rateLean : ByteArray := prog_1_method_43_code
def yX6_rateLean : MethodName := ⟨RX6, "rateLean", "(I)I"⟩
abbrev cX6_rateGather : ByteArray := prog_1_method_44_code
def yX6_rateGather : MethodName := ⟨RX6, "rateGather", "(I)I"⟩
abbrev cX6_rateShared : ByteArray := prog_1_method_45_code
def yX6_rateShared : MethodName := ⟨RX6, "rateShared", "(I)I"⟩
abbrev cX6_rateOld : ByteArray := prog_1_method_46_code
def yX6_rateOld : MethodName := ⟨RX6, "rateOld", "(I)I"⟩
def RX7 : String := "FlueStackModel"
def TX7 : u_T := fun k => match k with
  | 0 => ("FlueStackModel", "trace", "J", false)
  | 1 => ("FlueStackModel", "text", "[B", true)
  | 2 => ("FlueStackModel", "typed", "I", false)
  | 3 => ("FlueStackModel", "wide", "[I", true)
  | 4 => ("FlueStackModel", "high", "[I", true)
  | 5 => ("FlueStackModel", "hearths", "[I", true)
  | 6 => ("FlueStackModel", "course", "[I", true)
  | 7 => ("FlueStackModel", "column", "[I", true)
  | 8 => ("FlueStackModel", "need", "[I", true)
  | 9 => ("FlueStackModel", "barred", "[I", true)
  | 10 => ("FlueStackModel", "cold", "[I", true)
  | 11 => ("FlueStackModel", "tune", "[I", true)
  | 12 => ("FlueStackModel", "winds", "[I", true)
  | 13 => ("FlueStackModel", "at", "I", false)
  | 14 => ("FlueStackModel", "start", "I", false)
  | 15 => ("FlueStackModel", "sort", "I", false)
  | 16 => ("FlueStackModel", "value", "I", false)
  | 17 => ("FlueStackModel", "fault", "I", false)
  | 18 => ("FlueStackModel", "ways", "[J", true)
  | 19 => ("FlueStackModel", "waysBelow", "[J", true)
  | 20 => ("FlueStackModel", "still", "[I", true)
  | 21 => ("FlueStackModel", "members", "I", false)
  | 22 => ("FlueStackModel", "from", "[I", true)
  | 23 => ("FlueStackModel", "first", "[I", true)
  | 24 => ("FlueStackModel", "keeps", "[I", true)
  | 25 => ("FlueStackModel", "alsoBarred", "I", false)
  | 26 => ("FlueStackModel", "lowest", "I", false)
  | 27 => ("FlueStackModel", "leans", "[I", true)
  | 28 => ("FlueStackModel", "share", "[I", true)
  | 29 => ("FlueStackModel", "best", "I", false)
  | 30 => ("FlueStackModel", "plan", "[I", true)
  | 31 => ("FlueStackModel", "marks", "[I", true)
  | 32 => ("FlueStackModel", "markCourse", "[I", true)
  | 33 => ("FlueStackModel", "markColumn", "[I", true)
  | _ => ("FlueStackModel", "isKept", "[Z", true)
def tyX7 : Nat → FieldType := fun k => match k with
  | 0 => .long
  | 1 => .array .byte
  | 2 => .int
  | 3 => .array .int
  | 4 => .array .int
  | 5 => .array .int
  | 6 => .array .int
  | 7 => .array .int
  | 8 => .array .int
  | 9 => .array .int
  | 10 => .array .int
  | 11 => .array .int
  | 12 => .array .int
  | 13 => .int
  | 14 => .int
  | 15 => .int
  | 16 => .int
  | 17 => .int
  | 18 => .array .long
  | 19 => .array .long
  | 20 => .array .int
  | 21 => .int
  | 22 => .array .int
  | 23 => .array .int
  | 24 => .array .int
  | 25 => .int
  | 26 => .int
  | 27 => .array .int
  | 28 => .array .int
  | 29 => .int
  | 30 => .array .int
  | 31 => .array .int
  | 32 => .array .int
  | 33 => .array .int
  | _ => .array .boolean
abbrev wsX70 : List Cond := u_ws RX7 TX7 35
theorem nmX7 : ∀ a, a < 35 → ∀ b, b < 35 → a ≠ b → (TX7 a).2.1 ≠ (TX7 b).2.1 := by decide +kernel
theorem tyX7_ok : ∀ k, k < 35 → parseFieldDescriptor (TX7 k).2.2.1 = some (tyX7 k) := by decide +kernel
abbrev cX7_init : ByteArray := prog_9_method_1_code
def yX7_init : MethodName := ⟨RX7, "<init>", "()V"⟩
abbrev cX7_in : ByteArray := prog_9_method_3_code
def yX7_in : MethodName := ⟨RX7, "in", "(III)Z"⟩
abbrev cX7_type : ByteArray := prog_9_method_4_code
def yX7_type : MethodName := ⟨RX7, "type", "(JI)I"⟩
abbrev cX7_clear : ByteArray := prog_9_method_5_code
def yX7_clear : MethodName := ⟨RX7, "clear", "()I"⟩
abbrev cX7_here : ByteArray := prog_9_method_6_code
def yX7_here : MethodName := ⟨RX7, "here", "()I"⟩
abbrev cX7_next : ByteArray := prog_9_method_7_code
def yX7_next : MethodName := ⟨RX7, "next", "()V"⟩
abbrev cX7_due : ByteArray := prog_9_method_8_code
def yX7_due : MethodName := ⟨RX7, "due", "(Z)I"⟩
abbrev cX7_number : ByteArray := prog_9_method_9_code
def yX7_number : MethodName := ⟨RX7, "number", "(II)I"⟩
abbrev cX7_span : ByteArray := prog_9_method_10_code
def yX7_span : MethodName := ⟨RX7, "span", "()I"⟩
abbrev cX7_item : ByteArray := prog_9_method_11_code
def yX7_item : MethodName := ⟨RX7, "item", "(II)V"⟩
abbrev cX7_wall : ByteArray := prog_9_method_12_code
def yX7_wall : MethodName := ⟨RX7, "wall", "()I"⟩
abbrev cX7_isIn : ByteArray := prog_9_method_13_code
def yX7_isIn : MethodName := ⟨RX7, "isIn", "(I)Z"⟩
abbrev cX7_isCourse : ByteArray := prog_9_method_14_code
def yX7_isCourse : MethodName := ⟨RX7, "isCourse", "(I)Z"⟩
abbrev cX7_isHearth : ByteArray := prog_9_method_15_code
def yX7_isHearth : MethodName := ⟨RX7, "isHearth", "(I)Z"⟩
abbrev cX7_isBarred : ByteArray := prog_9_method_16_code
def yX7_isBarred : MethodName := ⟨RX7, "isBarred", "(II)Z"⟩
abbrev cX7_isCold : ByteArray := prog_9_method_17_code
def yX7_isCold : MethodName := ⟨RX7, "isCold", "(I)Z"⟩
abbrev cX7_brick : ByteArray := prog_9_method_18_code
def yX7_brick : MethodName := ⟨RX7, "brick", "(II)I"⟩
abbrev cX7_hearth : ByteArray := prog_9_method_19_code
def yX7_hearth : MethodName := ⟨RX7, "hearth", "(II)I"⟩
abbrev cX7_tune : ByteArray := prog_9_method_20_code
def yX7_tune : MethodName := ⟨RX7, "tune", "(II)I"⟩
abbrev cX7_wind : ByteArray := prog_9_method_21_code
def yX7_wind : MethodName := ⟨RX7, "wind", "(III)I"⟩
abbrev cX7_isMarked : ByteArray := prog_9_method_22_code
def yX7_isMarked : MethodName := ⟨RX7, "isMarked", "(IIZ)Z"⟩
abbrev cX7_countWays : ByteArray := prog_9_method_23_code
def yX7_countWays : MethodName := ⟨RX7, "countWays", "(IZ)J"⟩
abbrev cX7_many : ByteArray := prog_9_method_24_code
def yX7_many : MethodName := ⟨RX7, "many", "(I)J"⟩
abbrev cX7_guess : ByteArray := prog_9_method_25_code
def yX7_guess : MethodName := ⟨RX7, "guess", "(I)J"⟩
abbrev cX7_stillAt : ByteArray := prog_9_method_26_code
def yX7_stillAt : MethodName := ⟨RX7, "stillAt", "(III)I"⟩
abbrev cX7_byStep : ByteArray := prog_9_method_27_code
def yX7_byStep : MethodName := ⟨RX7, "byStep", "(IIII)I"⟩
abbrev cX7_leastOne : ByteArray := prog_9_method_28_code
def yX7_leastOne : MethodName := ⟨RX7, "leastOne", "(I)I"⟩
abbrev cX7_one : ByteArray := prog_9_method_29_code
def yX7_one : MethodName := ⟨RX7, "one", "(II)I"⟩
abbrev cX7_add : ByteArray := prog_9_method_30_code
def yX7_add : MethodName := ⟨RX7, "add", "(III)V"⟩
abbrev cX7_gather : ByteArray := prog_9_method_31_code
def yX7_gather : MethodName := ⟨RX7, "gather", "(I)V"⟩
abbrev cX7_placeIn : ByteArray := prog_9_method_32_code
def yX7_placeIn : MethodName := ⟨RX7, "placeIn", "(II)I"⟩
abbrev cX7_mayBe : ByteArray := prog_9_method_33_code
def yX7_mayBe : MethodName := ⟨RX7, "mayBe", "(III)Z"⟩
abbrev cX7_isSpot : ByteArray := prog_9_method_34_code
def yX7_isSpot : MethodName := ⟨RX7, "isSpot", "(II)Z"⟩
abbrev cX7_breadthOf : ByteArray := prog_9_method_35_code
def yX7_breadthOf : MethodName := ⟨RX7, "breadthOf", "(I)I"⟩
abbrev cX7_leansTo : ByteArray := prog_9_method_36_code
def yX7_leansTo : MethodName := ⟨RX7, "leansTo", "(III)I"⟩
abbrev cX7_spots : ByteArray := prog_9_method_37_code
def yX7_spots : MethodName := ⟨RX7, "spots", "()I"⟩
abbrev cX7_firstOf : ByteArray := prog_9_method_38_code
def yX7_firstOf : MethodName := ⟨RX7, "firstOf", "(III)I"⟩
abbrev cX7_lastOf : ByteArray := prog_9_method_39_code
def yX7_lastOf : MethodName := ⟨RX7, "lastOf", "(III)I"⟩
abbrev cX7_leastNext : ByteArray := prog_9_method_40_code
def yX7_leastNext : MethodName := ⟨RX7, "leastNext", "(II)I"⟩
abbrev cX7_firstSpot : ByteArray := prog_9_method_41_code
def yX7_firstSpot : MethodName := ⟨RX7, "firstSpot", "()I"⟩
abbrev cX7_goBroad : ByteArray := prog_9_method_42_code
def yX7_goBroad : MethodName := ⟨RX7, "goBroad", "(I)I"⟩
abbrev cX7_goTogether : ByteArray := prog_9_method_43_code
def yX7_goTogether : MethodName := ⟨RX7, "goTogether", "()I"⟩
abbrev cX7_isSet : ByteArray := prog_9_method_44_code
def yX7_isSet : MethodName := ⟨RX7, "isSet", "(I)Z"⟩
abbrev cX7_together : ByteArray := prog_9_method_45_code
def yX7_together : MethodName := ⟨RX7, "together", "(II)I"⟩
abbrev cX7_bitsIn : ByteArray := prog_9_method_46_code
def yX7_bitsIn : MethodName := ⟨RX7, "bitsIn", "(I)I"⟩
abbrev cX7_share : ByteArray := prog_9_method_47_code
def yX7_share : MethodName := ⟨RX7, "share", "(I)I"⟩
abbrev cX7_more : ByteArray := prog_9_method_48_code
def yX7_more : MethodName := ⟨RX7, "more", "(III)I"⟩
abbrev cX7_take : ByteArray := prog_9_method_49_code
def yX7_take : MethodName := ⟨RX7, "take", "(I)I"⟩
abbrev cX7_way : ByteArray := prog_9_method_50_code
def yX7_way : MethodName := ⟨RX7, "way", "(II)I"⟩
abbrev cX7_turn : ByteArray := prog_9_method_51_code
def yX7_turn : MethodName := ⟨RX7, "turn", "(III)I"⟩
abbrev cX7_troubleAt : ByteArray := prog_9_method_52_code
def yX7_troubleAt : MethodName := ⟨RX7, "troubleAt", "(II)I"⟩
abbrev cX7_judge : ByteArray := prog_9_method_53_code
def yX7_judge : MethodName := ⟨RX7, "judge", "(I)I"⟩
abbrev cX7_stepInto : ByteArray := prog_9_method_54_code
def yX7_stepInto : MethodName := ⟨RX7, "stepInto", "(II)I"⟩
abbrev cX7_bendsOf : ByteArray := prog_9_method_55_code
def yX7_bendsOf : MethodName := ⟨RX7, "bendsOf", "(I)I"⟩
abbrev cX7_leansOf : ByteArray := prog_9_method_56_code
def yX7_leansOf : MethodName := ⟨RX7, "leansOf", "(I)I"⟩
abbrev cX7_coldOf : ByteArray := prog_9_method_57_code
def yX7_coldOf : MethodName := ⟨RX7, "coldOf", "(I)I"⟩
abbrev cX7_plan : ByteArray := prog_9_method_58_code
def yX7_plan : MethodName := ⟨RX7, "plan", "(II)I"⟩
abbrev cX7_drawOf : ByteArray := prog_9_method_59_code
def yX7_drawOf : MethodName := ⟨RX7, "drawOf", "(II)I"⟩
abbrev cX7_draw : ByteArray := prog_9_method_60_code
def yX7_draw : MethodName := ⟨RX7, "draw", "(II)I"⟩
abbrev cX7_smokes : ByteArray := prog_9_method_61_code
def yX7_smokes : MethodName := ⟨RX7, "smokes", "(III)I"⟩
abbrev cX7_mend : ByteArray := prog_9_method_62_code
def yX7_mend : MethodName := ⟨RX7, "mend", "(I)I"⟩
abbrev cX7_moved : ByteArray := prog_9_method_63_code
def yX7_moved : MethodName := ⟨RX7, "moved", "(II)I"⟩
abbrev cX7_isWellWith : ByteArray := prog_9_method_64_code
def yX7_isWellWith : MethodName := ⟨RX7, "isWellWith", "(II)Z"⟩
abbrev cX7_mark : ByteArray := prog_9_method_65_code
def yX7_mark : MethodName := ⟨RX7, "mark", "(II)I"⟩
abbrev cX7_rate : ByteArray := prog_9_method_66_code
def yX7_rate : MethodName := ⟨RX7, "rate", "(II)I"⟩
abbrev cX7_copy : ByteArray := prog_9_method_67_code
def yX7_copy : MethodName := ⟨RX7, "copy", "(II)V"⟩
abbrev cX7_keep : ByteArray := prog_9_method_68_code
def yX7_keep : MethodName := ⟨RX7, "keep", "(I)I"⟩
abbrev cX7_back : ByteArray := prog_9_method_69_code
def yX7_back : MethodName := ⟨RX7, "back", "(I)I"⟩
abbrev cX7_count : ByteArray := prog_9_method_70_code
def yX7_count : MethodName := ⟨RX7, "count", "(I)I"⟩
abbrev cX7_trace : ByteArray := prog_9_method_71_code
def yX7_trace : MethodName := ⟨RX7, "trace", "()J"⟩
def RJx145de : String := "java/io/Serializable"
def TJx145de : u_T := fun k => match k with
  | _ => ("", "", "", false)
def tyJx145de : Nat → FieldType := fun k => match k with
  | _ => .int
theorem nmJx145de : ∀ a, a < 0 → ∀ b, b < 0 → a ≠ b → (TJx145de a).2.1 ≠ (TJx145de b).2.1 := by decide +kernel
theorem tyJx145de_ok : ∀ k, k < 0 → parseFieldDescriptor (TJx145de k).2.2.1 = some (tyJx145de k) := by decide +kernel
def RJx9f9b0 : String := "java/lang/CharSequence"
def TJx9f9b0 : u_T := fun k => match k with
  | _ => ("", "", "", false)
def tyJx9f9b0 : Nat → FieldType := fun k => match k with
  | _ => .int
theorem nmJx9f9b0 : ∀ a, a < 0 → ∀ b, b < 0 → a ≠ b → (TJx9f9b0 a).2.1 ≠ (TJx9f9b0 b).2.1 := by decide +kernel
theorem tyJx9f9b0_ok : ∀ k, k < 0 → parseFieldDescriptor (TJx9f9b0 k).2.2.1 = some (tyJx9f9b0 k) := by decide +kernel
def RJxb160c : String := "java/lang/Comparable"
def TJxb160c : u_T := fun k => match k with
  | _ => ("", "", "", false)
def tyJxb160c : Nat → FieldType := fun k => match k with
  | _ => .int
theorem nmJxb160c : ∀ a, a < 0 → ∀ b, b < 0 → a ≠ b → (TJxb160c a).2.1 ≠ (TJxb160c b).2.1 := by decide +kernel
theorem tyJxb160c_ok : ∀ k, k < 0 → parseFieldDescriptor (TJxb160c k).2.2.1 = some (tyJxb160c k) := by decide +kernel
def RJ6 : String := "java/lang/Integer"
def TJ6 : u_T := fun k => match k with
  | _ => ("", "", "", false)
def tyJ6 : Nat → FieldType := fun k => match k with
  | _ => .int
theorem nmJ6 : ∀ a, a < 0 → ∀ b, b < 0 → a ≠ b → (TJ6 a).2.1 ≠ (TJ6 b).2.1 := by decide +kernel
theorem tyJ6_ok : ∀ k, k < 0 → parseFieldDescriptor (TJ6 k).2.2.1 = some (tyJ6 k) := by decide +kernel
abbrev cJ6_bitCount_0f7a4 : ByteArray := prog_10_method_49_code
def yJ6_bitCount_0f7a4 : MethodName := ⟨RJ6, "bitCount", "(I)I"⟩
def RJ9 : String := "java/lang/Math"
def TJ9 : u_T := fun k => match k with
  | _ => ("", "", "", false)
def tyJ9 : Nat → FieldType := fun k => match k with
  | _ => .int
theorem nmJ9 : ∀ a, a < 0 → ∀ b, b < 0 → a ≠ b → (TJ9 a).2.1 ≠ (TJ9 b).2.1 := by decide +kernel
theorem tyJ9_ok : ∀ k, k < 0 → parseFieldDescriptor (TJ9 k).2.2.1 = some (tyJ9 k) := by decide +kernel
abbrev cJ9_abs_0f7a4 : ByteArray := prog_11_method_59_code
def yJ9_abs_0f7a4 : MethodName := ⟨RJ9, "abs", "(I)I"⟩
abbrev cJ9_max_7cf53 : ByteArray := prog_11_method_65_code
def yJ9_max_7cf53 : MethodName := ⟨RJ9, "max", "(II)I"⟩
abbrev cJ9_min_7cf53 : ByteArray := prog_11_method_69_code
def yJ9_min_7cf53 : MethodName := ⟨RJ9, "min", "(II)I"⟩
def RJ0 : String := "java/lang/String"
def TJ0 : u_T := fun k => match k with
  | _ => ("", "", "", false)
def tyJ0 : Nat → FieldType := fun k => match k with
  | _ => .int
theorem nmJ0 : ∀ a, a < 0 → ∀ b, b < 0 → a ≠ b → (TJ0 a).2.1 ≠ (TJ0 b).2.1 := by decide +kernel
theorem tyJ0_ok : ∀ k, k < 0 → parseFieldDescriptor (TJ0 k).2.2.1 = some (tyJ0 k) := by decide +kernel
abbrev cJ0_length_8abf5 : ByteArray := prog_12_method_54_code
def yJ0_length_8abf5 : MethodName := ⟨RJ0, "length", "()I"⟩
abbrev cJ0_charAt_5068e : ByteArray := prog_12_method_56_code
def yJ0_charAt_5068e : MethodName := ⟨RJ0, "charAt", "(I)C"⟩
abbrev cJ0_coder_7d493 : ByteArray := prog_12_method_152_code
def yJ0_coder_7d493 : MethodName := ⟨RJ0, "coder", "()B"⟩
abbrev cJ0_isLatin1_aae02 : ByteArray := prog_12_method_154_code
def yJ0_isLatin1_aae02 : MethodName := ⟨RJ0, "isLatin1", "()Z"⟩
abbrev cJ0_checkIndex_df160 : ByteArray := prog_12_method_155_code
def yJ0_checkIndex_df160 : MethodName := ⟨RJ0, "checkIndex", "(II)V"⟩
def RJ1 : String := "java/lang/StringLatin1"
def TJ1 : u_T := fun k => match k with
  | _ => ("", "", "", false)
def tyJ1 : Nat → FieldType := fun k => match k with
  | _ => .int
theorem nmJ1 : ∀ a, a < 0 → ∀ b, b < 0 → a ≠ b → (TJ1 a).2.1 ≠ (TJ1 b).2.1 := by decide +kernel
theorem tyJ1_ok : ∀ k, k < 0 → parseFieldDescriptor (TJ1 k).2.2.1 = some (tyJ1 k) := by decide +kernel
abbrev cJ1_charAt_3b067 : ByteArray := prog_13_method_2_code
def yJ1_charAt_3b067 : MethodName := ⟨RJ1, "charAt", "([BI)C"⟩
def RJ2 : String := "java/lang/StringUTF16"
def TJ2 : u_T := fun k => match k with
  | _ => ("", "", "", false)
def tyJ2 : Nat → FieldType := fun k => match k with
  | _ => .int
theorem nmJ2 : ∀ a, a < 0 → ∀ b, b < 0 → a ≠ b → (TJ2 a).2.1 ≠ (TJ2 b).2.1 := by decide +kernel
theorem tyJ2_ok : ∀ k, k < 0 → parseFieldDescriptor (TJ2 k).2.2.1 = some (tyJ2 k) := by decide +kernel
abbrev cJ2_getChar_3b067 : ByteArray := prog_14_method_5_code
def yJ2_getChar_3b067 : MethodName := ⟨RJ2, "getChar", "([BI)C"⟩
abbrev cJ2_length_9d52b : ByteArray := prog_14_method_6_code
def yJ2_length_9d52b : MethodName := ⟨RJ2, "length", "([B)I"⟩
abbrev cJ2_charAt_3b067 : ByteArray := prog_14_method_83_code
def yJ2_charAt_3b067 : MethodName := ⟨RJ2, "charAt", "([BI)C"⟩
abbrev cJ2_checkIndex_2214a : ByteArray := prog_14_method_91_code
def yJ2_checkIndex_2214a : MethodName := ⟨RJ2, "checkIndex", "(I[B)V"⟩
def RJ10 : String := "java/lang/System"
def TJ10 : u_T := fun k => match k with
  | _ => ("", "", "", false)
def tyJ10 : Nat → FieldType := fun k => match k with
  | _ => .int
theorem nmJ10 : ∀ a, a < 0 → ∀ b, b < 0 → a ≠ b → (TJ10 a).2.1 ≠ (TJ10 b).2.1 := by decide +kernel
theorem tyJ10_ok : ∀ k, k < 0 → parseFieldDescriptor (TJ10 k).2.2.1 = some (tyJ10 k) := by decide +kernel
def RJxfd54e : String := "java/lang/constant/Constable"
def TJxfd54e : u_T := fun k => match k with
  | _ => ("", "", "", false)
def tyJxfd54e : Nat → FieldType := fun k => match k with
  | _ => .int
theorem nmJxfd54e : ∀ a, a < 0 → ∀ b, b < 0 → a ≠ b → (TJxfd54e a).2.1 ≠ (TJxfd54e b).2.1 := by decide +kernel
theorem tyJxfd54e_ok : ∀ k, k < 0 → parseFieldDescriptor (TJxfd54e k).2.2.1 = some (tyJxfd54e k) := by decide +kernel
def RJx3cf43 : String := "java/lang/constant/ConstantDesc"
def TJx3cf43 : u_T := fun k => match k with
  | _ => ("", "", "", false)
def tyJx3cf43 : Nat → FieldType := fun k => match k with
  | _ => .int
theorem nmJx3cf43 : ∀ a, a < 0 → ∀ b, b < 0 → a ≠ b → (TJx3cf43 a).2.1 ≠ (TJx3cf43 b).2.1 := by decide +kernel
theorem tyJx3cf43_ok : ∀ k, k < 0 → parseFieldDescriptor (TJx3cf43 k).2.2.1 = some (tyJx3cf43 k) := by decide +kernel
def RJ7 : String := "java/util/Arrays"
def TJ7 : u_T := fun k => match k with
  | _ => ("", "", "", false)
def tyJ7 : Nat → FieldType := fun k => match k with
  | _ => .int
theorem nmJ7 : ∀ a, a < 0 → ∀ b, b < 0 → a ≠ b → (TJ7 a).2.1 ≠ (TJ7 b).2.1 := by decide +kernel
theorem tyJ7_ok : ∀ k, k < 0 → parseFieldDescriptor (TJ7 k).2.2.1 = some (tyJ7 k) := by decide +kernel
abbrev cJ7_fill_d0a16 : ByteArray := prog_16_method_101_code
def yJ7_fill_d0a16 : MethodName := ⟨RJ7, "fill", "([JJ)V"⟩
abbrev cJ7_fill_53178 : ByteArray := prog_16_method_103_code
def yJ7_fill_53178 : MethodName := ⟨RJ7, "fill", "([II)V"⟩
def RJ3 : String := "jdk/internal/util/Preconditions"
def TJ3 : u_T := fun k => match k with
  | _ => ("", "", "", false)
def tyJ3 : Nat → FieldType := fun k => match k with
  | _ => .int
theorem nmJ3 : ∀ a, a < 0 → ∀ b, b < 0 → a ≠ b → (TJ3 a).2.1 ≠ (TJ3 b).2.1 := by decide +kernel
theorem tyJ3_ok : ∀ k, k < 0 → parseFieldDescriptor (TJ3 k).2.2.1 = some (tyJ3 k) := by decide +kernel
abbrev cJ3_checkIndex_8e157 : ByteArray := prog_17_method_11_code
def yJ3_checkIndex_8e157 : MethodName := ⟨RJ3, "checkIndex", "(IILjava/util/function/BiFunction;)I"⟩
def RL : String := "FlueStackLaw"
abbrev cL_law : ByteArray := code
def yL_law : MethodName := ⟨RL, "law", "([I)Z"⟩
abbrev vwCl : List vw_C := [(RX0, TX0, 3), (RX1, TX1, 9), (RX2, TX2, 4), (RX3, TX3, 7), (RX4, TX4, 8), (RX5, TX5, 11), (RX6, TX6, 15), (RX7, TX7, 35)]
