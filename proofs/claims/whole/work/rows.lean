section
-- ===== PART A: goes FIRST, ahead of the names: the tables' words, and 'selects' of the private methods out of them =====
/-- a private method of a class that the tables say can be made, by its rows of tables_1 -/
def lw_okq (q : MethodName × Nat) : Prop := (q.1.cls ≠ "java/lang/invoke/MethodHandle" ∧ q.1.cls ≠ "java/lang/invoke/VarHandle") ∧ Cond.instantiable q.1.cls q.2 ∈ tables_1 ∧ Cond.privateMethod q.1 ∈ tables_1 ∧ Cond.instanceMethod q.1 ∈ tables_1
theorem lw_p0 : lw_okq (⟨"FlueStack$Reader", "advance", "()V"⟩, 6) := ⟨⟨by decide +kernel, by decide +kernel⟩, List.mem_of_getElem? (i := 26) (by decide +kernel), List.mem_of_getElem? (i := 308) (by decide +kernel), List.mem_of_getElem? (i := 309) (by decide +kernel)⟩
theorem lw_p1 : lw_okq (⟨"FlueStack$Reader", "byteAt", "(I)I"⟩, 6) := ⟨⟨by decide +kernel, by decide +kernel⟩, List.mem_of_getElem? (i := 26) (by decide +kernel), List.mem_of_getElem? (i := 312) (by decide +kernel), List.mem_of_getElem? (i := 313) (by decide +kernel)⟩
theorem lw_p2 : lw_okq (⟨"FlueStack$Reader", "letterAt", "(I)Z"⟩, 6) := ⟨⟨by decide +kernel, by decide +kernel⟩, List.mem_of_getElem? (i := 26) (by decide +kernel), List.mem_of_getElem? (i := 316) (by decide +kernel), List.mem_of_getElem? (i := 317) (by decide +kernel)⟩
theorem lw_p3 : lw_okq (⟨"FlueStack$Reader", "advanceWord", "()V"⟩, 6) := ⟨⟨by decide +kernel, by decide +kernel⟩, List.mem_of_getElem? (i := 26) (by decide +kernel), List.mem_of_getElem? (i := 320) (by decide +kernel), List.mem_of_getElem? (i := 321) (by decide +kernel)⟩
theorem lw_p4 : lw_okq (⟨"FlueStack$Reader", "wordIs", "(Ljava/lang/String;)Z"⟩, 6) := ⟨⟨by decide +kernel, by decide +kernel⟩, List.mem_of_getElem? (i := 26) (by decide +kernel), List.mem_of_getElem? (i := 325) (by decide +kernel), List.mem_of_getElem? (i := 326) (by decide +kernel)⟩
theorem lw_p5 : lw_okq (⟨"FlueStack$Reader", "digitAt", "(I)Z"⟩, 6) := ⟨⟨by decide +kernel, by decide +kernel⟩, List.mem_of_getElem? (i := 26) (by decide +kernel), List.mem_of_getElem? (i := 380) (by decide +kernel), List.mem_of_getElem? (i := 381) (by decide +kernel)⟩
theorem lw_p6 : lw_okq (⟨"FlueStack$Reader", "advanceNumber", "()V"⟩, 6) := ⟨⟨by decide +kernel, by decide +kernel⟩, List.mem_of_getElem? (i := 26) (by decide +kernel), List.mem_of_getElem? (i := 384) (by decide +kernel), List.mem_of_getElem? (i := 385) (by decide +kernel)⟩
theorem lw_p7 : lw_okq (⟨"FlueStack$Reader", "readItem", "(LFlueStack$Wall;Z)Z"⟩, 6) := ⟨⟨by decide +kernel, by decide +kernel⟩, List.mem_of_getElem? (i := 26) (by decide +kernel), List.mem_of_getElem? (i := 388) (by decide +kernel), List.mem_of_getElem? (i := 389) (by decide +kernel)⟩
theorem lw_p8 : lw_okq (⟨"FlueStack$Reader", "readSize", "(LFlueStack$Wall;)Z"⟩, 6) := ⟨⟨by decide +kernel, by decide +kernel⟩, List.mem_of_getElem? (i := 26) (by decide +kernel), List.mem_of_getElem? (i := 392) (by decide +kernel), List.mem_of_getElem? (i := 393) (by decide +kernel)⟩
theorem lw_p9 : lw_okq (⟨"FlueStack$Reader", "readNumber", "(II)Z"⟩, 6) := ⟨⟨by decide +kernel, by decide +kernel⟩, List.mem_of_getElem? (i := 26) (by decide +kernel), List.mem_of_getElem? (i := 396) (by decide +kernel), List.mem_of_getElem? (i := 397) (by decide +kernel)⟩
theorem lw_p10 : lw_okq (⟨"FlueStack$Reader", "readClose", "()Z"⟩, 6) := ⟨⟨by decide +kernel, by decide +kernel⟩, List.mem_of_getElem? (i := 26) (by decide +kernel), List.mem_of_getElem? (i := 400) (by decide +kernel), List.mem_of_getElem? (i := 401) (by decide +kernel)⟩
theorem lw_p11 : lw_okq (⟨"FlueStack$Reader", "readBeam", "(LFlueStack$Wall;)Z"⟩, 6) := ⟨⟨by decide +kernel, by decide +kernel⟩, List.mem_of_getElem? (i := 26) (by decide +kernel), List.mem_of_getElem? (i := 404) (by decide +kernel), List.mem_of_getElem? (i := 405) (by decide +kernel)⟩
theorem lw_p12 : lw_okq (⟨"FlueStack$Reader", "readSpan", "(LFlueStack$Wall;)I"⟩, 6) := ⟨⟨by decide +kernel, by decide +kernel⟩, List.mem_of_getElem? (i := 26) (by decide +kernel), List.mem_of_getElem? (i := 408) (by decide +kernel), List.mem_of_getElem? (i := 409) (by decide +kernel)⟩
theorem lw_p13 : lw_okq (⟨"FlueStack$Reader", "readCold", "(LFlueStack$Wall;)Z"⟩, 6) := ⟨⟨by decide +kernel, by decide +kernel⟩, List.mem_of_getElem? (i := 26) (by decide +kernel), List.mem_of_getElem? (i := 412) (by decide +kernel), List.mem_of_getElem? (i := 413) (by decide +kernel)⟩
theorem lw_p14 : lw_okq (⟨"FlueStack$Reader", "readHearth", "(LFlueStack$Wall;)Z"⟩, 6) := ⟨⟨by decide +kernel, by decide +kernel⟩, List.mem_of_getElem? (i := 26) (by decide +kernel), List.mem_of_getElem? (i := 416) (by decide +kernel), List.mem_of_getElem? (i := 417) (by decide +kernel)⟩
theorem lw_p15 : lw_okq (⟨"FlueStack$Ways", "isOpen", "(II)Z"⟩, 11) := ⟨⟨by decide +kernel, by decide +kernel⟩, List.mem_of_getElem? (i := 159) (by decide +kernel), List.mem_of_getElem? (i := 504) (by decide +kernel), List.mem_of_getElem? (i := 505) (by decide +kernel)⟩
def lw_privs_1 : List (MethodName × Nat) := [(⟨"FlueStack$Reader", "advance", "()V"⟩, 6), (⟨"FlueStack$Reader", "byteAt", "(I)I"⟩, 6), (⟨"FlueStack$Reader", "letterAt", "(I)Z"⟩, 6), (⟨"FlueStack$Reader", "advanceWord", "()V"⟩, 6), (⟨"FlueStack$Reader", "wordIs", "(Ljava/lang/String;)Z"⟩, 6), (⟨"FlueStack$Reader", "digitAt", "(I)Z"⟩, 6), (⟨"FlueStack$Reader", "advanceNumber", "()V"⟩, 6), (⟨"FlueStack$Reader", "readItem", "(LFlueStack$Wall;Z)Z"⟩, 6), (⟨"FlueStack$Reader", "readSize", "(LFlueStack$Wall;)Z"⟩, 6), (⟨"FlueStack$Reader", "readNumber", "(II)Z"⟩, 6), (⟨"FlueStack$Reader", "readClose", "()Z"⟩, 6), (⟨"FlueStack$Reader", "readBeam", "(LFlueStack$Wall;)Z"⟩, 6), (⟨"FlueStack$Reader", "readSpan", "(LFlueStack$Wall;)I"⟩, 6), (⟨"FlueStack$Reader", "readCold", "(LFlueStack$Wall;)Z"⟩, 6), (⟨"FlueStack$Reader", "readHearth", "(LFlueStack$Wall;)Z"⟩, 6), (⟨"FlueStack$Ways", "isOpen", "(II)Z"⟩, 11)]
theorem lw_r1 : ∀ q ∈ lw_privs_1, lw_okq q := List.forall_mem_cons.mpr ⟨lw_p0, List.forall_mem_cons.mpr ⟨lw_p1, List.forall_mem_cons.mpr ⟨lw_p2, List.forall_mem_cons.mpr ⟨lw_p3, List.forall_mem_cons.mpr ⟨lw_p4, List.forall_mem_cons.mpr ⟨lw_p5, List.forall_mem_cons.mpr ⟨lw_p6, List.forall_mem_cons.mpr ⟨lw_p7, List.forall_mem_cons.mpr ⟨lw_p8, List.forall_mem_cons.mpr ⟨lw_p9, List.forall_mem_cons.mpr ⟨lw_p10, List.forall_mem_cons.mpr ⟨lw_p11, List.forall_mem_cons.mpr ⟨lw_p12, List.forall_mem_cons.mpr ⟨lw_p13, List.forall_mem_cons.mpr ⟨lw_p14, List.forall_mem_cons.mpr ⟨lw_p15, fun _ h => absurd h List.not_mem_nil⟩⟩⟩⟩⟩⟩⟩⟩⟩⟩⟩⟩⟩⟩⟩⟩
theorem lw_p16 : lw_okq (⟨"FlueStack$Ways", "numberBelow", "(I)J"⟩, 11) := ⟨⟨by decide +kernel, by decide +kernel⟩, List.mem_of_getElem? (i := 159) (by decide +kernel), List.mem_of_getElem? (i := 508) (by decide +kernel), List.mem_of_getElem? (i := 509) (by decide +kernel)⟩
theorem lw_p17 : lw_okq (⟨"FlueStack$Ways", "leastRest", "(III)I"⟩, 11) := ⟨⟨by decide +kernel, by decide +kernel⟩, List.mem_of_getElem? (i := 159) (by decide +kernel), List.mem_of_getElem? (i := 528) (by decide +kernel), List.mem_of_getElem? (i := 529) (by decide +kernel)⟩
theorem lw_p18 : lw_okq (⟨"FlueStack$Ways", "restBy", "(IIII)I"⟩, 11) := ⟨⟨by decide +kernel, by decide +kernel⟩, List.mem_of_getElem? (i := 159) (by decide +kernel), List.mem_of_getElem? (i := 533) (by decide +kernel), List.mem_of_getElem? (i := 534) (by decide +kernel)⟩
theorem lw_p19 : lw_okq (⟨"FlueStack$Ways", "walk", "()V"⟩, 11) := ⟨⟨by decide +kernel, by decide +kernel⟩, List.mem_of_getElem? (i := 159) (by decide +kernel), List.mem_of_getElem? (i := 538) (by decide +kernel), List.mem_of_getElem? (i := 539) (by decide +kernel)⟩
theorem lw_p20 : lw_okq (⟨"FlueStack", "isSet", "(I)Z"⟩, 15) := ⟨⟨by decide +kernel, by decide +kernel⟩, List.mem_of_getElem? (i := 18) (by decide +kernel), List.mem_of_getElem? (i := 546) (by decide +kernel), List.mem_of_getElem? (i := 547) (by decide +kernel)⟩
theorem lw_p21 : lw_okq (⟨"FlueStack", "putSet", "(I)V"⟩, 15) := ⟨⟨by decide +kernel, by decide +kernel⟩, List.mem_of_getElem? (i := 18) (by decide +kernel), List.mem_of_getElem? (i := 550) (by decide +kernel), List.mem_of_getElem? (i := 551) (by decide +kernel)⟩
theorem lw_p22 : lw_okq (⟨"FlueStack$Search", "restFrom", "(II)I"⟩, 8) := ⟨⟨by decide +kernel, by decide +kernel⟩, List.mem_of_getElem? (i := 204) (by decide +kernel), List.mem_of_getElem? (i := 572) (by decide +kernel), List.mem_of_getElem? (i := 573) (by decide +kernel)⟩
theorem lw_p23 : lw_okq (⟨"FlueStack$Search", "breadthOf", "(I)I"⟩, 8) := ⟨⟨by decide +kernel, by decide +kernel⟩, List.mem_of_getElem? (i := 204) (by decide +kernel), List.mem_of_getElem? (i := 577) (by decide +kernel), List.mem_of_getElem? (i := 578) (by decide +kernel)⟩
theorem lw_p24 : lw_okq (⟨"FlueStack$Search", "leastRest", "(IIII)I"⟩, 8) := ⟨⟨by decide +kernel, by decide +kernel⟩, List.mem_of_getElem? (i := 204) (by decide +kernel), List.mem_of_getElem? (i := 588) (by decide +kernel), List.mem_of_getElem? (i := 589) (by decide +kernel)⟩
theorem lw_p25 : lw_okq (⟨"FlueStack$Search", "highest", "(III)I"⟩, 8) := ⟨⟨by decide +kernel, by decide +kernel⟩, List.mem_of_getElem? (i := 204) (by decide +kernel), List.mem_of_getElem? (i := 592) (by decide +kernel), List.mem_of_getElem? (i := 593) (by decide +kernel)⟩
theorem lw_p26 : lw_okq (⟨"FlueStack$Search", "onlyOne", "(II)Z"⟩, 8) := ⟨⟨by decide +kernel, by decide +kernel⟩, List.mem_of_getElem? (i := 204) (by decide +kernel), List.mem_of_getElem? (i := 596) (by decide +kernel), List.mem_of_getElem? (i := 597) (by decide +kernel)⟩
theorem lw_p27 : lw_okq (⟨"FlueStack$Search", "onlyColumn", "(II)I"⟩, 8) := ⟨⟨by decide +kernel, by decide +kernel⟩, List.mem_of_getElem? (i := 204) (by decide +kernel), List.mem_of_getElem? (i := 600) (by decide +kernel), List.mem_of_getElem? (i := 601) (by decide +kernel)⟩
theorem lw_p28 : lw_okq (⟨"FlueStack$Search", "lowest", "(III)I"⟩, 8) := ⟨⟨by decide +kernel, by decide +kernel⟩, List.mem_of_getElem? (i := 204) (by decide +kernel), List.mem_of_getElem? (i := 604) (by decide +kernel), List.mem_of_getElem? (i := 605) (by decide +kernel)⟩
theorem lw_p29 : lw_okq (⟨"FlueStack$Search", "stands", "(III)Z"⟩, 8) := ⟨⟨by decide +kernel, by decide +kernel⟩, List.mem_of_getElem? (i := 204) (by decide +kernel), List.mem_of_getElem? (i := 608) (by decide +kernel), List.mem_of_getElem? (i := 609) (by decide +kernel)⟩
theorem lw_p30 : lw_okq (⟨"FlueStack$Search", "apart", "(IIIII)Z"⟩, 8) := ⟨⟨by decide +kernel, by decide +kernel⟩, List.mem_of_getElem? (i := 204) (by decide +kernel), List.mem_of_getElem? (i := 612) (by decide +kernel), List.mem_of_getElem? (i := 613) (by decide +kernel)⟩
theorem lw_p31 : lw_okq (⟨"FlueStack$Search", "lean", "(III)I"⟩, 8) := ⟨⟨by decide +kernel, by decide +kernel⟩, List.mem_of_getElem? (i := 204) (by decide +kernel), List.mem_of_getElem? (i := 619) (by decide +kernel), List.mem_of_getElem? (i := 620) (by decide +kernel)⟩
def lw_privs_2 : List (MethodName × Nat) := [(⟨"FlueStack$Ways", "numberBelow", "(I)J"⟩, 11), (⟨"FlueStack$Ways", "leastRest", "(III)I"⟩, 11), (⟨"FlueStack$Ways", "restBy", "(IIII)I"⟩, 11), (⟨"FlueStack$Ways", "walk", "()V"⟩, 11), (⟨"FlueStack", "isSet", "(I)Z"⟩, 15), (⟨"FlueStack", "putSet", "(I)V"⟩, 15), (⟨"FlueStack$Search", "restFrom", "(II)I"⟩, 8), (⟨"FlueStack$Search", "breadthOf", "(I)I"⟩, 8), (⟨"FlueStack$Search", "leastRest", "(IIII)I"⟩, 8), (⟨"FlueStack$Search", "highest", "(III)I"⟩, 8), (⟨"FlueStack$Search", "onlyOne", "(II)Z"⟩, 8), (⟨"FlueStack$Search", "onlyColumn", "(II)I"⟩, 8), (⟨"FlueStack$Search", "lowest", "(III)I"⟩, 8), (⟨"FlueStack$Search", "stands", "(III)Z"⟩, 8), (⟨"FlueStack$Search", "apart", "(IIIII)Z"⟩, 8), (⟨"FlueStack$Search", "lean", "(III)I"⟩, 8)]
theorem lw_r2 : ∀ q ∈ lw_privs_2, lw_okq q := List.forall_mem_cons.mpr ⟨lw_p16, List.forall_mem_cons.mpr ⟨lw_p17, List.forall_mem_cons.mpr ⟨lw_p18, List.forall_mem_cons.mpr ⟨lw_p19, List.forall_mem_cons.mpr ⟨lw_p20, List.forall_mem_cons.mpr ⟨lw_p21, List.forall_mem_cons.mpr ⟨lw_p22, List.forall_mem_cons.mpr ⟨lw_p23, List.forall_mem_cons.mpr ⟨lw_p24, List.forall_mem_cons.mpr ⟨lw_p25, List.forall_mem_cons.mpr ⟨lw_p26, List.forall_mem_cons.mpr ⟨lw_p27, List.forall_mem_cons.mpr ⟨lw_p28, List.forall_mem_cons.mpr ⟨lw_p29, List.forall_mem_cons.mpr ⟨lw_p30, List.forall_mem_cons.mpr ⟨lw_p31, fun _ h => absurd h List.not_mem_nil⟩⟩⟩⟩⟩⟩⟩⟩⟩⟩⟩⟩⟩⟩⟩⟩
theorem lw_p32 : lw_okq (⟨"FlueStack$Search", "restBy", "(III)I"⟩, 8) := ⟨⟨by decide +kernel, by decide +kernel⟩, List.mem_of_getElem? (i := 204) (by decide +kernel), List.mem_of_getElem? (i := 623) (by decide +kernel), List.mem_of_getElem? (i := 624) (by decide +kernel)⟩
theorem lw_p33 : lw_okq (⟨"FlueStack", "sharedSet", "()I"⟩, 15) := ⟨⟨by decide +kernel, by decide +kernel⟩, List.mem_of_getElem? (i := 18) (by decide +kernel), List.mem_of_getElem? (i := 639) (by decide +kernel), List.mem_of_getElem? (i := 640) (by decide +kernel)⟩
theorem lw_p34 : lw_okq (⟨"FlueStack$Judge", "troubleOf", "(LFlueStack$Wall;LFlueStack$Scheme;I)I"⟩, 3) := ⟨⟨by decide +kernel, by decide +kernel⟩, List.mem_of_getElem? (i := 140) (by decide +kernel), List.mem_of_getElem? (i := 683) (by decide +kernel), List.mem_of_getElem? (i := 684) (by decide +kernel)⟩
theorem lw_p35 : lw_okq (⟨"FlueStack$Judge", "crosses", "(LFlueStack$Wall;LFlueStack$Scheme;I)Z"⟩, 3) := ⟨⟨by decide +kernel, by decide +kernel⟩, List.mem_of_getElem? (i := 140) (by decide +kernel), List.mem_of_getElem? (i := 690) (by decide +kernel), List.mem_of_getElem? (i := 691) (by decide +kernel)⟩
theorem lw_p36 : lw_okq (⟨"FlueStack", "doors", "(I)I"⟩, 15) := ⟨⟨by decide +kernel, by decide +kernel⟩, List.mem_of_getElem? (i := 18) (by decide +kernel), List.mem_of_getElem? (i := 711) (by decide +kernel), List.mem_of_getElem? (i := 712) (by decide +kernel)⟩
theorem lw_p37 : lw_okq (⟨"FlueStack", "strength", "(II)I"⟩, 15) := ⟨⟨by decide +kernel, by decide +kernel⟩, List.mem_of_getElem? (i := 18) (by decide +kernel), List.mem_of_getElem? (i := 719) (by decide +kernel), List.mem_of_getElem? (i := 720) (by decide +kernel)⟩
theorem lw_p38 : lw_okq (⟨"FlueStack", "wanted", "(III)I"⟩, 15) := ⟨⟨by decide +kernel, by decide +kernel⟩, List.mem_of_getElem? (i := 18) (by decide +kernel), List.mem_of_getElem? (i := 731) (by decide +kernel), List.mem_of_getElem? (i := 732) (by decide +kernel)⟩
theorem lw_p39 : lw_okq (⟨"FlueStack", "fewestMoved", "(I)I"⟩, 15) := ⟨⟨by decide +kernel, by decide +kernel⟩, List.mem_of_getElem? (i := 18) (by decide +kernel), List.mem_of_getElem? (i := 744) (by decide +kernel), List.mem_of_getElem? (i := 745) (by decide +kernel)⟩
theorem lw_p40 : lw_okq (⟨"FlueStack", "canMove", "(II)Z"⟩, 15) := ⟨⟨by decide +kernel, by decide +kernel⟩, List.mem_of_getElem? (i := 18) (by decide +kernel), List.mem_of_getElem? (i := 748) (by decide +kernel), List.mem_of_getElem? (i := 749) (by decide +kernel)⟩
theorem lw_p41 : lw_okq (⟨"FlueStack", "rateFlue", "(I)I"⟩, 15) := ⟨⟨by decide +kernel, by decide +kernel⟩, List.mem_of_getElem? (i := 18) (by decide +kernel), List.mem_of_getElem? (i := 773) (by decide +kernel), List.mem_of_getElem? (i := 774) (by decide +kernel)⟩
theorem lw_p42 : lw_okq (⟨"FlueStack", "rateStraight", "(I)I"⟩, 15) := ⟨⟨by decide +kernel, by decide +kernel⟩, List.mem_of_getElem? (i := 18) (by decide +kernel), List.mem_of_getElem? (i := 777) (by decide +kernel), List.mem_of_getElem? (i := 778) (by decide +kernel)⟩
theorem lw_p43 : lw_okq (⟨"FlueStack", "rateLean", "(I)I"⟩, 15) := ⟨⟨by decide +kernel, by decide +kernel⟩, List.mem_of_getElem? (i := 18) (by decide +kernel), List.mem_of_getElem? (i := 782) (by decide +kernel), List.mem_of_getElem? (i := 783) (by decide +kernel)⟩
theorem lw_p44 : lw_okq (⟨"FlueStack", "rateGather", "(I)I"⟩, 15) := ⟨⟨by decide +kernel, by decide +kernel⟩, List.mem_of_getElem? (i := 18) (by decide +kernel), List.mem_of_getElem? (i := 787) (by decide +kernel), List.mem_of_getElem? (i := 788) (by decide +kernel)⟩
theorem lw_p45 : lw_okq (⟨"FlueStack", "rateShared", "(I)I"⟩, 15) := ⟨⟨by decide +kernel, by decide +kernel⟩, List.mem_of_getElem? (i := 18) (by decide +kernel), List.mem_of_getElem? (i := 792) (by decide +kernel), List.mem_of_getElem? (i := 793) (by decide +kernel)⟩
theorem lw_p46 : lw_okq (⟨"FlueStack", "rateOld", "(I)I"⟩, 15) := ⟨⟨by decide +kernel, by decide +kernel⟩, List.mem_of_getElem? (i := 18) (by decide +kernel), List.mem_of_getElem? (i := 797) (by decide +kernel), List.mem_of_getElem? (i := 798) (by decide +kernel)⟩
theorem lw_p47 : lw_okq (⟨"FlueStack", "imageOf", "(I)LFlueStack$Scheme;"⟩, 15) := ⟨⟨by decide +kernel, by decide +kernel⟩, List.mem_of_getElem? (i := 18) (by decide +kernel), List.mem_of_getElem? (i := 806) (by decide +kernel), List.mem_of_getElem? (i := 807) (by decide +kernel)⟩
def lw_privs_3 : List (MethodName × Nat) := [(⟨"FlueStack$Search", "restBy", "(III)I"⟩, 8), (⟨"FlueStack", "sharedSet", "()I"⟩, 15), (⟨"FlueStack$Judge", "troubleOf", "(LFlueStack$Wall;LFlueStack$Scheme;I)I"⟩, 3), (⟨"FlueStack$Judge", "crosses", "(LFlueStack$Wall;LFlueStack$Scheme;I)Z"⟩, 3), (⟨"FlueStack", "doors", "(I)I"⟩, 15), (⟨"FlueStack", "strength", "(II)I"⟩, 15), (⟨"FlueStack", "wanted", "(III)I"⟩, 15), (⟨"FlueStack", "fewestMoved", "(I)I"⟩, 15), (⟨"FlueStack", "canMove", "(II)Z"⟩, 15), (⟨"FlueStack", "rateFlue", "(I)I"⟩, 15), (⟨"FlueStack", "rateStraight", "(I)I"⟩, 15), (⟨"FlueStack", "rateLean", "(I)I"⟩, 15), (⟨"FlueStack", "rateGather", "(I)I"⟩, 15), (⟨"FlueStack", "rateShared", "(I)I"⟩, 15), (⟨"FlueStack", "rateOld", "(I)I"⟩, 15), (⟨"FlueStack", "imageOf", "(I)LFlueStack$Scheme;"⟩, 15)]
theorem lw_r3 : ∀ q ∈ lw_privs_3, lw_okq q := List.forall_mem_cons.mpr ⟨lw_p32, List.forall_mem_cons.mpr ⟨lw_p33, List.forall_mem_cons.mpr ⟨lw_p34, List.forall_mem_cons.mpr ⟨lw_p35, List.forall_mem_cons.mpr ⟨lw_p36, List.forall_mem_cons.mpr ⟨lw_p37, List.forall_mem_cons.mpr ⟨lw_p38, List.forall_mem_cons.mpr ⟨lw_p39, List.forall_mem_cons.mpr ⟨lw_p40, List.forall_mem_cons.mpr ⟨lw_p41, List.forall_mem_cons.mpr ⟨lw_p42, List.forall_mem_cons.mpr ⟨lw_p43, List.forall_mem_cons.mpr ⟨lw_p44, List.forall_mem_cons.mpr ⟨lw_p45, List.forall_mem_cons.mpr ⟨lw_p46, List.forall_mem_cons.mpr ⟨lw_p47, fun _ h => absurd h List.not_mem_nil⟩⟩⟩⟩⟩⟩⟩⟩⟩⟩⟩⟩⟩⟩⟩⟩
theorem lw_p48 : lw_okq (⟨"FlueStackModel", "next", "()V"⟩, 35) := ⟨⟨by decide +kernel, by decide +kernel⟩, List.mem_of_getElem? (i := 833) (by decide +kernel), List.mem_of_getElem? (i := 961) (by decide +kernel), List.mem_of_getElem? (i := 962) (by decide +kernel)⟩
theorem lw_p49 : lw_okq (⟨"FlueStackModel", "here", "()I"⟩, 35) := ⟨⟨by decide +kernel, by decide +kernel⟩, List.mem_of_getElem? (i := 833) (by decide +kernel), List.mem_of_getElem? (i := 965) (by decide +kernel), List.mem_of_getElem? (i := 966) (by decide +kernel)⟩
theorem lw_p50 : lw_okq (⟨"FlueStackModel", "item", "(II)V"⟩, 35) := ⟨⟨by decide +kernel, by decide +kernel⟩, List.mem_of_getElem? (i := 833) (by decide +kernel), List.mem_of_getElem? (i := 973) (by decide +kernel), List.mem_of_getElem? (i := 974) (by decide +kernel)⟩
theorem lw_p51 : lw_okq (⟨"FlueStackModel", "due", "(Z)I"⟩, 35) := ⟨⟨by decide +kernel, by decide +kernel⟩, List.mem_of_getElem? (i := 833) (by decide +kernel), List.mem_of_getElem? (i := 977) (by decide +kernel), List.mem_of_getElem? (i := 978) (by decide +kernel)⟩
theorem lw_p52 : lw_okq (⟨"FlueStackModel", "number", "(II)I"⟩, 35) := ⟨⟨by decide +kernel, by decide +kernel⟩, List.mem_of_getElem? (i := 833) (by decide +kernel), List.mem_of_getElem? (i := 981) (by decide +kernel), List.mem_of_getElem? (i := 982) (by decide +kernel)⟩
theorem lw_p53 : lw_okq (⟨"FlueStackModel", "span", "()I"⟩, 35) := ⟨⟨by decide +kernel, by decide +kernel⟩, List.mem_of_getElem? (i := 833) (by decide +kernel), List.mem_of_getElem? (i := 985) (by decide +kernel), List.mem_of_getElem? (i := 986) (by decide +kernel)⟩
theorem lw_p54 : lw_okq (⟨"FlueStackModel", "isCourse", "(I)Z"⟩, 35) := ⟨⟨by decide +kernel, by decide +kernel⟩, List.mem_of_getElem? (i := 833) (by decide +kernel), List.mem_of_getElem? (i := 993) (by decide +kernel), List.mem_of_getElem? (i := 994) (by decide +kernel)⟩
theorem lw_p55 : lw_okq (⟨"FlueStackModel", "isIn", "(I)Z"⟩, 35) := ⟨⟨by decide +kernel, by decide +kernel⟩, List.mem_of_getElem? (i := 833) (by decide +kernel), List.mem_of_getElem? (i := 997) (by decide +kernel), List.mem_of_getElem? (i := 998) (by decide +kernel)⟩
theorem lw_p56 : lw_okq (⟨"FlueStackModel", "isBarred", "(II)Z"⟩, 35) := ⟨⟨by decide +kernel, by decide +kernel⟩, List.mem_of_getElem? (i := 833) (by decide +kernel), List.mem_of_getElem? (i := 1001) (by decide +kernel), List.mem_of_getElem? (i := 1002) (by decide +kernel)⟩
theorem lw_p57 : lw_okq (⟨"FlueStackModel", "isCold", "(I)Z"⟩, 35) := ⟨⟨by decide +kernel, by decide +kernel⟩, List.mem_of_getElem? (i := 833) (by decide +kernel), List.mem_of_getElem? (i := 1005) (by decide +kernel), List.mem_of_getElem? (i := 1006) (by decide +kernel)⟩
theorem lw_p58 : lw_okq (⟨"FlueStackModel", "isHearth", "(I)Z"⟩, 35) := ⟨⟨by decide +kernel, by decide +kernel⟩, List.mem_of_getElem? (i := 833) (by decide +kernel), List.mem_of_getElem? (i := 1013) (by decide +kernel), List.mem_of_getElem? (i := 1014) (by decide +kernel)⟩
theorem lw_p59 : lw_okq (⟨"FlueStackModel", "countWays", "(IZ)J"⟩, 35) := ⟨⟨by decide +kernel, by decide +kernel⟩, List.mem_of_getElem? (i := 833) (by decide +kernel), List.mem_of_getElem? (i := 1030) (by decide +kernel), List.mem_of_getElem? (i := 1031) (by decide +kernel)⟩
theorem lw_p60 : lw_okq (⟨"FlueStackModel", "isMarked", "(IIZ)Z"⟩, 35) := ⟨⟨by decide +kernel, by decide +kernel⟩, List.mem_of_getElem? (i := 833) (by decide +kernel), List.mem_of_getElem? (i := 1034) (by decide +kernel), List.mem_of_getElem? (i := 1035) (by decide +kernel)⟩
theorem lw_p61 : lw_okq (⟨"FlueStackModel", "leastOne", "(I)I"⟩, 35) := ⟨⟨by decide +kernel, by decide +kernel⟩, List.mem_of_getElem? (i := 833) (by decide +kernel), List.mem_of_getElem? (i := 1047) (by decide +kernel), List.mem_of_getElem? (i := 1048) (by decide +kernel)⟩
theorem lw_p62 : lw_okq (⟨"FlueStackModel", "byStep", "(IIII)I"⟩, 35) := ⟨⟨by decide +kernel, by decide +kernel⟩, List.mem_of_getElem? (i := 833) (by decide +kernel), List.mem_of_getElem? (i := 1052) (by decide +kernel), List.mem_of_getElem? (i := 1053) (by decide +kernel)⟩
theorem lw_p63 : lw_okq (⟨"FlueStackModel", "stillAt", "(III)I"⟩, 35) := ⟨⟨by decide +kernel, by decide +kernel⟩, List.mem_of_getElem? (i := 833) (by decide +kernel), List.mem_of_getElem? (i := 1056) (by decide +kernel), List.mem_of_getElem? (i := 1057) (by decide +kernel)⟩
def lw_privs_4 : List (MethodName × Nat) := [(⟨"FlueStackModel", "next", "()V"⟩, 35), (⟨"FlueStackModel", "here", "()I"⟩, 35), (⟨"FlueStackModel", "item", "(II)V"⟩, 35), (⟨"FlueStackModel", "due", "(Z)I"⟩, 35), (⟨"FlueStackModel", "number", "(II)I"⟩, 35), (⟨"FlueStackModel", "span", "()I"⟩, 35), (⟨"FlueStackModel", "isCourse", "(I)Z"⟩, 35), (⟨"FlueStackModel", "isIn", "(I)Z"⟩, 35), (⟨"FlueStackModel", "isBarred", "(II)Z"⟩, 35), (⟨"FlueStackModel", "isCold", "(I)Z"⟩, 35), (⟨"FlueStackModel", "isHearth", "(I)Z"⟩, 35), (⟨"FlueStackModel", "countWays", "(IZ)J"⟩, 35), (⟨"FlueStackModel", "isMarked", "(IIZ)Z"⟩, 35), (⟨"FlueStackModel", "leastOne", "(I)I"⟩, 35), (⟨"FlueStackModel", "byStep", "(IIII)I"⟩, 35), (⟨"FlueStackModel", "stillAt", "(III)I"⟩, 35)]
theorem lw_r4 : ∀ q ∈ lw_privs_4, lw_okq q := List.forall_mem_cons.mpr ⟨lw_p48, List.forall_mem_cons.mpr ⟨lw_p49, List.forall_mem_cons.mpr ⟨lw_p50, List.forall_mem_cons.mpr ⟨lw_p51, List.forall_mem_cons.mpr ⟨lw_p52, List.forall_mem_cons.mpr ⟨lw_p53, List.forall_mem_cons.mpr ⟨lw_p54, List.forall_mem_cons.mpr ⟨lw_p55, List.forall_mem_cons.mpr ⟨lw_p56, List.forall_mem_cons.mpr ⟨lw_p57, List.forall_mem_cons.mpr ⟨lw_p58, List.forall_mem_cons.mpr ⟨lw_p59, List.forall_mem_cons.mpr ⟨lw_p60, List.forall_mem_cons.mpr ⟨lw_p61, List.forall_mem_cons.mpr ⟨lw_p62, List.forall_mem_cons.mpr ⟨lw_p63, fun _ h => absurd h List.not_mem_nil⟩⟩⟩⟩⟩⟩⟩⟩⟩⟩⟩⟩⟩⟩⟩⟩
theorem lw_p64 : lw_okq (⟨"FlueStackModel", "isSet", "(I)Z"⟩, 35) := ⟨⟨by decide +kernel, by decide +kernel⟩, List.mem_of_getElem? (i := 833) (by decide +kernel), List.mem_of_getElem? (i := 1064) (by decide +kernel), List.mem_of_getElem? (i := 1065) (by decide +kernel)⟩
theorem lw_p65 : lw_okq (⟨"FlueStackModel", "gather", "(I)V"⟩, 35) := ⟨⟨by decide +kernel, by decide +kernel⟩, List.mem_of_getElem? (i := 833) (by decide +kernel), List.mem_of_getElem? (i := 1068) (by decide +kernel), List.mem_of_getElem? (i := 1069) (by decide +kernel)⟩
theorem lw_p66 : lw_okq (⟨"FlueStackModel", "add", "(III)V"⟩, 35) := ⟨⟨by decide +kernel, by decide +kernel⟩, List.mem_of_getElem? (i := 833) (by decide +kernel), List.mem_of_getElem? (i := 1072) (by decide +kernel), List.mem_of_getElem? (i := 1073) (by decide +kernel)⟩
theorem lw_p67 : lw_okq (⟨"FlueStackModel", "goTogether", "()I"⟩, 35) := ⟨⟨by decide +kernel, by decide +kernel⟩, List.mem_of_getElem? (i := 833) (by decide +kernel), List.mem_of_getElem? (i := 1076) (by decide +kernel), List.mem_of_getElem? (i := 1077) (by decide +kernel)⟩
theorem lw_p68 : lw_okq (⟨"FlueStackModel", "goBroad", "(I)I"⟩, 35) := ⟨⟨by decide +kernel, by decide +kernel⟩, List.mem_of_getElem? (i := 833) (by decide +kernel), List.mem_of_getElem? (i := 1080) (by decide +kernel), List.mem_of_getElem? (i := 1081) (by decide +kernel)⟩
theorem lw_p69 : lw_okq (⟨"FlueStackModel", "spots", "()I"⟩, 35) := ⟨⟨by decide +kernel, by decide +kernel⟩, List.mem_of_getElem? (i := 833) (by decide +kernel), List.mem_of_getElem? (i := 1084) (by decide +kernel), List.mem_of_getElem? (i := 1085) (by decide +kernel)⟩
theorem lw_p70 : lw_okq (⟨"FlueStackModel", "isSpot", "(II)Z"⟩, 35) := ⟨⟨by decide +kernel, by decide +kernel⟩, List.mem_of_getElem? (i := 833) (by decide +kernel), List.mem_of_getElem? (i := 1088) (by decide +kernel), List.mem_of_getElem? (i := 1089) (by decide +kernel)⟩
theorem lw_p71 : lw_okq (⟨"FlueStackModel", "placeIn", "(II)I"⟩, 35) := ⟨⟨by decide +kernel, by decide +kernel⟩, List.mem_of_getElem? (i := 833) (by decide +kernel), List.mem_of_getElem? (i := 1092) (by decide +kernel), List.mem_of_getElem? (i := 1093) (by decide +kernel)⟩
theorem lw_p72 : lw_okq (⟨"FlueStackModel", "mayBe", "(III)Z"⟩, 35) := ⟨⟨by decide +kernel, by decide +kernel⟩, List.mem_of_getElem? (i := 833) (by decide +kernel), List.mem_of_getElem? (i := 1096) (by decide +kernel), List.mem_of_getElem? (i := 1097) (by decide +kernel)⟩
theorem lw_p73 : lw_okq (⟨"FlueStackModel", "leastNext", "(II)I"⟩, 35) := ⟨⟨by decide +kernel, by decide +kernel⟩, List.mem_of_getElem? (i := 833) (by decide +kernel), List.mem_of_getElem? (i := 1100) (by decide +kernel), List.mem_of_getElem? (i := 1101) (by decide +kernel)⟩
theorem lw_p74 : lw_okq (⟨"FlueStackModel", "firstOf", "(III)I"⟩, 35) := ⟨⟨by decide +kernel, by decide +kernel⟩, List.mem_of_getElem? (i := 833) (by decide +kernel), List.mem_of_getElem? (i := 1104) (by decide +kernel), List.mem_of_getElem? (i := 1105) (by decide +kernel)⟩
theorem lw_p75 : lw_okq (⟨"FlueStackModel", "lastOf", "(III)I"⟩, 35) := ⟨⟨by decide +kernel, by decide +kernel⟩, List.mem_of_getElem? (i := 833) (by decide +kernel), List.mem_of_getElem? (i := 1108) (by decide +kernel), List.mem_of_getElem? (i := 1109) (by decide +kernel)⟩
theorem lw_p76 : lw_okq (⟨"FlueStackModel", "leansTo", "(III)I"⟩, 35) := ⟨⟨by decide +kernel, by decide +kernel⟩, List.mem_of_getElem? (i := 833) (by decide +kernel), List.mem_of_getElem? (i := 1112) (by decide +kernel), List.mem_of_getElem? (i := 1113) (by decide +kernel)⟩
theorem lw_p77 : lw_okq (⟨"FlueStackModel", "breadthOf", "(I)I"⟩, 35) := ⟨⟨by decide +kernel, by decide +kernel⟩, List.mem_of_getElem? (i := 833) (by decide +kernel), List.mem_of_getElem? (i := 1116) (by decide +kernel), List.mem_of_getElem? (i := 1117) (by decide +kernel)⟩
theorem lw_p78 : lw_okq (⟨"FlueStackModel", "firstSpot", "()I"⟩, 35) := ⟨⟨by decide +kernel, by decide +kernel⟩, List.mem_of_getElem? (i := 833) (by decide +kernel), List.mem_of_getElem? (i := 1120) (by decide +kernel), List.mem_of_getElem? (i := 1121) (by decide +kernel)⟩
theorem lw_p79 : lw_okq (⟨"FlueStackModel", "troubleAt", "(II)I"⟩, 35) := ⟨⟨by decide +kernel, by decide +kernel⟩, List.mem_of_getElem? (i := 833) (by decide +kernel), List.mem_of_getElem? (i := 1151) (by decide +kernel), List.mem_of_getElem? (i := 1152) (by decide +kernel)⟩
def lw_privs_5 : List (MethodName × Nat) := [(⟨"FlueStackModel", "isSet", "(I)Z"⟩, 35), (⟨"FlueStackModel", "gather", "(I)V"⟩, 35), (⟨"FlueStackModel", "add", "(III)V"⟩, 35), (⟨"FlueStackModel", "goTogether", "()I"⟩, 35), (⟨"FlueStackModel", "goBroad", "(I)I"⟩, 35), (⟨"FlueStackModel", "spots", "()I"⟩, 35), (⟨"FlueStackModel", "isSpot", "(II)Z"⟩, 35), (⟨"FlueStackModel", "placeIn", "(II)I"⟩, 35), (⟨"FlueStackModel", "mayBe", "(III)Z"⟩, 35), (⟨"FlueStackModel", "leastNext", "(II)I"⟩, 35), (⟨"FlueStackModel", "firstOf", "(III)I"⟩, 35), (⟨"FlueStackModel", "lastOf", "(III)I"⟩, 35), (⟨"FlueStackModel", "leansTo", "(III)I"⟩, 35), (⟨"FlueStackModel", "breadthOf", "(I)I"⟩, 35), (⟨"FlueStackModel", "firstSpot", "()I"⟩, 35), (⟨"FlueStackModel", "troubleAt", "(II)I"⟩, 35)]
theorem lw_r5 : ∀ q ∈ lw_privs_5, lw_okq q := List.forall_mem_cons.mpr ⟨lw_p64, List.forall_mem_cons.mpr ⟨lw_p65, List.forall_mem_cons.mpr ⟨lw_p66, List.forall_mem_cons.mpr ⟨lw_p67, List.forall_mem_cons.mpr ⟨lw_p68, List.forall_mem_cons.mpr ⟨lw_p69, List.forall_mem_cons.mpr ⟨lw_p70, List.forall_mem_cons.mpr ⟨lw_p71, List.forall_mem_cons.mpr ⟨lw_p72, List.forall_mem_cons.mpr ⟨lw_p73, List.forall_mem_cons.mpr ⟨lw_p74, List.forall_mem_cons.mpr ⟨lw_p75, List.forall_mem_cons.mpr ⟨lw_p76, List.forall_mem_cons.mpr ⟨lw_p77, List.forall_mem_cons.mpr ⟨lw_p78, List.forall_mem_cons.mpr ⟨lw_p79, fun _ h => absurd h List.not_mem_nil⟩⟩⟩⟩⟩⟩⟩⟩⟩⟩⟩⟩⟩⟩⟩⟩
theorem lw_p80 : lw_okq (⟨"FlueStackModel", "bendsOf", "(I)I"⟩, 35) := ⟨⟨by decide +kernel, by decide +kernel⟩, List.mem_of_getElem? (i := 833) (by decide +kernel), List.mem_of_getElem? (i := 1159) (by decide +kernel), List.mem_of_getElem? (i := 1160) (by decide +kernel)⟩
theorem lw_p81 : lw_okq (⟨"FlueStackModel", "stepInto", "(II)I"⟩, 35) := ⟨⟨by decide +kernel, by decide +kernel⟩, List.mem_of_getElem? (i := 833) (by decide +kernel), List.mem_of_getElem? (i := 1163) (by decide +kernel), List.mem_of_getElem? (i := 1164) (by decide +kernel)⟩
theorem lw_p82 : lw_okq (⟨"FlueStackModel", "leansOf", "(I)I"⟩, 35) := ⟨⟨by decide +kernel, by decide +kernel⟩, List.mem_of_getElem? (i := 833) (by decide +kernel), List.mem_of_getElem? (i := 1167) (by decide +kernel), List.mem_of_getElem? (i := 1168) (by decide +kernel)⟩
theorem lw_p83 : lw_okq (⟨"FlueStackModel", "coldOf", "(I)I"⟩, 35) := ⟨⟨by decide +kernel, by decide +kernel⟩, List.mem_of_getElem? (i := 833) (by decide +kernel), List.mem_of_getElem? (i := 1171) (by decide +kernel), List.mem_of_getElem? (i := 1172) (by decide +kernel)⟩
theorem lw_p84 : lw_okq (⟨"FlueStackModel", "drawOf", "(II)I"⟩, 35) := ⟨⟨by decide +kernel, by decide +kernel⟩, List.mem_of_getElem? (i := 833) (by decide +kernel), List.mem_of_getElem? (i := 1179) (by decide +kernel), List.mem_of_getElem? (i := 1180) (by decide +kernel)⟩
theorem lw_p85 : lw_okq (⟨"FlueStackModel", "isWellWith", "(II)Z"⟩, 35) := ⟨⟨by decide +kernel, by decide +kernel⟩, List.mem_of_getElem? (i := 833) (by decide +kernel), List.mem_of_getElem? (i := 1196) (by decide +kernel), List.mem_of_getElem? (i := 1197) (by decide +kernel)⟩
theorem lw_p86 : lw_okq (⟨"FlueStackModel", "copy", "(II)V"⟩, 35) := ⟨⟨by decide +kernel, by decide +kernel⟩, List.mem_of_getElem? (i := 833) (by decide +kernel), List.mem_of_getElem? (i := 1217) (by decide +kernel), List.mem_of_getElem? (i := 1218) (by decide +kernel)⟩
def lw_privs_6 : List (MethodName × Nat) := [(⟨"FlueStackModel", "bendsOf", "(I)I"⟩, 35), (⟨"FlueStackModel", "stepInto", "(II)I"⟩, 35), (⟨"FlueStackModel", "leansOf", "(I)I"⟩, 35), (⟨"FlueStackModel", "coldOf", "(I)I"⟩, 35), (⟨"FlueStackModel", "drawOf", "(II)I"⟩, 35), (⟨"FlueStackModel", "isWellWith", "(II)Z"⟩, 35), (⟨"FlueStackModel", "copy", "(II)V"⟩, 35)]
theorem lw_r6 : ∀ q ∈ lw_privs_6, lw_okq q := List.forall_mem_cons.mpr ⟨lw_p80, List.forall_mem_cons.mpr ⟨lw_p81, List.forall_mem_cons.mpr ⟨lw_p82, List.forall_mem_cons.mpr ⟨lw_p83, List.forall_mem_cons.mpr ⟨lw_p84, List.forall_mem_cons.mpr ⟨lw_p85, List.forall_mem_cons.mpr ⟨lw_p86, fun _ h => absurd h List.not_mem_nil⟩⟩⟩⟩⟩⟩⟩
def lw_privs : List (MethodName × Nat) := lw_privs_1 ++ (lw_privs_2 ++ (lw_privs_3 ++ (lw_privs_4 ++ (lw_privs_5 ++ (lw_privs_6)))))
def lw_tbl : List Cond := k2_sels lw_privs ++ tables_1
theorem lw_privs_ok : ∀ q ∈ lw_privs, lw_okq q := by
  show ∀ q ∈ lw_privs_1 ++ (lw_privs_2 ++ (lw_privs_3 ++ (lw_privs_4 ++ (lw_privs_5 ++ (lw_privs_6))))), lw_okq q
  exact List.forall_mem_append.mpr ⟨lw_r1, List.forall_mem_append.mpr ⟨lw_r2, List.forall_mem_append.mpr ⟨lw_r3, List.forall_mem_append.mpr ⟨lw_r4, List.forall_mem_append.mpr ⟨lw_r5, lw_r6⟩⟩⟩⟩⟩
-- ===== end of PART A; then your names; then what follows =====
/-! ===== BEGIN words of one list among another's, by their places ===== -/
theorem goodIn_r {big : List Cond} (ws : List Cond) (ps : List Nat) (hp : ws = ps.filterMap (fun i => big[i]?)) (h : ws.all goodWord = true) : GoodIn big ws := by
  intro w hw
  have h1 := List.all_eq_true.mp h w hw
  rw [hp] at hw
  obtain ⟨i, -, hi⟩ := List.mem_filterMap.mp hw
  have hm : w ∈ big := by first | exact List.mem_of_getElem? hi | exact List.getElem?_mem hi
  exact ⟨hm, good_of_word h1⟩
theorem goodIn_app {big a b : List Cond} (ha : GoodIn big a) (hb : GoodIn big b) : GoodIn big (a ++ b) := fun w h => (List.mem_append.mp h).elim (ha w) (hb w)
theorem goodIn_ca {big a b : List Cond} {c : Cond} (ha : GoodIn big (c :: a)) (hb : GoodIn big b) : GoodIn big (c :: (a ++ b)) := fun w h => (List.mem_cons.mp h).elim (fun e => ha w (List.mem_cons.mpr (Or.inl e))) (fun h => (List.mem_append.mp h).elim (fun h => ha w (List.mem_cons.mpr (Or.inr h))) (hb w))
theorem goodIn_sub {big ws : List Cond} (hm : ∀ w ∈ ws, w ∈ big) (h : ws.all goodWord = true) : GoodIn big ws := fun w hw => ⟨hm w hw, good_of_word (List.all_eq_true.mp h w hw)⟩
/-! ===== END ===== -/

/-! ===== BEGIN new T[n][m]: the outer array a place, the inner ones among the pooled ===== -/
/-- f, but v at every address of l -/
def vr_up {α : Type} (f : Nat → α) (l : List Nat) (v : α) : Nat → α := fun a => if a ∈ l then v else f a
theorem vr_up_in {α : Type} {f : Nat → α} {l : List Nat} {v : α} {a : Nat} (h : a ∈ l) : vr_up f l v a = v := if_pos h
theorem vr_up_ne {α : Type} {f : Nat → α} {l : List Nat} {v : α} {a : Nat} (h : a ∉ l) : vr_up f l v a = f a := if_neg h
theorem vr_rows {L l : List Nat} {f : Nat → va_E} {e : va_E} (h : ∀ a, a ∈ l → a ∉ L) : va_pl L f ++ l.map (fun a => (a, e)) = va_pl (L ++ l) (vr_up f l e) := by
  unfold va_pl
  rw [List.map_append]
  congr 1
  · apply List.map_congr_left
    intro a ha
    rw [vr_up_ne (fun q => h a q ha)]
  · apply List.map_congr_left
    intro a ha
    rw [vr_up_in ha]
theorem vr_lay {X rows : va_W} {x : Nat × va_E} {pl : va_W} {D : va_G} {cl : List vw_C} {H : Heap} (hP : va_P D cl (((X ++ pl) ++ [x]) ++ rows) H) : va_P D cl ((X ++ [x]) ++ (pl ++ rows)) H := by
  rw [List.append_assoc (X ++ pl)] at hP
  have h := va_P.swap hP
  rw [← List.append_assoc X] at h
  have h2 := va_P.swap h
  rw [List.append_assoc (X ++ [x])] at h2
  exact h2
theorem vr_layD {X rows : va_W} {x : Nat × va_E} {pl : va_W} {A : Nat → Prop} (hD : va_D A (((X ++ pl) ++ [x]) ++ rows)) : va_D A ((X ++ [x]) ++ (pl ++ rows)) := by
  rw [List.append_assoc (X ++ pl)] at hD
  have h := va_D.swap hD
  rw [← List.append_assoc X] at h
  have h2 := va_D.swap h
  rw [List.append_assoc (X ++ [x])] at h2
  exact h2
theorem vr_outer (c : ClassId) (N h0 : Nat) : ∀ i : Nat, Jvm.Free.Multi.outerC c N h0 i = arrV c N (fun j => va_rf (if j < i then some (h0 + 1 + j) else none))
  | 0 => by
    show ({ cls := c, slots := Array.replicate N .null, vm := .none } : Cell) = _
    rw [arrV_new]
    refine congrArg (arrV c N) (funext fun j => ?_)
    simp [va_rf]
  | i + 1 => by
    show (Jvm.Free.Multi.outerC c N h0 i).setSlot i (.ref (h0 + 1 + i)) = _
    rw [vr_outer c N h0 i, arrV_store]
    refine congrArg (arrV c N) (funext fun j => ?_)
    by_cases e : j = i
    · subst e
      simp [updV, va_rf]
    · by_cases h : j < i
      · simp [updV, e, h, Nat.lt_succ_of_lt h]
      · simp [updV, e, h, show ¬ j < i + 1 by omega]
/-! ===== END ===== -/

/-! ===== BEGIN printed: names, fields, word lists, decode rows ===== -/
def RX0 : String := "FlueStack$Judge"
def TX0 : u_T := fun k => match k with
  | 0 => ("FlueStack$Judge", "trouble", "I", false)
  | 1 => ("FlueStack$Judge", "culprit", "I", false)
  | _ => ("FlueStack$Judge", "course", "I", false)
def tyX0 : Nat → FieldType := fun k => match k with
  | 0 => .int
  | 1 => .int
  | _ => .int
abbrev wsX00 : List Cond := u_ws RX0 TX0 3
theorem nmX0 : ∀ a, a < 3 → ∀ b, b < 3 → a ≠ b → (TX0 a).2.1 ≠ (TX0 b).2.1 := by decide +kernel
theorem tyX0_ok : ∀ k, k < 3 → parseFieldDescriptor (TX0 k).2.2.1 = some (tyX0 k) := by decide +kernel
abbrev cX0_init : ByteArray := prog_2_method_1_code
def yX0_init : MethodName := ⟨RX0, "<init>", "()V"⟩
abbrev cX0_findsNone : ByteArray := prog_2_method_2_code
def yX0_findsNone : MethodName := ⟨RX0, "findsNone", "(LFlueStack$Wall;LFlueStack$Scheme;I)Z"⟩
abbrev cX0_troubleOf : ByteArray := prog_2_method_3_code
def yX0_troubleOf : MethodName := ⟨RX0, "troubleOf", "(LFlueStack$Wall;LFlueStack$Scheme;I)I"⟩
abbrev cX0_crosses : ByteArray := prog_2_method_4_code
def yX0_crosses : MethodName := ⟨RX0, "crosses", "(LFlueStack$Wall;LFlueStack$Scheme;I)Z"⟩
def RX1 : String := "FlueStack$Reader"
def TX1 : u_T := fun k => match k with
  | 0 => ("FlueStack$Reader", "bytes", "[B", false)
  | 1 => ("FlueStack$Reader", "length", "I", false)
  | 2 => ("FlueStack$Reader", "next", "I", false)
  | 3 => ("FlueStack$Reader", "begin", "I", false)
  | 4 => ("FlueStack$Reader", "token", "I", false)
  | _ => ("FlueStack$Reader", "value", "I", false)
def tyX1 : Nat → FieldType := fun k => match k with
  | 0 => .array .byte
  | 1 => .int
  | 2 => .int
  | 3 => .int
  | 4 => .int
  | _ => .int
abbrev wsX10 : List Cond := u_ws RX1 TX1 6
theorem nmX1 : ∀ a, a < 6 → ∀ b, b < 6 → a ≠ b → (TX1 a).2.1 ≠ (TX1 b).2.1 := by decide +kernel
theorem tyX1_ok : ∀ k, k < 6 → parseFieldDescriptor (TX1 k).2.2.1 = some (tyX1 k) := by decide +kernel
abbrev cX1_init : ByteArray := prog_3_method_1_code
def yX1_init : MethodName := ⟨RX1, "<init>", "()V"⟩
abbrev cX1_read : ByteArray := prog_3_method_2_code
def yX1_read : MethodName := ⟨RX1, "read", "([BILFlueStack$Wall;)I"⟩
abbrev cX1_readItem : ByteArray := prog_3_method_3_code
def yX1_readItem : MethodName := ⟨RX1, "readItem", "(LFlueStack$Wall;Z)Z"⟩
abbrev cX1_readSize : ByteArray := prog_3_method_4_code
def yX1_readSize : MethodName := ⟨RX1, "readSize", "(LFlueStack$Wall;)Z"⟩
abbrev cX1_readBeam : ByteArray := prog_3_method_5_code
def yX1_readBeam : MethodName := ⟨RX1, "readBeam", "(LFlueStack$Wall;)Z"⟩
abbrev cX1_readCold : ByteArray := prog_3_method_6_code
def yX1_readCold : MethodName := ⟨RX1, "readCold", "(LFlueStack$Wall;)Z"⟩
abbrev cX1_readHearth : ByteArray := prog_3_method_7_code
def yX1_readHearth : MethodName := ⟨RX1, "readHearth", "(LFlueStack$Wall;)Z"⟩
abbrev cX1_readSpan : ByteArray := prog_3_method_8_code
def yX1_readSpan : MethodName := ⟨RX1, "readSpan", "(LFlueStack$Wall;)I"⟩
abbrev cX1_readNumber : ByteArray := prog_3_method_9_code
def yX1_readNumber : MethodName := ⟨RX1, "readNumber", "(II)Z"⟩
abbrev cX1_readClose : ByteArray := prog_3_method_10_code
def yX1_readClose : MethodName := ⟨RX1, "readClose", "()Z"⟩
abbrev cX1_byteAt : ByteArray := prog_3_method_11_code
def yX1_byteAt : MethodName := ⟨RX1, "byteAt", "(I)I"⟩
abbrev cX1_letterAt : ByteArray := prog_3_method_12_code
def yX1_letterAt : MethodName := ⟨RX1, "letterAt", "(I)Z"⟩
abbrev cX1_digitAt : ByteArray := prog_3_method_13_code
def yX1_digitAt : MethodName := ⟨RX1, "digitAt", "(I)Z"⟩
abbrev cX1_advance : ByteArray := prog_3_method_14_code
def yX1_advance : MethodName := ⟨RX1, "advance", "()V"⟩
abbrev cX1_advanceWord : ByteArray := prog_3_method_15_code
def yX1_advanceWord : MethodName := ⟨RX1, "advanceWord", "()V"⟩
abbrev cX1_wordIs : ByteArray := prog_3_method_16_code
def yX1_wordIs : MethodName := ⟨RX1, "wordIs", "(Ljava/lang/String;)Z"⟩
abbrev cX1_advanceNumber : ByteArray := prog_3_method_17_code
def yX1_advanceNumber : MethodName := ⟨RX1, "advanceNumber", "()V"⟩
def RX2 : String := "FlueStack$Scheme"
def TX2 : u_T := fun k => match k with
  | 0 => ("FlueStack$Scheme", "columns", "[[I", true)
  | 1 => ("FlueStack$Scheme", "markCourses", "[I", true)
  | 2 => ("FlueStack$Scheme", "markColumns", "[I", true)
  | _ => ("FlueStack$Scheme", "marks", "I", false)
def tyX2 : Nat → FieldType := fun k => match k with
  | 0 => .array (.array .int)
  | 1 => .array .int
  | 2 => .array .int
  | _ => .int
abbrev wsX20 : List Cond := u_ws RX2 TX2 4
theorem nmX2 : ∀ a, a < 4 → ∀ b, b < 4 → a ≠ b → (TX2 a).2.1 ≠ (TX2 b).2.1 := by decide +kernel
theorem tyX2_ok : ∀ k, k < 4 → parseFieldDescriptor (TX2 k).2.2.1 = some (tyX2 k) := by decide +kernel
abbrev cX2_init : ByteArray := prog_4_method_1_code
def yX2_init : MethodName := ⟨RX2, "<init>", "()V"⟩
abbrev cX2_copyFrom : ByteArray := prog_4_method_2_code
def yX2_copyFrom : MethodName := ⟨RX2, "copyFrom", "(LFlueStack$Scheme;)V"⟩
abbrev cX2_goStraightUp : ByteArray := prog_4_method_3_code
def yX2_goStraightUp : MethodName := ⟨RX2, "goStraightUp", "(LFlueStack$Wall;)V"⟩
abbrev cX2_leans : ByteArray := prog_4_method_4_code
def yX2_leans : MethodName := ⟨RX2, "leans", "(LFlueStack$Wall;I)I"⟩
abbrev cX2_bends : ByteArray := prog_4_method_5_code
def yX2_bends : MethodName := ⟨RX2, "bends", "(LFlueStack$Wall;I)I"⟩
abbrev cX2_coldCourses : ByteArray := prog_4_method_6_code
def yX2_coldCourses : MethodName := ⟨RX2, "coldCourses", "(LFlueStack$Wall;I)I"⟩
def RX3 : String := "FlueStack$Search"
def TX3 : u_T := fun k => match k with
  | 0 => ("FlueStack$Search", "known", "[[I", true)
  | 1 => ("FlueStack$Search", "open", "[I", true)
  | 2 => ("FlueStack$Search", "firsts", "[I", true)
  | 3 => ("FlueStack$Search", "starts", "[I", true)
  | 4 => ("FlueStack$Search", "given", "[[I", true)
  | 5 => ("FlueStack$Search", "fixed", "[Z", true)
  | 6 => ("FlueStack$Search", "last", "I", false)
  | _ => ("FlueStack$Search", "gap", "I", false)
def tyX3 : Nat → FieldType := fun k => match k with
  | 0 => .array (.array .int)
  | 1 => .array .int
  | 2 => .array .int
  | 3 => .array .int
  | 4 => .array (.array .int)
  | 5 => .array .boolean
  | 6 => .int
  | _ => .int
abbrev wsX30 : List Cond := u_ws RX3 TX3 8
theorem nmX3 : ∀ a, a < 8 → ∀ b, b < 8 → a ≠ b → (TX3 a).2.1 ≠ (TX3 b).2.1 := by decide +kernel
theorem tyX3_ok : ∀ k, k < 8 → parseFieldDescriptor (TX3 k).2.2.1 = some (tyX3 k) := by decide +kernel
abbrev cX3_init : ByteArray := prog_5_method_1_code
def yX3_init : MethodName := ⟨RX3, "<init>", "()V"⟩
abbrev cX3_prepare : ByteArray := prog_5_method_2_code
def yX3_prepare : MethodName := ⟨RX3, "prepare", "(LFlueStack$Wall;II)V"⟩
abbrev cX3_put : ByteArray := prog_5_method_3_code
def yX3_put : MethodName := ⟨RX3, "put", "(III)V"⟩
abbrev cX3_fix : ByteArray := prog_5_method_4_code
def yX3_fix : MethodName := ⟨RX3, "fix", "(ILFlueStack$Scheme;)V"⟩
abbrev cX3_forgetUpTo : ByteArray := prog_5_method_5_code
def yX3_forgetUpTo : MethodName := ⟨RX3, "forgetUpTo", "(I)V"⟩
abbrev cX3_succeeds : ByteArray := prog_5_method_6_code
def yX3_succeeds : MethodName := ⟨RX3, "succeeds", "()Z"⟩
abbrev cX3_breadth : ByteArray := prog_5_method_7_code
def yX3_breadth : MethodName := ⟨RX3, "breadth", "()I"⟩
abbrev cX3_leans : ByteArray := prog_5_method_8_code
def yX3_leans : MethodName := ⟨RX3, "leans", "()I"⟩
abbrev cX3_tell : ByteArray := prog_5_method_9_code
def yX3_tell : MethodName := ⟨RX3, "tell", "(LFlueStack$Scheme;)V"⟩
abbrev cX3_columnIn : ByteArray := prog_5_method_10_code
def yX3_columnIn : MethodName := ⟨RX3, "columnIn", "(II)I"⟩
abbrev cX3_restFrom : ByteArray := prog_5_method_11_code
def yX3_restFrom : MethodName := ⟨RX3, "restFrom", "(II)I"⟩
abbrev cX3_breadthOf : ByteArray := prog_5_method_12_code
def yX3_breadthOf : MethodName := ⟨RX3, "breadthOf", "(I)I"⟩
abbrev cX3_leastRest : ByteArray := prog_5_method_13_code
def yX3_leastRest : MethodName := ⟨RX3, "leastRest", "(IIII)I"⟩
abbrev cX3_restBy : ByteArray := prog_5_method_14_code
def yX3_restBy : MethodName := ⟨RX3, "restBy", "(III)I"⟩
abbrev cX3_lowest : ByteArray := prog_5_method_15_code
def yX3_lowest : MethodName := ⟨RX3, "lowest", "(III)I"⟩
abbrev cX3_highest : ByteArray := prog_5_method_16_code
def yX3_highest : MethodName := ⟨RX3, "highest", "(III)I"⟩
abbrev cX3_onlyOne : ByteArray := prog_5_method_17_code
def yX3_onlyOne : MethodName := ⟨RX3, "onlyOne", "(II)Z"⟩
abbrev cX3_onlyColumn : ByteArray := prog_5_method_18_code
def yX3_onlyColumn : MethodName := ⟨RX3, "onlyColumn", "(II)I"⟩
abbrev cX3_stands : ByteArray := prog_5_method_19_code
def yX3_stands : MethodName := ⟨RX3, "stands", "(III)Z"⟩
abbrev cX3_apart : ByteArray := prog_5_method_20_code
def yX3_apart : MethodName := ⟨RX3, "apart", "(IIIII)Z"⟩
abbrev cX3_lean : ByteArray := prog_5_method_21_code
def yX3_lean : MethodName := ⟨RX3, "lean", "(III)I"⟩
def RX4 : String := "FlueStack$Wall"
def TX4 : u_T := fun k => match k with
  | 0 => ("FlueStack$Wall", "width", "I", false)
  | 1 => ("FlueStack$Wall", "height", "I", false)
  | 2 => ("FlueStack$Wall", "cold", "I", false)
  | 3 => ("FlueStack$Wall", "hearths", "I", false)
  | 4 => ("FlueStack$Wall", "barred", "[I", true)
  | 5 => ("FlueStack$Wall", "courses", "[I", true)
  | 6 => ("FlueStack$Wall", "columns", "[I", true)
  | _ => ("FlueStack$Wall", "needs", "[I", true)
def tyX4 : Nat → FieldType := fun k => match k with
  | 0 => .int
  | 1 => .int
  | 2 => .int
  | 3 => .int
  | 4 => .array .int
  | 5 => .array .int
  | 6 => .array .int
  | _ => .array .int
abbrev wsX40 : List Cond := u_ws RX4 TX4 8
theorem nmX4 : ∀ a, a < 8 → ∀ b, b < 8 → a ≠ b → (TX4 a).2.1 ≠ (TX4 b).2.1 := by decide +kernel
theorem tyX4_ok : ∀ k, k < 8 → parseFieldDescriptor (TX4 k).2.2.1 = some (tyX4 k) := by decide +kernel
abbrev cX4_init : ByteArray := prog_6_method_1_code
def yX4_init : MethodName := ⟨RX4, "<init>", "()V"⟩
abbrev cX4_reset : ByteArray := prog_6_method_2_code
def yX4_reset : MethodName := ⟨RX4, "reset", "()V"⟩
abbrev cX4_copyFrom : ByteArray := prog_6_method_3_code
def yX4_copyFrom : MethodName := ⟨RX4, "copyFrom", "(LFlueStack$Wall;)V"⟩
abbrev cX4_hasCourse : ByteArray := prog_6_method_4_code
def yX4_hasCourse : MethodName := ⟨RX4, "hasCourse", "(I)Z"⟩
abbrev cX4_hasColumn : ByteArray := prog_6_method_5_code
def yX4_hasColumn : MethodName := ⟨RX4, "hasColumn", "(I)Z"⟩
abbrev cX4_hasBrick : ByteArray := prog_6_method_6_code
def yX4_hasBrick : MethodName := ⟨RX4, "hasBrick", "(II)Z"⟩
abbrev cX4_hasHearth : ByteArray := prog_6_method_7_code
def yX4_hasHearth : MethodName := ⟨RX4, "hasHearth", "(I)Z"⟩
abbrev cX4_isFree : ByteArray := prog_6_method_8_code
def yX4_isFree : MethodName := ⟨RX4, "isFree", "(II)Z"⟩
abbrev cX4_isCold : ByteArray := prog_6_method_9_code
def yX4_isCold : MethodName := ⟨RX4, "isCold", "(I)Z"⟩
abbrev cX4_reaches : ByteArray := prog_6_method_10_code
def yX4_reaches : MethodName := ⟨RX4, "reaches", "(IJ)Z"⟩
abbrev cX4_above : ByteArray := prog_6_method_11_code
def yX4_above : MethodName := ⟨RX4, "above", "(I)I"⟩
abbrev cX4_freeColumns : ByteArray := prog_6_method_12_code
def yX4_freeColumns : MethodName := ⟨RX4, "freeColumns", "(I)I"⟩
abbrev cX4_barredBricks : ByteArray := prog_6_method_13_code
def yX4_barredBricks : MethodName := ⟨RX4, "barredBricks", "()I"⟩
def RX5 : String := "FlueStack$Ways"
def TX5 : u_T := fun k => match k with
  | 0 => ("FlueStack$Ways", "open", "[I", true)
  | 1 => ("FlueStack$Ways", "numbers", "[J", true)
  | 2 => ("FlueStack$Ways", "higher", "[J", true)
  | 3 => ("FlueStack$Ways", "rests", "[I", true)
  | 4 => ("FlueStack$Ways", "width", "I", false)
  | 5 => ("FlueStack$Ways", "first", "I", false)
  | 6 => ("FlueStack$Ways", "last", "I", false)
  | 7 => ("FlueStack$Ways", "start", "I", false)
  | 8 => ("FlueStack$Ways", "path", "[I", true)
  | 9 => ("FlueStack$Ways", "bends", "I", false)
  | _ => ("FlueStack$Ways", "leans", "I", false)
def tyX5 : Nat → FieldType := fun k => match k with
  | 0 => .array .int
  | 1 => .array .long
  | 2 => .array .long
  | 3 => .array .int
  | 4 => .int
  | 5 => .int
  | 6 => .int
  | 7 => .int
  | 8 => .array .int
  | 9 => .int
  | _ => .int
abbrev wsX50 : List Cond := u_ws RX5 TX5 11
theorem nmX5 : ∀ a, a < 11 → ∀ b, b < 11 → a ≠ b → (TX5 a).2.1 ≠ (TX5 b).2.1 := by decide +kernel
theorem tyX5_ok : ∀ k, k < 11 → parseFieldDescriptor (TX5 k).2.2.1 = some (tyX5 k) := by decide +kernel
abbrev cX5_init : ByteArray := prog_7_method_1_code
def yX5_init : MethodName := ⟨RX5, "<init>", "()V"⟩
abbrev cX5_prepare : ByteArray := prog_7_method_2_code
def yX5_prepare : MethodName := ⟨RX5, "prepare", "(LFlueStack$Wall;I)V"⟩
abbrev cX5_hear : ByteArray := prog_7_method_3_code
def yX5_hear : MethodName := ⟨RX5, "hear", "(LFlueStack$Scheme;)V"⟩
abbrev cX5_isOpen : ByteArray := prog_7_method_4_code
def yX5_isOpen : MethodName := ⟨RX5, "isOpen", "(II)Z"⟩
abbrev cX5_number : ByteArray := prog_7_method_5_code
def yX5_number : MethodName := ⟨RX5, "number", "()J"⟩
abbrev cX5_numberBelow : ByteArray := prog_7_method_6_code
def yX5_numberBelow : MethodName := ⟨RX5, "numberBelow", "(I)J"⟩
abbrev cX5_findFewestBends : ByteArray := prog_7_method_7_code
def yX5_findFewestBends : MethodName := ⟨RX5, "findFewestBends", "()Z"⟩
abbrev cX5_place : ByteArray := prog_7_method_8_code
def yX5_place : MethodName := ⟨RX5, "place", "(III)I"⟩
abbrev cX5_leastRest : ByteArray := prog_7_method_9_code
def yX5_leastRest : MethodName := ⟨RX5, "leastRest", "(III)I"⟩
abbrev cX5_restBy : ByteArray := prog_7_method_10_code
def yX5_restBy : MethodName := ⟨RX5, "restBy", "(IIII)I"⟩
abbrev cX5_walk : ByteArray := prog_7_method_11_code
def yX5_walk : MethodName := ⟨RX5, "walk", "()V"⟩
def RX6 : String := "FlueStack"
def TX6 : u_T := fun k => match k with
  | 0 => ("FlueStack", "text", "[B", true)
  | 1 => ("FlueStack", "textLength", "I", false)
  | 2 => ("FlueStack", "reader", "LFlueStack$Reader;", true)
  | 3 => ("FlueStack", "bricks", "LFlueStack$Wall;", true)
  | 4 => ("FlueStack", "draft", "LFlueStack$Wall;", true)
  | 5 => ("FlueStack", "tunes", "[I", true)
  | 6 => ("FlueStack", "winds", "[[I", true)
  | 7 => ("FlueStack", "scheme", "LFlueStack$Scheme;", true)
  | 8 => ("FlueStack", "judging", "LFlueStack$Judge;", true)
  | 9 => ("FlueStack", "firstImage", "LFlueStack$Scheme;", true)
  | 10 => ("FlueStack", "secondImage", "LFlueStack$Scheme;", true)
  | 11 => ("FlueStack", "kept", "[Z", true)
  | 12 => ("FlueStack", "ways", "LFlueStack$Ways;", true)
  | 13 => ("FlueStack", "search", "LFlueStack$Search;", true)
  | _ => ("FlueStack", "traced", "J", false)
def tyX6 : Nat → FieldType := fun k => match k with
  | 0 => .array .byte
  | 1 => .int
  | 2 => .object "FlueStack$Reader"
  | 3 => .object "FlueStack$Wall"
  | 4 => .object "FlueStack$Wall"
  | 5 => .array .int
  | 6 => .array (.array .int)
  | 7 => .object "FlueStack$Scheme"
  | 8 => .object "FlueStack$Judge"
  | 9 => .object "FlueStack$Scheme"
  | 10 => .object "FlueStack$Scheme"
  | 11 => .array .boolean
  | 12 => .object "FlueStack$Ways"
  | 13 => .object "FlueStack$Search"
  | _ => .long
abbrev wsX60 : List Cond := u_ws RX6 TX6 15
theorem nmX6 : ∀ a, a < 15 → ∀ b, b < 15 → a ≠ b → (TX6 a).2.1 ≠ (TX6 b).2.1 := by decide +kernel
theorem tyX6_ok : ∀ k, k < 15 → parseFieldDescriptor (TX6 k).2.2.1 = some (tyX6 k) := by decide +kernel
abbrev cX6_init : ByteArray := prog_1_method_1_code
def yX6_init : MethodName := ⟨RX6, "<init>", "()V"⟩
abbrev cX6_type : ByteArray := prog_1_method_2_code
def yX6_type : MethodName := ⟨RX6, "type", "(JI)I"⟩
abbrev cX6_clear : ByteArray := prog_1_method_3_code
def yX6_clear : MethodName := ⟨RX6, "clear", "()I"⟩
abbrev cX6_wall : ByteArray := prog_1_method_4_code
def yX6_wall : MethodName := ⟨RX6, "wall", "()I"⟩
abbrev cX6_brick : ByteArray := prog_1_method_5_code
def yX6_brick : MethodName := ⟨RX6, "brick", "(II)I"⟩
abbrev cX6_hearth : ByteArray := prog_1_method_6_code
def yX6_hearth : MethodName := ⟨RX6, "hearth", "(II)I"⟩
abbrev cX6_tune : ByteArray := prog_1_method_7_code
def yX6_tune : MethodName := ⟨RX6, "tune", "(II)I"⟩
abbrev cX6_wind : ByteArray := prog_1_method_8_code
def yX6_wind : MethodName := ⟨RX6, "wind", "(III)I"⟩
abbrev cX6_hasQuarter : ByteArray := prog_1_method_9_code
def yX6_hasQuarter : MethodName := ⟨RX6, "hasQuarter", "(I)Z"⟩
abbrev cX6_many : ByteArray := prog_1_method_10_code
def yX6_many : MethodName := ⟨RX6, "many", "(I)J"⟩
abbrev cX6_one : ByteArray := prog_1_method_11_code
def yX6_one : MethodName := ⟨RX6, "one", "(II)I"⟩
abbrev cX6_together : ByteArray := prog_1_method_12_code
def yX6_together : MethodName := ⟨RX6, "together", "(II)I"⟩
abbrev cX6_share : ByteArray := prog_1_method_13_code
def yX6_share : MethodName := ⟨RX6, "share", "(I)I"⟩
abbrev cX6_more : ByteArray := prog_1_method_14_code
def yX6_more : MethodName := ⟨RX6, "more", "(III)I"⟩
abbrev cX6_isSet : ByteArray := prog_1_method_15_code
def yX6_isSet : MethodName := ⟨RX6, "isSet", "(I)Z"⟩
abbrev cX6_placeBeside : ByteArray := prog_1_method_16_code
def yX6_placeBeside : MethodName := ⟨RX6, "placeBeside", "(I)I"⟩
abbrev cX6_putSet : ByteArray := prog_1_method_17_code
def yX6_putSet : MethodName := ⟨RX6, "putSet", "(I)V"⟩
abbrev cX6_sharedSet : ByteArray := prog_1_method_18_code
def yX6_sharedSet : MethodName := ⟨RX6, "sharedSet", "()I"⟩
abbrev cX6_take : ByteArray := prog_1_method_19_code
def yX6_take : MethodName := ⟨RX6, "take", "(I)I"⟩
abbrev cX6_way : ByteArray := prog_1_method_20_code
def yX6_way : MethodName := ⟨RX6, "way", "(II)I"⟩
abbrev cX6_turn : ByteArray := prog_1_method_21_code
def yX6_turn : MethodName := ⟨RX6, "turn", "(III)I"⟩
abbrev cX6_judge : ByteArray := prog_1_method_22_code
def yX6_judge : MethodName := ⟨RX6, "judge", "(I)I"⟩
abbrev cX6_plan : ByteArray := prog_1_method_23_code
def yX6_plan : MethodName := ⟨RX6, "plan", "(II)I"⟩
abbrev cX6_draw : ByteArray := prog_1_method_24_code
def yX6_draw : MethodName := ⟨RX6, "draw", "(II)I"⟩
abbrev cX6_smokes : ByteArray := prog_1_method_25_code
def yX6_smokes : MethodName := ⟨RX6, "smokes", "(III)I"⟩
abbrev cX6_mend : ByteArray := prog_1_method_26_code
def yX6_mend : MethodName := ⟨RX6, "mend", "(I)I"⟩
abbrev cX6_moved : ByteArray := prog_1_method_27_code
def yX6_moved : MethodName := ⟨RX6, "moved", "(II)I"⟩
abbrev cX6_doors : ByteArray := prog_1_method_28_code
def yX6_doors : MethodName := ⟨RX6, "doors", "(I)I"⟩
abbrev cX6_strength : ByteArray := prog_1_method_29_code
def yX6_strength : MethodName := ⟨RX6, "strength", "(II)I"⟩
abbrev cX6_wanted : ByteArray := prog_1_method_30_code
def yX6_wanted : MethodName := ⟨RX6, "wanted", "(III)I"⟩
abbrev cX6_fewestMoved : ByteArray := prog_1_method_31_code
def yX6_fewestMoved : MethodName := ⟨RX6, "fewestMoved", "(I)I"⟩
abbrev cX6_canMove : ByteArray := prog_1_method_32_code
def yX6_canMove : MethodName := ⟨RX6, "canMove", "(II)Z"⟩
abbrev cX6_mark : ByteArray := prog_1_method_33_code
def yX6_mark : MethodName := ⟨RX6, "mark", "(II)I"⟩
abbrev cX6_guess : ByteArray := prog_1_method_34_code
def yX6_guess : MethodName := ⟨RX6, "guess", "(I)J"⟩
abbrev cX6_rate : ByteArray := prog_1_method_35_code
def yX6_rate : MethodName := ⟨RX6, "rate", "(II)I"⟩
abbrev cX6_keep : ByteArray := prog_1_method_36_code
def yX6_keep : MethodName := ⟨RX6, "keep", "(I)I"⟩
abbrev cX6_back : ByteArray := prog_1_method_37_code
def yX6_back : MethodName := ⟨RX6, "back", "(I)I"⟩
abbrev cX6_count : ByteArray := prog_1_method_38_code
def yX6_count : MethodName := ⟨RX6, "count", "(I)I"⟩
abbrev cX6_trace : ByteArray := prog_1_method_39_code
def yX6_trace : MethodName := ⟨RX6, "trace", "()J"⟩
abbrev cX6_imageOf : ByteArray := prog_1_method_40_code
def yX6_imageOf : MethodName := ⟨RX6, "imageOf", "(I)LFlueStack$Scheme;"⟩
abbrev cX6_rateFlue : ByteArray := prog_1_method_41_code
def yX6_rateFlue : MethodName := ⟨RX6, "rateFlue", "(I)I"⟩
abbrev cX6_rateStraight : ByteArray := prog_1_method_42_code
def yX6_rateStraight : MethodName := ⟨RX6, "rateStraight", "(I)I"⟩
abbrev cX6_rateLean : ByteArray := prog_1_method_43_code
def yX6_rateLean : MethodName := ⟨RX6, "rateLean", "(I)I"⟩
abbrev cX6_rateGather : ByteArray := prog_1_method_44_code
def yX6_rateGather : MethodName := ⟨RX6, "rateGather", "(I)I"⟩
abbrev cX6_rateShared : ByteArray := prog_1_method_45_code
def yX6_rateShared : MethodName := ⟨RX6, "rateShared", "(I)I"⟩
abbrev cX6_rateOld : ByteArray := prog_1_method_46_code
def yX6_rateOld : MethodName := ⟨RX6, "rateOld", "(I)I"⟩
def RX7 : String := "FlueStackModel"
def TX7 : u_T := fun k => match k with
  | 0 => ("FlueStackModel", "trace", "J", false)
  | 1 => ("FlueStackModel", "text", "[B", true)
  | 2 => ("FlueStackModel", "typed", "I", false)
  | 3 => ("FlueStackModel", "wide", "[I", true)
  | 4 => ("FlueStackModel", "high", "[I", true)
  | 5 => ("FlueStackModel", "hearths", "[I", true)
  | 6 => ("FlueStackModel", "course", "[I", true)
  | 7 => ("FlueStackModel", "column", "[I", true)
  | 8 => ("FlueStackModel", "need", "[I", true)
  | 9 => ("FlueStackModel", "barred", "[I", true)
  | 10 => ("FlueStackModel", "cold", "[I", true)
  | 11 => ("FlueStackModel", "tune", "[I", true)
  | 12 => ("FlueStackModel", "winds", "[I", true)
  | 13 => ("FlueStackModel", "at", "I", false)
  | 14 => ("FlueStackModel", "start", "I", false)
  | 15 => ("FlueStackModel", "sort", "I", false)
  | 16 => ("FlueStackModel", "value", "I", false)
  | 17 => ("FlueStackModel", "fault", "I", false)
  | 18 => ("FlueStackModel", "ways", "[J", true)
  | 19 => ("FlueStackModel", "waysBelow", "[J", true)
  | 20 => ("FlueStackModel", "still", "[I", true)
  | 21 => ("FlueStackModel", "members", "I", false)
  | 22 => ("FlueStackModel", "from", "[I", true)
  | 23 => ("FlueStackModel", "first", "[I", true)
  | 24 => ("FlueStackModel", "keeps", "[I", true)
  | 25 => ("FlueStackModel", "alsoBarred", "I", false)
  | 26 => ("FlueStackModel", "lowest", "I", false)
  | 27 => ("FlueStackModel", "leans", "[I", true)
  | 28 => ("FlueStackModel", "share", "[I", true)
  | 29 => ("FlueStackModel", "best", "I", false)
  | 30 => ("FlueStackModel", "plan", "[I", true)
  | 31 => ("FlueStackModel", "marks", "[I", true)
  | 32 => ("FlueStackModel", "markCourse", "[I", true)
  | 33 => ("FlueStackModel", "markColumn", "[I", true)
  | _ => ("FlueStackModel", "isKept", "[Z", true)
def tyX7 : Nat → FieldType := fun k => match k with
  | 0 => .long
  | 1 => .array .byte
  | 2 => .int
  | 3 => .array .int
  | 4 => .array .int
  | 5 => .array .int
  | 6 => .array .int
  | 7 => .array .int
  | 8 => .array .int
  | 9 => .array .int
  | 10 => .array .int
  | 11 => .array .int
  | 12 => .array .int
  | 13 => .int
  | 14 => .int
  | 15 => .int
  | 16 => .int
  | 17 => .int
  | 18 => .array .long
  | 19 => .array .long
  | 20 => .array .int
  | 21 => .int
  | 22 => .array .int
  | 23 => .array .int
  | 24 => .array .int
  | 25 => .int
  | 26 => .int
  | 27 => .array .int
  | 28 => .array .int
  | 29 => .int
  | 30 => .array .int
  | 31 => .array .int
  | 32 => .array .int
  | 33 => .array .int
  | _ => .array .boolean
abbrev wsX70 : List Cond := u_ws RX7 TX7 35
theorem nmX7 : ∀ a, a < 35 → ∀ b, b < 35 → a ≠ b → (TX7 a).2.1 ≠ (TX7 b).2.1 := by decide +kernel
theorem tyX7_ok : ∀ k, k < 35 → parseFieldDescriptor (TX7 k).2.2.1 = some (tyX7 k) := by decide +kernel
abbrev cX7_init : ByteArray := prog_9_method_1_code
def yX7_init : MethodName := ⟨RX7, "<init>", "()V"⟩
abbrev cX7_in : ByteArray := prog_9_method_3_code
def yX7_in : MethodName := ⟨RX7, "in", "(III)Z"⟩
abbrev cX7_type : ByteArray := prog_9_method_4_code
def yX7_type : MethodName := ⟨RX7, "type", "(JI)I"⟩
abbrev cX7_clear : ByteArray := prog_9_method_5_code
def yX7_clear : MethodName := ⟨RX7, "clear", "()I"⟩
abbrev cX7_here : ByteArray := prog_9_method_6_code
def yX7_here : MethodName := ⟨RX7, "here", "()I"⟩
abbrev cX7_next : ByteArray := prog_9_method_7_code
def yX7_next : MethodName := ⟨RX7, "next", "()V"⟩
abbrev cX7_due : ByteArray := prog_9_method_8_code
def yX7_due : MethodName := ⟨RX7, "due", "(Z)I"⟩
abbrev cX7_number : ByteArray := prog_9_method_9_code
def yX7_number : MethodName := ⟨RX7, "number", "(II)I"⟩
abbrev cX7_span : ByteArray := prog_9_method_10_code
def yX7_span : MethodName := ⟨RX7, "span", "()I"⟩
abbrev cX7_item : ByteArray := prog_9_method_11_code
def yX7_item : MethodName := ⟨RX7, "item", "(II)V"⟩
abbrev cX7_wall : ByteArray := prog_9_method_12_code
def yX7_wall : MethodName := ⟨RX7, "wall", "()I"⟩
abbrev cX7_isIn : ByteArray := prog_9_method_13_code
def yX7_isIn : MethodName := ⟨RX7, "isIn", "(I)Z"⟩
abbrev cX7_isCourse : ByteArray := prog_9_method_14_code
def yX7_isCourse : MethodName := ⟨RX7, "isCourse", "(I)Z"⟩
abbrev cX7_isHearth : ByteArray := prog_9_method_15_code
def yX7_isHearth : MethodName := ⟨RX7, "isHearth", "(I)Z"⟩
abbrev cX7_isBarred : ByteArray := prog_9_method_16_code
def yX7_isBarred : MethodName := ⟨RX7, "isBarred", "(II)Z"⟩
abbrev cX7_isCold : ByteArray := prog_9_method_17_code
def yX7_isCold : MethodName := ⟨RX7, "isCold", "(I)Z"⟩
abbrev cX7_brick : ByteArray := prog_9_method_18_code
def yX7_brick : MethodName := ⟨RX7, "brick", "(II)I"⟩
abbrev cX7_hearth : ByteArray := prog_9_method_19_code
def yX7_hearth : MethodName := ⟨RX7, "hearth", "(II)I"⟩
abbrev cX7_tune : ByteArray := prog_9_method_20_code
def yX7_tune : MethodName := ⟨RX7, "tune", "(II)I"⟩
abbrev cX7_wind : ByteArray := prog_9_method_21_code
def yX7_wind : MethodName := ⟨RX7, "wind", "(III)I"⟩
abbrev cX7_isMarked : ByteArray := prog_9_method_22_code
def yX7_isMarked : MethodName := ⟨RX7, "isMarked", "(IIZ)Z"⟩
abbrev cX7_countWays : ByteArray := prog_9_method_23_code
def yX7_countWays : MethodName := ⟨RX7, "countWays", "(IZ)J"⟩
abbrev cX7_many : ByteArray := prog_9_method_24_code
def yX7_many : MethodName := ⟨RX7, "many", "(I)J"⟩
abbrev cX7_guess : ByteArray := prog_9_method_25_code
def yX7_guess : MethodName := ⟨RX7, "guess", "(I)J"⟩
abbrev cX7_stillAt : ByteArray := prog_9_method_26_code
def yX7_stillAt : MethodName := ⟨RX7, "stillAt", "(III)I"⟩
abbrev cX7_byStep : ByteArray := prog_9_method_27_code
def yX7_byStep : MethodName := ⟨RX7, "byStep", "(IIII)I"⟩
abbrev cX7_leastOne : ByteArray := prog_9_method_28_code
def yX7_leastOne : MethodName := ⟨RX7, "leastOne", "(I)I"⟩
abbrev cX7_one : ByteArray := prog_9_method_29_code
def yX7_one : MethodName := ⟨RX7, "one", "(II)I"⟩
abbrev cX7_add : ByteArray := prog_9_method_30_code
def yX7_add : MethodName := ⟨RX7, "add", "(III)V"⟩
abbrev cX7_gather : ByteArray := prog_9_method_31_code
def yX7_gather : MethodName := ⟨RX7, "gather", "(I)V"⟩
abbrev cX7_placeIn : ByteArray := prog_9_method_32_code
def yX7_placeIn : MethodName := ⟨RX7, "placeIn", "(II)I"⟩
abbrev cX7_mayBe : ByteArray := prog_9_method_33_code
def yX7_mayBe : MethodName := ⟨RX7, "mayBe", "(III)Z"⟩
abbrev cX7_isSpot : ByteArray := prog_9_method_34_code
def yX7_isSpot : MethodName := ⟨RX7, "isSpot", "(II)Z"⟩
abbrev cX7_breadthOf : ByteArray := prog_9_method_35_code
def yX7_breadthOf : MethodName := ⟨RX7, "breadthOf", "(I)I"⟩
abbrev cX7_leansTo : ByteArray := prog_9_method_36_code
def yX7_leansTo : MethodName := ⟨RX7, "leansTo", "(III)I"⟩
abbrev cX7_spots : ByteArray := prog_9_method_37_code
def yX7_spots : MethodName := ⟨RX7, "spots", "()I"⟩
abbrev cX7_firstOf : ByteArray := prog_9_method_38_code
def yX7_firstOf : MethodName := ⟨RX7, "firstOf", "(III)I"⟩
abbrev cX7_lastOf : ByteArray := prog_9_method_39_code
def yX7_lastOf : MethodName := ⟨RX7, "lastOf", "(III)I"⟩
abbrev cX7_leastNext : ByteArray := prog_9_method_40_code
def yX7_leastNext : MethodName := ⟨RX7, "leastNext", "(II)I"⟩
abbrev cX7_firstSpot : ByteArray := prog_9_method_41_code
def yX7_firstSpot : MethodName := ⟨RX7, "firstSpot", "()I"⟩
abbrev cX7_goBroad : ByteArray := prog_9_method_42_code
def yX7_goBroad : MethodName := ⟨RX7, "goBroad", "(I)I"⟩
abbrev cX7_goTogether : ByteArray := prog_9_method_43_code
def yX7_goTogether : MethodName := ⟨RX7, "goTogether", "()I"⟩
abbrev cX7_isSet : ByteArray := prog_9_method_44_code
def yX7_isSet : MethodName := ⟨RX7, "isSet", "(I)Z"⟩
abbrev cX7_together : ByteArray := prog_9_method_45_code
def yX7_together : MethodName := ⟨RX7, "together", "(II)I"⟩
abbrev cX7_bitsIn : ByteArray := prog_9_method_46_code
def yX7_bitsIn : MethodName := ⟨RX7, "bitsIn", "(I)I"⟩
abbrev cX7_share : ByteArray := prog_9_method_47_code
def yX7_share : MethodName := ⟨RX7, "share", "(I)I"⟩
abbrev cX7_more : ByteArray := prog_9_method_48_code
def yX7_more : MethodName := ⟨RX7, "more", "(III)I"⟩
abbrev cX7_take : ByteArray := prog_9_method_49_code
def yX7_take : MethodName := ⟨RX7, "take", "(I)I"⟩
abbrev cX7_way : ByteArray := prog_9_method_50_code
def yX7_way : MethodName := ⟨RX7, "way", "(II)I"⟩
abbrev cX7_turn : ByteArray := prog_9_method_51_code
def yX7_turn : MethodName := ⟨RX7, "turn", "(III)I"⟩
abbrev cX7_troubleAt : ByteArray := prog_9_method_52_code
def yX7_troubleAt : MethodName := ⟨RX7, "troubleAt", "(II)I"⟩
abbrev cX7_judge : ByteArray := prog_9_method_53_code
def yX7_judge : MethodName := ⟨RX7, "judge", "(I)I"⟩
abbrev cX7_stepInto : ByteArray := prog_9_method_54_code
def yX7_stepInto : MethodName := ⟨RX7, "stepInto", "(II)I"⟩
abbrev cX7_bendsOf : ByteArray := prog_9_method_55_code
def yX7_bendsOf : MethodName := ⟨RX7, "bendsOf", "(I)I"⟩
abbrev cX7_leansOf : ByteArray := prog_9_method_56_code
def yX7_leansOf : MethodName := ⟨RX7, "leansOf", "(I)I"⟩
abbrev cX7_coldOf : ByteArray := prog_9_method_57_code
def yX7_coldOf : MethodName := ⟨RX7, "coldOf", "(I)I"⟩
abbrev cX7_plan : ByteArray := prog_9_method_58_code
def yX7_plan : MethodName := ⟨RX7, "plan", "(II)I"⟩
abbrev cX7_drawOf : ByteArray := prog_9_method_59_code
def yX7_drawOf : MethodName := ⟨RX7, "drawOf", "(II)I"⟩
abbrev cX7_draw : ByteArray := prog_9_method_60_code
def yX7_draw : MethodName := ⟨RX7, "draw", "(II)I"⟩
abbrev cX7_smokes : ByteArray := prog_9_method_61_code
def yX7_smokes : MethodName := ⟨RX7, "smokes", "(III)I"⟩
abbrev cX7_mend : ByteArray := prog_9_method_62_code
def yX7_mend : MethodName := ⟨RX7, "mend", "(I)I"⟩
abbrev cX7_moved : ByteArray := prog_9_method_63_code
def yX7_moved : MethodName := ⟨RX7, "moved", "(II)I"⟩
abbrev cX7_isWellWith : ByteArray := prog_9_method_64_code
def yX7_isWellWith : MethodName := ⟨RX7, "isWellWith", "(II)Z"⟩
abbrev cX7_mark : ByteArray := prog_9_method_65_code
def yX7_mark : MethodName := ⟨RX7, "mark", "(II)I"⟩
abbrev cX7_rate : ByteArray := prog_9_method_66_code
def yX7_rate : MethodName := ⟨RX7, "rate", "(II)I"⟩
abbrev cX7_copy : ByteArray := prog_9_method_67_code
def yX7_copy : MethodName := ⟨RX7, "copy", "(II)V"⟩
abbrev cX7_keep : ByteArray := prog_9_method_68_code
def yX7_keep : MethodName := ⟨RX7, "keep", "(I)I"⟩
abbrev cX7_back : ByteArray := prog_9_method_69_code
def yX7_back : MethodName := ⟨RX7, "back", "(I)I"⟩
abbrev cX7_count : ByteArray := prog_9_method_70_code
def yX7_count : MethodName := ⟨RX7, "count", "(I)I"⟩
abbrev cX7_trace : ByteArray := prog_9_method_71_code
def yX7_trace : MethodName := ⟨RX7, "trace", "()J"⟩
def RJx145de : String := "java/io/Serializable"
def TJx145de : u_T := fun k => match k with
  | _ => ("", "", "", false)
def tyJx145de : Nat → FieldType := fun k => match k with
  | _ => .int
theorem nmJx145de : ∀ a, a < 0 → ∀ b, b < 0 → a ≠ b → (TJx145de a).2.1 ≠ (TJx145de b).2.1 := by decide +kernel
theorem tyJx145de_ok : ∀ k, k < 0 → parseFieldDescriptor (TJx145de k).2.2.1 = some (tyJx145de k) := by decide +kernel
def RJx9f9b0 : String := "java/lang/CharSequence"
def TJx9f9b0 : u_T := fun k => match k with
  | _ => ("", "", "", false)
def tyJx9f9b0 : Nat → FieldType := fun k => match k with
  | _ => .int
theorem nmJx9f9b0 : ∀ a, a < 0 → ∀ b, b < 0 → a ≠ b → (TJx9f9b0 a).2.1 ≠ (TJx9f9b0 b).2.1 := by decide +kernel
theorem tyJx9f9b0_ok : ∀ k, k < 0 → parseFieldDescriptor (TJx9f9b0 k).2.2.1 = some (tyJx9f9b0 k) := by decide +kernel
def RJxb160c : String := "java/lang/Comparable"
def TJxb160c : u_T := fun k => match k with
  | _ => ("", "", "", false)
def tyJxb160c : Nat → FieldType := fun k => match k with
  | _ => .int
theorem nmJxb160c : ∀ a, a < 0 → ∀ b, b < 0 → a ≠ b → (TJxb160c a).2.1 ≠ (TJxb160c b).2.1 := by decide +kernel
theorem tyJxb160c_ok : ∀ k, k < 0 → parseFieldDescriptor (TJxb160c k).2.2.1 = some (tyJxb160c k) := by decide +kernel
def RJ6 : String := "java/lang/Integer"
def TJ6 : u_T := fun k => match k with
  | _ => ("", "", "", false)
def tyJ6 : Nat → FieldType := fun k => match k with
  | _ => .int
theorem nmJ6 : ∀ a, a < 0 → ∀ b, b < 0 → a ≠ b → (TJ6 a).2.1 ≠ (TJ6 b).2.1 := by decide +kernel
theorem tyJ6_ok : ∀ k, k < 0 → parseFieldDescriptor (TJ6 k).2.2.1 = some (tyJ6 k) := by decide +kernel
abbrev cJ6_bitCount_0f7a4 : ByteArray := prog_10_method_49_code
def yJ6_bitCount_0f7a4 : MethodName := ⟨RJ6, "bitCount", "(I)I"⟩
def RJ9 : String := "java/lang/Math"
def TJ9 : u_T := fun k => match k with
  | _ => ("", "", "", false)
def tyJ9 : Nat → FieldType := fun k => match k with
  | _ => .int
theorem nmJ9 : ∀ a, a < 0 → ∀ b, b < 0 → a ≠ b → (TJ9 a).2.1 ≠ (TJ9 b).2.1 := by decide +kernel
theorem tyJ9_ok : ∀ k, k < 0 → parseFieldDescriptor (TJ9 k).2.2.1 = some (tyJ9 k) := by decide +kernel
abbrev cJ9_abs_0f7a4 : ByteArray := prog_11_method_59_code
def yJ9_abs_0f7a4 : MethodName := ⟨RJ9, "abs", "(I)I"⟩
abbrev cJ9_max_7cf53 : ByteArray := prog_11_method_65_code
def yJ9_max_7cf53 : MethodName := ⟨RJ9, "max", "(II)I"⟩
abbrev cJ9_min_7cf53 : ByteArray := prog_11_method_69_code
def yJ9_min_7cf53 : MethodName := ⟨RJ9, "min", "(II)I"⟩
def RJ0 : String := "java/lang/String"
def TJ0 : u_T := fun k => match k with
  | _ => ("", "", "", false)
def tyJ0 : Nat → FieldType := fun k => match k with
  | _ => .int
theorem nmJ0 : ∀ a, a < 0 → ∀ b, b < 0 → a ≠ b → (TJ0 a).2.1 ≠ (TJ0 b).2.1 := by decide +kernel
theorem tyJ0_ok : ∀ k, k < 0 → parseFieldDescriptor (TJ0 k).2.2.1 = some (tyJ0 k) := by decide +kernel
abbrev cJ0_length_8abf5 : ByteArray := prog_12_method_54_code
def yJ0_length_8abf5 : MethodName := ⟨RJ0, "length", "()I"⟩
abbrev cJ0_charAt_5068e : ByteArray := prog_12_method_56_code
def yJ0_charAt_5068e : MethodName := ⟨RJ0, "charAt", "(I)C"⟩
abbrev cJ0_coder_7d493 : ByteArray := prog_12_method_152_code
def yJ0_coder_7d493 : MethodName := ⟨RJ0, "coder", "()B"⟩
abbrev cJ0_isLatin1_aae02 : ByteArray := prog_12_method_154_code
def yJ0_isLatin1_aae02 : MethodName := ⟨RJ0, "isLatin1", "()Z"⟩
abbrev cJ0_checkIndex_df160 : ByteArray := prog_12_method_155_code
def yJ0_checkIndex_df160 : MethodName := ⟨RJ0, "checkIndex", "(II)V"⟩
def RJ1 : String := "java/lang/StringLatin1"
def TJ1 : u_T := fun k => match k with
  | _ => ("", "", "", false)
def tyJ1 : Nat → FieldType := fun k => match k with
  | _ => .int
theorem nmJ1 : ∀ a, a < 0 → ∀ b, b < 0 → a ≠ b → (TJ1 a).2.1 ≠ (TJ1 b).2.1 := by decide +kernel
theorem tyJ1_ok : ∀ k, k < 0 → parseFieldDescriptor (TJ1 k).2.2.1 = some (tyJ1 k) := by decide +kernel
abbrev cJ1_charAt_3b067 : ByteArray := prog_13_method_2_code
def yJ1_charAt_3b067 : MethodName := ⟨RJ1, "charAt", "([BI)C"⟩
def RJ2 : String := "java/lang/StringUTF16"
def TJ2 : u_T := fun k => match k with
  | _ => ("", "", "", false)
def tyJ2 : Nat → FieldType := fun k => match k with
  | _ => .int
theorem nmJ2 : ∀ a, a < 0 → ∀ b, b < 0 → a ≠ b → (TJ2 a).2.1 ≠ (TJ2 b).2.1 := by decide +kernel
theorem tyJ2_ok : ∀ k, k < 0 → parseFieldDescriptor (TJ2 k).2.2.1 = some (tyJ2 k) := by decide +kernel
abbrev cJ2_getChar_3b067 : ByteArray := prog_14_method_5_code
def yJ2_getChar_3b067 : MethodName := ⟨RJ2, "getChar", "([BI)C"⟩
abbrev cJ2_length_9d52b : ByteArray := prog_14_method_6_code
def yJ2_length_9d52b : MethodName := ⟨RJ2, "length", "([B)I"⟩
abbrev cJ2_charAt_3b067 : ByteArray := prog_14_method_83_code
def yJ2_charAt_3b067 : MethodName := ⟨RJ2, "charAt", "([BI)C"⟩
abbrev cJ2_checkIndex_2214a : ByteArray := prog_14_method_91_code
def yJ2_checkIndex_2214a : MethodName := ⟨RJ2, "checkIndex", "(I[B)V"⟩
def RJ10 : String := "java/lang/System"
def TJ10 : u_T := fun k => match k with
  | _ => ("", "", "", false)
def tyJ10 : Nat → FieldType := fun k => match k with
  | _ => .int
theorem nmJ10 : ∀ a, a < 0 → ∀ b, b < 0 → a ≠ b → (TJ10 a).2.1 ≠ (TJ10 b).2.1 := by decide +kernel
theorem tyJ10_ok : ∀ k, k < 0 → parseFieldDescriptor (TJ10 k).2.2.1 = some (tyJ10 k) := by decide +kernel
def RJxfd54e : String := "java/lang/constant/Constable"
def TJxfd54e : u_T := fun k => match k with
  | _ => ("", "", "", false)
def tyJxfd54e : Nat → FieldType := fun k => match k with
  | _ => .int
theorem nmJxfd54e : ∀ a, a < 0 → ∀ b, b < 0 → a ≠ b → (TJxfd54e a).2.1 ≠ (TJxfd54e b).2.1 := by decide +kernel
theorem tyJxfd54e_ok : ∀ k, k < 0 → parseFieldDescriptor (TJxfd54e k).2.2.1 = some (tyJxfd54e k) := by decide +kernel
def RJx3cf43 : String := "java/lang/constant/ConstantDesc"
def TJx3cf43 : u_T := fun k => match k with
  | _ => ("", "", "", false)
def tyJx3cf43 : Nat → FieldType := fun k => match k with
  | _ => .int
theorem nmJx3cf43 : ∀ a, a < 0 → ∀ b, b < 0 → a ≠ b → (TJx3cf43 a).2.1 ≠ (TJx3cf43 b).2.1 := by decide +kernel
theorem tyJx3cf43_ok : ∀ k, k < 0 → parseFieldDescriptor (TJx3cf43 k).2.2.1 = some (tyJx3cf43 k) := by decide +kernel
def RJ7 : String := "java/util/Arrays"
def TJ7 : u_T := fun k => match k with
  | _ => ("", "", "", false)
def tyJ7 : Nat → FieldType := fun k => match k with
  | _ => .int
theorem nmJ7 : ∀ a, a < 0 → ∀ b, b < 0 → a ≠ b → (TJ7 a).2.1 ≠ (TJ7 b).2.1 := by decide +kernel
theorem tyJ7_ok : ∀ k, k < 0 → parseFieldDescriptor (TJ7 k).2.2.1 = some (tyJ7 k) := by decide +kernel
abbrev cJ7_fill_d0a16 : ByteArray := prog_16_method_101_code
def yJ7_fill_d0a16 : MethodName := ⟨RJ7, "fill", "([JJ)V"⟩
abbrev cJ7_fill_53178 : ByteArray := prog_16_method_103_code
def yJ7_fill_53178 : MethodName := ⟨RJ7, "fill", "([II)V"⟩
def RJ3 : String := "jdk/internal/util/Preconditions"
def TJ3 : u_T := fun k => match k with
  | _ => ("", "", "", false)
def tyJ3 : Nat → FieldType := fun k => match k with
  | _ => .int
theorem nmJ3 : ∀ a, a < 0 → ∀ b, b < 0 → a ≠ b → (TJ3 a).2.1 ≠ (TJ3 b).2.1 := by decide +kernel
theorem tyJ3_ok : ∀ k, k < 0 → parseFieldDescriptor (TJ3 k).2.2.1 = some (tyJ3 k) := by decide +kernel
abbrev cJ3_checkIndex_8e157 : ByteArray := prog_17_method_11_code
def yJ3_checkIndex_8e157 : MethodName := ⟨RJ3, "checkIndex", "(IILjava/util/function/BiFunction;)I"⟩
def RL : String := "FlueStackLaw"
abbrev cL_law : ByteArray := code
def yL_law : MethodName := ⟨RL, "law", "([I)Z"⟩
abbrev vwCl : List vw_C := [(RX0, TX0, 3), (RX1, TX1, 6), (RX2, TX2, 4), (RX3, TX3, 8), (RX4, TX4, 8), (RX5, TX5, 11), (RX6, TX6, 15), (RX7, TX7, 35)]
end
section
/-! the words that hold: those of the tables that a callee keeps -/
def TB : List Cond := lw_tbl.filter goodWord
theorem tb_mem {w : Cond} (h : w ∈ lw_tbl) (hg : goodWord w = true) : w ∈ TB := List.mem_filter.mpr ⟨h, hg⟩
theorem tb_sel (i : Nat) {w : Cond} (h : (k2_sels lw_privs)[i]? = some w) (hg : goodWord w = true) : w ∈ TB := tb_mem (List.mem_append_left _ (List.mem_of_getElem? h)) hg
theorem tb1 (i : Nat) {w : Cond} (h : tables_1_1[i]? = some w) (hg : goodWord w = true) : w ∈ TB := tb_mem (List.mem_append_right _ (List.mem_append_left _ (List.mem_of_getElem? h))) hg
theorem tb2 (i : Nat) {w : Cond} (h : tables_1_2[i]? = some w) (hg : goodWord w = true) : w ∈ TB := tb_mem (List.mem_append_right _ (List.mem_append_right _ (List.mem_append_left _ (List.mem_of_getElem? h)))) hg
theorem tb3 (i : Nat) {w : Cond} (h : tables_1_3[i]? = some w) (hg : goodWord w = true) : w ∈ TB := tb_mem (List.mem_append_right _ (List.mem_append_right _ (List.mem_append_right _ (List.mem_append_left _ (List.mem_of_getElem? h))))) hg
theorem tb4 (i : Nat) {w : Cond} (h : tables_1_4[i]? = some w) (hg : goodWord w = true) : w ∈ TB := tb_mem (List.mem_append_right _ (List.mem_append_right _ (List.mem_append_right _ (List.mem_append_right _ (List.mem_append_left _ (List.mem_of_getElem? h)))))) hg
theorem tb5 (i : Nat) {w : Cond} (h : tables_1_5[i]? = some w) (hg : goodWord w = true) : w ∈ TB := tb_mem (List.mem_append_right _ (List.mem_append_right _ (List.mem_append_right _ (List.mem_append_right _ (List.mem_append_right _ (List.mem_append_left _ (List.mem_of_getElem? h))))))) hg
theorem tb6 (i : Nat) {w : Cond} (h : tables_1_6[i]? = some w) (hg : goodWord w = true) : w ∈ TB := tb_mem (List.mem_append_right _ (List.mem_append_right _ (List.mem_append_right _ (List.mem_append_right _ (List.mem_append_right _ (List.mem_append_right _ (List.mem_of_getElem? h))))))) hg
theorem tb_good {w : Cond} (h : w ∈ TB) : (w.onTables && w.keeps) = true ∨ ∃ ty, w = .arrayClass ty := good_of_word (List.mem_filter.mp h).2
theorem tb_in {ws : List Cond} (h : ∀ w ∈ ws, w ∈ TB) : GoodIn TB ws := fun w hw => ⟨h w hw, tb_good (h w hw)⟩
theorem tb_tbl {w : Cond} (h : w ∈ TB) : w ∈ lw_tbl := (List.mem_filter.mp h).1
/-! the world: one object of the class and one of the reference, each cell by its number; St: what the cells hold -/
abbrev St : Type := (Nat → Nat → Int32) × (Nat → Nat → Int64)
abbrev RV : Type := Option (Int32 ⊕ (Int64 ⊕ Nat))
def rvv (ad : Nat → Nat) : RV → Option Value
  | none => none
  | some (.inl x) => some (.int x)
  | some (.inr (.inl x)) => some (.long x)
  | some (.inr (.inr k)) => some (.ref (ad k))
def wSl : List (Nat × Nat) := [(6, 0), (8, 300), (1, 0), (8, 0), (4, 0), (9, 16), (9, 3), (9, 3), (9, 3), (4, 0), (9, 16), (9, 3), (9, 3), (9, 3), (9, 6), (12, 4), (9, 10), (9, 10), (9, 10), (9, 10), (2, 0), (12, 3), (9, 16), (9, 16), (9, 16), (9, 6), (9, 6), (0, 0), (2, 0), (12, 3), (9, 16), (9, 16), (9, 16), (9, 6), (9, 6), (2, 0), (12, 3), (9, 16), (9, 16), (9, 16), (9, 6), (9, 6), (11, 2), (5, 0), (9, 16), (10, 10), (10, 10), (9, 640), (9, 16), (3, 0), (12, 16), (9, 1000), (9, 1000), (9, 1000), (9, 1000), (9, 1000), (9, 1000), (9, 1000), (9, 1000), (9, 1000), (9, 1000), (9, 1000), (9, 1000), (9, 1000), (9, 1000), (9, 1000), (9, 1000), (9, 16), (9, 3), (9, 3), (12, 3), (9, 16), (9, 16), (9, 16), (11, 3), (7, 0), (8, 300), (9, 2), (9, 2), (9, 2), (9, 6), (9, 6), (9, 6), (9, 32), (9, 2), (9, 6), (9, 40), (10, 10), (10, 10), (9, 640), (9, 3), (9, 3), (9, 3), (9, 16000), (9, 3), (9, 144), (9, 3), (9, 18), (9, 18), (11, 2)]
def wS (k : Nat) : Nat × Nat := wSl.getD k (99, 0)
def wE (cy : Nat → ClassId) (ad : Nat → Nat) (σ : St) (k : Nat) : va_E := match wS k with
  | (0, _) => .inr (0, [.int (σ.1 k 0), .int (σ.1 k 1), .int (σ.1 k 2)])
  | (1, _) => .inr (1, [.ref (ad (if σ.1 k 0 = 1 then 1 else 3)), .int (σ.1 k 1), .int (σ.1 k 2), .int (σ.1 k 3), .int (σ.1 k 4), .int (σ.1 k 5)])
  | (2, _) => .inr (2, [.ref (ad (k + 1)), .ref (ad (k + 5)), .ref (ad (k + 6)), .int (σ.1 k 3)])
  | (3, _) => .inr (3, [.ref (ad (k + 1)), .ref (ad (k + 18)), .ref (ad (k + 19)), .ref (ad (k + 20)), .ref (ad (k + 21)), .ref (ad (k + 25)), .int (σ.1 k 6), .int (σ.1 k 7)])
  | (4, _) => .inr (4, [.int (σ.1 k 0), .int (σ.1 k 1), .int (σ.1 k 2), .int (σ.1 k 3), .ref (ad (k + 1)), .ref (ad (k + 2)), .ref (ad (k + 3)), .ref (ad (k + 4))])
  | (5, _) => .inr (5, [.ref (ad (k + 1)), .ref (ad (k + 2)), .ref (ad (k + 3)), .ref (ad (k + 4)), .int (σ.1 k 4), .int (σ.1 k 5), .int (σ.1 k 6), .int (σ.1 k 7), .ref (ad (k + 5)), .int (σ.1 k 9), .int (σ.1 k 10)])
  | (6, _) => .inr (6, [.ref (ad (k + 1)), .int (σ.1 k 1), .ref (ad (k + 2)), .ref (ad (k + 4)), .ref (ad (k + 9)), .ref (ad (k + 14)), .ref (ad (k + 15)), .ref (ad (k + 20)), .ref (ad (k + 27)), .ref (ad (k + 28)), .ref (ad (k + 35)), .ref (ad (k + 42)), .ref (ad (k + 43)), .ref (ad (k + 49)), .long (σ.2 k 14)])
  | (7, _) => .inr (7, [.long (σ.2 k 0), .ref (ad (k + 1)), .int (σ.1 k 2), .ref (ad (k + 2)), .ref (ad (k + 3)), .ref (ad (k + 4)), .ref (ad (k + 5)), .ref (ad (k + 6)), .ref (ad (k + 7)), .ref (ad (k + 8)), .ref (ad (k + 9)), .ref (ad (k + 10)), .ref (ad (k + 11)), .int (σ.1 k 13), .int (σ.1 k 14), .int (σ.1 k 15), .int (σ.1 k 16), .int (σ.1 k 17), .ref (ad (k + 12)), .ref (ad (k + 13)), .ref (ad (k + 14)), .int (σ.1 k 21), .ref (ad (k + 15)), .ref (ad (k + 16)), .ref (ad (k + 17)), .int (σ.1 k 25), .int (σ.1 k 26), .ref (ad (k + 18)), .ref (ad (k + 19)), .int (σ.1 k 29), .ref (ad (k + 20)), .ref (ad (k + 21)), .ref (ad (k + 22)), .ref (ad (k + 23)), .ref (ad (k + 24))])
  | (8, n) => .inl (cy 0, n, .inl (σ.1 k))
  | (9, n) => .inl (cy 1, n, .inl (σ.1 k))
  | (10, n) => .inl (cy 2, n, .inr (.inl (σ.2 k)))
  | (11, n) => .inl (cy 3, n, .inl (σ.1 k))
  | (12, n) => .inl (cy 4, n, .inr (.inr (.inr (.inr (fun j => if j < n then some (ad (k + 1 + j)) else none)))))
  | _ => .inr (99, [])
def wW (cy : Nat → ClassId) (ad : Nat → Nat) (σ : St) : va_W := (List.range 100).map (fun k => (ad k, wE cy ad σ k))
def wT (cy : Nat → ClassId) : List (ClassId × FieldType) := [(cy 0, .byte), (cy 1, .int), (cy 2, .long), (cy 3, .boolean), (cy 4, .array .int)]
def wInj (ad : Nat → Nat) : Prop := ∀ i j : Nat, i < 100 → j < 100 → ad i = ad j → i = j
theorem wW_get {cy : Nat → ClassId} {ad : Nat → Nat} {σ : St} {k : Nat} (h : k < 100) : (wW cy ad σ)[k]? = some (ad k, wE cy ad σ k) := by
  unfold wW
  rw [List.getElem?_map, List.getElem?_range h]
  rfl
theorem wW_lt {cy : Nat → ClassId} {ad : Nat → Nat} {σ : St} {k : Nat} {q : Nat × va_E} (h : (wW cy ad σ)[k]? = some q) : k < 100 ∧ q = (ad k, wE cy ad σ k) := by
  have hk : k < 100 := by
    have h1 := (List.getElem?_eq_some_iff.mp h).1
    unfold wW at h1
    rw [List.length_map, List.length_range] at h1
    exact h1
  rw [wW_get hk] at h
  exact ⟨hk, (Option.some.inj h).symm⟩
theorem wS_lt {k n t : Nat} (h : wS k = (t, n)) (ht : t ≠ 99) : k < 100 := by
  by_cases hk : k < 100
  · exact hk
  · exfalso
    have hl : wSl.length = 100 := by decide
    have : wS k = (99, 0) := by
      unfold wS
      rw [List.getD_eq_getElem?_getD, List.getElem?_eq_none (by omega)]
      rfl
    rw [this] at h
    exact ht (congrArg Prod.fst h).symm
def sR (σ : St) (k : Nat) (f : Nat → Int32) : St := (fun a => if a = k then f else σ.1 a, σ.2)
def sL (σ : St) (k : Nat) (f : Nat → Int64) : St := (σ.1, fun a => if a = k then f else σ.2 a)
def sI (σ : St) (k i : Nat) (v : Int32) : St := sR σ k (upd (σ.1 k) i v)
def sJ (σ : St) (k i : Nat) (v : Int64) : St := sL σ k (vp_updL (σ.2 k) i v)
theorem wE_ext {cy : Nat → ClassId} {ad : Nat → Nat} {σ τ : St} {k : Nat} (h1 : σ.1 k = τ.1 k) (h2 : σ.2 k = τ.2 k) : wE cy ad σ k = wE cy ad τ k := by
  unfold wE
  rw [h1, h2]
theorem wW_set {cy : Nat → ClassId} {ad : Nat → Nat} {σ τ : St} {k : Nat} {e : va_E} (he : wE cy ad τ k = e) (ho : ∀ a, a ≠ k → σ.1 a = τ.1 a ∧ σ.2 a = τ.2 a) : (wW cy ad σ).set k (ad k, e) = wW cy ad τ := by
  apply List.ext_getElem?
  intro j
  by_cases hj : j < 100
  · by_cases hjk : j = k
    · subst hjk
      rw [List.getElem?_set_self (by unfold wW; rw [List.length_map, List.length_range]; exact hj), wW_get hj, he]
    · rw [List.getElem?_set_ne (Ne.symm hjk), wW_get hj, wW_get hj, wE_ext (ho j hjk).1 (ho j hjk).2]
  · rw [List.getElem?_eq_none (by rw [List.length_set]; unfold wW; rw [List.length_map, List.length_range]; omega), List.getElem?_eq_none (by unfold wW; rw [List.length_map, List.length_range]; omega)]
theorem wW_setR {cy : Nat → ClassId} {ad : Nat → Nat} {σ : St} {k : Nat} {f : Nat → Int32} {e : va_E} (he : wE cy ad (sR σ k f) k = e) : (wW cy ad σ).set k (ad k, e) = wW cy ad (sR σ k f) :=
  wW_set he (fun a h => ⟨by simp [sR, h], rfl⟩)
theorem wW_setL {cy : Nat → ClassId} {ad : Nat → Nat} {σ : St} {k : Nat} {f : Nat → Int64} {e : va_E} (he : wE cy ad (sL σ k f) k = e) : (wW cy ad σ).set k (ad k, e) = wW cy ad (sL σ k f) :=
  wW_set he (fun a h => ⟨rfl, by simp [sL, h]⟩)
theorem wW_D {cy : Nat → ClassId} {ad : Nat → Nat} {A : Nat → Prop} (hi : wInj ad) (hA : ∀ k, k < 100 → A (ad k)) (σ : St) : va_D A (wW cy ad σ) := by
  refine ⟨fun i j p q hi' hj h => ?_, fun k q hk => ?_⟩
  · obtain ⟨h1, rfl⟩ := wW_lt hi'
    obtain ⟨h2, rfl⟩ := wW_lt hj
    exact hi i j h1 h2 h
  · obtain ⟨h1, rfl⟩ := wW_lt hk
    exact hA k h1
def uA (ad : Nat → Nat) (sz : Nat) : Nat → Prop := fun q => (∃ k, k < 100 ∧ q = ad k) ∨ sz ≤ q
/-! what stands fast: the tables of the class, the String constants (numbers from 100 on) -/
def tab_LEAST_TUNES (j : Nat) : Int32 := [0, 0, 0, 1, 0, 0].getD j 0
def tab_MOST_TUNES (j : Nat) : Int32 := [3, 20, 20, 20, 9, 99].getD j 0
def strL : List Nat := [4, 4, 4, 6]
def strB : List (List Int32) := [[115, 105, 122, 101], [98, 101, 97, 109], [99, 111, 108, 100], [104, 101, 97, 114, 116, 104]]
def uC (ad : Nat → Nat) (A : Nat → Prop) (U : State) (H : Heap) : Prop :=
  (va_Z "FlueStack" "LEAST_TUNES" "[I" (.ref (ad 108)) A U H ∧ va_T .int (ad 108) 6 (fun j => .int (tab_LEAST_TUNES j)) A U H ∧ va_Z "FlueStack" "MOST_TUNES" "[I" (.ref (ad 109)) A U H ∧ va_T .int (ad 109) 6 (fun j => .int (tab_MOST_TUNES j)) A U H) ∧
  (va_Z "java/lang/String" "COMPACT_STRINGS" "Z" (.int 1) A U H ∧ va_Zq "jdk/internal/util/Preconditions" "SIOOBE_FORMATTER" "Ljava/util/function/BiFunction;" A U H ∧ vk_S 4 strL strB (fun i => ad (100 + i)) (fun i => ad (104 + i)) A U H) ∧
  (vk_R "FlueStack$Reader" 116 "size" (ad 100) U ∧ vk_R "FlueStack$Reader" 121 "beam" (ad 101) U ∧ vk_R "FlueStack$Reader" 123 "cold" (ad 102) U ∧ vk_R "FlueStack$Reader" 125 "hearth" (ad 103) U)
theorem uC.to {ad : Nat → Nat} {A B : Nat → Prop} {u U : State} {H H1 : Heap} (h : uC ad A u H) (hW : u.WarmedH U.vm) (hAB : ∀ q, B q → A q) (hq : ∀ a : Nat, a < H.size → ¬ A a → H1[a]? = H[a]?) : uC ad B U H1 := by
  obtain ⟨⟨a1, a2, a3, a4⟩, ⟨b1, b2, b3⟩, c1, c2, c3, c4⟩ := h
  exact ⟨⟨((a1.kept hq).narrow hAB).moved hW.alike, ((a2.kept hq).narrow hAB).moved hW.alike, ((a3.kept hq).narrow hAB).moved hW.alike, ((a4.kept hq).narrow hAB).moved hW.alike⟩, ⟨((b1.kept hq).narrow hAB).moved hW.alike, va_Zq.moved hW.alike (va_Zq.narrow (va_Zq.kept b2 hq) hAB), ((b3.kept hq).narrow hAB).moved hW.alike⟩, c1.warm hW, c2.warm hW, c3.warm hW, c4.warm hW⟩
theorem uC.calling {ad : Nat → Nat} {A : Nat → Prop} {U : State} {H : Heap} {g : JFrame} {mk : MethodId} {a : Array Value} (h : uC ad A U H) : uC ad A (U.calling g mk a) H := by
  obtain ⟨⟨a1, a2, a3, a4⟩, ⟨b1, b2, b3⟩, c1, c2, c3, c4⟩ := h
  have hv : U.vm.Alike (U.calling g mk a).vm := Vm.Alike.refl U.vm
  exact ⟨⟨a1.moved hv, a2.moved hv, a3.moved hv, a4.moved hv⟩, ⟨b1.moved hv, va_Zq.moved hv b2, b3.moved hv⟩, c1.same rfl, c2.same rfl, c3.same rfl, c4.same rfl⟩
/-- what stays through a walk -/
abbrev Cx : Type := Program × Launch × Env × Room × State × MethodId × (Array Value) × (List Frame) × Method × Code × Nat × Nat × va_G × (Nat → ClassId) × (Nat → Nat) × (Nat → Prop) × (State → Prop)
abbrev Cx.kp (X : Cx) : Program := X.1
abbrev Cx.kl (X : Cx) : Launch := X.2.1
abbrev Cx.ke (X : Cx) : Env := X.2.2.1
abbrev Cx.kR (X : Cx) : Room := X.2.2.2.1
abbrev Cx.ks (X : Cx) : State := X.2.2.2.2.1
abbrev Cx.km (X : Cx) : MethodId := X.2.2.2.2.2.1
abbrev Cx.kargs (X : Cx) : (Array Value) := X.2.2.2.2.2.2.1
abbrev Cx.kbelow (X : Cx) : (List Frame) := X.2.2.2.2.2.2.2.1
abbrev Cx.kmeth (X : Cx) : Method := X.2.2.2.2.2.2.2.2.1
abbrev Cx.kc (X : Cx) : Code := X.2.2.2.2.2.2.2.2.2.1
abbrev Cx.kcells (X : Cx) : Nat := X.2.2.2.2.2.2.2.2.2.2.1
abbrev Cx.kslots (X : Cx) : Nat := X.2.2.2.2.2.2.2.2.2.2.2.1
abbrev Cx.kD (X : Cx) : va_G := X.2.2.2.2.2.2.2.2.2.2.2.2.1
abbrev Cx.kcy (X : Cx) : (Nat → ClassId) := X.2.2.2.2.2.2.2.2.2.2.2.2.2.1
abbrev Cx.kad (X : Cx) : (Nat → Nat) := X.2.2.2.2.2.2.2.2.2.2.2.2.2.2.1
abbrev Cx.kA (X : Cx) : (Nat → Prop) := X.2.2.2.2.2.2.2.2.2.2.2.2.2.2.2.1
abbrev Cx.kQf (X : Cx) : (State → Prop) := X.2.2.2.2.2.2.2.2.2.2.2.2.2.2.2.2
def At (X : Cx) (nL pc : Nat) (lv : List (Nat × Value)) (st : List Value) (σ : St) : Prop :=
  ∀ (H : Heap) (locs : List Loc) (ls : Array Slot), va_P X.kD vwCl (wW X.kcy X.kad σ) H → va_S X.kA X.ks.heap H locs → lv_has ls nL lv →
    W X.kp X.kl X.ke X.kR X.ks X.km X.kargs X.kbelow X.kmeth X.kc H locs X.kcells X.kslots X.kQf (F0 X.km pc ls st)
def CxB (X : Cx) (own : String) (cc : ByteArray) (nL d : Nat) : Prop :=
  X.kp.tables.exec = Jvm.exec ∧ X.kc.code = cc ∧ X.kc.maxLocals = nL ∧ X.ks.vm.findClass own = some X.km.cls ∧ (∀ w ∈ TB, w.before X.kargs X.ks = true) ∧ va_K X.kD vwCl (wT X.kcy) X.ks ∧ wInj X.kad ∧ (∀ k, k < 100 → X.kA (X.kad k)) ∧ (∀ q, X.ks.heap.size ≤ q → X.kA q) ∧ 1 ≤ d ∧ d ≤ X.kR.frames ∧ 40 * d ≤ X.kR.locals ∧ X.kcells ≤ X.kR.cells ∧ X.kslots ≤ X.kR.slots ∧ uC X.kad X.kA X.ks X.ks.heap
theorem CxB.hx {X : Cx} {own : String} {cc : ByteArray} {nL d : Nat} (h : CxB X own cc nL d) : X.kp.tables.exec = Jvm.exec := h.1
theorem CxB.hb {X : Cx} {own : String} {cc : ByteArray} {nL d : Nat} (h : CxB X own cc nL d) : X.kc.code = cc := h.2.1
theorem CxB.hml {X : Cx} {own : String} {cc : ByteArray} {nL d : Nat} (h : CxB X own cc nL d) : X.kc.maxLocals = nL := h.2.2.1
theorem CxB.hown {X : Cx} {own : String} {cc : ByteArray} {nL d : Nat} (h : CxB X own cc nL d) : X.ks.vm.findClass own = some X.km.cls := h.2.2.2.1
theorem CxB.hts {X : Cx} {own : String} {cc : ByteArray} {nL d : Nat} (h : CxB X own cc nL d) : ∀ w ∈ TB, w.before X.kargs X.ks = true := h.2.2.2.2.1
theorem CxB.hK {X : Cx} {own : String} {cc : ByteArray} {nL d : Nat} (h : CxB X own cc nL d) : va_K X.kD vwCl (wT X.kcy) X.ks := h.2.2.2.2.2.1
theorem CxB.hinj {X : Cx} {own : String} {cc : ByteArray} {nL d : Nat} (h : CxB X own cc nL d) : wInj X.kad := h.2.2.2.2.2.2.1
theorem CxB.hAw {X : Cx} {own : String} {cc : ByteArray} {nL d : Nat} (h : CxB X own cc nL d) : ∀ k, k < 100 → X.kA (X.kad k) := h.2.2.2.2.2.2.2.1
theorem CxB.hAz {X : Cx} {own : String} {cc : ByteArray} {nL d : Nat} (h : CxB X own cc nL d) : ∀ q, X.ks.heap.size ≤ q → X.kA q := h.2.2.2.2.2.2.2.2.1
theorem CxB.hd1 {X : Cx} {own : String} {cc : ByteArray} {nL d : Nat} (h : CxB X own cc nL d) : 1 ≤ d := h.2.2.2.2.2.2.2.2.2.1
theorem CxB.hfr {X : Cx} {own : String} {cc : ByteArray} {nL d : Nat} (h : CxB X own cc nL d) : d ≤ X.kR.frames := h.2.2.2.2.2.2.2.2.2.2.1
theorem CxB.hlo {X : Cx} {own : String} {cc : ByteArray} {nL d : Nat} (h : CxB X own cc nL d) : 40 * d ≤ X.kR.locals := h.2.2.2.2.2.2.2.2.2.2.2.1
theorem CxB.hce {X : Cx} {own : String} {cc : ByteArray} {nL d : Nat} (h : CxB X own cc nL d) : X.kcells ≤ X.kR.cells := h.2.2.2.2.2.2.2.2.2.2.2.2.1
theorem CxB.hsl {X : Cx} {own : String} {cc : ByteArray} {nL d : Nat} (h : CxB X own cc nL d) : X.kslots ≤ X.kR.slots := h.2.2.2.2.2.2.2.2.2.2.2.2.2.1
theorem CxB.huc {X : Cx} {own : String} {cc : ByteArray} {nL d : Nat} (h : CxB X own cc nL d) : uC X.kad X.kA X.ks X.ks.heap := h.2.2.2.2.2.2.2.2.2.2.2.2.2.2
theorem CxB.hD {X : Cx} {own : String} {cc : ByteArray} {nL d : Nat} (h : CxB X own cc nL d) (σ : St) : va_D X.kA (wW X.kcy X.kad σ) := wW_D h.hinj h.hAw σ
section RW
variable {X : Cx} {own : String} {cc : ByteArray} {nL d pc : Nat} {lv : List (Nat × Value)} {st : List Value} {σ : St}
theorem r_iconst (q : Nat) (hX : CxB X own cc nL d) {n : Int} (hd : decode cc pc = .ok (.iconst n, 1)) (hq : pc + 1 = q) (v : Int32) (hv : Int32.ofInt n = v) (kk : At X nL q lv (.int v :: st) σ) : At X nL pc lv (st) σ := by
  subst hq
  intro H locs ls hP hS hl
  exact lv_iconst hX.hx hX.hb hd hv (kk H locs ls hP hS hl)
theorem r_bipush (q : Nat) (hX : CxB X own cc nL d) {n : Int} (hd : decode cc pc = .ok (.bipush n, 2)) (hq : pc + 2 = q) (v : Int32) (hv : (Int8.ofInt n).toInt32 = v) (kk : At X nL q lv (.int v :: st) σ) : At X nL pc lv (st) σ := by
  subst hq
  intro H locs ls hP hS hl
  exact lv_bipush hX.hx hX.hb hd hv (kk H locs ls hP hS hl)
theorem r_sipush (q : Nat) (hX : CxB X own cc nL d) {n : Int} (hd : decode cc pc = .ok (.sipush n, 3)) (hq : pc + 3 = q) (v : Int32) (hv : (Int16.ofInt n).toInt32 = v) (kk : At X nL q lv (.int v :: st) σ) : At X nL pc lv (st) σ := by
  subst hq
  intro H locs ls hP hS hl
  exact lv_sipush hX.hx hX.hb hd hv (kk H locs ls hP hS hl)
theorem r_lconst (q : Nat) (hX : CxB X own cc nL d) {n : Fin 2} (hd : decode cc pc = .ok (.lconst n, 1)) (hq : pc + 1 = q) (v : Int64) (hv : Int64.ofNat (n : Nat) = v) (kk : At X nL q lv (.long v :: st) σ) : At X nL pc lv (st) σ := by
  subst hq
  intro H locs ls hP hS hl
  exact lv_lconst hX.hx hX.hb hd hv (kk H locs ls hP hS hl)
theorem r_iload_n (q : Nat) (hX : CxB X own cc nL d) {k : Fin 4} {i : Nat} {x : Int32} (hd : decode cc pc = .ok (.iload_n k, 1)) (hq : pc + 1 = q) (hi : (k : Nat) = i) (j : Nat) (hl0 : lv[j]? = some (i, .int x)) (kk : At X nL q lv (.int x :: st) σ) : At X nL pc lv (st) σ := by
  subst hq
  intro H locs ls hP hS hl
  exact lv_iload_n hX.hx hX.hb hd hi (lv_at hl j hl0) (kk H locs ls hP hS hl)
theorem r_iload (q : Nat) (hX : CxB X own cc nL d) {i : Nat} {x : Int32} (hd : decode cc pc = .ok (.iload i, 2)) (hq : pc + 2 = q) (j : Nat) (hl0 : lv[j]? = some (i, .int x)) (kk : At X nL q lv (.int x :: st) σ) : At X nL pc lv (st) σ := by
  subst hq
  intro H locs ls hP hS hl
  exact lv_iload hX.hx hX.hb hd (lv_at hl j hl0) (kk H locs ls hP hS hl)
theorem r_lload_n (q : Nat) (hX : CxB X own cc nL d) {k : Fin 4} {i : Nat} {x : Int64} (hd : decode cc pc = .ok (.lload_n k, 1)) (hq : pc + 1 = q) (hi : (k : Nat) = i) (j : Nat) (hl0 : lv[j]? = some (i, .long x)) (kk : At X nL q lv (.long x :: st) σ) : At X nL pc lv (st) σ := by
  subst hq
  intro H locs ls hP hS hl
  exact lv_lload_n hX.hx hX.hb hd hi (lv_at hl j hl0) (kk H locs ls hP hS hl)
theorem r_lload (q : Nat) (hX : CxB X own cc nL d) {i : Nat} {x : Int64} (hd : decode cc pc = .ok (.lload i, 2)) (hq : pc + 2 = q) (j : Nat) (hl0 : lv[j]? = some (i, .long x)) (kk : At X nL q lv (.long x :: st) σ) : At X nL pc lv (st) σ := by
  subst hq
  intro H locs ls hP hS hl
  exact lv_lload hX.hx hX.hb hd (lv_at hl j hl0) (kk H locs ls hP hS hl)
theorem r_aload_n (q : Nat) (hX : CxB X own cc nL d) {k : Fin 4} {i : Nat} {x : Nat} (hd : decode cc pc = .ok (.aload_n k, 1)) (hq : pc + 1 = q) (hi : (k : Nat) = i) (j : Nat) (hl0 : lv[j]? = some (i, .ref x)) (kk : At X nL q lv (.ref x :: st) σ) : At X nL pc lv (st) σ := by
  subst hq
  intro H locs ls hP hS hl
  exact lv_aload_n hX.hx hX.hb hd hi (lv_at hl j hl0) (kk H locs ls hP hS hl)
theorem r_aload (q : Nat) (hX : CxB X own cc nL d) {i : Nat} {x : Nat} (hd : decode cc pc = .ok (.aload i, 2)) (hq : pc + 2 = q) (j : Nat) (hl0 : lv[j]? = some (i, .ref x)) (kk : At X nL q lv (.ref x :: st) σ) : At X nL pc lv (st) σ := by
  subst hq
  intro H locs ls hP hS hl
  exact lv_aload hX.hx hX.hb hd (lv_at hl j hl0) (kk H locs ls hP hS hl)
theorem r_istore_n (q : Nat) (hX : CxB X own cc nL d) {k : Fin 4} {i : Nat} {x : Int32} (hd : decode cc pc = .ok (.istore_n k, 1)) (hq : pc + 1 = q) {lv' : List (Nat × Value)} (hi : (k : Nat) = i) (hn : i < nL) (hl0 : (i, Value.int x) :: lv.filter (fun q => !(q.1 == i) && !(q.1 + 1 == i && q.2.category == 2)) = lv') (kk : At X nL q lv' st σ) : At X nL pc lv (.int x :: st) σ := by
  subst hq
  intro H locs ls hP hS hl
  exact lv_istore_n hX.hx hX.hb hd hi hl hn hl0 (fun ls hl => kk H locs ls hP hS hl)
theorem r_istore (q : Nat) (hX : CxB X own cc nL d) {i : Nat} {x : Int32} (hd : decode cc pc = .ok (.istore i, 2)) (hq : pc + 2 = q) {lv' : List (Nat × Value)} (hn : i < nL) (hl0 : (i, Value.int x) :: lv.filter (fun q => !(q.1 == i) && !(q.1 + 1 == i && q.2.category == 2)) = lv') (kk : At X nL q lv' st σ) : At X nL pc lv (.int x :: st) σ := by
  subst hq
  intro H locs ls hP hS hl
  exact lv_istore hX.hx hX.hb hd hl hn hl0 (fun ls hl => kk H locs ls hP hS hl)
theorem r_astore_n (q : Nat) (hX : CxB X own cc nL d) {k : Fin 4} {i : Nat} {x : Nat} (hd : decode cc pc = .ok (.astore_n k, 1)) (hq : pc + 1 = q) {lv' : List (Nat × Value)} (hi : (k : Nat) = i) (hn : i < nL) (hl0 : (i, Value.ref x) :: lv.filter (fun q => !(q.1 == i) && !(q.1 + 1 == i && q.2.category == 2)) = lv') (kk : At X nL q lv' st σ) : At X nL pc lv (.ref x :: st) σ := by
  subst hq
  intro H locs ls hP hS hl
  exact lv_astore_n hX.hx hX.hb hd hi hl hn hl0 (fun ls hl => kk H locs ls hP hS hl)
theorem r_astore (q : Nat) (hX : CxB X own cc nL d) {i : Nat} {x : Nat} (hd : decode cc pc = .ok (.astore i, 2)) (hq : pc + 2 = q) {lv' : List (Nat × Value)} (hn : i < nL) (hl0 : (i, Value.ref x) :: lv.filter (fun q => !(q.1 == i) && !(q.1 + 1 == i && q.2.category == 2)) = lv') (kk : At X nL q lv' st σ) : At X nL pc lv (.ref x :: st) σ := by
  subst hq
  intro H locs ls hP hS hl
  exact lv_astore hX.hx hX.hb hd hl hn hl0 (fun ls hl => kk H locs ls hP hS hl)
theorem r_lstore_n (q : Nat) (hX : CxB X own cc nL d) {k : Fin 4} {i : Nat} {x : Int64} (hd : decode cc pc = .ok (.lstore_n k, 1)) (hq : pc + 1 = q) {lv' : List (Nat × Value)} (hi : (k : Nat) = i) (hn : i + 1 < nL) (hl0 : (i, Value.long x) :: lv.filter (fun q => !(q.1 == i) && (!(q.1 == i + 1) && !(q.1 + 1 == i && q.2.category == 2))) = lv') (kk : At X nL q lv' st σ) : At X nL pc lv (.long x :: st) σ := by
  subst hq
  intro H locs ls hP hS hl
  exact lv_lstore_n hX.hx hX.hb hd hi hl hn hl0 (fun ls hl => kk H locs ls hP hS hl)
theorem r_lstore (q : Nat) (hX : CxB X own cc nL d) {i : Nat} {x : Int64} (hd : decode cc pc = .ok (.lstore i, 2)) (hq : pc + 2 = q) {lv' : List (Nat × Value)} (hn : i + 1 < nL) (hl0 : (i, Value.long x) :: lv.filter (fun q => !(q.1 == i) && (!(q.1 == i + 1) && !(q.1 + 1 == i && q.2.category == 2))) = lv') (kk : At X nL q lv' st σ) : At X nL pc lv (.long x :: st) σ := by
  subst hq
  intro H locs ls hP hS hl
  exact lv_lstore hX.hx hX.hb hd hl hn hl0 (fun ls hl => kk H locs ls hP hS hl)
theorem r_iinc (q : Nat) (hX : CxB X own cc nL d) {i : Nat} {n : Int} {x : Int32} (hd : decode cc pc = .ok (.iinc i n, 3)) (hq : pc + 3 = q) {lv' : List (Nat × Value)} (k : Nat) (hk : lv[k]? = some (i, .int x)) (v : Int32) (hv : x + Int32.ofInt n = v) (hn : i < nL) (hl0 : (i, Value.int v) :: lv.filter (fun q => !(q.1 == i) && !(q.1 + 1 == i && q.2.category == 2)) = lv') (kk : At X nL q lv' st σ) : At X nL pc lv (st) σ := by
  subst hq
  intro H locs ls hP hS hl
  exact lv_iinc hX.hx hX.hb hd hl hk hv hn hl0 (fun ls hl => kk H locs ls hP hS hl)
theorem r_iadd (q : Nat) (hX : CxB X own cc nL d) {x y : Int32} (hd : decode cc pc = .ok (.iadd, 1)) (hq : pc + 1 = q) (kk : At X nL q lv (.int (x + y) :: st) σ) : At X nL pc lv (.int y :: .int x :: st) σ := by
  subst hq
  intro H locs ls hP hS hl
  exact lv_iadd hX.hx hX.hb hd (kk H locs ls hP hS hl)
theorem r_isub (q : Nat) (hX : CxB X own cc nL d) {x y : Int32} (hd : decode cc pc = .ok (.isub, 1)) (hq : pc + 1 = q) (kk : At X nL q lv (.int (x - y) :: st) σ) : At X nL pc lv (.int y :: .int x :: st) σ := by
  subst hq
  intro H locs ls hP hS hl
  exact lv_isub hX.hx hX.hb hd (kk H locs ls hP hS hl)
theorem r_imul (q : Nat) (hX : CxB X own cc nL d) {x y : Int32} (hd : decode cc pc = .ok (.imul, 1)) (hq : pc + 1 = q) (kk : At X nL q lv (.int (x * y) :: st) σ) : At X nL pc lv (.int y :: .int x :: st) σ := by
  subst hq
  intro H locs ls hP hS hl
  exact lv_imul hX.hx hX.hb hd (kk H locs ls hP hS hl)
theorem r_iand (q : Nat) (hX : CxB X own cc nL d) {x y : Int32} (hd : decode cc pc = .ok (.iand, 1)) (hq : pc + 1 = q) (kk : At X nL q lv (.int (x &&& y) :: st) σ) : At X nL pc lv (.int y :: .int x :: st) σ := by
  subst hq
  intro H locs ls hP hS hl
  exact lv_iand hX.hx hX.hb hd (kk H locs ls hP hS hl)
theorem r_ior (q : Nat) (hX : CxB X own cc nL d) {x y : Int32} (hd : decode cc pc = .ok (.ior, 1)) (hq : pc + 1 = q) (kk : At X nL q lv (.int (x ||| y) :: st) σ) : At X nL pc lv (.int y :: .int x :: st) σ := by
  subst hq
  intro H locs ls hP hS hl
  exact lv_ior hX.hx hX.hb hd (kk H locs ls hP hS hl)
theorem r_ixor (q : Nat) (hX : CxB X own cc nL d) {x y : Int32} (hd : decode cc pc = .ok (.ixor, 1)) (hq : pc + 1 = q) (kk : At X nL q lv (.int (x ^^^ y) :: st) σ) : At X nL pc lv (.int y :: .int x :: st) σ := by
  subst hq
  intro H locs ls hP hS hl
  exact lv_ixor hX.hx hX.hb hd (kk H locs ls hP hS hl)
theorem r_ladd (q : Nat) (hX : CxB X own cc nL d) {x y : Int64} (hd : decode cc pc = .ok (.ladd, 1)) (hq : pc + 1 = q) (kk : At X nL q lv (.long (x + y) :: st) σ) : At X nL pc lv (.long y :: .long x :: st) σ := by
  subst hq
  intro H locs ls hP hS hl
  exact lv_ladd hX.hx hX.hb hd (kk H locs ls hP hS hl)
theorem r_lsub (q : Nat) (hX : CxB X own cc nL d) {x y : Int64} (hd : decode cc pc = .ok (.lsub, 1)) (hq : pc + 1 = q) (kk : At X nL q lv (.long (x - y) :: st) σ) : At X nL pc lv (.long y :: .long x :: st) σ := by
  subst hq
  intro H locs ls hP hS hl
  exact lv_lsub hX.hx hX.hb hd (kk H locs ls hP hS hl)
theorem r_land (q : Nat) (hX : CxB X own cc nL d) {x y : Int64} (hd : decode cc pc = .ok (.land, 1)) (hq : pc + 1 = q) (kk : At X nL q lv (.long (x &&& y) :: st) σ) : At X nL pc lv (.long y :: .long x :: st) σ := by
  subst hq
  intro H locs ls hP hS hl
  exact lv_land hX.hx hX.hb hd (kk H locs ls hP hS hl)
theorem r_lor (q : Nat) (hX : CxB X own cc nL d) {x y : Int64} (hd : decode cc pc = .ok (.lor, 1)) (hq : pc + 1 = q) (kk : At X nL q lv (.long (x ||| y) :: st) σ) : At X nL pc lv (.long y :: .long x :: st) σ := by
  subst hq
  intro H locs ls hP hS hl
  exact lv_lor hX.hx hX.hb hd (kk H locs ls hP hS hl)
theorem r_ineg (q : Nat) (hX : CxB X own cc nL d) {x : Int32} (hd : decode cc pc = .ok (.ineg, 1)) (hq : pc + 1 = q) (kk : At X nL q lv (.int (-x) :: st) σ) : At X nL pc lv (.int x :: st) σ := by
  subst hq
  intro H locs ls hP hS hl
  exact lv_ineg hX.hx hX.hb hd (kk H locs ls hP hS hl)
theorem r_ishl (q : Nat) (hX : CxB X own cc nL d) {x y : Int32} (hd : decode cc pc = .ok (.ishl, 1)) (hq : pc + 1 = q) (kk : At X nL q lv (.int (x <<< (y &&& 31)) :: st) σ) : At X nL pc lv (.int y :: .int x :: st) σ := by
  subst hq
  intro H locs ls hP hS hl
  exact lv_ishl hX.hx hX.hb hd (kk H locs ls hP hS hl)
theorem r_ishr (q : Nat) (hX : CxB X own cc nL d) {x y : Int32} (hd : decode cc pc = .ok (.ishr, 1)) (hq : pc + 1 = q) (kk : At X nL q lv (.int (x >>> (y &&& 31)) :: st) σ) : At X nL pc lv (.int y :: .int x :: st) σ := by
  subst hq
  intro H locs ls hP hS hl
  exact lv_ishr hX.hx hX.hb hd (kk H locs ls hP hS hl)
theorem r_iushr (q : Nat) (hX : CxB X own cc nL d) {x y : Int32} (hd : decode cc pc = .ok (.iushr, 1)) (hq : pc + 1 = q) (kk : At X nL q lv (.int ((x.toUInt32 >>> (y.toUInt32 &&& Int32.toUInt32 31)).toInt32) :: st) σ) : At X nL pc lv (.int y :: .int x :: st) σ := by
  subst hq
  intro H locs ls hP hS hl
  exact lv_iushr hX.hx hX.hb hd rfl (kk H locs ls hP hS hl)
theorem r_lushr (q : Nat) (hX : CxB X own cc nL d) {x : Int64} {y : Int32} (hd : decode cc pc = .ok (.lushr, 1)) (hq : pc + 1 = q) (kk : At X nL q lv (.long ((x.toUInt64 >>> (y.toInt64.toUInt64 &&& Int64.toUInt64 63)).toInt64) :: st) σ) : At X nL pc lv (.int y :: .long x :: st) σ := by
  subst hq
  intro H locs ls hP hS hl
  exact lv_lushr hX.hx hX.hb hd rfl (kk H locs ls hP hS hl)
theorem r_lshl (q : Nat) (hX : CxB X own cc nL d) {x : Int64} {y : Int32} (hd : decode cc pc = .ok (.lshl, 1)) (hq : pc + 1 = q) (kk : At X nL q lv (.long (x <<< (y.toInt64 &&& 63)) :: st) σ) : At X nL pc lv (.int y :: .long x :: st) σ := by
  subst hq
  intro H locs ls hP hS hl
  exact lv_lshl hX.hx hX.hb hd rfl (kk H locs ls hP hS hl)
theorem r_lshr (q : Nat) (hX : CxB X own cc nL d) {x : Int64} {y : Int32} (hd : decode cc pc = .ok (.lshr, 1)) (hq : pc + 1 = q) (kk : At X nL q lv (.long (x >>> (y.toInt64 &&& 63)) :: st) σ) : At X nL pc lv (.int y :: .long x :: st) σ := by
  subst hq
  intro H locs ls hP hS hl
  exact lv_lshr hX.hx hX.hb hd rfl (kk H locs ls hP hS hl)
theorem r_i2l (q : Nat) (hX : CxB X own cc nL d) {x : Int32} (hd : decode cc pc = .ok (.i2l, 1)) (hq : pc + 1 = q) (kk : At X nL q lv (.long x.toInt64 :: st) σ) : At X nL pc lv (.int x :: st) σ := by
  subst hq
  intro H locs ls hP hS hl
  exact lv_i2l hX.hx hX.hb hd rfl (kk H locs ls hP hS hl)
theorem r_l2i (q : Nat) (hX : CxB X own cc nL d) {x : Int64} (hd : decode cc pc = .ok (.l2i, 1)) (hq : pc + 1 = q) (kk : At X nL q lv (.int x.toInt32 :: st) σ) : At X nL pc lv (.long x :: st) σ := by
  subst hq
  intro H locs ls hP hS hl
  exact lv_l2i hX.hx hX.hb hd rfl (kk H locs ls hP hS hl)
theorem r_i2b (q : Nat) (hX : CxB X own cc nL d) {x : Int32} (hd : decode cc pc = .ok (.i2b, 1)) (hq : pc + 1 = q) (kk : At X nL q lv (.int x.toInt8.toInt32 :: st) σ) : At X nL pc lv (.int x :: st) σ := by
  subst hq
  intro H locs ls hP hS hl
  exact lv_i2b hX.hx hX.hb hd rfl (kk H locs ls hP hS hl)
theorem r_lcmp (q : Nat) (hX : CxB X own cc nL d) {x y : Int64} (hd : decode cc pc = .ok (.lcmp, 1)) (hq : pc + 1 = q) (kk : At X nL q lv (.int (lg_cmp x y) :: st) σ) : At X nL pc lv (.long y :: .long x :: st) σ := by
  subst hq
  exact fun H locs ls hP hS hl => W.lcmp hX.hx hX.hb hd (kk H locs ls hP hS hl)
theorem r_dup (q : Nat) (hX : CxB X own cc nL d) {v : Value} (hd : decode cc pc = .ok (.dup, 1)) (hq : pc + 1 = q) (hc : v.category = 1) (kk : At X nL q lv (v :: v :: st) σ) : At X nL pc lv (v :: st) σ := by
  subst hq
  intro H locs ls hP hS hl
  exact lv_dup hX.hx hX.hb hd hc (kk H locs ls hP hS hl)
theorem r_dup2 (q : Nat) (hX : CxB X own cc nL d) {v u : Value} (hd : decode cc pc = .ok (.dup2, 1)) (hq : pc + 1 = q) (hc : v.category = 1) (hc2 : u.category = 1) (kk : At X nL q lv (v :: u :: v :: u :: st) σ) : At X nL pc lv (v :: u :: st) σ := by
  subst hq
  intro H locs ls hP hS hl
  exact lv_dup2_11 hX.hx hX.hb hd hc hc2 (kk H locs ls hP hS hl)
theorem r_pop (q : Nat) (hX : CxB X own cc nL d) {v : Value} (hd : decode cc pc = .ok (.pop, 1)) (hq : pc + 1 = q) (hc : v.category = 1) (kk : At X nL q lv (st) σ) : At X nL pc lv (v :: st) σ := by
  subst hq
  intro H locs ls hP hS hl
  exact lv_pop hX.hx hX.hb hd hc (kk H locs ls hP hS hl)
theorem r_idiv (q : Nat) (hX : CxB X own cc nL d) {x y : Int32} {B : Prop} (hd : decode cc pc = .ok (.idiv, 1)) (hq : pc + 1 = q) (hw : (¬ y = 0) ∧ B) (kk : B → At X nL q lv (.int (x / y) :: st) σ) : At X nL pc lv (.int y :: .int x :: st) σ := by
  subst hq
  intro H locs ls hP hS hl
  exact lv_idiv hX.hx hX.hb hd hw.1 (kk hw.2 H locs ls hP hS hl)
theorem r_irem (q : Nat) (hX : CxB X own cc nL d) {x y : Int32} {B : Prop} (hd : decode cc pc = .ok (.irem, 1)) (hq : pc + 1 = q) (hw : (¬ y = 0) ∧ B) (kk : B → At X nL q lv (.int (x - x / y * y) :: st) σ) : At X nL pc lv (.int y :: .int x :: st) σ := by
  subst hq
  intro H locs ls hP hS hl
  exact lv_irem hX.hx hX.hb hd hw.1 (kk hw.2 H locs ls hP hS hl)
theorem r_if_eq (t q : Nat) (hX : CxB X own cc nL d) {x : Int32} {off : Int} {P Q : Prop} (hd : decode cc pc = .ok (.ifCond .eq off, 3)) (ht : (pc : Int) + off = (t : Int)) (hq : pc + 3 = q) (hw : (x = 0 → P) ∧ (¬ x = 0 → Q)) (kt : P → At X nL t lv st σ) (kf : Q → At X nL q lv st σ) : At X nL pc lv (.int x :: st) σ := by
  subst hq
  exact fun H locs ls hP hS hl => lv_if_eq hX.hx hX.hb hd ht (fun h => kt (hw.1 h) H locs ls hP hS hl) (fun h => kf (hw.2 h) H locs ls hP hS hl)
theorem r_icmp_eq (t q : Nat) (hX : CxB X own cc nL d) {x y : Int32} {off : Int} {P Q : Prop} (hd : decode cc pc = .ok (.if_icmp .eq off, 3)) (ht : (pc : Int) + off = (t : Int)) (hq : pc + 3 = q) (hw : (x = y → P) ∧ (¬ x = y → Q)) (kt : P → At X nL t lv st σ) (kf : Q → At X nL q lv st σ) : At X nL pc lv (.int y :: .int x :: st) σ := by
  subst hq
  exact fun H locs ls hP hS hl => lv_icmp_eq hX.hx hX.hb hd ht (fun h => kt (hw.1 h) H locs ls hP hS hl) (fun h => kf (hw.2 h) H locs ls hP hS hl)
theorem r_if_ne (t q : Nat) (hX : CxB X own cc nL d) {x : Int32} {off : Int} {P Q : Prop} (hd : decode cc pc = .ok (.ifCond .ne off, 3)) (ht : (pc : Int) + off = (t : Int)) (hq : pc + 3 = q) (hw : (x = 0 → Q) ∧ (¬ x = 0 → P)) (kt : P → At X nL t lv st σ) (kf : Q → At X nL q lv st σ) : At X nL pc lv (.int x :: st) σ := by
  subst hq
  exact fun H locs ls hP hS hl => lv_if_ne hX.hx hX.hb hd ht (fun h => kt (hw.2 h) H locs ls hP hS hl) (fun h => kf (hw.1 h) H locs ls hP hS hl)
theorem r_icmp_ne (t q : Nat) (hX : CxB X own cc nL d) {x y : Int32} {off : Int} {P Q : Prop} (hd : decode cc pc = .ok (.if_icmp .ne off, 3)) (ht : (pc : Int) + off = (t : Int)) (hq : pc + 3 = q) (hw : (x = y → Q) ∧ (¬ x = y → P)) (kt : P → At X nL t lv st σ) (kf : Q → At X nL q lv st σ) : At X nL pc lv (.int y :: .int x :: st) σ := by
  subst hq
  exact fun H locs ls hP hS hl => lv_icmp_ne hX.hx hX.hb hd ht (fun h => kt (hw.2 h) H locs ls hP hS hl) (fun h => kf (hw.1 h) H locs ls hP hS hl)
theorem r_if_lt (t q : Nat) (hX : CxB X own cc nL d) {x : Int32} {off : Int} {P Q : Prop} (hd : decode cc pc = .ok (.ifCond .lt off, 3)) (ht : (pc : Int) + off = (t : Int)) (hq : pc + 3 = q) (hw : (x < 0 → P) ∧ (¬ x < 0 → Q)) (kt : P → At X nL t lv st σ) (kf : Q → At X nL q lv st σ) : At X nL pc lv (.int x :: st) σ := by
  subst hq
  exact fun H locs ls hP hS hl => lv_if_lt hX.hx hX.hb hd ht (fun h => kt (hw.1 h) H locs ls hP hS hl) (fun h => kf (hw.2 h) H locs ls hP hS hl)
theorem r_icmp_lt (t q : Nat) (hX : CxB X own cc nL d) {x y : Int32} {off : Int} {P Q : Prop} (hd : decode cc pc = .ok (.if_icmp .lt off, 3)) (ht : (pc : Int) + off = (t : Int)) (hq : pc + 3 = q) (hw : (x < y → P) ∧ (¬ x < y → Q)) (kt : P → At X nL t lv st σ) (kf : Q → At X nL q lv st σ) : At X nL pc lv (.int y :: .int x :: st) σ := by
  subst hq
  exact fun H locs ls hP hS hl => lv_icmp_lt hX.hx hX.hb hd ht (fun h => kt (hw.1 h) H locs ls hP hS hl) (fun h => kf (hw.2 h) H locs ls hP hS hl)
theorem r_if_ge (t q : Nat) (hX : CxB X own cc nL d) {x : Int32} {off : Int} {P Q : Prop} (hd : decode cc pc = .ok (.ifCond .ge off, 3)) (ht : (pc : Int) + off = (t : Int)) (hq : pc + 3 = q) (hw : (0 ≤ x → P) ∧ (¬ 0 ≤ x → Q)) (kt : P → At X nL t lv st σ) (kf : Q → At X nL q lv st σ) : At X nL pc lv (.int x :: st) σ := by
  subst hq
  exact fun H locs ls hP hS hl => lv_if_ge hX.hx hX.hb hd ht (fun h => kt (hw.1 h) H locs ls hP hS hl) (fun h => kf (hw.2 h) H locs ls hP hS hl)
theorem r_icmp_ge (t q : Nat) (hX : CxB X own cc nL d) {x y : Int32} {off : Int} {P Q : Prop} (hd : decode cc pc = .ok (.if_icmp .ge off, 3)) (ht : (pc : Int) + off = (t : Int)) (hq : pc + 3 = q) (hw : (y ≤ x → P) ∧ (¬ y ≤ x → Q)) (kt : P → At X nL t lv st σ) (kf : Q → At X nL q lv st σ) : At X nL pc lv (.int y :: .int x :: st) σ := by
  subst hq
  exact fun H locs ls hP hS hl => lv_icmp_ge hX.hx hX.hb hd ht (fun h => kt (hw.1 h) H locs ls hP hS hl) (fun h => kf (hw.2 h) H locs ls hP hS hl)
theorem r_if_gt (t q : Nat) (hX : CxB X own cc nL d) {x : Int32} {off : Int} {P Q : Prop} (hd : decode cc pc = .ok (.ifCond .gt off, 3)) (ht : (pc : Int) + off = (t : Int)) (hq : pc + 3 = q) (hw : (0 < x → P) ∧ (¬ 0 < x → Q)) (kt : P → At X nL t lv st σ) (kf : Q → At X nL q lv st σ) : At X nL pc lv (.int x :: st) σ := by
  subst hq
  exact fun H locs ls hP hS hl => lv_if_gt hX.hx hX.hb hd ht (fun h => kt (hw.1 h) H locs ls hP hS hl) (fun h => kf (hw.2 h) H locs ls hP hS hl)
theorem r_icmp_gt (t q : Nat) (hX : CxB X own cc nL d) {x y : Int32} {off : Int} {P Q : Prop} (hd : decode cc pc = .ok (.if_icmp .gt off, 3)) (ht : (pc : Int) + off = (t : Int)) (hq : pc + 3 = q) (hw : (y < x → P) ∧ (¬ y < x → Q)) (kt : P → At X nL t lv st σ) (kf : Q → At X nL q lv st σ) : At X nL pc lv (.int y :: .int x :: st) σ := by
  subst hq
  exact fun H locs ls hP hS hl => lv_icmp_gt hX.hx hX.hb hd ht (fun h => kt (hw.1 h) H locs ls hP hS hl) (fun h => kf (hw.2 h) H locs ls hP hS hl)
theorem r_if_le (t q : Nat) (hX : CxB X own cc nL d) {x : Int32} {off : Int} {P Q : Prop} (hd : decode cc pc = .ok (.ifCond .le off, 3)) (ht : (pc : Int) + off = (t : Int)) (hq : pc + 3 = q) (hw : (x ≤ 0 → P) ∧ (¬ x ≤ 0 → Q)) (kt : P → At X nL t lv st σ) (kf : Q → At X nL q lv st σ) : At X nL pc lv (.int x :: st) σ := by
  subst hq
  exact fun H locs ls hP hS hl => lv_if_le hX.hx hX.hb hd ht (fun h => kt (hw.1 h) H locs ls hP hS hl) (fun h => kf (hw.2 h) H locs ls hP hS hl)
theorem r_icmp_le (t q : Nat) (hX : CxB X own cc nL d) {x y : Int32} {off : Int} {P Q : Prop} (hd : decode cc pc = .ok (.if_icmp .le off, 3)) (ht : (pc : Int) + off = (t : Int)) (hq : pc + 3 = q) (hw : (x ≤ y → P) ∧ (¬ x ≤ y → Q)) (kt : P → At X nL t lv st σ) (kf : Q → At X nL q lv st σ) : At X nL pc lv (.int y :: .int x :: st) σ := by
  subst hq
  exact fun H locs ls hP hS hl => lv_icmp_le hX.hx hX.hb hd ht (fun h => kt (hw.1 h) H locs ls hP hS hl) (fun h => kf (hw.2 h) H locs ls hP hS hl)
theorem r_goto (q : Nat) (hX : CxB X own cc nL d) {off : Int} (hd : decode cc pc = .ok (.goto off, 3)) (ht : (pc : Int) + off = (q : Int)) (kk : At X nL q lv st σ) : At X nL pc lv st σ := fun H locs ls hP hS hl => lv_goto hX.hx hX.hb hd ht (kk H locs ls hP hS hl)
theorem r_sub (ks : List Nat) {lv' : List (Nat × Value)} (h : lv_pick lv ks = lv') (kk : At X nL pc lv' st σ) : At X nL pc lv st σ := fun H locs ls hP hS hl => kk H locs ls hP hS (lv_sub hl ks h)
theorem r_ldc (q : Nat) (hX : CxB X own cc nL d) {index : Nat} (v : Int32) (hm : Jvm.Cond.constant own index v ∈ TB) (hd : decode cc pc = .ok (.ldc index, 2)) (hq : pc + 2 = q) (kk : At X nL q lv (.int v :: st) σ) : At X nL pc lv st σ := by
  subst hq
  exact fun H locs ls hP hS hl => lv_ldc hX.hx hX.hb hX.hown (hX.hts _ hm) hd (kk H locs ls hP hS hl)
theorem r_ldcw (q : Nat) (hX : CxB X own cc nL d) {index : Nat} (v : Int32) (hm : Jvm.Cond.constant own index v ∈ TB) (hd : decode cc pc = .ok (.ldc_w index, 3)) (hq : pc + 3 = q) (kk : At X nL q lv (.int v :: st) σ) : At X nL pc lv st σ := by
  subst hq
  intro H locs ls hP hS hl T hT Xs
  obtain ⟨t, a1, b1⟩ := kk H locs ls hP hS hl T hT Xs
  exact ⟨t, va_ldcwI Xs hX.hx hX.hown (hX.hts _ hm) (g := F0 X.km pc ls st) rfl (by rw [hX.hb]; exact hd) t a1, b1⟩
theorem r_ldc2 (q : Nat) (hX : CxB X own cc nL d) {index : Nat} (v : Int64) (hm : Jvm.Cond.constantLong own index v ∈ TB) (hd : decode cc pc = .ok (.ldc2_w index, 3)) (hq : pc + 3 = q) (kk : At X nL q lv (.long v :: st) σ) : At X nL pc lv st σ := by
  subst hq
  exact fun H locs ls hP hS hl => lv_ldc2 hX.hx hX.hb hX.hown (hX.hts _ hm) hd (kk H locs ls hP hS hl)
theorem wE_a {cy : Nat → ClassId} {ad : Nat → Nat} {σ : St} {k n : Nat} :
    (wS k = (8, n) → wE cy ad σ k = .inl (cy 0, n, .inl (σ.1 k))) ∧ (wS k = (9, n) → wE cy ad σ k = .inl (cy 1, n, .inl (σ.1 k))) ∧ (wS k = (10, n) → wE cy ad σ k = .inl (cy 2, n, .inr (.inl (σ.2 k)))) ∧ (wS k = (11, n) → wE cy ad σ k = .inl (cy 3, n, .inl (σ.1 k))) ∧ (wS k = (12, n) → wE cy ad σ k = .inl (cy 4, n, .inr (.inr (.inr (.inr (fun j => if j < n then some (ad (k + 1 + j)) else none)))))) := by
  refine ⟨?_, ?_, ?_, ?_, ?_⟩ <;> (intro h; simp only [wE, h])
theorem sR_self (σ : St) (k : Nat) (f : Nat → Int32) : (sR σ k f).1 k = f := by simp [sR]
theorem sL_self (σ : St) (k : Nat) (f : Nat → Int64) : (sL σ k f).2 k = f := by simp [sL]
theorem r_bald (q : Nat) (hX : CxB X own cc nL d) {k n : Nat} (hs : wS k = (8, n)) {i : Int32} {B : Prop} (hd : decode cc pc = .ok (.baload, 1)) (hq : pc + 1 = q) (hw : vp_in i n ∧ B) (kk : B → At X nL q lv (.int (σ.1 k i.toNatClampNeg) :: st) σ) : At X nL pc lv (.int i :: .ref (X.kad k) :: st) σ := by
  subst hq
  exact fun H locs ls hP hS hl => va_bald hX.hx hX.hb hX.hK hP k 0 (by rw [wW_get (wS_lt hs (by decide)), wE_a.1 hs]) rfl hw.1 hd (kk hw.2 H locs ls hP hS hl)
theorem r_zald (q : Nat) (hX : CxB X own cc nL d) {k n : Nat} (hs : wS k = (11, n)) {i : Int32} {B : Prop} (hd : decode cc pc = .ok (.baload, 1)) (hq : pc + 1 = q) (hw : vp_in i n ∧ B) (kk : B → At X nL q lv (.int (σ.1 k i.toNatClampNeg) :: st) σ) : At X nL pc lv (.int i :: .ref (X.kad k) :: st) σ := by
  subst hq
  exact fun H locs ls hP hS hl => va_zald hX.hx hX.hb hX.hK hP k 3 (by rw [wW_get (wS_lt hs (by decide)), wE_a.2.2.2.1 hs]) rfl hw.1 hd (kk hw.2 H locs ls hP hS hl)
theorem r_iald (q : Nat) (hX : CxB X own cc nL d) {k n : Nat} (hs : wS k = (9, n)) {i : Int32} {B : Prop} (hd : decode cc pc = .ok (.iaload, 1)) (hq : pc + 1 = q) (hw : vp_in i n ∧ B) (kk : B → At X nL q lv (.int (σ.1 k i.toNatClampNeg) :: st) σ) : At X nL pc lv (.int i :: .ref (X.kad k) :: st) σ := by
  subst hq
  exact fun H locs ls hP hS hl => va_iald hX.hx hX.hb hX.hK hP k 1 (by rw [wW_get (wS_lt hs (by decide)), wE_a.2.1 hs]) rfl hw.1 hd (kk hw.2 H locs ls hP hS hl)
theorem r_lald (q : Nat) (hX : CxB X own cc nL d) {k n : Nat} (hs : wS k = (10, n)) {i : Int32} {B : Prop} (hd : decode cc pc = .ok (.laload, 1)) (hq : pc + 1 = q) (hw : vp_in i n ∧ B) (kk : B → At X nL q lv (.long (σ.2 k i.toNatClampNeg) :: st) σ) : At X nL pc lv (.int i :: .ref (X.kad k) :: st) σ := by
  subst hq
  exact fun H locs ls hP hS hl => va_lald hX.hx hX.hb hX.hK hP k 2 (by rw [wW_get (wS_lt hs (by decide)), wE_a.2.2.1 hs]) rfl hw.1 hd (kk hw.2 H locs ls hP hS hl)
theorem r_aald (q : Nat) (hX : CxB X own cc nL d) {k n : Nat} (hs : wS k = (12, n)) {i : Int32} {B : Prop} (hd : decode cc pc = .ok (.aaload, 1)) (hq : pc + 1 = q) (hw : vp_in i n ∧ B) (kk : vp_in i n → B → At X nL q lv (.ref (X.kad (k + 1 + i.toNatClampNeg)) :: st) σ) : At X nL pc lv (.int i :: .ref (X.kad k) :: st) σ := by
  subst hq
  intro H locs ls hP hS hl
  have hlt : i.toNatClampNeg < n := Nat.not_le.mp fun q => hw.1 (Or.inr q)
  have hc := hP k _ (by rw [wW_get (wS_lt hs (by decide)), wE_a.2.2.2.2 hs])
  refine W.aald (v := .ref (X.kad (k + 1 + i.toNatClampNeg))) (ty := .array .int) hX.hx hX.hb hc ((hX.hK.2 4 _ rfl).1 n (fun j => va_rf (if j < n then some (X.kad (k + 1 + j)) else none))) rfl (fun q => by cases q) (by show ¬ (i < 0 ∨ (arrV _ _ _).slots.size ≤ _); rw [arrV_size]; exact hw.1) ?_ rfl rfl hd (kk hw.1 hw.2 H locs ls hP hS hl)
  show (arrV _ _ _).slots[_]? = _
  rw [arrV_read _ _ hlt]
  show some (va_rf (if i.toNatClampNeg < n then some (X.kad (k + 1 + i.toNatClampNeg)) else none)) = _
  rw [if_pos hlt]
  rfl
theorem r_alen (q : Nat) (hX : CxB X own cc nL d) {k t n : Nat} (hs : wS k = (t, n)) (ht : t = 8 ∨ t = 9 ∨ t = 10) (hd : decode cc pc = .ok (.arraylength, 1)) (hq : pc + 1 = q) (kk : At X nL q lv (.int (Int32.ofNat n) :: st) σ) : At X nL pc lv (.ref (X.kad k) :: st) σ := by
  subst hq
  intro H locs ls hP hS hl
  have hk : k < 100 := wS_lt hs (by omega)
  rcases ht with rfl | rfl | rfl
  · exact va_alen hX.hx hX.hb hX.hK hP k 0 (by rw [wW_get hk, wE_a.1 hs]) rfl rfl hd (kk H locs ls hP hS hl)
  · exact va_alen hX.hx hX.hb hX.hK hP k 1 (by rw [wW_get hk, wE_a.2.1 hs]) rfl rfl hd (kk H locs ls hP hS hl)
  · exact va_alen hX.hx hX.hb hX.hK hP k 2 (by rw [wW_get hk, wE_a.2.2.1 hs]) rfl rfl hd (kk H locs ls hP hS hl)
theorem r_bast (q : Nat) (hX : CxB X own cc nL d) {k n : Nat} (hs : wS k = (8, n)) {i : Int32} {x : Int32} {B : Prop} (hd : decode cc pc = .ok (.bastore, 1)) (hq : pc + 1 = q) (hw : vp_in i n ∧ B) (kk : B → At X nL q lv st (sI σ k i.toNatClampNeg (vp_nar .byte x))) : At X nL pc lv (.int x :: .int i :: .ref (X.kad k) :: st) σ := by
  subst hq
  intro H locs ls hP hS hl
  refine va_bast hX.hx hX.hb hX.hK hP (hX.hD σ) hS k 0 (by rw [wW_get (wS_lt hs (by decide)), wE_a.1 hs]) rfl hw.1 hd (fun H1 locs1 hP1 _ hS1 => ?_)
  rw [wW_setR (by rw [wE_a.1 hs, sR_self])] at hP1
  exact kk hw.2 H1 locs1 ls hP1 hS1 hl
theorem r_zast (q : Nat) (hX : CxB X own cc nL d) {k n : Nat} (hs : wS k = (11, n)) {i : Int32} {x : Int32} {B : Prop} (hd : decode cc pc = .ok (.bastore, 1)) (hq : pc + 1 = q) (hw : vp_in i n ∧ B) (kk : B → At X nL q lv st (sI σ k i.toNatClampNeg (vp_nar .boolean x))) : At X nL pc lv (.int x :: .int i :: .ref (X.kad k) :: st) σ := by
  subst hq
  intro H locs ls hP hS hl
  refine va_zast hX.hx hX.hb hX.hK hP (hX.hD σ) hS k 3 (by rw [wW_get (wS_lt hs (by decide)), wE_a.2.2.2.1 hs]) rfl hw.1 hd (fun H1 locs1 hP1 _ hS1 => ?_)
  rw [wW_setR (by rw [wE_a.2.2.2.1 hs, sR_self])] at hP1
  exact kk hw.2 H1 locs1 ls hP1 hS1 hl
theorem r_iast (q : Nat) (hX : CxB X own cc nL d) {k n : Nat} (hs : wS k = (9, n)) {i : Int32} {x : Int32} {B : Prop} (hd : decode cc pc = .ok (.iastore, 1)) (hq : pc + 1 = q) (hw : vp_in i n ∧ B) (kk : B → At X nL q lv st (sI σ k i.toNatClampNeg x)) : At X nL pc lv (.int x :: .int i :: .ref (X.kad k) :: st) σ := by
  subst hq
  intro H locs ls hP hS hl
  refine va_iast hX.hx hX.hb hX.hK hP (hX.hD σ) hS k 1 (by rw [wW_get (wS_lt hs (by decide)), wE_a.2.1 hs]) rfl hw.1 hd (fun H1 locs1 hP1 _ hS1 => ?_)
  rw [wW_setR (by rw [wE_a.2.1 hs, sR_self])] at hP1
  exact kk hw.2 H1 locs1 ls hP1 hS1 hl
theorem r_last (q : Nat) (hX : CxB X own cc nL d) {k n : Nat} (hs : wS k = (10, n)) {i : Int32} {x : Int64} {B : Prop} (hd : decode cc pc = .ok (.lastore, 1)) (hq : pc + 1 = q) (hw : vp_in i n ∧ B) (kk : B → At X nL q lv st (sJ σ k i.toNatClampNeg x)) : At X nL pc lv (.long x :: .int i :: .ref (X.kad k) :: st) σ := by
  subst hq
  intro H locs ls hP hS hl
  refine va_last hX.hx hX.hb hX.hK hP (hX.hD σ) hS k 2 (by rw [wW_get (wS_lt hs (by decide)), wE_a.2.2.1 hs]) rfl hw.1 hd (fun H1 locs1 hP1 _ hS1 => ?_)
  rw [wW_setL (by rw [wE_a.2.2.1 hs, sL_self])] at hP1
  exact kk hw.2 H1 locs1 ls hP1 hS1 hl
theorem r_get (q : Nat) (hX : CxB X own cc nL d) {ref C : String} {T : u_T} {N ci index k0 : Nat} {fs : List Value} (h0 : k0 < 100) (he : wE X.kcy X.kad σ k0 = .inr (ci, fs)) (hc : vwCl[ci]? = some (C, T, N)) (hin : ∀ w ∈ u_ws C T N, w ∈ TB) (k : Nat) (hk : k < N) (hm : Cond.fieldLink own index ref (T k).2.1 (T k).2.2.1 ∈ TB) (hr : (T k).1 = ref) {v : Value} (hv : fs[k]? = some v) (hd : decode cc pc = .ok (.getfield index, 3)) (hq : pc + 3 = q) (kk : At X nL q lv (v :: st) σ) : At X nL pc lv (.ref (X.kad k0) :: st) σ := by
  subst hq
  exact fun H locs ls hP hS hl => va_get hX.hx hX.hb hX.hts hin hX.hown hX.hK hP k0 (by rw [wW_get h0, he]) hc k hk (hX.hts _ hm) (fun x h => by rw [← hr]; exact h) hv hd (kk H locs ls hP hS hl)
theorem r_put {τ : St} (q : Nat) (hX : CxB X own cc nL d) {ref C : String} {T : u_T} {N ci index k0 : Nat} {fs : List Value} (h0 : k0 < 100) (he : wE X.kcy X.kad σ k0 = .inr (ci, fs)) (hc : vwCl[ci]? = some (C, T, N)) (hin : ∀ w ∈ u_ws C T N, w ∈ TB) (ty0 : Nat → FieldType) (hty : ∀ k, k < N → parseFieldDescriptor (T k).2.2.1 = some (ty0 k)) (hnm : ∀ a, a < N → ∀ b, b < N → a ≠ b → (T a).2.1 ≠ (T b).2.1) (k : Nat) (hk : k < N) (hm : Cond.fieldLink own index ref (T k).2.1 (T k).2.2.1 ∈ TB) (hr : (T k).1 = ref) (hfin : (T k).2.2.2 = false) {ty : FieldType} {v : Value} (hdd : parseFieldDescriptor (T k).2.2.1 = some ty) (hn : narrow ty v = v) (hfit : fits ty v = true) (hl0 : k < fs.length) (hset : (wW X.kcy X.kad σ).set k0 (X.kad k0, .inr (ci, fs.set k v)) = wW X.kcy X.kad τ) (hd : decode cc pc = .ok (.putfield index, 3)) (hq : pc + 3 = q) (kk : At X nL q lv st τ) : At X nL pc lv (v :: .ref (X.kad k0) :: st) σ := by
  subst hq
  intro H locs ls hP hS hl
  refine va_put hX.hx hX.hb hX.hts hin ty0 hty hnm hX.hown hX.hK hP (hX.hD σ) hS k0 (by rw [wW_get h0, he]) hc k hk (hX.hts _ hm) (fun x h => by rw [← hr]; exact h) hfin hdd hn hfit hl0 hd (fun H1 locs1 hP1 _ hS1 => ?_)
  rw [hset] at hP1
  exact kk H1 locs1 ls hP1 hS1 hl
theorem cat_le (h : 40 * d ≤ X.kR.locals) (h1 : 1 ≤ d) {n : Nat} (hn : n ≤ 27) : n + 13 ≤ X.kR.locals := by omega
theorem r_mmax (q : Nat) (hX : CxB X own cc nL d) {index : Nat} {x y : Int32} (h1 : Cond.methodLink own index Lib.Math.max.name ∈ TB) (h2 : Cond.static Lib.Math.max.name ∈ TB) (h3 : Cond.initialized "java/lang/Math" ∈ TB) (h4 : Cond.code Lib.Math.max.name Lib.Math.max.code 2 (some .int) ∈ TB) (hr : (st.map fun v => v.category).sum ≤ 27) (hd : decode cc pc = .ok (.invokestatic index, 3)) (hq : pc + 3 = q) (kk : At X nL q lv (.int (if x < y then y else x) :: st) σ) : At X nL pc lv (.int y :: .int x :: st) σ := by
  subst hq
  exact fun H locs ls hP hS hl => va_mmax hX.hx hX.hb (hX.hml.trans hl.1.symm) hX.hown (hX.hts _ h1) (hX.hts _ h2) (hX.hts _ h3) (hX.hts _ h4) (Nat.le_trans hX.hd1 hX.hfr) (cat_le hX.hlo hX.hd1 hr) hX.hce hX.hsl hd (kk H locs ls hP hS hl)
theorem r_mmin (q : Nat) (hX : CxB X own cc nL d) {index : Nat} {x y : Int32} (h1 : Cond.methodLink own index Lib.Math.min.name ∈ TB) (h2 : Cond.static Lib.Math.min.name ∈ TB) (h3 : Cond.initialized "java/lang/Math" ∈ TB) (h4 : Cond.code Lib.Math.min.name Lib.Math.min.code 2 (some .int) ∈ TB) (hr : (st.map fun v => v.category).sum ≤ 27) (hd : decode cc pc = .ok (.invokestatic index, 3)) (hq : pc + 3 = q) (kk : At X nL q lv (.int (if y < x then y else x) :: st) σ) : At X nL pc lv (.int y :: .int x :: st) σ := by
  subst hq
  exact fun H locs ls hP hS hl => va_mmin hX.hx hX.hb (hX.hml.trans hl.1.symm) hX.hown (hX.hts _ h1) (hX.hts _ h2) (hX.hts _ h3) (hX.hts _ h4) (Nat.le_trans hX.hd1 hX.hfr) (cat_le hX.hlo hX.hd1 hr) hX.hce hX.hsl hd (kk H locs ls hP hS hl)
theorem r_mabs (q : Nat) (hX : CxB X own cc nL d) {index : Nat} {x : Int32} (h1 : Cond.methodLink own index Lib.Math.abs.name ∈ TB) (h2 : Cond.static Lib.Math.abs.name ∈ TB) (h3 : Cond.initialized "java/lang/Math" ∈ TB) (h4 : Cond.code Lib.Math.abs.name Lib.Math.abs.code 1 (some .int) ∈ TB) (hr : (st.map fun v => v.category).sum ≤ 27) (hd : decode cc pc = .ok (.invokestatic index, 3)) (hq : pc + 3 = q) (kk : At X nL q lv (.int (if 0 ≤ x then x else 0 - x) :: st) σ) : At X nL pc lv (.int x :: st) σ := by
  subst hq
  exact fun H locs ls hP hS hl => va_mabs hX.hx hX.hb (hX.hml.trans hl.1.symm) hX.hown (hX.hts _ h1) (hX.hts _ h2) (hX.hts _ h3) (hX.hts _ h4) (Nat.le_trans hX.hd1 hX.hfr) (cat_le hX.hlo hX.hd1 hr) hX.hce hX.hsl hd (kk H locs ls hP hS hl)
theorem r_copyi (q : Nat) (hX : CxB X own cc nL d) {index a b n0 n1 : Nat} (hsa : wS a = (9, n0)) (hsb : wS b = (9, n1)) (h1 : Cond.methodLink own index arraycopyName ∈ TB) (h2 : Cond.native arraycopyName ∈ TB) (h3 : Cond.static arraycopyName ∈ TB) (h4 : Cond.initialized "java/lang/System" ∈ TB) (hr : (st.map fun v => v.category).sum = 0) (hN : nativeFrameWords "java/lang/System" "arraycopy" 5 + 11 ≤ 40) {sp dp n : Int32} {B : Prop} (hd : decode cc pc = .ok (.invokestatic index, 3)) (hq : pc + 3 = q) (hw : (¬ sp < 0 ∧ ¬ dp < 0 ∧ ¬ n < 0 ∧ sp.toNatClampNeg + n.toNatClampNeg ≤ n0 ∧ dp.toNatClampNeg + n.toNatClampNeg ≤ n1) ∧ B) (kk : B → At X nL q lv st (sR σ b (va_cpy (σ.1 a) (σ.1 b) sp.toNatClampNeg dp.toNatClampNeg n.toNatClampNeg))) : At X nL pc lv (.int n :: .int dp :: .ref (X.kad b) :: .int sp :: .ref (X.kad a) :: st) σ := by
  subst hq
  intro H locs ls hP hS hl
  obtain ⟨⟨g1, g2, g3, g4, g5⟩, hB⟩ := hw
  refine va_copyi hX.hx hX.hb (hX.hml.trans hl.1.symm) hX.hown (hX.hts _ h1) (hX.hts _ h2) (hX.hts _ h3) (hX.hts _ h4) hX.hK hP (hX.hD σ) hS a b 1 1 (by rw [wW_get (wS_lt hsa (by decide)), wE_a.2.1 hsa]) (by rw [wW_get (wS_lt hsb (by decide)), wE_a.2.1 hsb]) rfl rfl rfl g1 g2 g3 g4 g5 (fun i _ => rfl) (Nat.le_trans hX.hd1 hX.hfr) (by rw [hr]; have := hX.hlo; have := hX.hd1; omega) hd (fun H1 locs1 hP1 _ hS1 => ?_)
  rw [wW_setR (by rw [wE_a.2.1 hsb, sR_self])] at hP1
  exact kk hB H1 locs1 ls hP1 hS1 hl
theorem r_copyl (q : Nat) (hX : CxB X own cc nL d) {index a b n0 n1 : Nat} (hsa : wS a = (10, n0)) (hsb : wS b = (10, n1)) (h1 : Cond.methodLink own index arraycopyName ∈ TB) (h2 : Cond.native arraycopyName ∈ TB) (h3 : Cond.static arraycopyName ∈ TB) (h4 : Cond.initialized "java/lang/System" ∈ TB) (hr : (st.map fun v => v.category).sum = 0) (hN : nativeFrameWords "java/lang/System" "arraycopy" 5 + 11 ≤ 40) {sp dp n : Int32} {B : Prop} (hd : decode cc pc = .ok (.invokestatic index, 3)) (hq : pc + 3 = q) (hw : (¬ sp < 0 ∧ ¬ dp < 0 ∧ ¬ n < 0 ∧ sp.toNatClampNeg + n.toNatClampNeg ≤ n0 ∧ dp.toNatClampNeg + n.toNatClampNeg ≤ n1) ∧ B) (kk : B → At X nL q lv st (sL σ b (va_cpy (σ.2 a) (σ.2 b) sp.toNatClampNeg dp.toNatClampNeg n.toNatClampNeg))) : At X nL pc lv (.int n :: .int dp :: .ref (X.kad b) :: .int sp :: .ref (X.kad a) :: st) σ := by
  subst hq
  intro H locs ls hP hS hl
  obtain ⟨⟨g1, g2, g3, g4, g5⟩, hB⟩ := hw
  refine va_copyl hX.hx hX.hb (hX.hml.trans hl.1.symm) hX.hown (hX.hts _ h1) (hX.hts _ h2) (hX.hts _ h3) (hX.hts _ h4) hX.hK hP (hX.hD σ) hS a b 2 2 (by rw [wW_get (wS_lt hsa (by decide)), wE_a.2.2.1 hsa]) (by rw [wW_get (wS_lt hsb (by decide)), wE_a.2.2.1 hsb]) rfl rfl rfl g1 g2 g3 g4 g5 (fun i _ => rfl) (Nat.le_trans hX.hd1 hX.hfr) (by rw [hr]; have := hX.hlo; have := hX.hd1; omega) hd (fun H1 locs1 hP1 _ hS1 => ?_)
  rw [wW_setL (by rw [wE_a.2.2.1 hsb, sL_self])] at hP1
  exact kk hB H1 locs1 ls hP1 hS1 hl
end RW
theorem CxB.ucTo {X : Cx} {own : String} {cc : ByteArray} {nL d : Nat} (h : CxB X own cc nL d) {H : Heap} {locs : List Loc} {U : State} (hS : va_S X.kA X.ks.heap H locs) (hW : X.ks.WarmedH U.vm) : uC X.kad (uA X.kad H.size) U H :=
  h.huc.to hW (fun q hq => by
    rcases hq with ⟨k, hk, rfl⟩ | hq
    · exact h.hAw k hk
    · exact h.hAz q (Nat.le_trans hS.1 hq)) (fun a h1 h2 => hS.2.1 a h1 h2)
/-! a method's end, its contract, its call -/
def uB (D : va_G) (cy : Nat → ClassId) (ad : Nat → Nat) (σ : St) (t : State) : Prop := va_P D vwCl (wW cy ad σ) t.heap ∧ va_K D vwCl (wT cy) t
def uQ (Q : RV → St → Prop) (D : va_G) (cy : Nat → ClassId) (ad : Nat → Nat) (A : Nat → Prop) : Array Value → State → Outcome → State → Prop := fun _ st oc t => (∃ (r : RV) (u : St), oc = .returned (rvv ad r) ∧ Q r u ∧ uB D cy ad u t) ∧ va_F A st t
def CxR (X : Cx) (ret : Option FieldType) (Q : RV → St → Prop) : Prop := X.kQf = MQ X.kbelow (uQ Q X.kD X.kcy X.kad X.kA) X.kargs X.ks X.kcells X.kslots X.kA ∧ X.kmeth.sig.returnType = ret ∧ X.kmeth.locks = false
section RT
variable {X : Cx} {own : String} {cc : ByteArray} {nL d pc : Nat} {lv : List (Nat × Value)} {σ : St} {Q : RV → St → Prop}
theorem r_iret (hX : CxB X own cc nL d) (hR : CxR X (some .int) Q) {v : Int32} (hd : decode cc pc = .ok (.ireturn, 1)) (hw : Q (some (.inl v)) σ) : At X nL pc lv [.int v] σ := by
  intro H locs ls hP hS hl
  rw [hR.1]
  exact W.iret hX.hx hX.hb hR.2.1 (fun t ht hW => ⟨⟨some (.inl v), σ, rfl, hw, by rw [ht]; exact hP, va_K.moved hW.alike hX.hK⟩, hS.F ht⟩) (fun q hq => hS.2.2 q hq) hd hR.2.2
theorem r_zret (hX : CxB X own cc nL d) (hR : CxR X (some .boolean) Q) {v : Int32} (hn : narrow .boolean (.int v) = .int v) (hd : decode cc pc = .ok (.ireturn, 1)) (hw : Q (some (.inl v)) σ) : At X nL pc lv [.int v] σ := by
  intro H locs ls hP hS hl
  rw [hR.1]
  exact W.zret hX.hx hX.hb hR.2.1 hn (fun t ht hW => ⟨⟨some (.inl v), σ, rfl, hw, by rw [ht]; exact hP, va_K.moved hW.alike hX.hK⟩, hS.F ht⟩) (fun q hq => hS.2.2 q hq) hd hR.2.2
theorem r_lret (hX : CxB X own cc nL d) (hR : CxR X (some .long) Q) {v : Int64} (hd : decode cc pc = .ok (.lreturn, 1)) (hw : Q (some (.inr (.inl v))) σ) : At X nL pc lv [.long v] σ := by
  intro H locs ls hP hS hl
  rw [hR.1]
  exact W.lret hX.hx hX.hb hR.2.1 (fun t ht hW => ⟨⟨some (.inr (.inl v)), σ, rfl, hw, by rw [ht]; exact hP, va_K.moved hW.alike hX.hK⟩, hS.F ht⟩) (fun q hq => hS.2.2 q hq) hd hR.2.2
theorem r_vret (hX : CxB X own cc nL d) (hR : CxR X (none) Q)  (hd : decode cc pc = .ok (.return_, 1)) (hw : Q (none) σ) : At X nL pc lv [] σ := by
  intro H locs ls hP hS hl
  rw [hR.1]
  exact W.vret hX.hx hX.hb hR.2.1 (fun t ht hW => ⟨⟨none, σ, rfl, hw, by rw [ht]; exact hP, va_K.moved hW.alike hX.hK⟩, hS.F ht⟩) (fun q hq => hS.2.2 q hq) hd hR.2.2
theorem r_aret (hX : CxB X own cc nL d) {C : String} (hR : CxR X (some (.object C)) Q) {k : Nat} (hd : decode cc pc = .ok (.areturn, 1)) (hw : Q (some (.inr (.inr k))) σ) : At X nL pc lv [.ref (X.kad k)] σ := by
  intro H locs ls hP hS hl
  rw [hR.1]
  exact W.aret hX.hx hX.hb hR.2.1 (Or.inl ⟨C, rfl⟩) (Or.inr ⟨_, rfl⟩) (fun t ht hW => ⟨⟨some (.inr (.inr k)), σ, rfl, hw, by rw [ht]; exact hP, va_K.moved hW.alike hX.hK⟩, hS.F ht⟩) (fun q hq => hS.2.2 q hq) hd hR.2.2
end RT
def rmD (d : Nat) : Room := { frames := d, cells := 0, slots := 0, locals := 40 * d }
def Con (y : MethodName) (cc : ByteArray) (maxL : Nat) (ret : Option FieldType) (d : Nat) (mk : (Nat → Nat) → List Value) (Wp : (RV → St → Prop) → St → Prop) : Prop := ∀ (l : Launch) (D : va_G) (cy : Nat → ClassId) (ad : Nat → Nat), wInj ad → ∀ (σ : St) (sz : Nat) (Q : RV → St → Prop), Wp Q σ → Met l y (.code y cc maxL ret :: TB) (rmD d) (va_Pc (mk ad) (fun U => U.heap.size = sz ∧ uB D cy ad σ U ∧ uC ad (uA ad sz) U U.heap)) (uQ Q D cy ad (uA ad sz)) 0 0 (uA ad sz)
theorem con_intro {y : MethodName} {cc : ByteArray} {maxL : Nat} {ret : Option FieldType} {d : Nat} {mk : (Nat → Nat) → List Value} {Wp : (RV → St → Prop) → St → Prop} (hy : plainName y.cls = true) (hlen : ∀ ad, (lg_sl (mk ad)).length ≤ maxL) (hd1 : 1 ≤ d)
    (h : ∀ (X : Cx) (Q : RV → St → Prop) (σ : St), CxB X y.cls cc maxL d → CxR X ret Q → Wp Q σ → At X maxL 0 (lv_args 0 (mk X.kad)) [] σ) : Con y cc maxL ret d mk Wp := by
  intro l D cy ad hi σ sz Q hw
  refine Met.ofW (cc := cc) (maxL := maxL) (ret := ret) hy rfl ?_
  intro p e s m args below meth c s₁ B hml hv
  obtain ⟨rfl, hsz, ⟨hP, hK⟩, hU⟩ := hv
  subst hsz
  have hts := atoms_spec (ws := .code y cc maxL ret :: TB) B.pre
  have hX : CxB (p, l, e, rmD d, s, m, (mk ad).toArray, below, meth, c, 0, 0, D, cy, ad, uA ad s.heap.size, MQ below (uQ Q D cy ad (uA ad s.heap.size)) (mk ad).toArray s 0 0 (uA ad s.heap.size)) y.cls cc maxL d := ⟨B.exec, B.bytes, hml, findClass_of_methodNamed B.named, fun w h => hts w (List.mem_cons_of_mem _ h), hK, hi, fun k hk => Or.inl ⟨k, hk, rfl⟩, fun q h => Or.inr h, hd1, Nat.le_refl _, Nat.le_refl _, Nat.le_refl _, Nat.le_refl _, hU⟩
  have hR : CxR (p, l, e, rmD d, s, m, (mk ad).toArray, below, meth, c, 0, 0, D, cy, ad, uA ad s.heap.size, MQ below (uQ Q D cy ad (uA ad s.heap.size)) (mk ad).toArray s 0 0 (uA ad s.heap.size)) ret Q := ⟨rfl, B.returns, B.notSynchronized⟩
  have h9 := h _ Q σ hX hR hw s.heap [] _ hP va_S.rf (lv_entry (mk ad) (hlen ad))
  rw [lg_entry_eq]
  exact h9
section CL
variable {X : Cx} {own : String} {cc : ByteArray} {nL d pc : Nat} {lv : List (Nat × Value)} {σ : St}
theorem r_go (q : Nat) (hX : CxB X own cc nL d) {y : MethodName} {bytes : ByteArray} {maxL dc : Nat} {ret : Option FieldType} {mk : (Nat → Nat) → List Value} {Wp : (RV → St → Prop) → St → Prop} {rest stack : List Value} {K : RV → St → Prop} {H : Heap} {locs : List Loc} {ls : Array Slot} (hq : pc + 3 = q) (hP : va_P X.kD vwCl (wW X.kcy X.kad σ) H) (hS : va_S X.kA X.ks.heap H locs) (hl : lv_has ls nL lv)
    (hr : va_Run X.kp X.kl X.ke X.kR X.ks X.km X.kargs X.kbelow X.kmeth X.kc H locs X.kcells X.kslots 0 0 (F0 X.km pc ls stack) rest (uQ K X.kD X.kcy X.kad (uA X.kad H.size) (mk X.kad).toArray) (uA X.kad H.size))
    (kk : ∀ (r : RV) (τ : St), K r τ → At X nL q lv ((rvv X.kad r).toList ++ rest) τ) : W X.kp X.kl X.ke X.kR X.ks X.km X.kargs X.kbelow X.kmeth X.kc H locs X.kcells X.kslots X.kQf (F0 X.km pc ls stack) := by
  subst hq
  intro T hT Xs
  obtain ⟨v, st₀, t, T', L, h0, X', hL, e1, e2, ⟨⟨r, u, hv, hp, hb⟩, hz, hk⟩, st⟩ := hr T hT Xs
  have hv' : v = rvv X.kad r := by injection hv
  subst hv'
  rw [h0] at hz hk
  have hA : ∀ q, uA X.kad H.size q → X.kA q := fun q h => by
    rcases h with ⟨k, hk, rfl⟩ | h
    · exact hX.hAw k hk
    · exact hX.hAz q (Nat.le_trans hS.1 h)
  have hS' : va_S X.kA X.ks.heap T'.heap (locs ++ L) := ⟨Nat.le_trans hS.1 (by rw [e1]; exact hz), fun q h1 h2 => by rw [e1, hk q (Nat.lt_of_lt_of_le h1 hS.1) (fun z => h2 (hA q z))]; exact hS.2.1 q h1 h2, fun q hq => by
      rcases List.mem_append.mp hq with h | h
      · exact hS.2.2 q h
      · exact hA _ (hL q h)⟩
  have hP' : va_P X.kD vwCl (wW X.kcy X.kad u) T'.heap := by rw [e1]; exact hb.1
  obtain ⟨t2, a1, b1⟩ := kk r u hp T'.heap (locs ++ L) ls hP' hS' hl T' rfl X'
  exact ⟨t2, st t2 a1, b1⟩
theorem fb_blind {D : va_G} {cy : Nat → ClassId} {ad : Nat → Nat} {σ : St} {av : List Value} {sz : Nat} : FrameBlind (va_Pc av (fun U => U.heap.size = sz ∧ uB D cy ad σ U ∧ uC ad (uA ad sz) U U.heap)) := fun a U g mk q => by
  obtain ⟨q0, q1, ⟨qP, qK⟩, qU⟩ := q
  exact ⟨q0, q1, ⟨qP, va_K.moved (u := U) (U := U.calling g mk a) (Vm.Alike.refl U.vm) qK⟩, qU.calling⟩
theorem r_callV (q : Nat) (hX : CxB X own cc nL d) {y : MethodName} {bytes : ByteArray} {maxL dc idx k0 n : Nat} {ret : Option FieldType} {mk : (Nat → Nat) → List Value} {Wp : (RV → St → Prop) → St → Prop} {As rest stack : List Value} {K : RV → St → Prop} (hC : Con y bytes maxL ret dc mk Wp)
    (h1 : Cond.methodLink own idx y ∈ TB) (h2 : Cond.instanceMethod y ∈ TB) (h3 : Cond.selects y.cls y y ∈ TB) (h4 : Cond.initialized y.cls ∈ TB) (h5 : Cond.code y bytes maxL ret ∈ TB) (hp : y.cls ≠ "java/lang/invoke/MethodHandle" ∧ y.cls ≠ "java/lang/invoke/VarHandle" ∧ (parseMethodDescriptor y.desc).map (fun d => d.parameters.length) = some n)
    (hdc : dc + 1 ≤ d) (hmx : maxL ≤ 21) (hlen : As.length = n) (hmk : mk X.kad = .ref (X.kad k0) :: As) (hk0 : k0 < 100) (hrec : ∃ ci fs c, wE X.kcy X.kad σ k0 = .inr (ci, fs) ∧ vwCl[ci]? = some c ∧ c.1 = y.cls) (hst : (rest.map fun v => v.category).sum ≤ 8) (hd : decode cc pc = .ok (.invokevirtual idx, 3)) (hq : pc + 3 = q) (hstk : stack = As.reverse ++ .ref (X.kad k0) :: rest)
    (hw : Wp K σ) (kk : ∀ (r : RV) (τ : St), K r τ → At X nL q lv ((rvv X.kad r).toList ++ rest) τ) : At X nL pc lv stack σ := by
  intro H locs ls hP hS hl
  have hM := hC X.kl X.kD X.kcy X.kad hX.hinj σ H.size K hw
  obtain ⟨ci, fs, c9, he, hc9, hcn⟩ := hrec
  have hrv : ∃ cell : Cell, H[X.kad k0]? = some cell ∧ cell.vm.isStatics = false ∧ X.ks.vm.findClass y.cls = some cell.cls := by
    rw [← hcn]
    exact va_recv hX.hK hP (q0 := k0) hc9 (by rw [wW_get hk0, he])
  have hr := va_runV (cells := X.kcells) (slots := X.kslots) (locs := locs) (l := X.kl) (e := X.ke) (below := X.kbelow) (meth := X.kmeth) (nL := nL) (As := As) (rest := rest) (g := F0 X.km pc ls stack) ⟨hX.hx, hX.hb, hX.hml, hX.hown, hX.hts⟩ hM (cwV n hX.hts (tb_in (fun w hw => by
      rcases List.mem_append.mp hw with h | h
      · rcases List.mem_cons.mp h with rfl | h
        · exact h1
        rcases List.mem_cons.mp h with rfl | h
        · exact h2
        rcases List.mem_cons.mp h with rfl | h
        · exact h3
        rcases List.mem_cons.mp h with rfl | h
        · exact h4
        cases h
      · rcases List.mem_cons.mp h with rfl | h
        · exact h5
        · exact h)) rfl rfl rfl ⟨rfl, hp⟩ ⟨Nat.le_trans hdc hX.hfr, by have h8 := hX.hlo; show 8 + (maxL + 11) + 40 * dc ≤ _; omega⟩)
    ⟨fb_blind, hrv, fun U hU hW => ⟨by rw [hmk], by rw [hU], ⟨by rw [hU]; exact hP, va_K.moved hW.alike hX.hK⟩, by rw [hU]; exact hX.ucTo hS hW⟩⟩ rfl hlen hl.1 hstk (lv_room (m := X.km) (pc := pc) (ls := ls) hst) hd ⟨hX.hce, hX.hsl⟩
  rw [← hmk] at hr
  exact r_go (y := y) (bytes := bytes) (maxL := maxL) (dc := dc) (ret := ret) (Wp := Wp) q hX hq hP hS hl hr kk
theorem r_callS (q : Nat) (hX : CxB X own cc nL d) {y : MethodName} {bytes : ByteArray} {maxL dc idx n : Nat} {ret : Option FieldType} {mk : (Nat → Nat) → List Value} {Wp : (RV → St → Prop) → St → Prop} {As rest stack : List Value} {K : RV → St → Prop} (hC : Con y bytes maxL ret dc mk Wp)
    (h1 : Cond.methodLink own idx y ∈ TB) (h2 : Cond.static y ∈ TB) (h4 : Cond.initialized y.cls ∈ TB) (h5 : Cond.code y bytes maxL ret ∈ TB) (hp : y.cls ≠ "java/lang/invoke/MethodHandle" ∧ y.cls ≠ "java/lang/invoke/VarHandle" ∧ (parseMethodDescriptor y.desc).map (fun d => d.parameters.length) = some n)
    (hdc : dc + 1 ≤ d) (hmx : maxL ≤ 21) (hlen : As.length = n) (hmk : mk X.kad = As) (hst : (rest.map fun v => v.category).sum ≤ 8) (hd : decode cc pc = .ok (.invokestatic idx, 3)) (hq : pc + 3 = q) (hstk : stack = As.reverse ++ rest)
    (hw : Wp K σ) (kk : ∀ (r : RV) (τ : St), K r τ → At X nL q lv ((rvv X.kad r).toList ++ rest) τ) : At X nL pc lv stack σ := by
  intro H locs ls hP hS hl
  have hM := hC X.kl X.kD X.kcy X.kad hX.hinj σ H.size K hw
  have hr := va_runS (cells := X.kcells) (slots := X.kslots) (locs := locs) (l := X.kl) (e := X.ke) (below := X.kbelow) (meth := X.kmeth) (nL := nL) (As := As) (rest := rest) (g := F0 X.km pc ls stack) ⟨hX.hx, hX.hb, hX.hml, hX.hown, hX.hts⟩ hM (va_cwS n hX.hts (tb_in (fun w hw => by
      rcases List.mem_append.mp hw with h | h
      · rcases List.mem_cons.mp h with rfl | h
        · exact h1
        rcases List.mem_cons.mp h with rfl | h
        · exact h2
        rcases List.mem_cons.mp h with rfl | h
        · exact h4
        cases h
      · rcases List.mem_cons.mp h with rfl | h
        · exact h5
        · exact h)) rfl rfl rfl hp ⟨Nat.le_trans hdc hX.hfr, by have h8 := hX.hlo; show 8 + (maxL + 11) + 40 * dc ≤ _; omega⟩)
    ⟨fb_blind, fun U hU hW => ⟨by rw [hmk], by rw [hU], ⟨by rw [hU]; exact hP, va_K.moved hW.alike hX.hK⟩, by rw [hU]; exact hX.ucTo hS hW⟩⟩ rfl hlen hl.1 hstk (lv_room (m := X.km) (pc := pc) (ls := ls) hst) hd ⟨hX.hce, hX.hsl⟩
  rw [← hmk] at hr
  exact r_go (y := y) (bytes := bytes) (maxL := maxL) (dc := dc) (ret := ret) (Wp := Wp) q hX hq hP hS hl hr kk
end CL
def qI (K : Int32 → St → Prop) : RV → St → Prop := fun v σ => match v with
  | some (.inl x) => K x σ
  | _ => False
def qJ (K : Int64 → St → Prop) : RV → St → Prop := fun v σ => match v with
  | some (.inr (.inl x)) => K x σ
  | _ => False
def qR (K : Nat → St → Prop) : RV → St → Prop := fun v σ => match v with
  | some (.inr (.inr x)) => K x σ
  | _ => False
def qV (K : St → Prop) : RV → St → Prop := fun v σ => match v with
  | none => K σ
  | _ => False
theorem kI {X : Cx} {nL q : Nat} {lv : List (Nat × Value)} {rest : List Value} {K : Int32 → St → Prop} (kk : ∀ (r : Int32) (τ : St), K r τ → At X nL q lv (.int r :: rest) τ) : ∀ (r : RV) (τ : St), qI K r τ → At X nL q lv ((rvv X.kad r).toList ++ rest) τ := fun r τ h => match r, h with
  | some (.inl x), h => kk x τ h
theorem kJ {X : Cx} {nL q : Nat} {lv : List (Nat × Value)} {rest : List Value} {K : Int64 → St → Prop} (kk : ∀ (r : Int64) (τ : St), K r τ → At X nL q lv (.long r :: rest) τ) : ∀ (r : RV) (τ : St), qJ K r τ → At X nL q lv ((rvv X.kad r).toList ++ rest) τ := fun r τ h => match r, h with
  | some (.inr (.inl x)), h => kk x τ h
theorem kR {X : Cx} {nL q : Nat} {lv : List (Nat × Value)} {rest : List Value} {K : Nat → St → Prop} (kk : ∀ (r : Nat) (τ : St), K r τ → At X nL q lv (.ref (X.kad r) :: rest) τ) : ∀ (r : RV) (τ : St), qR K r τ → At X nL q lv ((rvv X.kad r).toList ++ rest) τ := fun r τ h => match r, h with
  | some (.inr (.inr x)), h => kk x τ h
theorem kV {X : Cx} {nL q : Nat} {lv : List (Nat × Value)} {rest : List Value} {K : St → Prop} (kk : ∀ (τ : St), K τ → At X nL q lv rest τ) : ∀ (r : RV) (τ : St), qV K r τ → At X nL q lv ((rvv X.kad r).toList ++ rest) τ := fun r τ h => match r, h with
  | none, h => kk τ h
abbrev aI (Q : RV → St → Prop) : Int32 → St → Prop := fun r σ => Q (some (.inl r)) σ
abbrev aJ (Q : RV → St → Prop) : Int64 → St → Prop := fun r σ => Q (some (.inr (.inl r))) σ
abbrev aR (Q : RV → St → Prop) : Nat → St → Prop := fun r σ => Q (some (.inr (.inr r))) σ
abbrev aV (Q : RV → St → Prop) : St → Prop := fun σ => Q none σ
section RX
variable {X : Cx} {own : String} {cc : ByteArray} {nL d pc : Nat} {lv : List (Nat × Value)} {st : List Value} {σ : St}
theorem r_topi {x : Int32} {B : Int32 → Prop} (hw : ∀ y, y = x → B y) (kk : ∀ y, B y → At X nL pc lv (.int y :: st) σ) : At X nL pc lv (.int x :: st) σ := kk x (hw x rfl)
theorem r_case {x k : Int32} {P Q G : Prop} (hw : (x = k → P) ∧ (¬ x = k → Q)) (kt : x = k → P → G) (kf : ¬ x = k → Q → G) : G := by
  by_cases h : x = k
  · exact kt h (hw.1 h)
  · exact kf h (hw.2 h)
theorem r_tabIn (q : Nat) (hX : CxB X own cc nL d) {dflt lo hi : Int} {offs : Array Int} {len : Nat} {x : Int32} {off : Int} (hd : decode cc pc = .ok (.tableswitch dflt lo hi offs, len)) (h1 : ¬ x.toInt < lo) (h2 : ¬ hi < x.toInt) (ho : offs[(x.toInt - lo).toNat]? = some off) (ht : (pc : Int) + off = (q : Int)) (kk : At X nL q lv st σ) : At X nL pc lv (.int x :: st) σ := fun H locs ls hP hS hl => lv_tableIn hX.hx hX.hb hd h1 h2 ho ht (kk H locs ls hP hS hl)
theorem r_tabOut (q : Nat) (hX : CxB X own cc nL d) {dflt lo hi : Int} {offs : Array Int} {len : Nat} {x : Int32} (hd : decode cc pc = .ok (.tableswitch dflt lo hi offs, len)) (h : x.toInt < lo ∨ hi < x.toInt) (ht : (pc : Int) + dflt = (q : Int)) (kk : At X nL q lv st σ) : At X nL pc lv (.int x :: st) σ := fun H locs ls hP hS hl => lv_tableOut hX.hx hX.hb hd h ht (kk H locs ls hP hS hl)
theorem nar01 {v : Int32} (h : v = 0 ∨ v = 1) : narrow .boolean (.int v) = .int v := by
  rcases h with rfl | rfl <;> rfl
theorem nfw : nativeFrameWords "java/lang/System" "arraycopy" 5 + 11 ≤ 40 := by decide
theorem neT {x k : Int32} {a : Int} (h : ¬ x = k) (hk : k.toInt = a) : ¬ x.toInt = a := fun q => h (Int32.toInt_inj.mp (by rw [hk]; exact q))
end RX
end
