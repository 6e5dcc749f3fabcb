section
-- ===== PART A: goes FIRST, ahead of the names: the tables' words, and 'selects' of the private methods out of them =====
/-- a private method of a class that the tables say can be made, by its rows of tables_1 -/
def lw_okq (q : MethodName × Nat) : Prop := (q.1.cls ≠ "java/lang/invoke/MethodHandle" ∧ q.1.cls ≠ "java/lang/invoke/VarHandle") ∧ Cond.instantiable q.1.cls q.2 ∈ tables_1 ∧ Cond.privateMethod q.1 ∈ tables_1 ∧ Cond.instanceMethod q.1 ∈ tables_1
theorem lw_p0 : lw_okq (⟨"FuseBench", "isPlace", "(IIII)Z"⟩, 10) := ⟨⟨by decide +kernel, by decide +kernel⟩, List.mem_of_getElem? (i := 16) (by decide +kernel), List.mem_of_getElem? (i := 215) (by decide +kernel), List.mem_of_getElem? (i := 216) (by decide +kernel)⟩
theorem lw_p1 : lw_okq (⟨"FuseBench", "isKind", "(II)Z"⟩, 10) := ⟨⟨by decide +kernel, by decide +kernel⟩, List.mem_of_getElem? (i := 16) (by decide +kernel), List.mem_of_getElem? (i := 219) (by decide +kernel), List.mem_of_getElem? (i := 220) (by decide +kernel)⟩
theorem lw_p2 : lw_okq (⟨"FuseBench$Laws", "unitHolds", "(LFuseBench$Table;)Z"⟩, 3) := ⟨⟨by decide +kernel, by decide +kernel⟩, List.mem_of_getElem? (i := 60) (by decide +kernel), List.mem_of_getElem? (i := 245) (by decide +kernel), List.mem_of_getElem? (i := 246) (by decide +kernel)⟩
theorem lw_p3 : lw_okq (⟨"FuseBench$Laws", "breaks", "(IIIII)Z"⟩, 3) := ⟨⟨by decide +kernel, by decide +kernel⟩, List.mem_of_getElem? (i := 60) (by decide +kernel), List.mem_of_getElem? (i := 250) (by decide +kernel), List.mem_of_getElem? (i := 251) (by decide +kernel)⟩
theorem lw_p4 : lw_okq (⟨"FuseBench$Laws", "eitherWayHolds", "(LFuseBench$Table;)Z"⟩, 3) := ⟨⟨by decide +kernel, by decide +kernel⟩, List.mem_of_getElem? (i := 60) (by decide +kernel), List.mem_of_getElem? (i := 254) (by decide +kernel), List.mem_of_getElem? (i := 255) (by decide +kernel)⟩
theorem lw_p5 : lw_okq (⟨"FuseBench$Laws", "partnersHold", "(LFuseBench$Table;)Z"⟩, 3) := ⟨⟨by decide +kernel, by decide +kernel⟩, List.mem_of_getElem? (i := 60) (by decide +kernel), List.mem_of_getElem? (i := 258) (by decide +kernel), List.mem_of_getElem? (i := 259) (by decide +kernel)⟩
theorem lw_p6 : lw_okq (⟨"FuseBench$Laws", "turnedHolds", "(LFuseBench$Table;)Z"⟩, 3) := ⟨⟨by decide +kernel, by decide +kernel⟩, List.mem_of_getElem? (i := 60) (by decide +kernel), List.mem_of_getElem? (i := 262) (by decide +kernel), List.mem_of_getElem? (i := 263) (by decide +kernel)⟩
theorem lw_p7 : lw_okq (⟨"FuseBench", "isRight", "(I)Z"⟩, 10) := ⟨⟨by decide +kernel, by decide +kernel⟩, List.mem_of_getElem? (i := 16) (by decide +kernel), List.mem_of_getElem? (i := 277) (by decide +kernel), List.mem_of_getElem? (i := 278) (by decide +kernel)⟩
theorem lw_p8 : lw_okq (⟨"FuseBench$Table", "placeBlock", "(LFuseBench$Table;IIII)Z"⟩, 2) := ⟨⟨by decide +kernel, by decide +kernel⟩, List.mem_of_getElem? (i := 25) (by decide +kernel), List.mem_of_getElem? (i := 313) (by decide +kernel), List.mem_of_getElem? (i := 314) (by decide +kernel)⟩
theorem lw_p9 : lw_okq (⟨"FuseBench$Listing", "findFree", "()V"⟩, 10) := ⟨⟨by decide +kernel, by decide +kernel⟩, List.mem_of_getElem? (i := 94) (by decide +kernel), List.mem_of_getElem? (i := 328) (by decide +kernel), List.mem_of_getElem? (i := 329) (by decide +kernel)⟩
theorem lw_p10 : lw_okq (⟨"FuseBench$Listing", "markAlike", "(III)V"⟩, 10) := ⟨⟨by decide +kernel, by decide +kernel⟩, List.mem_of_getElem? (i := 94) (by decide +kernel), List.mem_of_getElem? (i := 334) (by decide +kernel), List.mem_of_getElem? (i := 335) (by decide +kernel)⟩
theorem lw_p11 : lw_okq (⟨"FuseBench$Listing", "partnerOf", "(I)I"⟩, 10) := ⟨⟨by decide +kernel, by decide +kernel⟩, List.mem_of_getElem? (i := 94) (by decide +kernel), List.mem_of_getElem? (i := 338) (by decide +kernel), List.mem_of_getElem? (i := 339) (by decide +kernel)⟩
theorem lw_p12 : lw_okq (⟨"FuseBench$Listing", "findRight", "()V"⟩, 10) := ⟨⟨by decide +kernel, by decide +kernel⟩, List.mem_of_getElem? (i := 94) (by decide +kernel), List.mem_of_getElem? (i := 342) (by decide +kernel), List.mem_of_getElem? (i := 343) (by decide +kernel)⟩
theorem lw_p13 : lw_okq (⟨"FuseBench$Listing", "buildCandidate", "()V"⟩, 10) := ⟨⟨by decide +kernel, by decide +kernel⟩, List.mem_of_getElem? (i := 94) (by decide +kernel), List.mem_of_getElem? (i := 346) (by decide +kernel), List.mem_of_getElem? (i := 347) (by decide +kernel)⟩
theorem lw_p14 : lw_okq (⟨"FuseBench$Listing", "packedRow", "()I"⟩, 10) := ⟨⟨by decide +kernel, by decide +kernel⟩, List.mem_of_getElem? (i := 94) (by decide +kernel), List.mem_of_getElem? (i := 353) (by decide +kernel), List.mem_of_getElem? (i := 354) (by decide +kernel)⟩
theorem lw_p15 : lw_okq (⟨"FuseBench$Listing", "nextRow", "()Z"⟩, 10) := ⟨⟨by decide +kernel, by decide +kernel⟩, List.mem_of_getElem? (i := 94) (by decide +kernel), List.mem_of_getElem? (i := 357) (by decide +kernel), List.mem_of_getElem? (i := 358) (by decide +kernel)⟩
def lw_privs_1 : List (MethodName × Nat) := [(⟨"FuseBench", "isPlace", "(IIII)Z"⟩, 10), (⟨"FuseBench", "isKind", "(II)Z"⟩, 10), (⟨"FuseBench$Laws", "unitHolds", "(LFuseBench$Table;)Z"⟩, 3), (⟨"FuseBench$Laws", "breaks", "(IIIII)Z"⟩, 3), (⟨"FuseBench$Laws", "eitherWayHolds", "(LFuseBench$Table;)Z"⟩, 3), (⟨"FuseBench$Laws", "partnersHold", "(LFuseBench$Table;)Z"⟩, 3), (⟨"FuseBench$Laws", "turnedHolds", "(LFuseBench$Table;)Z"⟩, 3), (⟨"FuseBench", "isRight", "(I)Z"⟩, 10), (⟨"FuseBench$Table", "placeBlock", "(LFuseBench$Table;IIII)Z"⟩, 2), (⟨"FuseBench$Listing", "findFree", "()V"⟩, 10), (⟨"FuseBench$Listing", "markAlike", "(III)V"⟩, 10), (⟨"FuseBench$Listing", "partnerOf", "(I)I"⟩, 10), (⟨"FuseBench$Listing", "findRight", "()V"⟩, 10), (⟨"FuseBench$Listing", "buildCandidate", "()V"⟩, 10), (⟨"FuseBench$Listing", "packedRow", "()I"⟩, 10), (⟨"FuseBench$Listing", "nextRow", "()Z"⟩, 10)]
theorem lw_r1 : ∀ q ∈ lw_privs_1, lw_okq q := List.forall_mem_cons.mpr ⟨lw_p0, List.forall_mem_cons.mpr ⟨lw_p1, List.forall_mem_cons.mpr ⟨lw_p2, List.forall_mem_cons.mpr ⟨lw_p3, List.forall_mem_cons.mpr ⟨lw_p4, List.forall_mem_cons.mpr ⟨lw_p5, List.forall_mem_cons.mpr ⟨lw_p6, List.forall_mem_cons.mpr ⟨lw_p7, List.forall_mem_cons.mpr ⟨lw_p8, List.forall_mem_cons.mpr ⟨lw_p9, List.forall_mem_cons.mpr ⟨lw_p10, List.forall_mem_cons.mpr ⟨lw_p11, List.forall_mem_cons.mpr ⟨lw_p12, List.forall_mem_cons.mpr ⟨lw_p13, List.forall_mem_cons.mpr ⟨lw_p14, List.forall_mem_cons.mpr ⟨lw_p15, fun _ h => absurd h List.not_mem_nil⟩⟩⟩⟩⟩⟩⟩⟩⟩⟩⟩⟩⟩⟩⟩⟩
theorem lw_p16 : lw_okq (⟨"FuseBench", "hasWord", "(LFuseBench$Table;)Z"⟩, 10) := ⟨⟨by decide +kernel, by decide +kernel⟩, List.mem_of_getElem? (i := 16) (by decide +kernel), List.mem_of_getElem? (i := 382) (by decide +kernel), List.mem_of_getElem? (i := 383) (by decide +kernel)⟩
theorem lw_p17 : lw_okq (⟨"FuseBench", "isSet", "(II)Z"⟩, 10) := ⟨⟨by decide +kernel, by decide +kernel⟩, List.mem_of_getElem? (i := 16) (by decide +kernel), List.mem_of_getElem? (i := 408) (by decide +kernel), List.mem_of_getElem? (i := 409) (by decide +kernel)⟩
theorem lw_p18 : lw_okq (⟨"FuseBench$Remainders", "walk", "(LFuseBench$Table;II)Z"⟩, 2) := ⟨⟨by decide +kernel, by decide +kernel⟩, List.mem_of_getElem? (i := 145) (by decide +kernel), List.mem_of_getElem? (i := 480) (by decide +kernel), List.mem_of_getElem? (i := 481) (by decide +kernel)⟩
theorem lw_p19 : lw_okq (⟨"FuseBench$Remainders", "lastOfBroken", "(LFuseBench$Table;I)I"⟩, 2) := ⟨⟨by decide +kernel, by decide +kernel⟩, List.mem_of_getElem? (i := 145) (by decide +kernel), List.mem_of_getElem? (i := 485) (by decide +kernel), List.mem_of_getElem? (i := 486) (by decide +kernel)⟩
theorem lw_p20 : lw_okq (⟨"FuseBench$Remainders", "nextRow", "(III)Z"⟩, 2) := ⟨⟨by decide +kernel, by decide +kernel⟩, List.mem_of_getElem? (i := 145) (by decide +kernel), List.mem_of_getElem? (i := 493) (by decide +kernel), List.mem_of_getElem? (i := 494) (by decide +kernel)⟩
theorem lw_p21 : lw_okq (⟨"FuseBench$Extent", "addUp", "(LFuseBench$Table;)V"⟩, 2) := ⟨⟨by decide +kernel, by decide +kernel⟩, List.mem_of_getElem? (i := 159) (by decide +kernel), List.mem_of_getElem? (i := 513) (by decide +kernel), List.mem_of_getElem? (i := 514) (by decide +kernel)⟩
theorem lw_p22 : lw_okq (⟨"FuseBench$Extent", "isAbove", "(II)Z"⟩, 2) := ⟨⟨by decide +kernel, by decide +kernel⟩, List.mem_of_getElem? (i := 159) (by decide +kernel), List.mem_of_getElem? (i := 518) (by decide +kernel), List.mem_of_getElem? (i := 519) (by decide +kernel)⟩
theorem lw_p23 : lw_okq (⟨"FuseBench$Extent", "expandedMinor", "(II)J"⟩, 2) := ⟨⟨by decide +kernel, by decide +kernel⟩, List.mem_of_getElem? (i := 159) (by decide +kernel), List.mem_of_getElem? (i := 522) (by decide +kernel), List.mem_of_getElem? (i := 523) (by decide +kernel)⟩
theorem lw_p24 : lw_okq (⟨"FuseBenchModel", "begin", "(II)V"⟩, 15) := ⟨⟨by decide +kernel, by decide +kernel⟩, List.mem_of_getElem? (i := 545) (by decide +kernel), List.mem_of_getElem? (i := 551) (by decide +kernel), List.mem_of_getElem? (i := 552) (by decide +kernel)⟩
theorem lw_p25 : lw_okq (⟨"FuseBenchModel", "lay", "(IIIII)V"⟩, 15) := ⟨⟨by decide +kernel, by decide +kernel⟩, List.mem_of_getElem? (i := 545) (by decide +kernel), List.mem_of_getElem? (i := 555) (by decide +kernel), List.mem_of_getElem? (i := 556) (by decide +kernel)⟩
theorem lw_p26 : lw_okq (⟨"FuseBenchModel", "isKind", "(II)Z"⟩, 15) := ⟨⟨by decide +kernel, by decide +kernel⟩, List.mem_of_getElem? (i := 545) (by decide +kernel), List.mem_of_getElem? (i := 620) (by decide +kernel), List.mem_of_getElem? (i := 621) (by decide +kernel)⟩
theorem lw_p27 : lw_okq (⟨"FuseBenchModel", "n", "(IIII)I"⟩, 15) := ⟨⟨by decide +kernel, by decide +kernel⟩, List.mem_of_getElem? (i := 545) (by decide +kernel), List.mem_of_getElem? (i := 625) (by decide +kernel), List.mem_of_getElem? (i := 626) (by decide +kernel)⟩
theorem lw_p28 : lw_okq (⟨"FuseBenchModel", "isRight", "(I)Z"⟩, 15) := ⟨⟨by decide +kernel, by decide +kernel⟩, List.mem_of_getElem? (i := 545) (by decide +kernel), List.mem_of_getElem? (i := 638) (by decide +kernel), List.mem_of_getElem? (i := 639) (by decide +kernel)⟩
theorem lw_p29 : lw_okq (⟨"FuseBenchModel", "breaksUnit", "(I)Z"⟩, 15) := ⟨⟨by decide +kernel, by decide +kernel⟩, List.mem_of_getElem? (i := 545) (by decide +kernel), List.mem_of_getElem? (i := 642) (by decide +kernel), List.mem_of_getElem? (i := 643) (by decide +kernel)⟩
theorem lw_p30 : lw_okq (⟨"FuseBenchModel", "tell", "(IIIII)Z"⟩, 15) := ⟨⟨by decide +kernel, by decide +kernel⟩, List.mem_of_getElem? (i := 545) (by decide +kernel), List.mem_of_getElem? (i := 646) (by decide +kernel), List.mem_of_getElem? (i := 647) (by decide +kernel)⟩
theorem lw_p31 : lw_okq (⟨"FuseBenchModel", "breaksThree", "(II)Z"⟩, 15) := ⟨⟨by decide +kernel, by decide +kernel⟩, List.mem_of_getElem? (i := 545) (by decide +kernel), List.mem_of_getElem? (i := 650) (by decide +kernel), List.mem_of_getElem? (i := 651) (by decide +kernel)⟩
def lw_privs_2 : List (MethodName × Nat) := [(⟨"FuseBench", "hasWord", "(LFuseBench$Table;)Z"⟩, 10), (⟨"FuseBench", "isSet", "(II)Z"⟩, 10), (⟨"FuseBench$Remainders", "walk", "(LFuseBench$Table;II)Z"⟩, 2), (⟨"FuseBench$Remainders", "lastOfBroken", "(LFuseBench$Table;I)I"⟩, 2), (⟨"FuseBench$Remainders", "nextRow", "(III)Z"⟩, 2), (⟨"FuseBench$Extent", "addUp", "(LFuseBench$Table;)V"⟩, 2), (⟨"FuseBench$Extent", "isAbove", "(II)Z"⟩, 2), (⟨"FuseBench$Extent", "expandedMinor", "(II)J"⟩, 2), (⟨"FuseBenchModel", "begin", "(II)V"⟩, 15), (⟨"FuseBenchModel", "lay", "(IIIII)V"⟩, 15), (⟨"FuseBenchModel", "isKind", "(II)Z"⟩, 15), (⟨"FuseBenchModel", "n", "(IIII)I"⟩, 15), (⟨"FuseBenchModel", "isRight", "(I)Z"⟩, 15), (⟨"FuseBenchModel", "breaksUnit", "(I)Z"⟩, 15), (⟨"FuseBenchModel", "tell", "(IIIII)Z"⟩, 15), (⟨"FuseBenchModel", "breaksThree", "(II)Z"⟩, 15)]
theorem lw_r2 : ∀ q ∈ lw_privs_2, lw_okq q := List.forall_mem_cons.mpr ⟨lw_p16, List.forall_mem_cons.mpr ⟨lw_p17, List.forall_mem_cons.mpr ⟨lw_p18, List.forall_mem_cons.mpr ⟨lw_p19, List.forall_mem_cons.mpr ⟨lw_p20, List.forall_mem_cons.mpr ⟨lw_p21, List.forall_mem_cons.mpr ⟨lw_p22, List.forall_mem_cons.mpr ⟨lw_p23, List.forall_mem_cons.mpr ⟨lw_p24, List.forall_mem_cons.mpr ⟨lw_p25, List.forall_mem_cons.mpr ⟨lw_p26, List.forall_mem_cons.mpr ⟨lw_p27, List.forall_mem_cons.mpr ⟨lw_p28, List.forall_mem_cons.mpr ⟨lw_p29, List.forall_mem_cons.mpr ⟨lw_p30, List.forall_mem_cons.mpr ⟨lw_p31, fun _ h => absurd h List.not_mem_nil⟩⟩⟩⟩⟩⟩⟩⟩⟩⟩⟩⟩⟩⟩⟩⟩
theorem lw_p32 : lw_okq (⟨"FuseBenchModel", "breaksPartners", "(I)Z"⟩, 15) := ⟨⟨by decide +kernel, by decide +kernel⟩, List.mem_of_getElem? (i := 545) (by decide +kernel), List.mem_of_getElem? (i := 654) (by decide +kernel), List.mem_of_getElem? (i := 655) (by decide +kernel)⟩
theorem lw_p33 : lw_okq (⟨"FuseBenchModel", "breaksSums", "(I)Z"⟩, 15) := ⟨⟨by decide +kernel, by decide +kernel⟩, List.mem_of_getElem? (i := 545) (by decide +kernel), List.mem_of_getElem? (i := 658) (by decide +kernel), List.mem_of_getElem? (i := 659) (by decide +kernel)⟩
theorem lw_p34 : lw_okq (⟨"FuseBenchModel", "carry", "(II)V"⟩, 15) := ⟨⟨by decide +kernel, by decide +kernel⟩, List.mem_of_getElem? (i := 545) (by decide +kernel), List.mem_of_getElem? (i := 670) (by decide +kernel), List.mem_of_getElem? (i := 671) (by decide +kernel)⟩
theorem lw_p35 : lw_okq (⟨"FuseBenchModel", "layGroup", "(II)V"⟩, 15) := ⟨⟨by decide +kernel, by decide +kernel⟩, List.mem_of_getElem? (i := 545) (by decide +kernel), List.mem_of_getElem? (i := 678) (by decide +kernel), List.mem_of_getElem? (i := 679) (by decide +kernel)⟩
theorem lw_p36 : lw_okq (⟨"FuseBenchModel", "goThrough", "(IIII)I"⟩, 15) := ⟨⟨by decide +kernel, by decide +kernel⟩, List.mem_of_getElem? (i := 545) (by decide +kernel), List.mem_of_getElem? (i := 699) (by decide +kernel), List.mem_of_getElem? (i := 700) (by decide +kernel)⟩
theorem lw_p37 : lw_okq (⟨"FuseBenchModel", "findLike", "(II)V"⟩, 15) := ⟨⟨by decide +kernel, by decide +kernel⟩, List.mem_of_getElem? (i := 545) (by decide +kernel), List.mem_of_getElem? (i := 703) (by decide +kernel), List.mem_of_getElem? (i := 704) (by decide +kernel)⟩
theorem lw_p38 : lw_okq (⟨"FuseBenchModel", "join", "(II)Z"⟩, 15) := ⟨⟨by decide +kernel, by decide +kernel⟩, List.mem_of_getElem? (i := 545) (by decide +kernel), List.mem_of_getElem? (i := 710) (by decide +kernel), List.mem_of_getElem? (i := 711) (by decide +kernel)⟩
theorem lw_p39 : lw_okq (⟨"FuseBenchModel", "layOut", "(IIII)V"⟩, 15) := ⟨⟨by decide +kernel, by decide +kernel⟩, List.mem_of_getElem? (i := 545) (by decide +kernel), List.mem_of_getElem? (i := 717) (by decide +kernel), List.mem_of_getElem? (i := 718) (by decide +kernel)⟩
theorem lw_p40 : lw_okq (⟨"FuseBenchModel", "start", "(II)V"⟩, 15) := ⟨⟨by decide +kernel, by decide +kernel⟩, List.mem_of_getElem? (i := 545) (by decide +kernel), List.mem_of_getElem? (i := 739) (by decide +kernel), List.mem_of_getElem? (i := 740) (by decide +kernel)⟩
theorem lw_p41 : lw_okq (⟨"FuseBenchModel", "fuse", "(II)V"⟩, 15) := ⟨⟨by decide +kernel, by decide +kernel⟩, List.mem_of_getElem? (i := 545) (by decide +kernel), List.mem_of_getElem? (i := 743) (by decide +kernel), List.mem_of_getElem? (i := 744) (by decide +kernel)⟩
theorem lw_p42 : lw_okq (⟨"FuseBenchModel", "isSet", "(III)Z"⟩, 15) := ⟨⟨by decide +kernel, by decide +kernel⟩, List.mem_of_getElem? (i := 545) (by decide +kernel), List.mem_of_getElem? (i := 756) (by decide +kernel), List.mem_of_getElem? (i := 757) (by decide +kernel)⟩
theorem lw_p43 : lw_okq (⟨"FuseBenchModel", "close", "(II)I"⟩, 15) := ⟨⟨by decide +kernel, by decide +kernel⟩, List.mem_of_getElem? (i := 545) (by decide +kernel), List.mem_of_getElem? (i := 760) (by decide +kernel), List.mem_of_getElem? (i := 761) (by decide +kernel)⟩
theorem lw_p44 : lw_okq (⟨"FuseBenchModel", "coreOf", "(I)I"⟩, 15) := ⟨⟨by decide +kernel, by decide +kernel⟩, List.mem_of_getElem? (i := 545) (by decide +kernel), List.mem_of_getElem? (i := 772) (by decide +kernel), List.mem_of_getElem? (i := 773) (by decide +kernel)⟩
theorem lw_p45 : lw_okq (⟨"FuseBenchModel", "layNaming", "(II)Z"⟩, 15) := ⟨⟨by decide +kernel, by decide +kernel⟩, List.mem_of_getElem? (i := 545) (by decide +kernel), List.mem_of_getElem? (i := 788) (by decide +kernel), List.mem_of_getElem? (i := 789) (by decide +kernel)⟩
theorem lw_p46 : lw_okq (⟨"FuseBenchModel", "isLike", "(II)Z"⟩, 15) := ⟨⟨by decide +kernel, by decide +kernel⟩, List.mem_of_getElem? (i := 545) (by decide +kernel), List.mem_of_getElem? (i := 792) (by decide +kernel), List.mem_of_getElem? (i := 793) (by decide +kernel)⟩
theorem lw_p47 : lw_okq (⟨"FuseBenchModel", "findMaps", "(III)I"⟩, 15) := ⟨⟨by decide +kernel, by decide +kernel⟩, List.mem_of_getElem? (i := 545) (by decide +kernel), List.mem_of_getElem? (i := 803) (by decide +kernel), List.mem_of_getElem? (i := 804) (by decide +kernel)⟩
def lw_privs_3 : List (MethodName × Nat) := [(⟨"FuseBenchModel", "breaksPartners", "(I)Z"⟩, 15), (⟨"FuseBenchModel", "breaksSums", "(I)Z"⟩, 15), (⟨"FuseBenchModel", "carry", "(II)V"⟩, 15), (⟨"FuseBenchModel", "layGroup", "(II)V"⟩, 15), (⟨"FuseBenchModel", "goThrough", "(IIII)I"⟩, 15), (⟨"FuseBenchModel", "findLike", "(II)V"⟩, 15), (⟨"FuseBenchModel", "join", "(II)Z"⟩, 15), (⟨"FuseBenchModel", "layOut", "(IIII)V"⟩, 15), (⟨"FuseBenchModel", "start", "(II)V"⟩, 15), (⟨"FuseBenchModel", "fuse", "(II)V"⟩, 15), (⟨"FuseBenchModel", "isSet", "(III)Z"⟩, 15), (⟨"FuseBenchModel", "close", "(II)I"⟩, 15), (⟨"FuseBenchModel", "coreOf", "(I)I"⟩, 15), (⟨"FuseBenchModel", "layNaming", "(II)Z"⟩, 15), (⟨"FuseBenchModel", "isLike", "(II)Z"⟩, 15), (⟨"FuseBenchModel", "findMaps", "(III)I"⟩, 15)]
theorem lw_r3 : ∀ q ∈ lw_privs_3, lw_okq q := List.forall_mem_cons.mpr ⟨lw_p32, List.forall_mem_cons.mpr ⟨lw_p33, List.forall_mem_cons.mpr ⟨lw_p34, List.forall_mem_cons.mpr ⟨lw_p35, List.forall_mem_cons.mpr ⟨lw_p36, List.forall_mem_cons.mpr ⟨lw_p37, List.forall_mem_cons.mpr ⟨lw_p38, List.forall_mem_cons.mpr ⟨lw_p39, List.forall_mem_cons.mpr ⟨lw_p40, List.forall_mem_cons.mpr ⟨lw_p41, List.forall_mem_cons.mpr ⟨lw_p42, List.forall_mem_cons.mpr ⟨lw_p43, List.forall_mem_cons.mpr ⟨lw_p44, List.forall_mem_cons.mpr ⟨lw_p45, List.forall_mem_cons.mpr ⟨lw_p46, List.forall_mem_cons.mpr ⟨lw_p47, fun _ h => absurd h List.not_mem_nil⟩⟩⟩⟩⟩⟩⟩⟩⟩⟩⟩⟩⟩⟩⟩⟩
theorem lw_p48 : lw_okq (⟨"FuseBenchModel", "isMap", "(II)Z"⟩, 15) := ⟨⟨by decide +kernel, by decide +kernel⟩, List.mem_of_getElem? (i := 545) (by decide +kernel), List.mem_of_getElem? (i := 807) (by decide +kernel), List.mem_of_getElem? (i := 808) (by decide +kernel)⟩
theorem lw_p49 : lw_okq (⟨"FuseBenchModel", "isBelow", "(II)Z"⟩, 15) := ⟨⟨by decide +kernel, by decide +kernel⟩, List.mem_of_getElem? (i := 545) (by decide +kernel), List.mem_of_getElem? (i := 819) (by decide +kernel), List.mem_of_getElem? (i := 820) (by decide +kernel)⟩
theorem lw_p50 : lw_okq (⟨"FuseBenchModel", "layLines", "(II)V"⟩, 15) := ⟨⟨by decide +kernel, by decide +kernel⟩, List.mem_of_getElem? (i := 545) (by decide +kernel), List.mem_of_getElem? (i := 823) (by decide +kernel), List.mem_of_getElem? (i := 824) (by decide +kernel)⟩
theorem lw_p51 : lw_okq (⟨"FuseBenchModel", "isAbove", "(I)Z"⟩, 15) := ⟨⟨by decide +kernel, by decide +kernel⟩, List.mem_of_getElem? (i := 545) (by decide +kernel), List.mem_of_getElem? (i := 827) (by decide +kernel), List.mem_of_getElem? (i := 828) (by decide +kernel)⟩
theorem lw_p52 : lw_okq (⟨"FuseBenchModel", "layTurn", "(II)I"⟩, 15) := ⟨⟨by decide +kernel, by decide +kernel⟩, List.mem_of_getElem? (i := 545) (by decide +kernel), List.mem_of_getElem? (i := 831) (by decide +kernel), List.mem_of_getElem? (i := 832) (by decide +kernel)⟩
def lw_privs_4 : List (MethodName × Nat) := [(⟨"FuseBenchModel", "isMap", "(II)Z"⟩, 15), (⟨"FuseBenchModel", "isBelow", "(II)Z"⟩, 15), (⟨"FuseBenchModel", "layLines", "(II)V"⟩, 15), (⟨"FuseBenchModel", "isAbove", "(I)Z"⟩, 15), (⟨"FuseBenchModel", "layTurn", "(II)I"⟩, 15)]
theorem lw_r4 : ∀ q ∈ lw_privs_4, lw_okq q := List.forall_mem_cons.mpr ⟨lw_p48, List.forall_mem_cons.mpr ⟨lw_p49, List.forall_mem_cons.mpr ⟨lw_p50, List.forall_mem_cons.mpr ⟨lw_p51, List.forall_mem_cons.mpr ⟨lw_p52, fun _ h => absurd h List.not_mem_nil⟩⟩⟩⟩⟩
def lw_privs : List (MethodName × Nat) := lw_privs_1 ++ (lw_privs_2 ++ (lw_privs_3 ++ (lw_privs_4)))
def lw_tbl : List Cond := k2_sels lw_privs ++ tables_1
theorem lw_privs_ok : ∀ q ∈ lw_privs, lw_okq q := by
  show ∀ q ∈ lw_privs_1 ++ (lw_privs_2 ++ (lw_privs_3 ++ (lw_privs_4))), lw_okq q
  exact List.forall_mem_append.mpr ⟨lw_r1, List.forall_mem_append.mpr ⟨lw_r2, List.forall_mem_append.mpr ⟨lw_r3, lw_r4⟩⟩⟩
end
section
/-! ===== BEGIN words of one list among another's, by their places ===== -/
theorem goodIn_r {big : List Cond} (ws : List Cond) (ps : List Nat) (hp : ws = ps.filterMap (fun i => big[i]?)) (h : ws.all goodWord = true) : GoodIn big ws := by
  intro w hw
  have h1 := List.all_eq_true.mp h w hw
  rw [hp] at hw
  obtain ⟨i, -, hi⟩ := List.mem_filterMap.mp hw
  have hm : w ∈ big := by first | exact List.mem_of_getElem? hi | exact List.getElem?_mem hi
  exact ⟨hm, good_of_word h1⟩
theorem goodIn_app {big a b : List Cond} (ha : GoodIn big a) (hb : GoodIn big b) : GoodIn big (a ++ b) := fun w h => (List.mem_append.mp h).elim (ha w) (hb w)
theorem goodIn_ca {big a b : List Cond} {c : Cond} (ha : GoodIn big (c :: a)) (hb : GoodIn big b) : GoodIn big (c :: (a ++ b)) := fun w h => (List.mem_cons.mp h).elim (fun e => ha w (List.mem_cons.mpr (Or.inl e))) (fun h => (List.mem_append.mp h).elim (fun h => ha w (List.mem_cons.mpr (Or.inr h))) (hb w))
theorem goodIn_sub {big ws : List Cond} (hm : ∀ w ∈ ws, w ∈ big) (h : ws.all goodWord = true) : GoodIn big ws := fun w hw => ⟨hm w hw, good_of_word (List.all_eq_true.mp h w hw)⟩
/-! ===== END ===== -/

/-! ===== BEGIN printed: names, fields, word lists, decode rows ===== -/
def RX0 : String := "FuseBench$Extent"
def TX0 : u_T := fun k => match k with
  | 0 => ("FuseBench$Extent", "sums", "[I", true)
  | _ => ("FuseBench$Extent", "minors", "[J", true)
def tyX0 : Nat → FieldType := fun k => match k with
  | 0 => .array .int
  | _ => .array .long
abbrev wsX00 : List Cond := u_ws RX0 TX0 2
theorem nmX0 : ∀ a, a < 2 → ∀ b, b < 2 → a ≠ b → (TX0 a).2.1 ≠ (TX0 b).2.1 := by decide +kernel
theorem tyX0_ok : ∀ k, k < 2 → parseFieldDescriptor (TX0 k).2.2.1 = some (tyX0 k) := by decide +kernel
abbrev cX0_init : ByteArray := prog_2_method_1_code
def yX0_init : MethodName := ⟨RX0, "<init>", "()V"⟩
abbrev cX0_tenths : ByteArray := prog_2_method_2_code
def yX0_tenths : MethodName := ⟨RX0, "tenths", "(LFuseBench$Table;)I"⟩
abbrev cX0_addUp : ByteArray := prog_2_method_3_code
def yX0_addUp : MethodName := ⟨RX0, "addUp", "(LFuseBench$Table;)V"⟩
abbrev cX0_isAbove : ByteArray := prog_2_method_4_code
def yX0_isAbove : MethodName := ⟨RX0, "isAbove", "(II)Z"⟩
abbrev cX0_expandedMinor : ByteArray := prog_2_method_5_code
def yX0_expandedMinor : MethodName := ⟨RX0, "expandedMinor", "(II)J"⟩
def RX1 : String := "FuseBench$Laws"
def TX1 : u_T := fun k => match k with
  | 0 => ("FuseBench$Laws", "place", "[I", true)
  | 1 => ("FuseBench$Laws", "partners", "[I", true)
  | _ => ("FuseBench$Laws", "broken", "I", false)
def tyX1 : Nat → FieldType := fun k => match k with
  | 0 => .array .int
  | 1 => .array .int
  | _ => .int
abbrev wsX10 : List Cond := u_ws RX1 TX1 3
theorem nmX1 : ∀ a, a < 3 → ∀ b, b < 3 → a ≠ b → (TX1 a).2.1 ≠ (TX1 b).2.1 := by decide +kernel
theorem tyX1_ok : ∀ k, k < 3 → parseFieldDescriptor (TX1 k).2.2.1 = some (tyX1 k) := by decide +kernel
abbrev cX1_init : ByteArray := prog_3_method_1_code
def yX1_init : MethodName := ⟨RX1, "<init>", "()V"⟩
abbrev cX1_allHold : ByteArray := prog_3_method_2_code
def yX1_allHold : MethodName := ⟨RX1, "allHold", "(LFuseBench$Table;)Z"⟩
abbrev cX1_breaks : ByteArray := prog_3_method_3_code
def yX1_breaks : MethodName := ⟨RX1, "breaks", "(IIIII)Z"⟩
abbrev cX1_unitHolds : ByteArray := prog_3_method_4_code
def yX1_unitHolds : MethodName := ⟨RX1, "unitHolds", "(LFuseBench$Table;)Z"⟩
abbrev cX1_eitherWayHolds : ByteArray := prog_3_method_5_code
def yX1_eitherWayHolds : MethodName := ⟨RX1, "eitherWayHolds", "(LFuseBench$Table;)Z"⟩
abbrev cX1_partnersHold : ByteArray := prog_3_method_6_code
def yX1_partnersHold : MethodName := ⟨RX1, "partnersHold", "(LFuseBench$Table;)Z"⟩
abbrev cX1_turnedHolds : ByteArray := prog_3_method_7_code
def yX1_turnedHolds : MethodName := ⟨RX1, "turnedHolds", "(LFuseBench$Table;)Z"⟩
abbrev cX1_threeHolds : ByteArray := prog_3_method_8_code
def yX1_threeHolds : MethodName := ⟨RX1, "threeHolds", "(LFuseBench$Table;)Z"⟩
abbrev cX1_firstUnlike : ByteArray := prog_3_method_9_code
def yX1_firstUnlike : MethodName := ⟨RX1, "firstUnlike", "(LFuseBench$Table;III)I"⟩
def RX2 : String := "FuseBench$Listing"
def TX2 : u_T := fun k => match k with
  | 0 => ("FuseBench$Listing", "freeAt", "[I", true)
  | 1 => ("FuseBench$Listing", "row", "[I", true)
  | 2 => ("FuseBench$Listing", "found", "[I", true)
  | 3 => ("FuseBench$Listing", "candidate", "LFuseBench$Table;", true)
  | 4 => ("FuseBench$Listing", "laws", "LFuseBench$Laws;", true)
  | 5 => ("FuseBench$Listing", "kinds", "I", false)
  | 6 => ("FuseBench$Listing", "bound", "I", false)
  | 7 => ("FuseBench$Listing", "pairs", "I", false)
  | 8 => ("FuseBench$Listing", "free", "I", false)
  | _ => ("FuseBench$Listing", "count", "I", false)
def tyX2 : Nat → FieldType := fun k => match k with
  | 0 => .array .int
  | 1 => .array .int
  | 2 => .array .int
  | 3 => .object "FuseBench$Table"
  | 4 => .object "FuseBench$Laws"
  | 5 => .int
  | 6 => .int
  | 7 => .int
  | 8 => .int
  | _ => .int
abbrev wsX20 : List Cond := u_ws RX2 TX2 10
theorem nmX2 : ∀ a, a < 10 → ∀ b, b < 10 → a ≠ b → (TX2 a).2.1 ≠ (TX2 b).2.1 := by decide +kernel
theorem tyX2_ok : ∀ k, k < 10 → parseFieldDescriptor (TX2 k).2.2.1 = some (tyX2 k) := by decide +kernel
abbrev cX2_init : ByteArray := prog_4_method_1_code
def yX2_init : MethodName := ⟨RX2, "<init>", "()V"⟩
abbrev cX2_howMany : ByteArray := prog_4_method_2_code
def yX2_howMany : MethodName := ⟨RX2, "howMany", "(III)I"⟩
abbrev cX2_write : ByteArray := prog_4_method_3_code
def yX2_write : MethodName := ⟨RX2, "write", "(LFuseBench$Table;I)V"⟩
abbrev cX2_partnerOf : ByteArray := prog_4_method_4_code
def yX2_partnerOf : MethodName := ⟨RX2, "partnerOf", "(I)I"⟩
abbrev cX2_findFree : ByteArray := prog_4_method_5_code
def yX2_findFree : MethodName := ⟨RX2, "findFree", "()V"⟩
abbrev cX2_markAlike : ByteArray := prog_4_method_6_code
def yX2_markAlike : MethodName := ⟨RX2, "markAlike", "(III)V"⟩
abbrev cX2_findRight : ByteArray := prog_4_method_7_code
def yX2_findRight : MethodName := ⟨RX2, "findRight", "()V"⟩
abbrev cX2_buildCandidate : ByteArray := prog_4_method_8_code
def yX2_buildCandidate : MethodName := ⟨RX2, "buildCandidate", "()V"⟩
abbrev cX2_packedRow : ByteArray := prog_4_method_9_code
def yX2_packedRow : MethodName := ⟨RX2, "packedRow", "()I"⟩
abbrev cX2_nextRow : ByteArray := prog_4_method_10_code
def yX2_nextRow : MethodName := ⟨RX2, "nextRow", "()Z"⟩
def RX3 : String := "FuseBench$Namings"
def TX3 : u_T := fun k => match k with
  | _ => ("FuseBench$Namings", "names", "[I", true)
def tyX3 : Nat → FieldType := fun k => match k with
  | _ => .array .int
abbrev wsX30 : List Cond := u_ws RX3 TX3 1
theorem nmX3 : ∀ a, a < 1 → ∀ b, b < 1 → a ≠ b → (TX3 a).2.1 ≠ (TX3 b).2.1 := by decide +kernel
theorem tyX3_ok : ∀ k, k < 1 → parseFieldDescriptor (TX3 k).2.2.1 = some (tyX3 k) := by decide +kernel
abbrev cX3_init : ByteArray := prog_5_method_1_code
def yX3_init : MethodName := ⟨RX3, "<init>", "()V"⟩
abbrev cX3_count : ByteArray := prog_5_method_2_code
def yX3_count : MethodName := ⟨RX3, "count", "(LFuseBench$Table;LFuseBench$Table;)I"⟩
abbrev cX3_countFrom : ByteArray := prog_5_method_3_code
def yX3_countFrom : MethodName := ⟨RX3, "countFrom", "(LFuseBench$Table;LFuseBench$Table;[III)I"⟩
abbrev cX3_alike : ByteArray := prog_5_method_4_code
def yX3_alike : MethodName := ⟨RX3, "alike", "(LFuseBench$Table;LFuseBench$Table;[I)Z"⟩
def RX4 : String := "FuseBench$Remainders"
def TX4 : u_T := fun k => match k with
  | 0 => ("FuseBench$Remainders", "row", "[I", true)
  | _ => ("FuseBench$Remainders", "passed", "I", false)
def tyX4 : Nat → FieldType := fun k => match k with
  | 0 => .array .int
  | _ => .int
abbrev wsX40 : List Cond := u_ws RX4 TX4 2
theorem nmX4 : ∀ a, a < 2 → ∀ b, b < 2 → a ≠ b → (TX4 a).2.1 ≠ (TX4 b).2.1 := by decide +kernel
theorem tyX4_ok : ∀ k, k < 2 → parseFieldDescriptor (TX4 k).2.2.1 = some (tyX4 k) := by decide +kernel
abbrev cX4_init : ByteArray := prog_6_method_1_code
def yX4_init : MethodName := ⟨RX4, "<init>", "()V"⟩
abbrev cX4_count : ByteArray := prog_6_method_2_code
def yX4_count : MethodName := ⟨RX4, "count", "(LFuseBench$Table;I)I"⟩
abbrev cX4_find : ByteArray := prog_6_method_3_code
def yX4_find : MethodName := ⟨RX4, "find", "(LFuseBench$Table;II)Z"⟩
abbrev cX4_walk : ByteArray := prog_6_method_4_code
def yX4_walk : MethodName := ⟨RX4, "walk", "(LFuseBench$Table;II)Z"⟩
abbrev cX4_lastOfBroken : ByteArray := prog_6_method_5_code
def yX4_lastOfBroken : MethodName := ⟨RX4, "lastOfBroken", "(LFuseBench$Table;I)I"⟩
abbrev cX4_nextRow : ByteArray := prog_6_method_6_code
def yX4_nextRow : MethodName := ⟨RX4, "nextRow", "(III)Z"⟩
def RX5 : String := "FuseBench$Sets"
def TX5 : u_T := fun k => match k with
  | _ => ("", "", "", false)
def tyX5 : Nat → FieldType := fun k => match k with
  | _ => .int
abbrev wsX50 : List Cond := u_ws RX5 TX5 0
theorem nmX5 : ∀ a, a < 0 → ∀ b, b < 0 → a ≠ b → (TX5 a).2.1 ≠ (TX5 b).2.1 := by decide +kernel
theorem tyX5_ok : ∀ k, k < 0 → parseFieldDescriptor (TX5 k).2.2.1 = some (tyX5 k) := by decide +kernel
abbrev cX5_holds : ByteArray := prog_7_method_2_code
def yX5_holds : MethodName := ⟨RX5, "holds", "(II)Z"⟩
abbrev cX5_firstOf : ByteArray := prog_7_method_3_code
def yX5_firstOf : MethodName := ⟨RX5, "firstOf", "(I)I"⟩
abbrev cX5_fusedWithAny : ByteArray := prog_7_method_4_code
def yX5_fusedWithAny : MethodName := ⟨RX5, "fusedWithAny", "(LFuseBench$Table;II)I"⟩
abbrev cX5_closure : ByteArray := prog_7_method_5_code
def yX5_closure : MethodName := ⟨RX5, "closure", "(LFuseBench$Table;[II)I"⟩
abbrev cX5_grow : ByteArray := prog_7_method_6_code
def yX5_grow : MethodName := ⟨RX5, "grow", "(LFuseBench$Table;[II)I"⟩
abbrev cX5_innermost : ByteArray := prog_7_method_7_code
def yX5_innermost : MethodName := ⟨RX5, "innermost", "(LFuseBench$Table;[I)I"⟩
abbrev cX5_countClosed : ByteArray := prog_7_method_8_code
def yX5_countClosed : MethodName := ⟨RX5, "countClosed", "(LFuseBench$Table;[I)I"⟩
def RX6 : String := "FuseBench$Sum"
def TX6 : u_T := fun k => match k with
  | 0 => ("FuseBench$Sum", "times", "[J", true)
  | _ => ("FuseBench$Sum", "next", "[J", true)
def tyX6 : Nat → FieldType := fun k => match k with
  | 0 => .array .long
  | _ => .array .long
abbrev wsX60 : List Cond := u_ws RX6 TX6 2
theorem nmX6 : ∀ a, a < 2 → ∀ b, b < 2 → a ≠ b → (TX6 a).2.1 ≠ (TX6 b).2.1 := by decide +kernel
theorem tyX6_ok : ∀ k, k < 2 → parseFieldDescriptor (TX6 k).2.2.1 = some (tyX6 k) := by decide +kernel
abbrev cX6_init : ByteArray := prog_8_method_1_code
def yX6_init : MethodName := ⟨RX6, "<init>", "()V"⟩
abbrev cX6_begin : ByteArray := prog_8_method_2_code
def yX6_begin : MethodName := ⟨RX6, "begin", "(I)V"⟩
abbrev cX6_fuseWith : ByteArray := prog_8_method_3_code
def yX6_fuseWith : MethodName := ⟨RX6, "fuseWith", "(LFuseBench$Table;I)V"⟩
def RX7 : String := "FuseBench$Table"
def TX7 : u_T := fun k => match k with
  | 0 => ("FuseBench$Table", "numbers", "[I", true)
  | _ => ("FuseBench$Table", "kinds", "I", false)
def tyX7 : Nat → FieldType := fun k => match k with
  | 0 => .array .int
  | _ => .int
abbrev wsX70 : List Cond := u_ws RX7 TX7 2
theorem nmX7 : ∀ a, a < 2 → ∀ b, b < 2 → a ≠ b → (TX7 a).2.1 ≠ (TX7 b).2.1 := by decide +kernel
theorem tyX7_ok : ∀ k, k < 2 → parseFieldDescriptor (TX7 k).2.2.1 = some (tyX7 k) := by decide +kernel
abbrev cX7_init : ByteArray := prog_9_method_1_code
def yX7_init : MethodName := ⟨RX7, "<init>", "()V"⟩
abbrev cX7_placeOf : ByteArray := prog_9_method_2_code
def yX7_placeOf : MethodName := ⟨RX7, "placeOf", "(III)I"⟩
abbrev cX7_has : ByteArray := prog_9_method_3_code
def yX7_has : MethodName := ⟨RX7, "has", "(I)Z"⟩
abbrev cX7_number : ByteArray := prog_9_method_4_code
def yX7_number : MethodName := ⟨RX7, "number", "(III)I"⟩
abbrev cX7_setNumber : ByteArray := prog_9_method_5_code
def yX7_setNumber : MethodName := ⟨RX7, "setNumber", "(IIII)V"⟩
abbrev cX7_reset : ByteArray := prog_9_method_6_code
def yX7_reset : MethodName := ⟨RX7, "reset", "(I)V"⟩
abbrev cX7_become : ByteArray := prog_9_method_7_code
def yX7_become : MethodName := ⟨RX7, "become", "(LFuseBench$Table;)V"⟩
abbrev cX7_fuseAsGroup : ByteArray := prog_9_method_8_code
def yX7_fuseAsGroup : MethodName := ⟨RX7, "fuseAsGroup", "(I)V"⟩
abbrev cX7_becomeProduct : ByteArray := prog_9_method_9_code
def yX7_becomeProduct : MethodName := ⟨RX7, "becomeProduct", "(LFuseBench$Table;LFuseBench$Table;)Z"⟩
abbrev cX7_placeBlock : ByteArray := prog_9_method_10_code
def yX7_placeBlock : MethodName := ⟨RX7, "placeBlock", "(LFuseBench$Table;IIII)Z"⟩
abbrev cX7_mixInto : ByteArray := prog_9_method_11_code
def yX7_mixInto : MethodName := ⟨RX7, "mixInto", "(J)J"⟩
def RX8 : String := "FuseBench"
def TX8 : u_T := fun k => match k with
  | 0 => ("FuseBench", "tables", "[LFuseBench$Table;", true)
  | 1 => ("FuseBench", "spare", "LFuseBench$Table;", true)
  | 2 => ("FuseBench", "laws", "LFuseBench$Laws;", true)
  | 3 => ("FuseBench", "sum", "LFuseBench$Sum;", true)
  | 4 => ("FuseBench", "listing", "LFuseBench$Listing;", true)
  | 5 => ("FuseBench", "namings", "LFuseBench$Namings;", true)
  | 6 => ("FuseBench", "remainders", "LFuseBench$Remainders;", true)
  | 7 => ("FuseBench", "extent", "LFuseBench$Extent;", true)
  | 8 => ("FuseBench", "word", "[I", true)
  | _ => ("FuseBench", "wordLength", "I", false)
def tyX8 : Nat → FieldType := fun k => match k with
  | 0 => .array (.object "FuseBench$Table")
  | 1 => .object "FuseBench$Table"
  | 2 => .object "FuseBench$Laws"
  | 3 => .object "FuseBench$Sum"
  | 4 => .object "FuseBench$Listing"
  | 5 => .object "FuseBench$Namings"
  | 6 => .object "FuseBench$Remainders"
  | 7 => .object "FuseBench$Extent"
  | 8 => .array .int
  | _ => .int
abbrev wsX80 : List Cond := u_ws RX8 TX8 10
theorem nmX8 : ∀ a, a < 10 → ∀ b, b < 10 → a ≠ b → (TX8 a).2.1 ≠ (TX8 b).2.1 := by decide +kernel
theorem tyX8_ok : ∀ k, k < 10 → parseFieldDescriptor (TX8 k).2.2.1 = some (tyX8 k) := by decide +kernel
abbrev cX8_init : ByteArray := prog_1_method_1_code
def yX8_init : MethodName := ⟨RX8, "<init>", "()V"⟩
abbrev cX8_rank : ByteArray := prog_1_method_2_code
def yX8_rank : MethodName := ⟨RX8, "rank", "(II)I"⟩
abbrev cX8_put : ByteArray := prog_1_method_3_code
def yX8_put : MethodName := ⟨RX8, "put", "(IIIII)I"⟩
abbrev cX8_at : ByteArray := prog_1_method_4_code
def yX8_at : MethodName := ⟨RX8, "at", "(IIII)I"⟩
abbrev cX8_fault : ByteArray := prog_1_method_5_code
def yX8_fault : MethodName := ⟨RX8, "fault", "(II)I"⟩
abbrev cX8_partner : ByteArray := prog_1_method_6_code
def yX8_partner : MethodName := ⟨RX8, "partner", "(II)I"⟩
abbrev cX8_copy : ByteArray := prog_1_method_7_code
def yX8_copy : MethodName := ⟨RX8, "copy", "(II)I"⟩
abbrev cX8_group : ByteArray := prog_1_method_8_code
def yX8_group : MethodName := ⟨RX8, "group", "(II)I"⟩
abbrev cX8_near : ByteArray := prog_1_method_9_code
def yX8_near : MethodName := ⟨RX8, "near", "(III)I"⟩
abbrev cX8_together : ByteArray := prog_1_method_10_code
def yX8_together : MethodName := ⟨RX8, "together", "(III)I"⟩
abbrev cX8_list : ByteArray := prog_1_method_11_code
def yX8_list : MethodName := ⟨RX8, "list", "(III)I"⟩
abbrev cX8_take : ByteArray := prog_1_method_12_code
def yX8_take : MethodName := ⟨RX8, "take", "(IIIII)I"⟩
abbrev cX8_letter : ByteArray := prog_1_method_13_code
def yX8_letter : MethodName := ⟨RX8, "letter", "(I)I"⟩
abbrev cX8_empty : ByteArray := prog_1_method_14_code
def yX8_empty : MethodName := ⟨RX8, "empty", "()I"⟩
abbrev cX8_fused : ByteArray := prog_1_method_15_code
def yX8_fused : MethodName := ⟨RX8, "fused", "(II)J"⟩
abbrev cX8_ways : ByteArray := prog_1_method_16_code
def yX8_ways : MethodName := ⟨RX8, "ways", "(IIIII)J"⟩
abbrev cX8_closed : ByteArray := prog_1_method_17_code
def yX8_closed : MethodName := ⟨RX8, "closed", "(II)I"⟩
abbrev cX8_least : ByteArray := prog_1_method_18_code
def yX8_least : MethodName := ⟨RX8, "least", "(II)I"⟩
abbrev cX8_core : ByteArray := prog_1_method_19_code
def yX8_core : MethodName := ⟨RX8, "core", "(I)I"⟩
abbrev cX8_grade : ByteArray := prog_1_method_20_code
def yX8_grade : MethodName := ⟨RX8, "grade", "(II)I"⟩
abbrev cX8_within : ByteArray := prog_1_method_21_code
def yX8_within : MethodName := ⟨RX8, "within", "(I)I"⟩
abbrev cX8_like : ByteArray := prog_1_method_22_code
def yX8_like : MethodName := ⟨RX8, "like", "(II)I"⟩
abbrev cX8_maps : ByteArray := prog_1_method_23_code
def yX8_maps : MethodName := ⟨RX8, "maps", "(II)I"⟩
abbrev cX8_map : ByteArray := prog_1_method_24_code
def yX8_map : MethodName := ⟨RX8, "map", "(IIII)I"⟩
abbrev cX8_size : ByteArray := prog_1_method_25_code
def yX8_size : MethodName := ⟨RX8, "size", "(I)I"⟩
abbrev cX8_digest : ByteArray := prog_1_method_26_code
def yX8_digest : MethodName := ⟨RX8, "digest", "()J"⟩
abbrev cX8_isTable : ByteArray := prog_1_method_27_code
def yX8_isTable : MethodName := ⟨RX8, "isTable", "(I)Z"⟩
abbrev cX8_isKind : ByteArray := prog_1_method_28_code
def yX8_isKind : MethodName := ⟨RX8, "isKind", "(II)Z"⟩
abbrev cX8_isPlace : ByteArray := prog_1_method_29_code
def yX8_isPlace : MethodName := ⟨RX8, "isPlace", "(IIII)Z"⟩
abbrev cX8_isSet : ByteArray := prog_1_method_30_code
def yX8_isSet : MethodName := ⟨RX8, "isSet", "(II)Z"⟩
abbrev cX8_isListed : ByteArray := prog_1_method_31_code
def yX8_isListed : MethodName := ⟨RX8, "isListed", "(III)Z"⟩
abbrev cX8_isPrime : ByteArray := prog_1_method_32_code
def yX8_isPrime : MethodName := ⟨RX8, "isPrime", "(I)Z"⟩
abbrev cX8_isRight : ByteArray := prog_1_method_33_code
def yX8_isRight : MethodName := ⟨RX8, "isRight", "(I)Z"⟩
abbrev cX8_hasWord : ByteArray := prog_1_method_34_code
def yX8_hasWord : MethodName := ⟨RX8, "hasWord", "(LFuseBench$Table;)Z"⟩
def RX9 : String := "FuseBenchModel"
def TX9 : u_T := fun k => match k with
  | 0 => ("FuseBenchModel", "ranks", "[I", true)
  | 1 => ("FuseBenchModel", "cells", "[I", true)
  | 2 => ("FuseBenchModel", "found", "[I", true)
  | 3 => ("FuseBenchModel", "partners", "[I", true)
  | 4 => ("FuseBenchModel", "like", "[I", true)
  | 5 => ("FuseBenchModel", "firsts", "[I", true)
  | 6 => ("FuseBenchModel", "firstMany", "I", false)
  | 7 => ("FuseBenchModel", "word", "[I", true)
  | 8 => ("FuseBenchModel", "letters", "I", false)
  | 9 => ("FuseBenchModel", "sum", "[J", true)
  | 10 => ("FuseBenchModel", "next", "[J", true)
  | 11 => ("FuseBenchModel", "name", "[I", true)
  | 12 => ("FuseBenchModel", "u", "[I", true)
  | 13 => ("FuseBenchModel", "lines", "[I", true)
  | _ => ("FuseBenchModel", "turn", "[I", true)
def tyX9 : Nat → FieldType := fun k => match k with
  | 0 => .array .int
  | 1 => .array .int
  | 2 => .array .int
  | 3 => .array .int
  | 4 => .array .int
  | 5 => .array .int
  | 6 => .int
  | 7 => .array .int
  | 8 => .int
  | 9 => .array .long
  | 10 => .array .long
  | 11 => .array .int
  | 12 => .array .int
  | 13 => .array .int
  | _ => .array .int
abbrev wsX90 : List Cond := u_ws RX9 TX9 15
theorem nmX9 : ∀ a, a < 15 → ∀ b, b < 15 → a ≠ b → (TX9 a).2.1 ≠ (TX9 b).2.1 := by decide +kernel
theorem tyX9_ok : ∀ k, k < 15 → parseFieldDescriptor (TX9 k).2.2.1 = some (tyX9 k) := by decide +kernel
abbrev cX9_init : ByteArray := prog_11_method_1_code
def yX9_init : MethodName := ⟨RX9, "<init>", "()V"⟩
abbrev cX9_in : ByteArray := prog_11_method_3_code
def yX9_in : MethodName := ⟨RX9, "in", "(JJJ)Z"⟩
abbrev cX9_n : ByteArray := prog_11_method_4_code
def yX9_n : MethodName := ⟨RX9, "n", "(IIII)I"⟩
abbrev cX9_lay : ByteArray := prog_11_method_5_code
def yX9_lay : MethodName := ⟨RX9, "lay", "(IIIII)V"⟩
abbrev cX9_begin : ByteArray := prog_11_method_6_code
def yX9_begin : MethodName := ⟨RX9, "begin", "(II)V"⟩
abbrev cX9_carry : ByteArray := prog_11_method_7_code
def yX9_carry : MethodName := ⟨RX9, "carry", "(II)V"⟩
abbrev cX9_noTable : ByteArray := prog_11_method_8_code
def yX9_noTable : MethodName := ⟨RX9, "noTable", "(I)Z"⟩
abbrev cX9_isKind : ByteArray := prog_11_method_9_code
def yX9_isKind : MethodName := ⟨RX9, "isKind", "(II)Z"⟩
abbrev cX9_rank : ByteArray := prog_11_method_10_code
def yX9_rank : MethodName := ⟨RX9, "rank", "(II)I"⟩
abbrev cX9_put : ByteArray := prog_11_method_11_code
def yX9_put : MethodName := ⟨RX9, "put", "(IIIII)I"⟩
abbrev cX9_at : ByteArray := prog_11_method_12_code
def yX9_at : MethodName := ⟨RX9, "at", "(IIII)I"⟩
abbrev cX9_tell : ByteArray := prog_11_method_13_code
def yX9_tell : MethodName := ⟨RX9, "tell", "(IIIII)Z"⟩
abbrev cX9_breaksUnit : ByteArray := prog_11_method_14_code
def yX9_breaksUnit : MethodName := ⟨RX9, "breaksUnit", "(I)Z"⟩
abbrev cX9_breaksPartners : ByteArray := prog_11_method_15_code
def yX9_breaksPartners : MethodName := ⟨RX9, "breaksPartners", "(I)Z"⟩
abbrev cX9_breaksThree : ByteArray := prog_11_method_16_code
def yX9_breaksThree : MethodName := ⟨RX9, "breaksThree", "(II)Z"⟩
abbrev cX9_breaksSums : ByteArray := prog_11_method_17_code
def yX9_breaksSums : MethodName := ⟨RX9, "breaksSums", "(I)Z"⟩
abbrev cX9_isRight : ByteArray := prog_11_method_18_code
def yX9_isRight : MethodName := ⟨RX9, "isRight", "(I)Z"⟩
abbrev cX9_fault : ByteArray := prog_11_method_19_code
def yX9_fault : MethodName := ⟨RX9, "fault", "(II)I"⟩
abbrev cX9_partner : ByteArray := prog_11_method_20_code
def yX9_partner : MethodName := ⟨RX9, "partner", "(II)I"⟩
abbrev cX9_copy : ByteArray := prog_11_method_21_code
def yX9_copy : MethodName := ⟨RX9, "copy", "(II)I"⟩
abbrev cX9_layGroup : ByteArray := prog_11_method_22_code
def yX9_layGroup : MethodName := ⟨RX9, "layGroup", "(II)V"⟩
abbrev cX9_group : ByteArray := prog_11_method_23_code
def yX9_group : MethodName := ⟨RX9, "group", "(II)I"⟩
abbrev cX9_near : ByteArray := prog_11_method_24_code
def yX9_near : MethodName := ⟨RX9, "near", "(III)I"⟩
abbrev cX9_together : ByteArray := prog_11_method_25_code
def yX9_together : MethodName := ⟨RX9, "together", "(III)I"⟩
abbrev cX9_mate : ByteArray := prog_11_method_26_code
def yX9_mate : MethodName := ⟨RX9, "mate", "(II)I"⟩
abbrev cX9_placeOf : ByteArray := prog_11_method_27_code
def yX9_placeOf : MethodName := ⟨RX9, "placeOf", "(III)I"⟩
abbrev cX9_join : ByteArray := prog_11_method_28_code
def yX9_join : MethodName := ⟨RX9, "join", "(II)Z"⟩
abbrev cX9_findLike : ByteArray := prog_11_method_29_code
def yX9_findLike : MethodName := ⟨RX9, "findLike", "(II)V"⟩
abbrev cX9_layOut : ByteArray := prog_11_method_30_code
def yX9_layOut : MethodName := ⟨RX9, "layOut", "(IIII)V"⟩
abbrev cX9_isListed : ByteArray := prog_11_method_31_code
def yX9_isListed : MethodName := ⟨RX9, "isListed", "(III)Z"⟩
abbrev cX9_goThrough : ByteArray := prog_11_method_32_code
def yX9_goThrough : MethodName := ⟨RX9, "goThrough", "(IIII)I"⟩
abbrev cX9_list : ByteArray := prog_11_method_33_code
def yX9_list : MethodName := ⟨RX9, "list", "(III)I"⟩
abbrev cX9_take : ByteArray := prog_11_method_34_code
def yX9_take : MethodName := ⟨RX9, "take", "(IIIII)I"⟩
abbrev cX9_letter : ByteArray := prog_11_method_35_code
def yX9_letter : MethodName := ⟨RX9, "letter", "(I)I"⟩
abbrev cX9_empty : ByteArray := prog_11_method_36_code
def yX9_empty : MethodName := ⟨RX9, "empty", "()I"⟩
abbrev cX9_start : ByteArray := prog_11_method_37_code
def yX9_start : MethodName := ⟨RX9, "start", "(II)V"⟩
abbrev cX9_fuse : ByteArray := prog_11_method_38_code
def yX9_fuse : MethodName := ⟨RX9, "fuse", "(II)V"⟩
abbrev cX9_fused : ByteArray := prog_11_method_39_code
def yX9_fused : MethodName := ⟨RX9, "fused", "(II)J"⟩
abbrev cX9_ways : ByteArray := prog_11_method_40_code
def yX9_ways : MethodName := ⟨RX9, "ways", "(IIIII)J"⟩
abbrev cX9_close : ByteArray := prog_11_method_41_code
def yX9_close : MethodName := ⟨RX9, "close", "(II)I"⟩
abbrev cX9_isSet : ByteArray := prog_11_method_42_code
def yX9_isSet : MethodName := ⟨RX9, "isSet", "(III)Z"⟩
abbrev cX9_closed : ByteArray := prog_11_method_43_code
def yX9_closed : MethodName := ⟨RX9, "closed", "(II)I"⟩
abbrev cX9_least : ByteArray := prog_11_method_44_code
def yX9_least : MethodName := ⟨RX9, "least", "(II)I"⟩
abbrev cX9_coreOf : ByteArray := prog_11_method_45_code
def yX9_coreOf : MethodName := ⟨RX9, "coreOf", "(I)I"⟩
abbrev cX9_core : ByteArray := prog_11_method_46_code
def yX9_core : MethodName := ⟨RX9, "core", "(I)I"⟩
abbrev cX9_grade : ByteArray := prog_11_method_47_code
def yX9_grade : MethodName := ⟨RX9, "grade", "(II)I"⟩
abbrev cX9_within : ByteArray := prog_11_method_48_code
def yX9_within : MethodName := ⟨RX9, "within", "(I)I"⟩
abbrev cX9_layNaming : ByteArray := prog_11_method_49_code
def yX9_layNaming : MethodName := ⟨RX9, "layNaming", "(II)Z"⟩
abbrev cX9_isLike : ByteArray := prog_11_method_50_code
def yX9_isLike : MethodName := ⟨RX9, "isLike", "(II)Z"⟩
abbrev cX9_like : ByteArray := prog_11_method_51_code
def yX9_like : MethodName := ⟨RX9, "like", "(II)I"⟩
abbrev cX9_isPrime : ByteArray := prog_11_method_52_code
def yX9_isPrime : MethodName := ⟨RX9, "isPrime", "(I)Z"⟩
abbrev cX9_isMap : ByteArray := prog_11_method_53_code
def yX9_isMap : MethodName := ⟨RX9, "isMap", "(II)Z"⟩
abbrev cX9_findMaps : ByteArray := prog_11_method_54_code
def yX9_findMaps : MethodName := ⟨RX9, "findMaps", "(III)I"⟩
abbrev cX9_maps : ByteArray := prog_11_method_55_code
def yX9_maps : MethodName := ⟨RX9, "maps", "(II)I"⟩
abbrev cX9_map : ByteArray := prog_11_method_56_code
def yX9_map : MethodName := ⟨RX9, "map", "(IIII)I"⟩
abbrev cX9_layLines : ByteArray := prog_11_method_57_code
def yX9_layLines : MethodName := ⟨RX9, "layLines", "(II)V"⟩
abbrev cX9_layTurn : ByteArray := prog_11_method_58_code
def yX9_layTurn : MethodName := ⟨RX9, "layTurn", "(II)I"⟩
abbrev cX9_isAbove : ByteArray := prog_11_method_59_code
def yX9_isAbove : MethodName := ⟨RX9, "isAbove", "(I)Z"⟩
abbrev cX9_isBelow : ByteArray := prog_11_method_60_code
def yX9_isBelow : MethodName := ⟨RX9, "isBelow", "(II)Z"⟩
abbrev cX9_size : ByteArray := prog_11_method_61_code
def yX9_size : MethodName := ⟨RX9, "size", "(I)I"⟩
abbrev cX9_digest : ByteArray := prog_11_method_62_code
def yX9_digest : MethodName := ⟨RX9, "digest", "()J"⟩
def RJ6 : String := "java/lang/Integer"
def TJ6 : u_T := fun k => match k with
  | _ => ("", "", "", false)
def tyJ6 : Nat → FieldType := fun k => match k with
  | _ => .int
abbrev wsJ60 : List Cond := u_ws RJ6 TJ6 0
theorem nmJ6 : ∀ a, a < 0 → ∀ b, b < 0 → a ≠ b → (TJ6 a).2.1 ≠ (TJ6 b).2.1 := by decide +kernel
theorem tyJ6_ok : ∀ k, k < 0 → parseFieldDescriptor (TJ6 k).2.2.1 = some (tyJ6 k) := by decide +kernel
abbrev cJ6_bitCount_0f7a4 : ByteArray := prog_12_method_49_code
def yJ6_bitCount_0f7a4 : MethodName := ⟨RJ6, "bitCount", "(I)I"⟩
def RJ9 : String := "java/lang/Math"
def TJ9 : u_T := fun k => match k with
  | _ => ("", "", "", false)
def tyJ9 : Nat → FieldType := fun k => match k with
  | _ => .int
abbrev wsJ90 : List Cond := u_ws RJ9 TJ9 0
theorem nmJ9 : ∀ a, a < 0 → ∀ b, b < 0 → a ≠ b → (TJ9 a).2.1 ≠ (TJ9 b).2.1 := by decide +kernel
theorem tyJ9_ok : ∀ k, k < 0 → parseFieldDescriptor (TJ9 k).2.2.1 = some (tyJ9 k) := by decide +kernel
abbrev cJ9_max_7cf53 : ByteArray := prog_13_method_65_code
def yJ9_max_7cf53 : MethodName := ⟨RJ9, "max", "(II)I"⟩
def RJ10 : String := "java/lang/System"
def TJ10 : u_T := fun k => match k with
  | _ => ("", "", "", false)
def tyJ10 : Nat → FieldType := fun k => match k with
  | _ => .int
abbrev wsJ100 : List Cond := u_ws RJ10 TJ10 0
theorem nmJ10 : ∀ a, a < 0 → ∀ b, b < 0 → a ≠ b → (TJ10 a).2.1 ≠ (TJ10 b).2.1 := by decide +kernel
theorem tyJ10_ok : ∀ k, k < 0 → parseFieldDescriptor (TJ10 k).2.2.1 = some (tyJ10 k) := by decide +kernel
def RJ7 : String := "java/util/Arrays"
def TJ7 : u_T := fun k => match k with
  | _ => ("", "", "", false)
def tyJ7 : Nat → FieldType := fun k => match k with
  | _ => .int
abbrev wsJ70 : List Cond := u_ws RJ7 TJ7 0
theorem nmJ7 : ∀ a, a < 0 → ∀ b, b < 0 → a ≠ b → (TJ7 a).2.1 ≠ (TJ7 b).2.1 := by decide +kernel
theorem tyJ7_ok : ∀ k, k < 0 → parseFieldDescriptor (TJ7 k).2.2.1 = some (tyJ7 k) := by decide +kernel
abbrev cJ7_fill_d0a16 : ByteArray := prog_15_method_101_code
def yJ7_fill_d0a16 : MethodName := ⟨RJ7, "fill", "([JJ)V"⟩
abbrev cJ7_fill_53178 : ByteArray := prog_15_method_103_code
def yJ7_fill_53178 : MethodName := ⟨RJ7, "fill", "([II)V"⟩
def RL : String := "FuseBenchLaw"
abbrev cL_law : ByteArray := code
def yL_law : MethodName := ⟨RL, "law", "([I)Z"⟩
def wsX0_init : List Cond := .code yX0_init cX0_init 1 none :: ([.methodLink RX0 3 objectInit, .instanceMethod objectInit, .code objectInit ⟨#[0xb1]⟩ 1 none, .arrayClass .int, .fieldLink RX0 9 "FuseBench$Extent" "sums" "[I", .arrayClass .long, .fieldLink RX0 15 "FuseBench$Extent" "minors" "[J"] ++ wsX00)
def wsX7_placeOf : List Cond := .code yX7_placeOf cX7_placeOf 3 (some .int) :: ([])
def wsX7_number : List Cond := .code yX7_number cX7_number 4 (some .int) :: ([.fieldLink RX7 11 "FuseBench$Table" "numbers" "[I", .methodLink RX7 23 yX7_placeOf, .static yX7_placeOf, .initialized RX7, .code yX7_placeOf cX7_placeOf 3 (some .int)] ++ wsX70)
def wsX0_addUp : List Cond := .code yX0_addUp cX0_addUp 6 none :: ([.fieldLink RX0 23 "FuseBench$Table" "kinds" "I", .fieldLink RX0 9 "FuseBench$Extent" "sums" "[I", .methodLink RX0 33 yX7_number, .instanceMethod yX7_number, .selects RX7 yX7_number yX7_number, .initialized RX7, .code yX7_number cX7_number 4 (some .int), .fieldLink RX7 11 "FuseBench$Table" "numbers" "[I", .methodLink RX7 23 yX7_placeOf, .static yX7_placeOf, .code yX7_placeOf cX7_placeOf 3 (some .int)] ++ wsX70 ++ wsX00)
def wsJ6_bitCount_0f7a4 : List Cond := .code yJ6_bitCount_0f7a4 cJ6_bitCount_0f7a4 1 (some .int) :: ([.constant RJ6 265 (1431655765), .constant RJ6 266 (858993459), .constant RJ6 267 (252645135)])
def wsX5_holds : List Cond := .code yX5_holds cX5_holds 2 (some .boolean) :: ([])
def wsX0_expandedMinor : List Cond := .code yX0_expandedMinor cX0_expandedMinor 11 (some .long) :: ([.constantLong RX0 52 (10), .fieldLink RX0 9 "FuseBench$Extent" "sums" "[I", .fieldLink RX0 15 "FuseBench$Extent" "minors" "[J", .methodLink RX0 41 yJ6_bitCount_0f7a4, .static yJ6_bitCount_0f7a4, .initialized RJ6, .code yJ6_bitCount_0f7a4 cJ6_bitCount_0f7a4 1 (some .int), .constant RJ6 265 (1431655765), .constant RJ6 266 (858993459), .constant RJ6 267 (252645135), .methodLink RX0 47 yX5_holds, .static yX5_holds, .initialized RX5, .code yX5_holds cX5_holds 2 (some .boolean)] ++ wsX00)
def wsX0_isAbove : List Cond := .code yX0_isAbove cX0_isAbove 5 (some .boolean) :: ([.fieldLink RX0 15 "FuseBench$Extent" "minors" "[J", .methodLink RX0 37 yX0_expandedMinor, .instanceMethod yX0_expandedMinor, .selects RX0 yX0_expandedMinor yX0_expandedMinor, .initialized RX0, .code yX0_expandedMinor cX0_expandedMinor 11 (some .long), .constantLong RX0 52 (10), .fieldLink RX0 9 "FuseBench$Extent" "sums" "[I", .methodLink RX0 41 yJ6_bitCount_0f7a4, .static yJ6_bitCount_0f7a4, .initialized RJ6, .code yJ6_bitCount_0f7a4 cJ6_bitCount_0f7a4 1 (some .int), .constant RJ6 265 (1431655765), .constant RJ6 266 (858993459), .constant RJ6 267 (252645135), .methodLink RX0 47 yX5_holds, .static yX5_holds, .initialized RX5, .code yX5_holds cX5_holds 2 (some .boolean)] ++ wsX00)
def wsX0_tenths_r1 : List Cond := [Cond.fieldLink RX0 23 "FuseBench$Table" "kinds" "I", Cond.methodLink RX0 19 yX0_addUp, Cond.instanceMethod yX0_addUp, Cond.selects RX0 yX0_addUp yX0_addUp, Cond.initialized RX0, Cond.code yX0_addUp cX0_addUp 6 none, Cond.fieldLink RX0 9 "FuseBench$Extent" "sums" "[I", Cond.methodLink RX0 33 yX7_number, Cond.instanceMethod yX7_number, Cond.selects RX7 yX7_number yX7_number, Cond.initialized RX7, Cond.code yX7_number cX7_number 4 (some .int), Cond.fieldLink RX7 11 "FuseBench$Table" "numbers" "[I", Cond.methodLink RX7 23 yX7_placeOf, Cond.static yX7_placeOf, Cond.code yX7_placeOf cX7_placeOf 3 (some .int), Cond.methodLink RX0 29 yX0_isAbove, Cond.instanceMethod yX0_isAbove, Cond.selects RX0 yX0_isAbove yX0_isAbove, Cond.code yX0_isAbove cX0_isAbove 5 (some .boolean), Cond.fieldLink RX0 15 "FuseBench$Extent" "minors" "[J", Cond.methodLink RX0 37 yX0_expandedMinor, Cond.instanceMethod yX0_expandedMinor, Cond.selects RX0 yX0_expandedMinor yX0_expandedMinor]
def wsX0_tenths_r2 : List Cond := [Cond.code yX0_expandedMinor cX0_expandedMinor 11 (some .long), Cond.constantLong RX0 52 (10), Cond.methodLink RX0 41 yJ6_bitCount_0f7a4, Cond.static yJ6_bitCount_0f7a4, Cond.initialized RJ6, Cond.code yJ6_bitCount_0f7a4 cJ6_bitCount_0f7a4 1 (some .int), Cond.constant RJ6 265 (1431655765), Cond.constant RJ6 266 (858993459), Cond.constant RJ6 267 (252645135), Cond.methodLink RX0 47 yX5_holds, Cond.static yX5_holds, Cond.initialized RX5, Cond.code yX5_holds cX5_holds 2 (some .boolean)]
def wsX0_tenths : List Cond := .code yX0_tenths cX0_tenths 6 (some .int) :: ((wsX0_tenths_r1 ++ wsX0_tenths_r2) ++ wsX70 ++ wsX00)
def wsX1_init : List Cond := .code yX1_init cX1_init 1 none :: ([.methodLink RX1 3 objectInit, .instanceMethod objectInit, .code objectInit ⟨#[0xb1]⟩ 1 none, .arrayClass .int, .fieldLink RX1 9 "FuseBench$Laws" "place" "[I", .fieldLink RX1 15 "FuseBench$Laws" "partners" "[I"] ++ wsX10)
def wsJ7_fill_53178 : List Cond := .code yJ7_fill_53178 cJ7_fill_53178 4 none :: ([])
def wsX1_breaks : List Cond := .code yX1_breaks cX1_breaks 6 (some .boolean) :: ([.fieldLink RX1 18 "FuseBench$Laws" "broken" "I", .fieldLink RX1 9 "FuseBench$Laws" "place" "[I"] ++ wsX10)
def wsX1_unitHolds : List Cond := .code yX1_unitHolds cX1_unitHolds 5 (some .boolean) :: ([.fieldLink RX1 44 "FuseBench$Table" "kinds" "I", .methodLink RX1 49 yX7_number, .instanceMethod yX7_number, .selects RX7 yX7_number yX7_number, .initialized RX7, .code yX7_number cX7_number 4 (some .int), .fieldLink RX7 11 "FuseBench$Table" "numbers" "[I", .methodLink RX7 23 yX7_placeOf, .static yX7_placeOf, .code yX7_placeOf cX7_placeOf 3 (some .int), .methodLink RX1 53 yX1_breaks, .instanceMethod yX1_breaks, .selects RX1 yX1_breaks yX1_breaks, .initialized RX1, .code yX1_breaks cX1_breaks 6 (some .boolean), .fieldLink RX1 18 "FuseBench$Laws" "broken" "I", .fieldLink RX1 9 "FuseBench$Laws" "place" "[I"] ++ wsX70 ++ wsX10)
def wsX1_eitherWayHolds : List Cond := .code yX1_eitherWayHolds cX1_eitherWayHolds 5 (some .boolean) :: ([.fieldLink RX1 44 "FuseBench$Table" "kinds" "I", .methodLink RX1 49 yX7_number, .instanceMethod yX7_number, .selects RX7 yX7_number yX7_number, .initialized RX7, .code yX7_number cX7_number 4 (some .int), .fieldLink RX7 11 "FuseBench$Table" "numbers" "[I", .methodLink RX7 23 yX7_placeOf, .static yX7_placeOf, .code yX7_placeOf cX7_placeOf 3 (some .int), .methodLink RX1 53 yX1_breaks, .instanceMethod yX1_breaks, .selects RX1 yX1_breaks yX1_breaks, .initialized RX1, .code yX1_breaks cX1_breaks 6 (some .boolean), .fieldLink RX1 18 "FuseBench$Laws" "broken" "I", .fieldLink RX1 9 "FuseBench$Laws" "place" "[I"] ++ wsX70 ++ wsX10)
def wsX1_partnersHold : List Cond := .code yX1_partnersHold cX1_partnersHold 5 (some .boolean) :: ([.fieldLink RX1 44 "FuseBench$Table" "kinds" "I", .fieldLink RX1 15 "FuseBench$Laws" "partners" "[I", .methodLink RX1 49 yX7_number, .instanceMethod yX7_number, .selects RX7 yX7_number yX7_number, .initialized RX7, .code yX7_number cX7_number 4 (some .int), .fieldLink RX7 11 "FuseBench$Table" "numbers" "[I", .methodLink RX7 23 yX7_placeOf, .static yX7_placeOf, .code yX7_placeOf cX7_placeOf 3 (some .int), .methodLink RX1 53 yX1_breaks, .instanceMethod yX1_breaks, .selects RX1 yX1_breaks yX1_breaks, .initialized RX1, .code yX1_breaks cX1_breaks 6 (some .boolean), .fieldLink RX1 18 "FuseBench$Laws" "broken" "I", .fieldLink RX1 9 "FuseBench$Laws" "place" "[I"] ++ wsX70 ++ wsX10)
def wsX1_turnedHolds : List Cond := .code yX1_turnedHolds cX1_turnedHolds 5 (some .boolean) :: ([.fieldLink RX1 44 "FuseBench$Table" "kinds" "I", .fieldLink RX1 15 "FuseBench$Laws" "partners" "[I", .methodLink RX1 49 yX7_number, .instanceMethod yX7_number, .selects RX7 yX7_number yX7_number, .initialized RX7, .code yX7_number cX7_number 4 (some .int), .fieldLink RX7 11 "FuseBench$Table" "numbers" "[I", .methodLink RX7 23 yX7_placeOf, .static yX7_placeOf, .code yX7_placeOf cX7_placeOf 3 (some .int), .methodLink RX1 53 yX1_breaks, .instanceMethod yX1_breaks, .selects RX1 yX1_breaks yX1_breaks, .initialized RX1, .code yX1_breaks cX1_breaks 6 (some .boolean), .fieldLink RX1 18 "FuseBench$Laws" "broken" "I", .fieldLink RX1 9 "FuseBench$Laws" "place" "[I"] ++ wsX70 ++ wsX10)
def wsX1_firstUnlike : List Cond := .code yX1_firstUnlike cX1_firstUnlike 7 (some .int) :: ([.fieldLink RX1 44 "FuseBench$Table" "kinds" "I", .methodLink RX1 49 yX7_number, .instanceMethod yX7_number, .selects RX7 yX7_number yX7_number, .initialized RX7, .code yX7_number cX7_number 4 (some .int), .fieldLink RX7 11 "FuseBench$Table" "numbers" "[I", .methodLink RX7 23 yX7_placeOf, .static yX7_placeOf, .code yX7_placeOf cX7_placeOf 3 (some .int)] ++ wsX70)
def wsX1_threeHolds : List Cond := .code yX1_threeHolds cX1_threeHolds 6 (some .boolean) :: ([.fieldLink RX1 44 "FuseBench$Table" "kinds" "I", .methodLink RX1 57 yX1_firstUnlike, .static yX1_firstUnlike, .initialized RX1, .code yX1_firstUnlike cX1_firstUnlike 7 (some .int), .methodLink RX1 49 yX7_number, .instanceMethod yX7_number, .selects RX7 yX7_number yX7_number, .initialized RX7, .code yX7_number cX7_number 4 (some .int), .fieldLink RX7 11 "FuseBench$Table" "numbers" "[I", .methodLink RX7 23 yX7_placeOf, .static yX7_placeOf, .code yX7_placeOf cX7_placeOf 3 (some .int), .methodLink RX1 53 yX1_breaks, .instanceMethod yX1_breaks, .selects RX1 yX1_breaks yX1_breaks, .code yX1_breaks cX1_breaks 6 (some .boolean), .fieldLink RX1 18 "FuseBench$Laws" "broken" "I", .fieldLink RX1 9 "FuseBench$Laws" "place" "[I"] ++ wsX70 ++ wsX10)
def wsX1_allHold_r1 : List Cond := [Cond.fieldLink RX1 18 "FuseBench$Laws" "broken" "I", Cond.fieldLink RX1 9 "FuseBench$Laws" "place" "[I", Cond.methodLink RX1 22 yJ7_fill_53178, Cond.static yJ7_fill_53178, Cond.initialized RJ7, Cond.code yJ7_fill_53178 cJ7_fill_53178 4 none, Cond.methodLink RX1 28 yX1_unitHolds, Cond.instanceMethod yX1_unitHolds, Cond.selects RX1 yX1_unitHolds yX1_unitHolds, Cond.initialized RX1, Cond.code yX1_unitHolds cX1_unitHolds 5 (some .boolean), Cond.fieldLink RX1 44 "FuseBench$Table" "kinds" "I", Cond.methodLink RX1 49 yX7_number, Cond.instanceMethod yX7_number, Cond.selects RX7 yX7_number yX7_number, Cond.initialized RX7, Cond.code yX7_number cX7_number 4 (some .int), Cond.fieldLink RX7 11 "FuseBench$Table" "numbers" "[I", Cond.methodLink RX7 23 yX7_placeOf, Cond.static yX7_placeOf, Cond.code yX7_placeOf cX7_placeOf 3 (some .int), Cond.methodLink RX1 53 yX1_breaks, Cond.instanceMethod yX1_breaks, Cond.selects RX1 yX1_breaks yX1_breaks]
def wsX1_allHold_r2 : List Cond := [Cond.code yX1_breaks cX1_breaks 6 (some .boolean), Cond.methodLink RX1 32 yX1_eitherWayHolds, Cond.instanceMethod yX1_eitherWayHolds, Cond.selects RX1 yX1_eitherWayHolds yX1_eitherWayHolds, Cond.code yX1_eitherWayHolds cX1_eitherWayHolds 5 (some .boolean), Cond.methodLink RX1 35 yX1_partnersHold, Cond.instanceMethod yX1_partnersHold, Cond.selects RX1 yX1_partnersHold yX1_partnersHold, Cond.code yX1_partnersHold cX1_partnersHold 5 (some .boolean), Cond.fieldLink RX1 15 "FuseBench$Laws" "partners" "[I", Cond.methodLink RX1 38 yX1_turnedHolds, Cond.instanceMethod yX1_turnedHolds, Cond.selects RX1 yX1_turnedHolds yX1_turnedHolds, Cond.code yX1_turnedHolds cX1_turnedHolds 5 (some .boolean), Cond.methodLink RX1 41 yX1_threeHolds, Cond.instanceMethod yX1_threeHolds, Cond.selects RX1 yX1_threeHolds yX1_threeHolds, Cond.code yX1_threeHolds cX1_threeHolds 6 (some .boolean), Cond.methodLink RX1 57 yX1_firstUnlike, Cond.static yX1_firstUnlike, Cond.code yX1_firstUnlike cX1_firstUnlike 7 (some .int)]
def wsX1_allHold : List Cond := .code yX1_allHold cX1_allHold 2 (some .boolean) :: ((wsX1_allHold_r1 ++ wsX1_allHold_r2) ++ wsX10 ++ wsX70)
def wsX7_setNumber : List Cond := .code yX7_setNumber cX7_setNumber 5 none :: ([.fieldLink RX7 11 "FuseBench$Table" "numbers" "[I", .methodLink RX7 23 yX7_placeOf, .static yX7_placeOf, .initialized RX7, .code yX7_placeOf cX7_placeOf 3 (some .int)] ++ wsX70)
def wsX7_reset : List Cond := .code yX7_reset cX7_reset 3 none :: ([.fieldLink RX7 11 "FuseBench$Table" "numbers" "[I", .fieldLink RX7 19 "FuseBench$Table" "kinds" "I", .methodLink RX7 27 yJ7_fill_53178, .static yJ7_fill_53178, .initialized RJ7, .code yJ7_fill_53178 cJ7_fill_53178 4 none, .methodLink RX7 33 yX7_setNumber, .instanceMethod yX7_setNumber, .selects RX7 yX7_setNumber yX7_setNumber, .initialized RX7, .code yX7_setNumber cX7_setNumber 5 none, .methodLink RX7 23 yX7_placeOf, .static yX7_placeOf, .code yX7_placeOf cX7_placeOf 3 (some .int)] ++ wsX70)
def wsX7_init : List Cond := .code yX7_init cX7_init 1 none :: ([.methodLink RX7 3 objectInit, .instanceMethod objectInit, .code objectInit ⟨#[0xb1]⟩ 1 none, .arrayClass .int, .fieldLink RX7 11 "FuseBench$Table" "numbers" "[I", .methodLink RX7 15 yX7_reset, .instanceMethod yX7_reset, .selects RX7 yX7_reset yX7_reset, .initialized RX7, .code yX7_reset cX7_reset 3 none, .fieldLink RX7 19 "FuseBench$Table" "kinds" "I", .methodLink RX7 27 yJ7_fill_53178, .static yJ7_fill_53178, .initialized RJ7, .code yJ7_fill_53178 cJ7_fill_53178 4 none, .methodLink RX7 33 yX7_setNumber, .instanceMethod yX7_setNumber, .selects RX7 yX7_setNumber yX7_setNumber, .code yX7_setNumber cX7_setNumber 5 none, .methodLink RX7 23 yX7_placeOf, .static yX7_placeOf, .code yX7_placeOf cX7_placeOf 3 (some .int)] ++ wsX70)
def wsX2_init_r1 : List Cond := [Cond.methodLink RX2 5 objectInit, Cond.instanceMethod objectInit, Cond.code objectInit ⟨#[0xb1]⟩ 1 none, Cond.arrayClass .int, Cond.fieldLink RX2 13 "FuseBench$Listing" "freeAt" "[I", Cond.fieldLink RX2 17 "FuseBench$Listing" "row" "[I", Cond.fieldLink RX2 20 "FuseBench$Listing" "found" "[I", Cond.classLink RX2 11 RX7, Cond.instantiable RX7 2, Cond.initialized RX7, Cond.fieldLink RX2 24 "FuseBench$Listing" "candidate" "LFuseBench$Table;", Cond.classLink RX2 28 RX1, Cond.instantiable RX1 3, Cond.initialized RX1, Cond.fieldLink RX2 31 "FuseBench$Listing" "laws" "LFuseBench$Laws;", Cond.methodLink RX2 23 yX7_init, Cond.instanceMethod yX7_init, Cond.code yX7_init cX7_init 1 none, Cond.methodLink RX7 3 objectInit, Cond.fieldLink RX7 11 "FuseBench$Table" "numbers" "[I", Cond.methodLink RX7 15 yX7_reset, Cond.instanceMethod yX7_reset, Cond.selects RX7 yX7_reset yX7_reset, Cond.code yX7_reset cX7_reset 3 none]
def wsX2_init_r2 : List Cond := [Cond.fieldLink RX7 19 "FuseBench$Table" "kinds" "I", Cond.methodLink RX7 27 yJ7_fill_53178, Cond.static yJ7_fill_53178, Cond.initialized RJ7, Cond.code yJ7_fill_53178 cJ7_fill_53178 4 none, Cond.methodLink RX7 33 yX7_setNumber, Cond.instanceMethod yX7_setNumber, Cond.selects RX7 yX7_setNumber yX7_setNumber, Cond.code yX7_setNumber cX7_setNumber 5 none, Cond.methodLink RX7 23 yX7_placeOf, Cond.static yX7_placeOf, Cond.code yX7_placeOf cX7_placeOf 3 (some .int), Cond.instanceMethod yX1_init, Cond.code yX1_init cX1_init 1 none, Cond.methodLink RX1 3 objectInit, Cond.fieldLink RX1 9 "FuseBench$Laws" "place" "[I", Cond.fieldLink RX1 15 "FuseBench$Laws" "partners" "[I"]
def wsX2_init : List Cond := .code yX2_init cX2_init 1 none :: ((wsX2_init_r1 ++ wsX2_init_r2) ++ wsX20 ++ wsX70 ++ wsX10)
def wsX2_partnerOf : List Cond := .code yX2_partnerOf cX2_partnerOf 2 (some .int) :: ([.fieldLink RX2 42 "FuseBench$Listing" "pairs" "I"] ++ wsX20)
def wsX2_markAlike : List Cond := .code yX2_markAlike cX2_markAlike 9 none :: ([.fieldLink RX2 13 "FuseBench$Listing" "freeAt" "[I", .fieldLink RX2 54 "FuseBench$Listing" "free" "I", .methodLink RX2 70 yX7_placeOf, .static yX7_placeOf, .initialized RX7, .code yX7_placeOf cX7_placeOf 3 (some .int), .methodLink RX2 78 yX2_partnerOf, .instanceMethod yX2_partnerOf, .selects RX2 yX2_partnerOf yX2_partnerOf, .initialized RX2, .code yX2_partnerOf cX2_partnerOf 2 (some .int), .fieldLink RX2 42 "FuseBench$Listing" "pairs" "I"] ++ wsX20)
def wsX2_findFree : List Cond := .code yX2_findFree cX2_findFree 4 none :: ([.fieldLink RX2 13 "FuseBench$Listing" "freeAt" "[I", .fieldLink RX2 54 "FuseBench$Listing" "free" "I", .fieldLink RX2 35 "FuseBench$Listing" "kinds" "I", .methodLink RX2 64 yJ7_fill_53178, .static yJ7_fill_53178, .initialized RJ7, .code yJ7_fill_53178 cJ7_fill_53178 4 none, .methodLink RX2 70 yX7_placeOf, .static yX7_placeOf, .initialized RX7, .code yX7_placeOf cX7_placeOf 3 (some .int), .methodLink RX2 74 yX2_markAlike, .instanceMethod yX2_markAlike, .selects RX2 yX2_markAlike yX2_markAlike, .initialized RX2, .code yX2_markAlike cX2_markAlike 9 none, .methodLink RX2 78 yX2_partnerOf, .instanceMethod yX2_partnerOf, .selects RX2 yX2_partnerOf yX2_partnerOf, .code yX2_partnerOf cX2_partnerOf 2 (some .int), .fieldLink RX2 42 "FuseBench$Listing" "pairs" "I"] ++ wsX20)
def wsX2_buildCandidate_r1 : List Cond := [Cond.fieldLink RX2 24 "FuseBench$Listing" "candidate" "LFuseBench$Table;", Cond.fieldLink RX2 35 "FuseBench$Listing" "kinds" "I", Cond.fieldLink RX2 13 "FuseBench$Listing" "freeAt" "[I", Cond.fieldLink RX2 17 "FuseBench$Listing" "row" "[I", Cond.methodLink RX2 94 yX7_reset, Cond.instanceMethod yX7_reset, Cond.selects RX7 yX7_reset yX7_reset, Cond.initialized RX7, Cond.code yX7_reset cX7_reset 3 none, Cond.fieldLink RX7 11 "FuseBench$Table" "numbers" "[I", Cond.fieldLink RX7 19 "FuseBench$Table" "kinds" "I", Cond.methodLink RX7 27 yJ7_fill_53178, Cond.static yJ7_fill_53178, Cond.initialized RJ7, Cond.code yJ7_fill_53178 cJ7_fill_53178 4 none, Cond.methodLink RX7 33 yX7_setNumber, Cond.instanceMethod yX7_setNumber, Cond.selects RX7 yX7_setNumber yX7_setNumber, Cond.code yX7_setNumber cX7_setNumber 5 none, Cond.methodLink RX7 23 yX7_placeOf, Cond.static yX7_placeOf, Cond.code yX7_placeOf cX7_placeOf 3 (some .int), Cond.methodLink RX2 78 yX2_partnerOf, Cond.instanceMethod yX2_partnerOf]
def wsX2_buildCandidate_r2 : List Cond := [Cond.selects RX2 yX2_partnerOf yX2_partnerOf, Cond.initialized RX2, Cond.code yX2_partnerOf cX2_partnerOf 2 (some .int), Cond.fieldLink RX2 42 "FuseBench$Listing" "pairs" "I", Cond.methodLink RX2 98 yX7_setNumber, Cond.methodLink RX2 70 yX7_placeOf]
def wsX2_buildCandidate : List Cond := .code yX2_buildCandidate cX2_buildCandidate 5 none :: ((wsX2_buildCandidate_r1 ++ wsX2_buildCandidate_r2) ++ wsX20 ++ wsX70)
def wsX2_packedRow : List Cond := .code yX2_packedRow cX2_packedRow 3 (some .int) :: ([.fieldLink RX2 54 "FuseBench$Listing" "free" "I", .fieldLink RX2 17 "FuseBench$Listing" "row" "[I"] ++ wsX20)
def wsX2_nextRow : List Cond := .code yX2_nextRow cX2_nextRow 2 (some .boolean) :: ([.fieldLink RX2 54 "FuseBench$Listing" "free" "I", .fieldLink RX2 17 "FuseBench$Listing" "row" "[I", .fieldLink RX2 39 "FuseBench$Listing" "bound" "I"] ++ wsX20)
def wsX2_findRight_r1 : List Cond := [Cond.fieldLink RX2 51 "FuseBench$Listing" "count" "I", Cond.fieldLink RX2 17 "FuseBench$Listing" "row" "[I", Cond.fieldLink RX2 31 "FuseBench$Listing" "laws" "LFuseBench$Laws;", Cond.fieldLink RX2 24 "FuseBench$Listing" "candidate" "LFuseBench$Table;", Cond.fieldLink RX2 20 "FuseBench$Listing" "found" "[I", Cond.methodLink RX2 64 yJ7_fill_53178, Cond.static yJ7_fill_53178, Cond.initialized RJ7, Cond.code yJ7_fill_53178 cJ7_fill_53178 4 none, Cond.methodLink RX2 57 yX2_buildCandidate, Cond.instanceMethod yX2_buildCandidate, Cond.selects RX2 yX2_buildCandidate yX2_buildCandidate, Cond.initialized RX2, Cond.code yX2_buildCandidate cX2_buildCandidate 5 none, Cond.fieldLink RX2 35 "FuseBench$Listing" "kinds" "I", Cond.fieldLink RX2 13 "FuseBench$Listing" "freeAt" "[I", Cond.methodLink RX2 94 yX7_reset, Cond.instanceMethod yX7_reset, Cond.selects RX7 yX7_reset yX7_reset, Cond.initialized RX7, Cond.code yX7_reset cX7_reset 3 none, Cond.fieldLink RX7 11 "FuseBench$Table" "numbers" "[I", Cond.fieldLink RX7 19 "FuseBench$Table" "kinds" "I", Cond.methodLink RX7 27 yJ7_fill_53178]
def wsX2_findRight_r2 : List Cond := [Cond.methodLink RX7 33 yX7_setNumber, Cond.instanceMethod yX7_setNumber, Cond.selects RX7 yX7_setNumber yX7_setNumber, Cond.code yX7_setNumber cX7_setNumber 5 none, Cond.methodLink RX7 23 yX7_placeOf, Cond.static yX7_placeOf, Cond.code yX7_placeOf cX7_placeOf 3 (some .int), Cond.methodLink RX2 78 yX2_partnerOf, Cond.instanceMethod yX2_partnerOf, Cond.selects RX2 yX2_partnerOf yX2_partnerOf, Cond.code yX2_partnerOf cX2_partnerOf 2 (some .int), Cond.fieldLink RX2 42 "FuseBench$Listing" "pairs" "I", Cond.methodLink RX2 98 yX7_setNumber, Cond.methodLink RX2 70 yX7_placeOf, Cond.methodLink RX2 82 yX1_threeHolds, Cond.instanceMethod yX1_threeHolds, Cond.selects RX1 yX1_threeHolds yX1_threeHolds, Cond.initialized RX1, Cond.code yX1_threeHolds cX1_threeHolds 6 (some .boolean), Cond.fieldLink RX1 44 "FuseBench$Table" "kinds" "I", Cond.methodLink RX1 57 yX1_firstUnlike, Cond.static yX1_firstUnlike, Cond.code yX1_firstUnlike cX1_firstUnlike 7 (some .int), Cond.methodLink RX1 49 yX7_number]
def wsX2_findRight_r3 : List Cond := [Cond.instanceMethod yX7_number, Cond.selects RX7 yX7_number yX7_number, Cond.code yX7_number cX7_number 4 (some .int), Cond.methodLink RX1 53 yX1_breaks, Cond.instanceMethod yX1_breaks, Cond.selects RX1 yX1_breaks yX1_breaks, Cond.code yX1_breaks cX1_breaks 6 (some .boolean), Cond.fieldLink RX1 18 "FuseBench$Laws" "broken" "I", Cond.fieldLink RX1 9 "FuseBench$Laws" "place" "[I", Cond.methodLink RX2 86 yX2_packedRow, Cond.instanceMethod yX2_packedRow, Cond.selects RX2 yX2_packedRow yX2_packedRow, Cond.code yX2_packedRow cX2_packedRow 3 (some .int), Cond.fieldLink RX2 54 "FuseBench$Listing" "free" "I", Cond.methodLink RX2 90 yX2_nextRow, Cond.instanceMethod yX2_nextRow, Cond.selects RX2 yX2_nextRow yX2_nextRow, Cond.code yX2_nextRow cX2_nextRow 2 (some .boolean), Cond.fieldLink RX2 39 "FuseBench$Listing" "bound" "I"]
def wsX2_findRight : List Cond := .code yX2_findRight cX2_findRight 3 none :: ((wsX2_findRight_r1 ++ (wsX2_findRight_r2 ++ wsX2_findRight_r3)) ++ wsX20 ++ wsX70 ++ wsX10)
def wsX2_howMany_r1 : List Cond := [Cond.fieldLink RX2 35 "FuseBench$Listing" "kinds" "I", Cond.fieldLink RX2 39 "FuseBench$Listing" "bound" "I", Cond.fieldLink RX2 42 "FuseBench$Listing" "pairs" "I", Cond.fieldLink RX2 51 "FuseBench$Listing" "count" "I", Cond.methodLink RX2 45 yX2_findFree, Cond.instanceMethod yX2_findFree, Cond.selects RX2 yX2_findFree yX2_findFree, Cond.initialized RX2, Cond.code yX2_findFree cX2_findFree 4 none, Cond.fieldLink RX2 13 "FuseBench$Listing" "freeAt" "[I", Cond.fieldLink RX2 54 "FuseBench$Listing" "free" "I", Cond.methodLink RX2 64 yJ7_fill_53178, Cond.static yJ7_fill_53178, Cond.initialized RJ7, Cond.code yJ7_fill_53178 cJ7_fill_53178 4 none, Cond.methodLink RX2 70 yX7_placeOf, Cond.static yX7_placeOf, Cond.initialized RX7, Cond.code yX7_placeOf cX7_placeOf 3 (some .int), Cond.methodLink RX2 74 yX2_markAlike, Cond.instanceMethod yX2_markAlike, Cond.selects RX2 yX2_markAlike yX2_markAlike, Cond.code yX2_markAlike cX2_markAlike 9 none, Cond.methodLink RX2 78 yX2_partnerOf]
def wsX2_howMany_r2 : List Cond := [Cond.instanceMethod yX2_partnerOf, Cond.selects RX2 yX2_partnerOf yX2_partnerOf, Cond.code yX2_partnerOf cX2_partnerOf 2 (some .int), Cond.methodLink RX2 48 yX2_findRight, Cond.instanceMethod yX2_findRight, Cond.selects RX2 yX2_findRight yX2_findRight, Cond.code yX2_findRight cX2_findRight 3 none, Cond.fieldLink RX2 17 "FuseBench$Listing" "row" "[I", Cond.fieldLink RX2 31 "FuseBench$Listing" "laws" "LFuseBench$Laws;", Cond.fieldLink RX2 24 "FuseBench$Listing" "candidate" "LFuseBench$Table;", Cond.fieldLink RX2 20 "FuseBench$Listing" "found" "[I", Cond.methodLink RX2 57 yX2_buildCandidate, Cond.instanceMethod yX2_buildCandidate, Cond.selects RX2 yX2_buildCandidate yX2_buildCandidate, Cond.code yX2_buildCandidate cX2_buildCandidate 5 none, Cond.methodLink RX2 94 yX7_reset, Cond.instanceMethod yX7_reset, Cond.selects RX7 yX7_reset yX7_reset, Cond.code yX7_reset cX7_reset 3 none, Cond.fieldLink RX7 11 "FuseBench$Table" "numbers" "[I", Cond.fieldLink RX7 19 "FuseBench$Table" "kinds" "I", Cond.methodLink RX7 27 yJ7_fill_53178, Cond.methodLink RX7 33 yX7_setNumber, Cond.instanceMethod yX7_setNumber]
def wsX2_howMany_r3 : List Cond := [Cond.selects RX7 yX7_setNumber yX7_setNumber, Cond.code yX7_setNumber cX7_setNumber 5 none, Cond.methodLink RX7 23 yX7_placeOf, Cond.methodLink RX2 98 yX7_setNumber, Cond.methodLink RX2 82 yX1_threeHolds, Cond.instanceMethod yX1_threeHolds, Cond.selects RX1 yX1_threeHolds yX1_threeHolds, Cond.initialized RX1, Cond.code yX1_threeHolds cX1_threeHolds 6 (some .boolean), Cond.fieldLink RX1 44 "FuseBench$Table" "kinds" "I", Cond.methodLink RX1 57 yX1_firstUnlike, Cond.static yX1_firstUnlike, Cond.code yX1_firstUnlike cX1_firstUnlike 7 (some .int), Cond.methodLink RX1 49 yX7_number, Cond.instanceMethod yX7_number, Cond.selects RX7 yX7_number yX7_number, Cond.code yX7_number cX7_number 4 (some .int), Cond.methodLink RX1 53 yX1_breaks, Cond.instanceMethod yX1_breaks, Cond.selects RX1 yX1_breaks yX1_breaks, Cond.code yX1_breaks cX1_breaks 6 (some .boolean), Cond.fieldLink RX1 18 "FuseBench$Laws" "broken" "I", Cond.fieldLink RX1 9 "FuseBench$Laws" "place" "[I", Cond.methodLink RX2 86 yX2_packedRow]
def wsX2_howMany_r4 : List Cond := [Cond.instanceMethod yX2_packedRow, Cond.selects RX2 yX2_packedRow yX2_packedRow, Cond.code yX2_packedRow cX2_packedRow 3 (some .int), Cond.methodLink RX2 90 yX2_nextRow, Cond.instanceMethod yX2_nextRow, Cond.selects RX2 yX2_nextRow yX2_nextRow, Cond.code yX2_nextRow cX2_nextRow 2 (some .boolean)]
def wsX2_howMany : List Cond := .code yX2_howMany cX2_howMany 4 (some .int) :: ((wsX2_howMany_r1 ++ (wsX2_howMany_r2 ++ (wsX2_howMany_r3 ++ wsX2_howMany_r4))) ++ wsX20 ++ wsX70 ++ wsX10)
def wsX7_become : List Cond := .code yX7_become cX7_become 2 none :: ([.fieldLink RX7 19 "FuseBench$Table" "kinds" "I", .fieldLink RX7 11 "FuseBench$Table" "numbers" "[I", .methodLink RX7 37 arraycopyName, .native arraycopyName, .static arraycopyName, .initialized "java/lang/System"] ++ wsX70)
def wsX2_write_r1 : List Cond := [Cond.fieldLink RX2 51 "FuseBench$Listing" "count" "I", Cond.fieldLink RX2 20 "FuseBench$Listing" "found" "[I", Cond.fieldLink RX2 54 "FuseBench$Listing" "free" "I", Cond.fieldLink RX2 17 "FuseBench$Listing" "row" "[I", Cond.fieldLink RX2 24 "FuseBench$Listing" "candidate" "LFuseBench$Table;", Cond.methodLink RX2 57 yX2_buildCandidate, Cond.instanceMethod yX2_buildCandidate, Cond.selects RX2 yX2_buildCandidate yX2_buildCandidate, Cond.initialized RX2, Cond.code yX2_buildCandidate cX2_buildCandidate 5 none, Cond.fieldLink RX2 35 "FuseBench$Listing" "kinds" "I", Cond.fieldLink RX2 13 "FuseBench$Listing" "freeAt" "[I", Cond.methodLink RX2 94 yX7_reset, Cond.instanceMethod yX7_reset, Cond.selects RX7 yX7_reset yX7_reset, Cond.initialized RX7, Cond.code yX7_reset cX7_reset 3 none, Cond.fieldLink RX7 11 "FuseBench$Table" "numbers" "[I", Cond.fieldLink RX7 19 "FuseBench$Table" "kinds" "I", Cond.methodLink RX7 27 yJ7_fill_53178, Cond.static yJ7_fill_53178, Cond.initialized RJ7, Cond.code yJ7_fill_53178 cJ7_fill_53178 4 none, Cond.methodLink RX7 33 yX7_setNumber]
def wsX2_write_r2 : List Cond := [Cond.instanceMethod yX7_setNumber, Cond.selects RX7 yX7_setNumber yX7_setNumber, Cond.code yX7_setNumber cX7_setNumber 5 none, Cond.methodLink RX7 23 yX7_placeOf, Cond.static yX7_placeOf, Cond.code yX7_placeOf cX7_placeOf 3 (some .int), Cond.methodLink RX2 78 yX2_partnerOf, Cond.instanceMethod yX2_partnerOf, Cond.selects RX2 yX2_partnerOf yX2_partnerOf, Cond.code yX2_partnerOf cX2_partnerOf 2 (some .int), Cond.fieldLink RX2 42 "FuseBench$Listing" "pairs" "I", Cond.methodLink RX2 98 yX7_setNumber, Cond.methodLink RX2 70 yX7_placeOf, Cond.methodLink RX2 60 yX7_become, Cond.instanceMethod yX7_become, Cond.selects RX7 yX7_become yX7_become, Cond.code yX7_become cX7_become 2 none, Cond.methodLink RX7 37 arraycopyName, Cond.native arraycopyName, Cond.static arraycopyName, Cond.initialized "java/lang/System"]
def wsX2_write : List Cond := .code yX2_write cX2_write 5 none :: ((wsX2_write_r1 ++ wsX2_write_r2) ++ wsX20 ++ wsX70)
def wsX3_init : List Cond := .code yX3_init cX3_init 1 none :: ([.methodLink RX3 3 objectInit, .instanceMethod objectInit, .code objectInit ⟨#[0xb1]⟩ 1 none, .arrayClass .int, .fieldLink RX3 9 "FuseBench$Namings" "names" "[I"] ++ wsX30)
def wsX3_alike : List Cond := .code yX3_alike cX3_alike 6 (some .boolean) :: ([.fieldLink RX3 15 "FuseBench$Table" "kinds" "I", .methodLink RX3 29 yX7_number, .instanceMethod yX7_number, .selects RX7 yX7_number yX7_number, .initialized RX7, .code yX7_number cX7_number 4 (some .int), .fieldLink RX7 11 "FuseBench$Table" "numbers" "[I", .methodLink RX7 23 yX7_placeOf, .static yX7_placeOf, .code yX7_placeOf cX7_placeOf 3 (some .int)] ++ wsX70)
def wsX3_countFrom : List Cond := .code yX3_countFrom cX3_countFrom 7 (some .int) :: ([.fieldLink RX3 15 "FuseBench$Table" "kinds" "I", .methodLink RX3 25 yX3_alike, .static yX3_alike, .initialized RX3, .code yX3_alike cX3_alike 6 (some .boolean), .methodLink RX3 29 yX7_number, .instanceMethod yX7_number, .selects RX7 yX7_number yX7_number, .initialized RX7, .code yX7_number cX7_number 4 (some .int), .fieldLink RX7 11 "FuseBench$Table" "numbers" "[I", .methodLink RX7 23 yX7_placeOf, .static yX7_placeOf, .code yX7_placeOf cX7_placeOf 3 (some .int), .methodLink RX3 21 yX3_countFrom, .static yX3_countFrom] ++ wsX70)
def wsX3_count : List Cond := .code yX3_count cX3_count 3 (some .int) :: ([.fieldLink RX3 15 "FuseBench$Table" "kinds" "I", .fieldLink RX3 9 "FuseBench$Namings" "names" "[I", .methodLink RX3 21 yX3_countFrom, .static yX3_countFrom, .initialized RX3, .code yX3_countFrom cX3_countFrom 7 (some .int), .methodLink RX3 25 yX3_alike, .static yX3_alike, .code yX3_alike cX3_alike 6 (some .boolean), .methodLink RX3 29 yX7_number, .instanceMethod yX7_number, .selects RX7 yX7_number yX7_number, .initialized RX7, .code yX7_number cX7_number 4 (some .int), .fieldLink RX7 11 "FuseBench$Table" "numbers" "[I", .methodLink RX7 23 yX7_placeOf, .static yX7_placeOf, .code yX7_placeOf cX7_placeOf 3 (some .int)] ++ wsX70 ++ wsX30)
def wsX4_init : List Cond := .code yX4_init cX4_init 1 none :: ([.methodLink RX4 3 objectInit, .instanceMethod objectInit, .code objectInit ⟨#[0xb1]⟩ 1 none, .arrayClass .int, .fieldLink RX4 9 "FuseBench$Remainders" "row" "[I"] ++ wsX40)
def wsX4_lastOfBroken : List Cond := .code yX4_lastOfBroken cX4_lastOfBroken 9 (some .int) :: ([.fieldLink RX4 33 "FuseBench$Table" "kinds" "I", .fieldLink RX4 9 "FuseBench$Remainders" "row" "[I", .methodLink RX4 46 Lib.Math.max.name, .static Lib.Math.max.name, .initialized "java/lang/Math", .code Lib.Math.max.name Lib.Math.max.code 2 (some .int), .methodLink RX4 42 yX7_number, .instanceMethod yX7_number, .selects RX7 yX7_number yX7_number, .initialized RX7, .code yX7_number cX7_number 4 (some .int), .fieldLink RX7 11 "FuseBench$Table" "numbers" "[I", .methodLink RX7 23 yX7_placeOf, .static yX7_placeOf, .code yX7_placeOf cX7_placeOf 3 (some .int)] ++ wsX70 ++ wsX40)
def wsX4_nextRow : List Cond := .code yX4_nextRow cX4_nextRow 5 (some .boolean) :: ([.fieldLink RX4 9 "FuseBench$Remainders" "row" "[I"] ++ wsX40)
def wsX4_walk_r1 : List Cond := [Cond.fieldLink RX4 19 "FuseBench$Remainders" "passed" "I", Cond.fieldLink RX4 9 "FuseBench$Remainders" "row" "[I", Cond.fieldLink RX4 33 "FuseBench$Table" "kinds" "I", Cond.methodLink RX4 23 yJ7_fill_53178, Cond.static yJ7_fill_53178, Cond.initialized RJ7, Cond.code yJ7_fill_53178 cJ7_fill_53178 4 none, Cond.methodLink RX4 29 yX4_lastOfBroken, Cond.instanceMethod yX4_lastOfBroken, Cond.selects RX4 yX4_lastOfBroken yX4_lastOfBroken, Cond.initialized RX4, Cond.code yX4_lastOfBroken cX4_lastOfBroken 9 (some .int), Cond.methodLink RX4 46 Lib.Math.max.name, Cond.static Lib.Math.max.name, Cond.initialized "java/lang/Math", Cond.code Lib.Math.max.name Lib.Math.max.code 2 (some .int), Cond.methodLink RX4 42 yX7_number, Cond.instanceMethod yX7_number, Cond.selects RX7 yX7_number yX7_number, Cond.initialized RX7, Cond.code yX7_number cX7_number 4 (some .int), Cond.fieldLink RX7 11 "FuseBench$Table" "numbers" "[I", Cond.methodLink RX7 23 yX7_placeOf, Cond.static yX7_placeOf]
def wsX4_walk_r2 : List Cond := [Cond.code yX7_placeOf cX7_placeOf 3 (some .int), Cond.methodLink RX4 38 yX4_nextRow, Cond.instanceMethod yX4_nextRow, Cond.selects RX4 yX4_nextRow yX4_nextRow, Cond.code yX4_nextRow cX4_nextRow 5 (some .boolean)]
def wsX4_walk : List Cond := .code yX4_walk cX4_walk 7 (some .boolean) :: ((wsX4_walk_r1 ++ wsX4_walk_r2) ++ wsX40 ++ wsX70)
def wsX4_count_r1 : List Cond := [Cond.fieldLink RX4 19 "FuseBench$Remainders" "passed" "I", Cond.methodLink RX4 15 yX4_walk, Cond.instanceMethod yX4_walk, Cond.selects RX4 yX4_walk yX4_walk, Cond.initialized RX4, Cond.code yX4_walk cX4_walk 7 (some .boolean), Cond.fieldLink RX4 9 "FuseBench$Remainders" "row" "[I", Cond.fieldLink RX4 33 "FuseBench$Table" "kinds" "I", Cond.methodLink RX4 23 yJ7_fill_53178, Cond.static yJ7_fill_53178, Cond.initialized RJ7, Cond.code yJ7_fill_53178 cJ7_fill_53178 4 none, Cond.methodLink RX4 29 yX4_lastOfBroken, Cond.instanceMethod yX4_lastOfBroken, Cond.selects RX4 yX4_lastOfBroken yX4_lastOfBroken, Cond.code yX4_lastOfBroken cX4_lastOfBroken 9 (some .int), Cond.methodLink RX4 46 Lib.Math.max.name, Cond.static Lib.Math.max.name, Cond.initialized "java/lang/Math", Cond.code Lib.Math.max.name Lib.Math.max.code 2 (some .int), Cond.methodLink RX4 42 yX7_number, Cond.instanceMethod yX7_number, Cond.selects RX7 yX7_number yX7_number, Cond.initialized RX7]
def wsX4_count_r2 : List Cond := [Cond.code yX7_number cX7_number 4 (some .int), Cond.fieldLink RX7 11 "FuseBench$Table" "numbers" "[I", Cond.methodLink RX7 23 yX7_placeOf, Cond.static yX7_placeOf, Cond.code yX7_placeOf cX7_placeOf 3 (some .int), Cond.methodLink RX4 38 yX4_nextRow, Cond.instanceMethod yX4_nextRow, Cond.selects RX4 yX4_nextRow yX4_nextRow, Cond.code yX4_nextRow cX4_nextRow 5 (some .boolean)]
def wsX4_count : List Cond := .code yX4_count cX4_count 3 (some .int) :: ((wsX4_count_r1 ++ wsX4_count_r2) ++ wsX40 ++ wsX70)
def wsX4_find_r1 : List Cond := [Cond.methodLink RX4 15 yX4_walk, Cond.instanceMethod yX4_walk, Cond.selects RX4 yX4_walk yX4_walk, Cond.initialized RX4, Cond.code yX4_walk cX4_walk 7 (some .boolean), Cond.fieldLink RX4 19 "FuseBench$Remainders" "passed" "I", Cond.fieldLink RX4 9 "FuseBench$Remainders" "row" "[I", Cond.fieldLink RX4 33 "FuseBench$Table" "kinds" "I", Cond.methodLink RX4 23 yJ7_fill_53178, Cond.static yJ7_fill_53178, Cond.initialized RJ7, Cond.code yJ7_fill_53178 cJ7_fill_53178 4 none, Cond.methodLink RX4 29 yX4_lastOfBroken, Cond.instanceMethod yX4_lastOfBroken, Cond.selects RX4 yX4_lastOfBroken yX4_lastOfBroken, Cond.code yX4_lastOfBroken cX4_lastOfBroken 9 (some .int), Cond.methodLink RX4 46 Lib.Math.max.name, Cond.static Lib.Math.max.name, Cond.initialized "java/lang/Math", Cond.code Lib.Math.max.name Lib.Math.max.code 2 (some .int), Cond.methodLink RX4 42 yX7_number, Cond.instanceMethod yX7_number, Cond.selects RX7 yX7_number yX7_number, Cond.initialized RX7]
def wsX4_find_r2 : List Cond := [Cond.code yX7_number cX7_number 4 (some .int), Cond.fieldLink RX7 11 "FuseBench$Table" "numbers" "[I", Cond.methodLink RX7 23 yX7_placeOf, Cond.static yX7_placeOf, Cond.code yX7_placeOf cX7_placeOf 3 (some .int), Cond.methodLink RX4 38 yX4_nextRow, Cond.instanceMethod yX4_nextRow, Cond.selects RX4 yX4_nextRow yX4_nextRow, Cond.code yX4_nextRow cX4_nextRow 5 (some .boolean)]
def wsX4_find : List Cond := .code yX4_find cX4_find 4 (some .boolean) :: ((wsX4_find_r1 ++ wsX4_find_r2) ++ wsX40 ++ wsX70)
def wsX5_firstOf : List Cond := .code yX5_firstOf cX5_firstOf 2 (some .int) :: ([.methodLink RX5 9 yX5_holds, .static yX5_holds, .initialized RX5, .code yX5_holds cX5_holds 2 (some .boolean)])
def wsX5_fusedWithAny : List Cond := .code yX5_fusedWithAny cX5_fusedWithAny 6 (some .int) :: ([.fieldLink RX5 15 "FuseBench$Table" "kinds" "I", .methodLink RX5 9 yX5_holds, .static yX5_holds, .initialized RX5, .code yX5_holds cX5_holds 2 (some .boolean), .methodLink RX5 21 yX7_number, .instanceMethod yX7_number, .selects RX7 yX7_number yX7_number, .initialized RX7, .code yX7_number cX7_number 4 (some .int), .fieldLink RX7 11 "FuseBench$Table" "numbers" "[I", .methodLink RX7 23 yX7_placeOf, .static yX7_placeOf, .code yX7_placeOf cX7_placeOf 3 (some .int)] ++ wsX70)
def wsX5_grow : List Cond := .code yX5_grow cX5_grow 5 (some .int) :: ([.fieldLink RX5 15 "FuseBench$Table" "kinds" "I", .methodLink RX5 9 yX5_holds, .static yX5_holds, .initialized RX5, .code yX5_holds cX5_holds 2 (some .boolean), .methodLink RX5 29 yX5_fusedWithAny, .static yX5_fusedWithAny, .code yX5_fusedWithAny cX5_fusedWithAny 6 (some .int), .methodLink RX5 21 yX7_number, .instanceMethod yX7_number, .selects RX7 yX7_number yX7_number, .initialized RX7, .code yX7_number cX7_number 4 (some .int), .fieldLink RX7 11 "FuseBench$Table" "numbers" "[I", .methodLink RX7 23 yX7_placeOf, .static yX7_placeOf, .code yX7_placeOf cX7_placeOf 3 (some .int)] ++ wsX70)
def wsX5_closure : List Cond := .code yX5_closure cX5_closure 5 (some .int) :: ([.fieldLink RX5 15 "FuseBench$Table" "kinds" "I", .methodLink RX5 25 yX5_grow, .static yX5_grow, .initialized RX5, .code yX5_grow cX5_grow 5 (some .int), .methodLink RX5 9 yX5_holds, .static yX5_holds, .code yX5_holds cX5_holds 2 (some .boolean), .methodLink RX5 29 yX5_fusedWithAny, .static yX5_fusedWithAny, .code yX5_fusedWithAny cX5_fusedWithAny 6 (some .int), .methodLink RX5 21 yX7_number, .instanceMethod yX7_number, .selects RX7 yX7_number yX7_number, .initialized RX7, .code yX7_number cX7_number 4 (some .int), .fieldLink RX7 11 "FuseBench$Table" "numbers" "[I", .methodLink RX7 23 yX7_placeOf, .static yX7_placeOf, .code yX7_placeOf cX7_placeOf 3 (some .int)] ++ wsX70)
def wsX5_innermost : List Cond := .code yX5_innermost cX5_innermost 4 (some .int) :: ([.fieldLink RX5 15 "FuseBench$Table" "kinds" "I", .methodLink RX5 29 yX5_fusedWithAny, .static yX5_fusedWithAny, .initialized RX5, .code yX5_fusedWithAny cX5_fusedWithAny 6 (some .int), .methodLink RX5 9 yX5_holds, .static yX5_holds, .code yX5_holds cX5_holds 2 (some .boolean), .methodLink RX5 21 yX7_number, .instanceMethod yX7_number, .selects RX7 yX7_number yX7_number, .initialized RX7, .code yX7_number cX7_number 4 (some .int), .fieldLink RX7 11 "FuseBench$Table" "numbers" "[I", .methodLink RX7 23 yX7_placeOf, .static yX7_placeOf, .code yX7_placeOf cX7_placeOf 3 (some .int), .methodLink RX5 33 yX5_closure, .static yX5_closure, .code yX5_closure cX5_closure 5 (some .int), .methodLink RX5 25 yX5_grow, .static yX5_grow, .code yX5_grow cX5_grow 5 (some .int)] ++ wsX70)
def wsX5_countClosed : List Cond := .code yX5_countClosed cX5_countClosed 4 (some .int) :: ([.fieldLink RX5 15 "FuseBench$Table" "kinds" "I", .methodLink RX5 25 yX5_grow, .static yX5_grow, .initialized RX5, .code yX5_grow cX5_grow 5 (some .int), .methodLink RX5 9 yX5_holds, .static yX5_holds, .code yX5_holds cX5_holds 2 (some .boolean), .methodLink RX5 29 yX5_fusedWithAny, .static yX5_fusedWithAny, .code yX5_fusedWithAny cX5_fusedWithAny 6 (some .int), .methodLink RX5 21 yX7_number, .instanceMethod yX7_number, .selects RX7 yX7_number yX7_number, .initialized RX7, .code yX7_number cX7_number 4 (some .int), .fieldLink RX7 11 "FuseBench$Table" "numbers" "[I", .methodLink RX7 23 yX7_placeOf, .static yX7_placeOf, .code yX7_placeOf cX7_placeOf 3 (some .int)] ++ wsX70)
def wsX6_init : List Cond := .code yX6_init cX6_init 1 none :: ([.methodLink RX6 3 objectInit, .instanceMethod objectInit, .code objectInit ⟨#[0xb1]⟩ 1 none, .arrayClass .long, .fieldLink RX6 9 "FuseBench$Sum" "times" "[J", .fieldLink RX6 15 "FuseBench$Sum" "next" "[J"] ++ wsX60)
def wsJ7_fill_d0a16 : List Cond := .code yJ7_fill_d0a16 cJ7_fill_d0a16 5 none :: ([])
def wsX6_begin : List Cond := .code yX6_begin cX6_begin 2 none :: ([.fieldLink RX6 9 "FuseBench$Sum" "times" "[J", .methodLink RX6 18 yJ7_fill_d0a16, .static yJ7_fill_d0a16, .initialized RJ7, .code yJ7_fill_d0a16 cJ7_fill_d0a16 5 none] ++ wsX60)
def wsX6_fuseWith : List Cond := .code yX6_fuseWith cX6_fuseWith 5 none :: ([.fieldLink RX6 24 "FuseBench$Table" "kinds" "I", .fieldLink RX6 15 "FuseBench$Sum" "next" "[J", .fieldLink RX6 9 "FuseBench$Sum" "times" "[J", .methodLink RX6 34 arraycopyName, .native arraycopyName, .static arraycopyName, .initialized "java/lang/System", .methodLink RX6 30 yX7_number, .instanceMethod yX7_number, .selects RX7 yX7_number yX7_number, .initialized RX7, .code yX7_number cX7_number 4 (some .int), .fieldLink RX7 11 "FuseBench$Table" "numbers" "[I", .methodLink RX7 23 yX7_placeOf, .static yX7_placeOf, .code yX7_placeOf cX7_placeOf 3 (some .int)] ++ wsX70 ++ wsX60)
def wsX7_has : List Cond := .code yX7_has cX7_has 2 (some .boolean) :: ([.fieldLink RX7 19 "FuseBench$Table" "kinds" "I"] ++ wsX70)
def wsX7_fuseAsGroup : List Cond := .code yX7_fuseAsGroup cX7_fuseAsGroup 5 none :: ([.methodLink RX7 33 yX7_setNumber, .instanceMethod yX7_setNumber, .selects RX7 yX7_setNumber yX7_setNumber, .initialized RX7, .code yX7_setNumber cX7_setNumber 5 none, .fieldLink RX7 11 "FuseBench$Table" "numbers" "[I", .methodLink RX7 23 yX7_placeOf, .static yX7_placeOf, .code yX7_placeOf cX7_placeOf 3 (some .int)] ++ wsX70)
def wsX7_placeBlock : List Cond := .code yX7_placeBlock cX7_placeBlock 10 (some .boolean) :: ([.fieldLink RX7 19 "FuseBench$Table" "kinds" "I", .methodLink RX7 43 yX7_number, .instanceMethod yX7_number, .selects RX7 yX7_number yX7_number, .initialized RX7, .code yX7_number cX7_number 4 (some .int), .fieldLink RX7 11 "FuseBench$Table" "numbers" "[I", .methodLink RX7 23 yX7_placeOf, .static yX7_placeOf, .code yX7_placeOf cX7_placeOf 3 (some .int), .methodLink RX7 33 yX7_setNumber, .instanceMethod yX7_setNumber, .selects RX7 yX7_setNumber yX7_setNumber, .code yX7_setNumber cX7_setNumber 5 none] ++ wsX70)
def wsX7_becomeProduct_r1 : List Cond := [Cond.fieldLink RX7 19 "FuseBench$Table" "kinds" "I", Cond.methodLink RX7 15 yX7_reset, Cond.instanceMethod yX7_reset, Cond.selects RX7 yX7_reset yX7_reset, Cond.initialized RX7, Cond.code yX7_reset cX7_reset 3 none, Cond.fieldLink RX7 11 "FuseBench$Table" "numbers" "[I", Cond.methodLink RX7 27 yJ7_fill_53178, Cond.static yJ7_fill_53178, Cond.initialized RJ7, Cond.code yJ7_fill_53178 cJ7_fill_53178 4 none, Cond.methodLink RX7 33 yX7_setNumber, Cond.instanceMethod yX7_setNumber, Cond.selects RX7 yX7_setNumber yX7_setNumber, Cond.code yX7_setNumber cX7_setNumber 5 none, Cond.methodLink RX7 23 yX7_placeOf, Cond.static yX7_placeOf, Cond.code yX7_placeOf cX7_placeOf 3 (some .int), Cond.methodLink RX7 43 yX7_number, Cond.instanceMethod yX7_number, Cond.selects RX7 yX7_number yX7_number, Cond.code yX7_number cX7_number 4 (some .int), Cond.methodLink RX7 46 yX7_placeBlock, Cond.instanceMethod yX7_placeBlock]
def wsX7_becomeProduct_r2 : List Cond := [Cond.selects RX7 yX7_placeBlock yX7_placeBlock, Cond.code yX7_placeBlock cX7_placeBlock 10 (some .boolean)]
def wsX7_becomeProduct : List Cond := .code yX7_becomeProduct cX7_becomeProduct 7 (some .boolean) :: ((wsX7_becomeProduct_r1 ++ wsX7_becomeProduct_r2) ++ wsX70)
def wsX7_mixInto : List Cond := .code yX7_mixInto cX7_mixInto 8 (some .long) :: ([.constantLong RX7 50 (31), .fieldLink RX7 19 "FuseBench$Table" "kinds" "I", .methodLink RX7 43 yX7_number, .instanceMethod yX7_number, .selects RX7 yX7_number yX7_number, .initialized RX7, .code yX7_number cX7_number 4 (some .int), .fieldLink RX7 11 "FuseBench$Table" "numbers" "[I", .methodLink RX7 23 yX7_placeOf, .static yX7_placeOf, .code yX7_placeOf cX7_placeOf 3 (some .int)] ++ wsX70)
def wsX8_init_r1 : List Cond := [Cond.methodLink RX8 1 objectInit, Cond.instanceMethod objectInit, Cond.code objectInit ⟨#[0xb1]⟩ 1 none, Cond.classLink RX8 9 RX7, Cond.fieldLink RX8 11 "FuseBench" "tables" "[LFuseBench$Table;", Cond.instantiable RX7 2, Cond.initialized RX7, Cond.fieldLink RX8 16 "FuseBench" "spare" "LFuseBench$Table;", Cond.classLink RX8 20 RX1, Cond.instantiable RX1 3, Cond.initialized RX1, Cond.fieldLink RX8 23 "FuseBench" "laws" "LFuseBench$Laws;", Cond.classLink RX8 27 RX6, Cond.instantiable RX6 2, Cond.initialized RX6, Cond.fieldLink RX8 30 "FuseBench" "sum" "LFuseBench$Sum;", Cond.classLink RX8 34 RX2, Cond.instantiable RX2 10, Cond.initialized RX2, Cond.fieldLink RX8 37 "FuseBench" "listing" "LFuseBench$Listing;", Cond.classLink RX8 41 RX3, Cond.instantiable RX3 1, Cond.initialized RX3, Cond.fieldLink RX8 44 "FuseBench" "namings" "LFuseBench$Namings;"]
def wsX8_init_r2 : List Cond := [Cond.classLink RX8 48 RX4, Cond.instantiable RX4 2, Cond.initialized RX4, Cond.fieldLink RX8 51 "FuseBench" "remainders" "LFuseBench$Remainders;", Cond.classLink RX8 55 RX0, Cond.instantiable RX0 2, Cond.initialized RX0, Cond.fieldLink RX8 58 "FuseBench" "extent" "LFuseBench$Extent;", Cond.arrayClass .int, Cond.fieldLink RX8 62 "FuseBench" "word" "[I", Cond.methodLink RX8 15 yX7_init, Cond.instanceMethod yX7_init, Cond.code yX7_init cX7_init 1 none, Cond.methodLink RX7 3 objectInit, Cond.fieldLink RX7 11 "FuseBench$Table" "numbers" "[I", Cond.methodLink RX7 15 yX7_reset, Cond.instanceMethod yX7_reset, Cond.selects RX7 yX7_reset yX7_reset, Cond.code yX7_reset cX7_reset 3 none, Cond.fieldLink RX7 19 "FuseBench$Table" "kinds" "I", Cond.methodLink RX7 27 yJ7_fill_53178, Cond.static yJ7_fill_53178, Cond.initialized RJ7, Cond.code yJ7_fill_53178 cJ7_fill_53178 4 none]
def wsX8_init_r3 : List Cond := [Cond.methodLink RX7 33 yX7_setNumber, Cond.instanceMethod yX7_setNumber, Cond.selects RX7 yX7_setNumber yX7_setNumber, Cond.code yX7_setNumber cX7_setNumber 5 none, Cond.methodLink RX7 23 yX7_placeOf, Cond.static yX7_placeOf, Cond.code yX7_placeOf cX7_placeOf 3 (some .int), Cond.instanceMethod yX1_init, Cond.code yX1_init cX1_init 1 none, Cond.methodLink RX1 3 objectInit, Cond.fieldLink RX1 9 "FuseBench$Laws" "place" "[I", Cond.fieldLink RX1 15 "FuseBench$Laws" "partners" "[I", Cond.instanceMethod yX6_init, Cond.code yX6_init cX6_init 1 none, Cond.methodLink RX6 3 objectInit, Cond.arrayClass .long, Cond.fieldLink RX6 9 "FuseBench$Sum" "times" "[J", Cond.fieldLink RX6 15 "FuseBench$Sum" "next" "[J", Cond.instanceMethod yX2_init, Cond.code yX2_init cX2_init 1 none, Cond.methodLink RX2 5 objectInit, Cond.fieldLink RX2 13 "FuseBench$Listing" "freeAt" "[I", Cond.fieldLink RX2 17 "FuseBench$Listing" "row" "[I", Cond.fieldLink RX2 20 "FuseBench$Listing" "found" "[I"]
def wsX8_init_r4 : List Cond := [Cond.classLink RX2 11 RX7, Cond.fieldLink RX2 24 "FuseBench$Listing" "candidate" "LFuseBench$Table;", Cond.classLink RX2 28 RX1, Cond.fieldLink RX2 31 "FuseBench$Listing" "laws" "LFuseBench$Laws;", Cond.methodLink RX2 23 yX7_init, Cond.instanceMethod yX3_init, Cond.code yX3_init cX3_init 1 none, Cond.methodLink RX3 3 objectInit, Cond.fieldLink RX3 9 "FuseBench$Namings" "names" "[I", Cond.instanceMethod yX4_init, Cond.code yX4_init cX4_init 1 none, Cond.methodLink RX4 3 objectInit, Cond.fieldLink RX4 9 "FuseBench$Remainders" "row" "[I", Cond.instanceMethod yX0_init, Cond.code yX0_init cX0_init 1 none, Cond.methodLink RX0 3 objectInit, Cond.fieldLink RX0 9 "FuseBench$Extent" "sums" "[I", Cond.fieldLink RX0 15 "FuseBench$Extent" "minors" "[J"]
def wsX8_init : List Cond := .code yX8_init cX8_init 2 none :: ((wsX8_init_r1 ++ (wsX8_init_r2 ++ (wsX8_init_r3 ++ wsX8_init_r4))) ++ wsX80 ++ wsX70 ++ wsX10 ++ wsX60 ++ wsX20 ++ wsX30 ++ wsX40 ++ wsX00)
def wsX8_isTable : List Cond := .code yX8_isTable cX8_isTable 1 (some .boolean) :: ([])
def wsX8_rank : List Cond := .code yX8_rank cX8_rank 3 (some .int) :: ([.fieldLink RX8 11 "FuseBench" "tables" "[LFuseBench$Table;", .methodLink RX8 66 yX8_isTable, .static yX8_isTable, .initialized RX8, .code yX8_isTable cX8_isTable 1 (some .boolean), .methodLink RX8 70 yX7_reset, .instanceMethod yX7_reset, .selects RX7 yX7_reset yX7_reset, .initialized RX7, .code yX7_reset cX7_reset 3 none, .fieldLink RX7 11 "FuseBench$Table" "numbers" "[I", .fieldLink RX7 19 "FuseBench$Table" "kinds" "I", .methodLink RX7 27 yJ7_fill_53178, .static yJ7_fill_53178, .initialized RJ7, .code yJ7_fill_53178 cJ7_fill_53178 4 none, .methodLink RX7 33 yX7_setNumber, .instanceMethod yX7_setNumber, .selects RX7 yX7_setNumber yX7_setNumber, .code yX7_setNumber cX7_setNumber 5 none, .methodLink RX7 23 yX7_placeOf, .static yX7_placeOf, .code yX7_placeOf cX7_placeOf 3 (some .int)] ++ wsX80 ++ wsX70)
def wsX8_isKind : List Cond := .code yX8_isKind cX8_isKind 3 (some .boolean) :: ([.fieldLink RX8 11 "FuseBench" "tables" "[LFuseBench$Table;", .methodLink RX8 66 yX8_isTable, .static yX8_isTable, .initialized RX8, .code yX8_isTable cX8_isTable 1 (some .boolean), .methodLink RX8 203 yX7_has, .instanceMethod yX7_has, .selects RX7 yX7_has yX7_has, .initialized RX7, .code yX7_has cX7_has 2 (some .boolean), .fieldLink RX7 19 "FuseBench$Table" "kinds" "I"] ++ wsX80 ++ wsX70)
def wsX8_isPlace : List Cond := .code yX8_isPlace cX8_isPlace 5 (some .boolean) :: ([.fieldLink RX8 11 "FuseBench" "tables" "[LFuseBench$Table;", .methodLink RX8 97 yX8_isKind, .instanceMethod yX8_isKind, .selects RX8 yX8_isKind yX8_isKind, .initialized RX8, .code yX8_isKind cX8_isKind 3 (some .boolean), .methodLink RX8 66 yX8_isTable, .static yX8_isTable, .code yX8_isTable cX8_isTable 1 (some .boolean), .methodLink RX8 203 yX7_has, .instanceMethod yX7_has, .selects RX7 yX7_has yX7_has, .initialized RX7, .code yX7_has cX7_has 2 (some .boolean), .fieldLink RX7 19 "FuseBench$Table" "kinds" "I"] ++ wsX80 ++ wsX70)
def wsX8_put_r1 : List Cond := [Cond.fieldLink RX8 11 "FuseBench" "tables" "[LFuseBench$Table;", Cond.methodLink RX8 74 yX8_isPlace, Cond.instanceMethod yX8_isPlace, Cond.selects RX8 yX8_isPlace yX8_isPlace, Cond.initialized RX8, Cond.code yX8_isPlace cX8_isPlace 5 (some .boolean), Cond.methodLink RX8 97 yX8_isKind, Cond.instanceMethod yX8_isKind, Cond.selects RX8 yX8_isKind yX8_isKind, Cond.code yX8_isKind cX8_isKind 3 (some .boolean), Cond.methodLink RX8 66 yX8_isTable, Cond.static yX8_isTable, Cond.code yX8_isTable cX8_isTable 1 (some .boolean), Cond.methodLink RX8 203 yX7_has, Cond.instanceMethod yX7_has, Cond.selects RX7 yX7_has yX7_has, Cond.initialized RX7, Cond.code yX7_has cX7_has 2 (some .boolean), Cond.fieldLink RX7 19 "FuseBench$Table" "kinds" "I", Cond.methodLink RX8 78 yX7_number, Cond.instanceMethod yX7_number, Cond.selects RX7 yX7_number yX7_number, Cond.code yX7_number cX7_number 4 (some .int), Cond.fieldLink RX7 11 "FuseBench$Table" "numbers" "[I"]
def wsX8_put_r2 : List Cond := [Cond.methodLink RX7 23 yX7_placeOf, Cond.static yX7_placeOf, Cond.code yX7_placeOf cX7_placeOf 3 (some .int), Cond.methodLink RX8 82 yX7_setNumber, Cond.instanceMethod yX7_setNumber, Cond.selects RX7 yX7_setNumber yX7_setNumber, Cond.code yX7_setNumber cX7_setNumber 5 none]
def wsX8_put : List Cond := .code yX8_put cX8_put 7 (some .int) :: ((wsX8_put_r1 ++ wsX8_put_r2) ++ wsX80 ++ wsX70)
def wsX8_at_r1 : List Cond := [Cond.fieldLink RX8 11 "FuseBench" "tables" "[LFuseBench$Table;", Cond.methodLink RX8 74 yX8_isPlace, Cond.instanceMethod yX8_isPlace, Cond.selects RX8 yX8_isPlace yX8_isPlace, Cond.initialized RX8, Cond.code yX8_isPlace cX8_isPlace 5 (some .boolean), Cond.methodLink RX8 97 yX8_isKind, Cond.instanceMethod yX8_isKind, Cond.selects RX8 yX8_isKind yX8_isKind, Cond.code yX8_isKind cX8_isKind 3 (some .boolean), Cond.methodLink RX8 66 yX8_isTable, Cond.static yX8_isTable, Cond.code yX8_isTable cX8_isTable 1 (some .boolean), Cond.methodLink RX8 203 yX7_has, Cond.instanceMethod yX7_has, Cond.selects RX7 yX7_has yX7_has, Cond.initialized RX7, Cond.code yX7_has cX7_has 2 (some .boolean), Cond.fieldLink RX7 19 "FuseBench$Table" "kinds" "I", Cond.methodLink RX8 78 yX7_number, Cond.instanceMethod yX7_number, Cond.selects RX7 yX7_number yX7_number, Cond.code yX7_number cX7_number 4 (some .int), Cond.fieldLink RX7 11 "FuseBench$Table" "numbers" "[I"]
def wsX8_at_r2 : List Cond := [Cond.methodLink RX7 23 yX7_placeOf, Cond.static yX7_placeOf, Cond.code yX7_placeOf cX7_placeOf 3 (some .int)]
def wsX8_at : List Cond := .code yX8_at cX8_at 5 (some .int) :: ((wsX8_at_r1 ++ wsX8_at_r2) ++ wsX80 ++ wsX70)
def wsX8_fault_r1 : List Cond := [Cond.fieldLink RX8 23 "FuseBench" "laws" "LFuseBench$Laws;", Cond.fieldLink RX8 11 "FuseBench" "tables" "[LFuseBench$Table;", Cond.fieldLink RX8 90 "FuseBench$Laws" "broken" "I", Cond.fieldLink RX8 94 "FuseBench$Laws" "place" "[I", Cond.methodLink RX8 66 yX8_isTable, Cond.static yX8_isTable, Cond.initialized RX8, Cond.code yX8_isTable cX8_isTable 1 (some .boolean), Cond.methodLink RX8 86 yX1_allHold, Cond.instanceMethod yX1_allHold, Cond.selects RX1 yX1_allHold yX1_allHold, Cond.initialized RX1, Cond.code yX1_allHold cX1_allHold 2 (some .boolean), Cond.fieldLink RX1 18 "FuseBench$Laws" "broken" "I", Cond.fieldLink RX1 9 "FuseBench$Laws" "place" "[I", Cond.methodLink RX1 22 yJ7_fill_53178, Cond.static yJ7_fill_53178, Cond.initialized RJ7, Cond.code yJ7_fill_53178 cJ7_fill_53178 4 none, Cond.methodLink RX1 28 yX1_unitHolds, Cond.instanceMethod yX1_unitHolds, Cond.selects RX1 yX1_unitHolds yX1_unitHolds, Cond.code yX1_unitHolds cX1_unitHolds 5 (some .boolean), Cond.fieldLink RX1 44 "FuseBench$Table" "kinds" "I"]
def wsX8_fault_r2 : List Cond := [Cond.methodLink RX1 49 yX7_number, Cond.instanceMethod yX7_number, Cond.selects RX7 yX7_number yX7_number, Cond.initialized RX7, Cond.code yX7_number cX7_number 4 (some .int), Cond.fieldLink RX7 11 "FuseBench$Table" "numbers" "[I", Cond.methodLink RX7 23 yX7_placeOf, Cond.static yX7_placeOf, Cond.code yX7_placeOf cX7_placeOf 3 (some .int), Cond.methodLink RX1 53 yX1_breaks, Cond.instanceMethod yX1_breaks, Cond.selects RX1 yX1_breaks yX1_breaks, Cond.code yX1_breaks cX1_breaks 6 (some .boolean), Cond.methodLink RX1 32 yX1_eitherWayHolds, Cond.instanceMethod yX1_eitherWayHolds, Cond.selects RX1 yX1_eitherWayHolds yX1_eitherWayHolds, Cond.code yX1_eitherWayHolds cX1_eitherWayHolds 5 (some .boolean), Cond.methodLink RX1 35 yX1_partnersHold, Cond.instanceMethod yX1_partnersHold, Cond.selects RX1 yX1_partnersHold yX1_partnersHold, Cond.code yX1_partnersHold cX1_partnersHold 5 (some .boolean), Cond.fieldLink RX1 15 "FuseBench$Laws" "partners" "[I", Cond.methodLink RX1 38 yX1_turnedHolds, Cond.instanceMethod yX1_turnedHolds]
def wsX8_fault_r3 : List Cond := [Cond.selects RX1 yX1_turnedHolds yX1_turnedHolds, Cond.code yX1_turnedHolds cX1_turnedHolds 5 (some .boolean), Cond.methodLink RX1 41 yX1_threeHolds, Cond.instanceMethod yX1_threeHolds, Cond.selects RX1 yX1_threeHolds yX1_threeHolds, Cond.code yX1_threeHolds cX1_threeHolds 6 (some .boolean), Cond.methodLink RX1 57 yX1_firstUnlike, Cond.static yX1_firstUnlike, Cond.code yX1_firstUnlike cX1_firstUnlike 7 (some .int)]
def wsX8_fault : List Cond := .code yX8_fault cX8_fault 3 (some .int) :: ((wsX8_fault_r1 ++ (wsX8_fault_r2 ++ wsX8_fault_r3)) ++ wsX80 ++ wsX10 ++ wsX70)
def wsX8_isRight_r1 : List Cond := [Cond.fieldLink RX8 23 "FuseBench" "laws" "LFuseBench$Laws;", Cond.fieldLink RX8 11 "FuseBench" "tables" "[LFuseBench$Table;", Cond.methodLink RX8 86 yX1_allHold, Cond.instanceMethod yX1_allHold, Cond.selects RX1 yX1_allHold yX1_allHold, Cond.initialized RX1, Cond.code yX1_allHold cX1_allHold 2 (some .boolean), Cond.fieldLink RX1 18 "FuseBench$Laws" "broken" "I", Cond.fieldLink RX1 9 "FuseBench$Laws" "place" "[I", Cond.methodLink RX1 22 yJ7_fill_53178, Cond.static yJ7_fill_53178, Cond.initialized RJ7, Cond.code yJ7_fill_53178 cJ7_fill_53178 4 none, Cond.methodLink RX1 28 yX1_unitHolds, Cond.instanceMethod yX1_unitHolds, Cond.selects RX1 yX1_unitHolds yX1_unitHolds, Cond.code yX1_unitHolds cX1_unitHolds 5 (some .boolean), Cond.fieldLink RX1 44 "FuseBench$Table" "kinds" "I", Cond.methodLink RX1 49 yX7_number, Cond.instanceMethod yX7_number, Cond.selects RX7 yX7_number yX7_number, Cond.initialized RX7, Cond.code yX7_number cX7_number 4 (some .int), Cond.fieldLink RX7 11 "FuseBench$Table" "numbers" "[I"]
def wsX8_isRight_r2 : List Cond := [Cond.methodLink RX7 23 yX7_placeOf, Cond.static yX7_placeOf, Cond.code yX7_placeOf cX7_placeOf 3 (some .int), Cond.methodLink RX1 53 yX1_breaks, Cond.instanceMethod yX1_breaks, Cond.selects RX1 yX1_breaks yX1_breaks, Cond.code yX1_breaks cX1_breaks 6 (some .boolean), Cond.methodLink RX1 32 yX1_eitherWayHolds, Cond.instanceMethod yX1_eitherWayHolds, Cond.selects RX1 yX1_eitherWayHolds yX1_eitherWayHolds, Cond.code yX1_eitherWayHolds cX1_eitherWayHolds 5 (some .boolean), Cond.methodLink RX1 35 yX1_partnersHold, Cond.instanceMethod yX1_partnersHold, Cond.selects RX1 yX1_partnersHold yX1_partnersHold, Cond.code yX1_partnersHold cX1_partnersHold 5 (some .boolean), Cond.fieldLink RX1 15 "FuseBench$Laws" "partners" "[I", Cond.methodLink RX1 38 yX1_turnedHolds, Cond.instanceMethod yX1_turnedHolds, Cond.selects RX1 yX1_turnedHolds yX1_turnedHolds, Cond.code yX1_turnedHolds cX1_turnedHolds 5 (some .boolean), Cond.methodLink RX1 41 yX1_threeHolds, Cond.instanceMethod yX1_threeHolds, Cond.selects RX1 yX1_threeHolds yX1_threeHolds, Cond.code yX1_threeHolds cX1_threeHolds 6 (some .boolean)]
def wsX8_isRight_r3 : List Cond := [Cond.methodLink RX1 57 yX1_firstUnlike, Cond.static yX1_firstUnlike, Cond.code yX1_firstUnlike cX1_firstUnlike 7 (some .int)]
def wsX8_isRight : List Cond := .code yX8_isRight cX8_isRight 2 (some .boolean) :: ((wsX8_isRight_r1 ++ (wsX8_isRight_r2 ++ wsX8_isRight_r3)) ++ wsX80 ++ wsX10 ++ wsX70)
def wsX8_partner_r1 : List Cond := [Cond.fieldLink RX8 23 "FuseBench" "laws" "LFuseBench$Laws;", Cond.fieldLink RX8 104 "FuseBench$Laws" "partners" "[I", Cond.methodLink RX8 97 yX8_isKind, Cond.instanceMethod yX8_isKind, Cond.selects RX8 yX8_isKind yX8_isKind, Cond.initialized RX8, Cond.code yX8_isKind cX8_isKind 3 (some .boolean), Cond.fieldLink RX8 11 "FuseBench" "tables" "[LFuseBench$Table;", Cond.methodLink RX8 66 yX8_isTable, Cond.static yX8_isTable, Cond.code yX8_isTable cX8_isTable 1 (some .boolean), Cond.methodLink RX8 203 yX7_has, Cond.instanceMethod yX7_has, Cond.selects RX7 yX7_has yX7_has, Cond.initialized RX7, Cond.code yX7_has cX7_has 2 (some .boolean), Cond.fieldLink RX7 19 "FuseBench$Table" "kinds" "I", Cond.methodLink RX8 101 yX8_isRight, Cond.instanceMethod yX8_isRight, Cond.selects RX8 yX8_isRight yX8_isRight, Cond.code yX8_isRight cX8_isRight 2 (some .boolean), Cond.methodLink RX8 86 yX1_allHold, Cond.instanceMethod yX1_allHold, Cond.selects RX1 yX1_allHold yX1_allHold]
def wsX8_partner_r2 : List Cond := [Cond.initialized RX1, Cond.code yX1_allHold cX1_allHold 2 (some .boolean), Cond.fieldLink RX1 18 "FuseBench$Laws" "broken" "I", Cond.fieldLink RX1 9 "FuseBench$Laws" "place" "[I", Cond.methodLink RX1 22 yJ7_fill_53178, Cond.static yJ7_fill_53178, Cond.initialized RJ7, Cond.code yJ7_fill_53178 cJ7_fill_53178 4 none, Cond.methodLink RX1 28 yX1_unitHolds, Cond.instanceMethod yX1_unitHolds, Cond.selects RX1 yX1_unitHolds yX1_unitHolds, Cond.code yX1_unitHolds cX1_unitHolds 5 (some .boolean), Cond.fieldLink RX1 44 "FuseBench$Table" "kinds" "I", Cond.methodLink RX1 49 yX7_number, Cond.instanceMethod yX7_number, Cond.selects RX7 yX7_number yX7_number, Cond.code yX7_number cX7_number 4 (some .int), Cond.fieldLink RX7 11 "FuseBench$Table" "numbers" "[I", Cond.methodLink RX7 23 yX7_placeOf, Cond.static yX7_placeOf, Cond.code yX7_placeOf cX7_placeOf 3 (some .int), Cond.methodLink RX1 53 yX1_breaks, Cond.instanceMethod yX1_breaks, Cond.selects RX1 yX1_breaks yX1_breaks]
def wsX8_partner_r3 : List Cond := [Cond.code yX1_breaks cX1_breaks 6 (some .boolean), Cond.methodLink RX1 32 yX1_eitherWayHolds, Cond.instanceMethod yX1_eitherWayHolds, Cond.selects RX1 yX1_eitherWayHolds yX1_eitherWayHolds, Cond.code yX1_eitherWayHolds cX1_eitherWayHolds 5 (some .boolean), Cond.methodLink RX1 35 yX1_partnersHold, Cond.instanceMethod yX1_partnersHold, Cond.selects RX1 yX1_partnersHold yX1_partnersHold, Cond.code yX1_partnersHold cX1_partnersHold 5 (some .boolean), Cond.fieldLink RX1 15 "FuseBench$Laws" "partners" "[I", Cond.methodLink RX1 38 yX1_turnedHolds, Cond.instanceMethod yX1_turnedHolds, Cond.selects RX1 yX1_turnedHolds yX1_turnedHolds, Cond.code yX1_turnedHolds cX1_turnedHolds 5 (some .boolean), Cond.methodLink RX1 41 yX1_threeHolds, Cond.instanceMethod yX1_threeHolds, Cond.selects RX1 yX1_threeHolds yX1_threeHolds, Cond.code yX1_threeHolds cX1_threeHolds 6 (some .boolean), Cond.methodLink RX1 57 yX1_firstUnlike, Cond.static yX1_firstUnlike, Cond.code yX1_firstUnlike cX1_firstUnlike 7 (some .int)]
def wsX8_partner : List Cond := .code yX8_partner cX8_partner 3 (some .int) :: ((wsX8_partner_r1 ++ (wsX8_partner_r2 ++ wsX8_partner_r3)) ++ wsX80 ++ wsX10 ++ wsX70)
def wsX8_copy : List Cond := .code yX8_copy cX8_copy 3 (some .int) :: ([.fieldLink RX8 11 "FuseBench" "tables" "[LFuseBench$Table;", .fieldLink RX8 111 "FuseBench$Table" "kinds" "I", .methodLink RX8 66 yX8_isTable, .static yX8_isTable, .initialized RX8, .code yX8_isTable cX8_isTable 1 (some .boolean), .methodLink RX8 107 yX7_become, .instanceMethod yX7_become, .selects RX7 yX7_become yX7_become, .initialized RX7, .code yX7_become cX7_become 2 none, .fieldLink RX7 19 "FuseBench$Table" "kinds" "I", .fieldLink RX7 11 "FuseBench$Table" "numbers" "[I", .methodLink RX7 37 arraycopyName, .native arraycopyName, .static arraycopyName, .initialized "java/lang/System"] ++ wsX80 ++ wsX70)
def wsX8_group_r1 : List Cond := [Cond.fieldLink RX8 11 "FuseBench" "tables" "[LFuseBench$Table;", Cond.methodLink RX8 66 yX8_isTable, Cond.static yX8_isTable, Cond.initialized RX8, Cond.code yX8_isTable cX8_isTable 1 (some .boolean), Cond.methodLink RX8 70 yX7_reset, Cond.instanceMethod yX7_reset, Cond.selects RX7 yX7_reset yX7_reset, Cond.initialized RX7, Cond.code yX7_reset cX7_reset 3 none, Cond.fieldLink RX7 11 "FuseBench$Table" "numbers" "[I", Cond.fieldLink RX7 19 "FuseBench$Table" "kinds" "I", Cond.methodLink RX7 27 yJ7_fill_53178, Cond.static yJ7_fill_53178, Cond.initialized RJ7, Cond.code yJ7_fill_53178 cJ7_fill_53178 4 none, Cond.methodLink RX7 33 yX7_setNumber, Cond.instanceMethod yX7_setNumber, Cond.selects RX7 yX7_setNumber yX7_setNumber, Cond.code yX7_setNumber cX7_setNumber 5 none, Cond.methodLink RX7 23 yX7_placeOf, Cond.static yX7_placeOf, Cond.code yX7_placeOf cX7_placeOf 3 (some .int), Cond.methodLink RX8 114 yX7_fuseAsGroup]
def wsX8_group_r2 : List Cond := [Cond.instanceMethod yX7_fuseAsGroup, Cond.selects RX7 yX7_fuseAsGroup yX7_fuseAsGroup, Cond.code yX7_fuseAsGroup cX7_fuseAsGroup 5 none]
def wsX8_group : List Cond := .code yX8_group cX8_group 3 (some .int) :: ((wsX8_group_r1 ++ wsX8_group_r2) ++ wsX80 ++ wsX70)
def wsX8_near_r1 : List Cond := [Cond.fieldLink RX8 11 "FuseBench" "tables" "[LFuseBench$Table;", Cond.methodLink RX8 66 yX8_isTable, Cond.static yX8_isTable, Cond.initialized RX8, Cond.code yX8_isTable cX8_isTable 1 (some .boolean), Cond.methodLink RX8 70 yX7_reset, Cond.instanceMethod yX7_reset, Cond.selects RX7 yX7_reset yX7_reset, Cond.initialized RX7, Cond.code yX7_reset cX7_reset 3 none, Cond.fieldLink RX7 11 "FuseBench$Table" "numbers" "[I", Cond.fieldLink RX7 19 "FuseBench$Table" "kinds" "I", Cond.methodLink RX7 27 yJ7_fill_53178, Cond.static yJ7_fill_53178, Cond.initialized RJ7, Cond.code yJ7_fill_53178 cJ7_fill_53178 4 none, Cond.methodLink RX7 33 yX7_setNumber, Cond.instanceMethod yX7_setNumber, Cond.selects RX7 yX7_setNumber yX7_setNumber, Cond.code yX7_setNumber cX7_setNumber 5 none, Cond.methodLink RX7 23 yX7_placeOf, Cond.static yX7_placeOf, Cond.code yX7_placeOf cX7_placeOf 3 (some .int), Cond.methodLink RX8 114 yX7_fuseAsGroup]
def wsX8_near_r2 : List Cond := [Cond.instanceMethod yX7_fuseAsGroup, Cond.selects RX7 yX7_fuseAsGroup yX7_fuseAsGroup, Cond.code yX7_fuseAsGroup cX7_fuseAsGroup 5 none, Cond.methodLink RX8 82 yX7_setNumber]
def wsX8_near : List Cond := .code yX8_near cX8_near 5 (some .int) :: ((wsX8_near_r1 ++ wsX8_near_r2) ++ wsX80 ++ wsX70)
def wsX8_together_r1 : List Cond := [Cond.fieldLink RX8 11 "FuseBench" "tables" "[LFuseBench$Table;", Cond.fieldLink RX8 111 "FuseBench$Table" "kinds" "I", Cond.fieldLink RX8 16 "FuseBench" "spare" "LFuseBench$Table;", Cond.methodLink RX8 66 yX8_isTable, Cond.static yX8_isTable, Cond.initialized RX8, Cond.code yX8_isTable cX8_isTable 1 (some .boolean), Cond.methodLink RX8 117 yX7_becomeProduct, Cond.instanceMethod yX7_becomeProduct, Cond.selects RX7 yX7_becomeProduct yX7_becomeProduct, Cond.initialized RX7, Cond.code yX7_becomeProduct cX7_becomeProduct 7 (some .boolean), Cond.fieldLink RX7 19 "FuseBench$Table" "kinds" "I", Cond.methodLink RX7 15 yX7_reset, Cond.instanceMethod yX7_reset, Cond.selects RX7 yX7_reset yX7_reset, Cond.code yX7_reset cX7_reset 3 none, Cond.fieldLink RX7 11 "FuseBench$Table" "numbers" "[I", Cond.methodLink RX7 27 yJ7_fill_53178, Cond.static yJ7_fill_53178, Cond.initialized RJ7, Cond.code yJ7_fill_53178 cJ7_fill_53178 4 none, Cond.methodLink RX7 33 yX7_setNumber, Cond.instanceMethod yX7_setNumber]
def wsX8_together_r2 : List Cond := [Cond.selects RX7 yX7_setNumber yX7_setNumber, Cond.code yX7_setNumber cX7_setNumber 5 none, Cond.methodLink RX7 23 yX7_placeOf, Cond.static yX7_placeOf, Cond.code yX7_placeOf cX7_placeOf 3 (some .int), Cond.methodLink RX7 43 yX7_number, Cond.instanceMethod yX7_number, Cond.selects RX7 yX7_number yX7_number, Cond.code yX7_number cX7_number 4 (some .int), Cond.methodLink RX7 46 yX7_placeBlock, Cond.instanceMethod yX7_placeBlock, Cond.selects RX7 yX7_placeBlock yX7_placeBlock, Cond.code yX7_placeBlock cX7_placeBlock 10 (some .boolean), Cond.methodLink RX8 107 yX7_become, Cond.instanceMethod yX7_become, Cond.selects RX7 yX7_become yX7_become, Cond.code yX7_become cX7_become 2 none, Cond.methodLink RX7 37 arraycopyName, Cond.native arraycopyName, Cond.static arraycopyName, Cond.initialized "java/lang/System"]
def wsX8_together : List Cond := .code yX8_together cX8_together 4 (some .int) :: ((wsX8_together_r1 ++ wsX8_together_r2) ++ wsX80 ++ wsX70)
def wsX8_isListed : List Cond := .code yX8_isListed cX8_isListed 5 (some .boolean) :: ([])
def wsX8_list_r1 : List Cond := [Cond.fieldLink RX8 37 "FuseBench" "listing" "LFuseBench$Listing;", Cond.methodLink RX8 121 yX8_isListed, Cond.static yX8_isListed, Cond.initialized RX8, Cond.code yX8_isListed cX8_isListed 5 (some .boolean), Cond.methodLink RX8 125 yX2_howMany, Cond.instanceMethod yX2_howMany, Cond.selects RX2 yX2_howMany yX2_howMany, Cond.initialized RX2, Cond.code yX2_howMany cX2_howMany 4 (some .int), Cond.fieldLink RX2 35 "FuseBench$Listing" "kinds" "I", Cond.fieldLink RX2 39 "FuseBench$Listing" "bound" "I", Cond.fieldLink RX2 42 "FuseBench$Listing" "pairs" "I", Cond.fieldLink RX2 51 "FuseBench$Listing" "count" "I", Cond.methodLink RX2 45 yX2_findFree, Cond.instanceMethod yX2_findFree, Cond.selects RX2 yX2_findFree yX2_findFree, Cond.code yX2_findFree cX2_findFree 4 none, Cond.fieldLink RX2 13 "FuseBench$Listing" "freeAt" "[I", Cond.fieldLink RX2 54 "FuseBench$Listing" "free" "I", Cond.methodLink RX2 64 yJ7_fill_53178, Cond.static yJ7_fill_53178, Cond.initialized RJ7, Cond.code yJ7_fill_53178 cJ7_fill_53178 4 none]
def wsX8_list_r2 : List Cond := [Cond.methodLink RX2 70 yX7_placeOf, Cond.static yX7_placeOf, Cond.initialized RX7, Cond.code yX7_placeOf cX7_placeOf 3 (some .int), Cond.methodLink RX2 74 yX2_markAlike, Cond.instanceMethod yX2_markAlike, Cond.selects RX2 yX2_markAlike yX2_markAlike, Cond.code yX2_markAlike cX2_markAlike 9 none, Cond.methodLink RX2 78 yX2_partnerOf, Cond.instanceMethod yX2_partnerOf, Cond.selects RX2 yX2_partnerOf yX2_partnerOf, Cond.code yX2_partnerOf cX2_partnerOf 2 (some .int), Cond.methodLink RX2 48 yX2_findRight, Cond.instanceMethod yX2_findRight, Cond.selects RX2 yX2_findRight yX2_findRight, Cond.code yX2_findRight cX2_findRight 3 none, Cond.fieldLink RX2 17 "FuseBench$Listing" "row" "[I", Cond.fieldLink RX2 31 "FuseBench$Listing" "laws" "LFuseBench$Laws;", Cond.fieldLink RX2 24 "FuseBench$Listing" "candidate" "LFuseBench$Table;", Cond.fieldLink RX2 20 "FuseBench$Listing" "found" "[I", Cond.methodLink RX2 57 yX2_buildCandidate, Cond.instanceMethod yX2_buildCandidate, Cond.selects RX2 yX2_buildCandidate yX2_buildCandidate, Cond.code yX2_buildCandidate cX2_buildCandidate 5 none]
def wsX8_list_r3 : List Cond := [Cond.methodLink RX2 94 yX7_reset, Cond.instanceMethod yX7_reset, Cond.selects RX7 yX7_reset yX7_reset, Cond.code yX7_reset cX7_reset 3 none, Cond.fieldLink RX7 11 "FuseBench$Table" "numbers" "[I", Cond.fieldLink RX7 19 "FuseBench$Table" "kinds" "I", Cond.methodLink RX7 27 yJ7_fill_53178, Cond.methodLink RX7 33 yX7_setNumber, Cond.instanceMethod yX7_setNumber, Cond.selects RX7 yX7_setNumber yX7_setNumber, Cond.code yX7_setNumber cX7_setNumber 5 none, Cond.methodLink RX7 23 yX7_placeOf, Cond.methodLink RX2 98 yX7_setNumber, Cond.methodLink RX2 82 yX1_threeHolds, Cond.instanceMethod yX1_threeHolds, Cond.selects RX1 yX1_threeHolds yX1_threeHolds, Cond.initialized RX1, Cond.code yX1_threeHolds cX1_threeHolds 6 (some .boolean), Cond.fieldLink RX1 44 "FuseBench$Table" "kinds" "I", Cond.methodLink RX1 57 yX1_firstUnlike, Cond.static yX1_firstUnlike, Cond.code yX1_firstUnlike cX1_firstUnlike 7 (some .int), Cond.methodLink RX1 49 yX7_number, Cond.instanceMethod yX7_number]
def wsX8_list_r4 : List Cond := [Cond.selects RX7 yX7_number yX7_number, Cond.code yX7_number cX7_number 4 (some .int), Cond.methodLink RX1 53 yX1_breaks, Cond.instanceMethod yX1_breaks, Cond.selects RX1 yX1_breaks yX1_breaks, Cond.code yX1_breaks cX1_breaks 6 (some .boolean), Cond.fieldLink RX1 18 "FuseBench$Laws" "broken" "I", Cond.fieldLink RX1 9 "FuseBench$Laws" "place" "[I", Cond.methodLink RX2 86 yX2_packedRow, Cond.instanceMethod yX2_packedRow, Cond.selects RX2 yX2_packedRow yX2_packedRow, Cond.code yX2_packedRow cX2_packedRow 3 (some .int), Cond.methodLink RX2 90 yX2_nextRow, Cond.instanceMethod yX2_nextRow, Cond.selects RX2 yX2_nextRow yX2_nextRow, Cond.code yX2_nextRow cX2_nextRow 2 (some .boolean)]
def wsX8_list : List Cond := .code yX8_list cX8_list 4 (some .int) :: ((wsX8_list_r1 ++ (wsX8_list_r2 ++ (wsX8_list_r3 ++ wsX8_list_r4))) ++ wsX80 ++ wsX20 ++ wsX70 ++ wsX10)
def wsX8_take_r1 : List Cond := [Cond.fieldLink RX8 37 "FuseBench" "listing" "LFuseBench$Listing;", Cond.fieldLink RX8 11 "FuseBench" "tables" "[LFuseBench$Table;", Cond.methodLink RX8 66 yX8_isTable, Cond.static yX8_isTable, Cond.initialized RX8, Cond.code yX8_isTable cX8_isTable 1 (some .boolean), Cond.methodLink RX8 121 yX8_isListed, Cond.static yX8_isListed, Cond.code yX8_isListed cX8_isListed 5 (some .boolean), Cond.methodLink RX8 125 yX2_howMany, Cond.instanceMethod yX2_howMany, Cond.selects RX2 yX2_howMany yX2_howMany, Cond.initialized RX2, Cond.code yX2_howMany cX2_howMany 4 (some .int), Cond.fieldLink RX2 35 "FuseBench$Listing" "kinds" "I", Cond.fieldLink RX2 39 "FuseBench$Listing" "bound" "I", Cond.fieldLink RX2 42 "FuseBench$Listing" "pairs" "I", Cond.fieldLink RX2 51 "FuseBench$Listing" "count" "I", Cond.methodLink RX2 45 yX2_findFree, Cond.instanceMethod yX2_findFree, Cond.selects RX2 yX2_findFree yX2_findFree, Cond.code yX2_findFree cX2_findFree 4 none, Cond.fieldLink RX2 13 "FuseBench$Listing" "freeAt" "[I", Cond.fieldLink RX2 54 "FuseBench$Listing" "free" "I"]
def wsX8_take_r2 : List Cond := [Cond.methodLink RX2 64 yJ7_fill_53178, Cond.static yJ7_fill_53178, Cond.initialized RJ7, Cond.code yJ7_fill_53178 cJ7_fill_53178 4 none, Cond.methodLink RX2 70 yX7_placeOf, Cond.static yX7_placeOf, Cond.initialized RX7, Cond.code yX7_placeOf cX7_placeOf 3 (some .int), Cond.methodLink RX2 74 yX2_markAlike, Cond.instanceMethod yX2_markAlike, Cond.selects RX2 yX2_markAlike yX2_markAlike, Cond.code yX2_markAlike cX2_markAlike 9 none, Cond.methodLink RX2 78 yX2_partnerOf, Cond.instanceMethod yX2_partnerOf, Cond.selects RX2 yX2_partnerOf yX2_partnerOf, Cond.code yX2_partnerOf cX2_partnerOf 2 (some .int), Cond.methodLink RX2 48 yX2_findRight, Cond.instanceMethod yX2_findRight, Cond.selects RX2 yX2_findRight yX2_findRight, Cond.code yX2_findRight cX2_findRight 3 none, Cond.fieldLink RX2 17 "FuseBench$Listing" "row" "[I", Cond.fieldLink RX2 31 "FuseBench$Listing" "laws" "LFuseBench$Laws;", Cond.fieldLink RX2 24 "FuseBench$Listing" "candidate" "LFuseBench$Table;", Cond.fieldLink RX2 20 "FuseBench$Listing" "found" "[I"]
def wsX8_take_r3 : List Cond := [Cond.methodLink RX2 57 yX2_buildCandidate, Cond.instanceMethod yX2_buildCandidate, Cond.selects RX2 yX2_buildCandidate yX2_buildCandidate, Cond.code yX2_buildCandidate cX2_buildCandidate 5 none, Cond.methodLink RX2 94 yX7_reset, Cond.instanceMethod yX7_reset, Cond.selects RX7 yX7_reset yX7_reset, Cond.code yX7_reset cX7_reset 3 none, Cond.fieldLink RX7 11 "FuseBench$Table" "numbers" "[I", Cond.fieldLink RX7 19 "FuseBench$Table" "kinds" "I", Cond.methodLink RX7 27 yJ7_fill_53178, Cond.methodLink RX7 33 yX7_setNumber, Cond.instanceMethod yX7_setNumber, Cond.selects RX7 yX7_setNumber yX7_setNumber, Cond.code yX7_setNumber cX7_setNumber 5 none, Cond.methodLink RX7 23 yX7_placeOf, Cond.methodLink RX2 98 yX7_setNumber, Cond.methodLink RX2 82 yX1_threeHolds, Cond.instanceMethod yX1_threeHolds, Cond.selects RX1 yX1_threeHolds yX1_threeHolds, Cond.initialized RX1, Cond.code yX1_threeHolds cX1_threeHolds 6 (some .boolean), Cond.fieldLink RX1 44 "FuseBench$Table" "kinds" "I", Cond.methodLink RX1 57 yX1_firstUnlike]
def wsX8_take_r4 : List Cond := [Cond.static yX1_firstUnlike, Cond.code yX1_firstUnlike cX1_firstUnlike 7 (some .int), Cond.methodLink RX1 49 yX7_number, Cond.instanceMethod yX7_number, Cond.selects RX7 yX7_number yX7_number, Cond.code yX7_number cX7_number 4 (some .int), Cond.methodLink RX1 53 yX1_breaks, Cond.instanceMethod yX1_breaks, Cond.selects RX1 yX1_breaks yX1_breaks, Cond.code yX1_breaks cX1_breaks 6 (some .boolean), Cond.fieldLink RX1 18 "FuseBench$Laws" "broken" "I", Cond.fieldLink RX1 9 "FuseBench$Laws" "place" "[I", Cond.methodLink RX2 86 yX2_packedRow, Cond.instanceMethod yX2_packedRow, Cond.selects RX2 yX2_packedRow yX2_packedRow, Cond.code yX2_packedRow cX2_packedRow 3 (some .int), Cond.methodLink RX2 90 yX2_nextRow, Cond.instanceMethod yX2_nextRow, Cond.selects RX2 yX2_nextRow yX2_nextRow, Cond.code yX2_nextRow cX2_nextRow 2 (some .boolean), Cond.methodLink RX8 128 yX2_write, Cond.instanceMethod yX2_write, Cond.selects RX2 yX2_write yX2_write, Cond.code yX2_write cX2_write 5 none]
def wsX8_take_r5 : List Cond := [Cond.methodLink RX2 60 yX7_become, Cond.instanceMethod yX7_become, Cond.selects RX7 yX7_become yX7_become, Cond.code yX7_become cX7_become 2 none, Cond.methodLink RX7 37 arraycopyName, Cond.native arraycopyName, Cond.static arraycopyName, Cond.initialized "java/lang/System"]
def wsX8_take : List Cond := .code yX8_take cX8_take 6 (some .int) :: ((wsX8_take_r1 ++ (wsX8_take_r2 ++ (wsX8_take_r3 ++ (wsX8_take_r4 ++ wsX8_take_r5)))) ++ wsX80 ++ wsX20 ++ wsX70 ++ wsX10)
def wsX8_letter : List Cond := .code yX8_letter cX8_letter 2 (some .int) :: ([.fieldLink RX8 132 "FuseBench" "wordLength" "I", .fieldLink RX8 62 "FuseBench" "word" "[I"] ++ wsX80)
def wsX8_empty : List Cond := .code yX8_empty cX8_empty 2 (some .int) :: ([.fieldLink RX8 132 "FuseBench" "wordLength" "I"] ++ wsX80)
def wsX8_hasWord : List Cond := .code yX8_hasWord cX8_hasWord 3 (some .boolean) :: ([.fieldLink RX8 132 "FuseBench" "wordLength" "I", .fieldLink RX8 62 "FuseBench" "word" "[I", .methodLink RX8 203 yX7_has, .instanceMethod yX7_has, .selects RX7 yX7_has yX7_has, .initialized RX7, .code yX7_has cX7_has 2 (some .boolean), .fieldLink RX7 19 "FuseBench$Table" "kinds" "I"] ++ wsX80 ++ wsX70)
def wsX8_fused_r1 : List Cond := [Cond.fieldLink RX8 11 "FuseBench" "tables" "[LFuseBench$Table;", Cond.constantLong RX8 138 (-2), Cond.fieldLink RX8 30 "FuseBench" "sum" "LFuseBench$Sum;", Cond.fieldLink RX8 132 "FuseBench" "wordLength" "I", Cond.fieldLink RX8 62 "FuseBench" "word" "[I", Cond.fieldLink RX8 146 "FuseBench$Sum" "times" "[J", Cond.methodLink RX8 97 yX8_isKind, Cond.instanceMethod yX8_isKind, Cond.selects RX8 yX8_isKind yX8_isKind, Cond.initialized RX8, Cond.code yX8_isKind cX8_isKind 3 (some .boolean), Cond.methodLink RX8 66 yX8_isTable, Cond.static yX8_isTable, Cond.code yX8_isTable cX8_isTable 1 (some .boolean), Cond.methodLink RX8 203 yX7_has, Cond.instanceMethod yX7_has, Cond.selects RX7 yX7_has yX7_has, Cond.initialized RX7, Cond.code yX7_has cX7_has 2 (some .boolean), Cond.fieldLink RX7 19 "FuseBench$Table" "kinds" "I", Cond.methodLink RX8 135 yX8_hasWord, Cond.instanceMethod yX8_hasWord, Cond.selects RX8 yX8_hasWord yX8_hasWord, Cond.code yX8_hasWord cX8_hasWord 3 (some .boolean)]
def wsX8_fused_r2 : List Cond := [Cond.methodLink RX8 140 yX6_begin, Cond.instanceMethod yX6_begin, Cond.selects RX6 yX6_begin yX6_begin, Cond.initialized RX6, Cond.code yX6_begin cX6_begin 2 none, Cond.fieldLink RX6 9 "FuseBench$Sum" "times" "[J", Cond.methodLink RX6 18 yJ7_fill_d0a16, Cond.static yJ7_fill_d0a16, Cond.initialized RJ7, Cond.code yJ7_fill_d0a16 cJ7_fill_d0a16 5 none, Cond.methodLink RX8 143 yX6_fuseWith, Cond.instanceMethod yX6_fuseWith, Cond.selects RX6 yX6_fuseWith yX6_fuseWith, Cond.code yX6_fuseWith cX6_fuseWith 5 none, Cond.fieldLink RX6 24 "FuseBench$Table" "kinds" "I", Cond.fieldLink RX6 15 "FuseBench$Sum" "next" "[J", Cond.methodLink RX6 34 arraycopyName, Cond.native arraycopyName, Cond.static arraycopyName, Cond.initialized "java/lang/System", Cond.methodLink RX6 30 yX7_number, Cond.instanceMethod yX7_number, Cond.selects RX7 yX7_number yX7_number, Cond.code yX7_number cX7_number 4 (some .int)]
def wsX8_fused_r3 : List Cond := [Cond.fieldLink RX7 11 "FuseBench$Table" "numbers" "[I", Cond.methodLink RX7 23 yX7_placeOf, Cond.static yX7_placeOf, Cond.code yX7_placeOf cX7_placeOf 3 (some .int)]
def wsX8_fused : List Cond := .code yX8_fused cX8_fused 4 (some .long) :: ((wsX8_fused_r1 ++ (wsX8_fused_r2 ++ wsX8_fused_r3)) ++ wsX80 ++ wsX60 ++ wsX70)
def wsX8_ways_r1 : List Cond := [Cond.constantLong RX8 138 (-2), Cond.fieldLink RX8 30 "FuseBench" "sum" "LFuseBench$Sum;", Cond.fieldLink RX8 11 "FuseBench" "tables" "[LFuseBench$Table;", Cond.fieldLink RX8 146 "FuseBench$Sum" "times" "[J", Cond.methodLink RX8 74 yX8_isPlace, Cond.instanceMethod yX8_isPlace, Cond.selects RX8 yX8_isPlace yX8_isPlace, Cond.initialized RX8, Cond.code yX8_isPlace cX8_isPlace 5 (some .boolean), Cond.methodLink RX8 97 yX8_isKind, Cond.instanceMethod yX8_isKind, Cond.selects RX8 yX8_isKind yX8_isKind, Cond.code yX8_isKind cX8_isKind 3 (some .boolean), Cond.methodLink RX8 66 yX8_isTable, Cond.static yX8_isTable, Cond.code yX8_isTable cX8_isTable 1 (some .boolean), Cond.methodLink RX8 203 yX7_has, Cond.instanceMethod yX7_has, Cond.selects RX7 yX7_has yX7_has, Cond.initialized RX7, Cond.code yX7_has cX7_has 2 (some .boolean), Cond.fieldLink RX7 19 "FuseBench$Table" "kinds" "I", Cond.methodLink RX8 140 yX6_begin, Cond.instanceMethod yX6_begin]
def wsX8_ways_r2 : List Cond := [Cond.selects RX6 yX6_begin yX6_begin, Cond.initialized RX6, Cond.code yX6_begin cX6_begin 2 none, Cond.fieldLink RX6 9 "FuseBench$Sum" "times" "[J", Cond.methodLink RX6 18 yJ7_fill_d0a16, Cond.static yJ7_fill_d0a16, Cond.initialized RJ7, Cond.code yJ7_fill_d0a16 cJ7_fill_d0a16 5 none, Cond.methodLink RX8 143 yX6_fuseWith, Cond.instanceMethod yX6_fuseWith, Cond.selects RX6 yX6_fuseWith yX6_fuseWith, Cond.code yX6_fuseWith cX6_fuseWith 5 none, Cond.fieldLink RX6 24 "FuseBench$Table" "kinds" "I", Cond.fieldLink RX6 15 "FuseBench$Sum" "next" "[J", Cond.methodLink RX6 34 arraycopyName, Cond.native arraycopyName, Cond.static arraycopyName, Cond.initialized "java/lang/System", Cond.methodLink RX6 30 yX7_number, Cond.instanceMethod yX7_number, Cond.selects RX7 yX7_number yX7_number, Cond.code yX7_number cX7_number 4 (some .int), Cond.fieldLink RX7 11 "FuseBench$Table" "numbers" "[I", Cond.methodLink RX7 23 yX7_placeOf]
def wsX8_ways_r3 : List Cond := [Cond.static yX7_placeOf, Cond.code yX7_placeOf cX7_placeOf 3 (some .int)]
def wsX8_ways : List Cond := .code yX8_ways cX8_ways 7 (some .long) :: ((wsX8_ways_r1 ++ (wsX8_ways_r2 ++ wsX8_ways_r3)) ++ wsX80 ++ wsX60 ++ wsX70)
def wsX8_isSet : List Cond := .code yX8_isSet cX8_isSet 3 (some .boolean) :: ([.fieldLink RX8 11 "FuseBench" "tables" "[LFuseBench$Table;", .fieldLink RX8 111 "FuseBench$Table" "kinds" "I", .methodLink RX8 66 yX8_isTable, .static yX8_isTable, .initialized RX8, .code yX8_isTable cX8_isTable 1 (some .boolean)] ++ wsX80 ++ wsX70)
def wsX8_closed_r1 : List Cond := [Cond.fieldLink RX8 11 "FuseBench" "tables" "[LFuseBench$Table;", Cond.fieldLink RX8 23 "FuseBench" "laws" "LFuseBench$Laws;", Cond.fieldLink RX8 104 "FuseBench$Laws" "partners" "[I", Cond.methodLink RX8 150 yX8_isSet, Cond.instanceMethod yX8_isSet, Cond.selects RX8 yX8_isSet yX8_isSet, Cond.initialized RX8, Cond.code yX8_isSet cX8_isSet 3 (some .boolean), Cond.fieldLink RX8 111 "FuseBench$Table" "kinds" "I", Cond.methodLink RX8 66 yX8_isTable, Cond.static yX8_isTable, Cond.code yX8_isTable cX8_isTable 1 (some .boolean), Cond.methodLink RX8 101 yX8_isRight, Cond.instanceMethod yX8_isRight, Cond.selects RX8 yX8_isRight yX8_isRight, Cond.code yX8_isRight cX8_isRight 2 (some .boolean), Cond.methodLink RX8 86 yX1_allHold, Cond.instanceMethod yX1_allHold, Cond.selects RX1 yX1_allHold yX1_allHold, Cond.initialized RX1, Cond.code yX1_allHold cX1_allHold 2 (some .boolean), Cond.fieldLink RX1 18 "FuseBench$Laws" "broken" "I", Cond.fieldLink RX1 9 "FuseBench$Laws" "place" "[I", Cond.methodLink RX1 22 yJ7_fill_53178]
def wsX8_closed_r2 : List Cond := [Cond.static yJ7_fill_53178, Cond.initialized RJ7, Cond.code yJ7_fill_53178 cJ7_fill_53178 4 none, Cond.methodLink RX1 28 yX1_unitHolds, Cond.instanceMethod yX1_unitHolds, Cond.selects RX1 yX1_unitHolds yX1_unitHolds, Cond.code yX1_unitHolds cX1_unitHolds 5 (some .boolean), Cond.fieldLink RX1 44 "FuseBench$Table" "kinds" "I", Cond.methodLink RX1 49 yX7_number, Cond.instanceMethod yX7_number, Cond.selects RX7 yX7_number yX7_number, Cond.initialized RX7, Cond.code yX7_number cX7_number 4 (some .int), Cond.fieldLink RX7 11 "FuseBench$Table" "numbers" "[I", Cond.methodLink RX7 23 yX7_placeOf, Cond.static yX7_placeOf, Cond.code yX7_placeOf cX7_placeOf 3 (some .int), Cond.methodLink RX1 53 yX1_breaks, Cond.instanceMethod yX1_breaks, Cond.selects RX1 yX1_breaks yX1_breaks, Cond.code yX1_breaks cX1_breaks 6 (some .boolean), Cond.methodLink RX1 32 yX1_eitherWayHolds, Cond.instanceMethod yX1_eitherWayHolds, Cond.selects RX1 yX1_eitherWayHolds yX1_eitherWayHolds]
def wsX8_closed_r3 : List Cond := [Cond.code yX1_eitherWayHolds cX1_eitherWayHolds 5 (some .boolean), Cond.methodLink RX1 35 yX1_partnersHold, Cond.instanceMethod yX1_partnersHold, Cond.selects RX1 yX1_partnersHold yX1_partnersHold, Cond.code yX1_partnersHold cX1_partnersHold 5 (some .boolean), Cond.fieldLink RX1 15 "FuseBench$Laws" "partners" "[I", Cond.methodLink RX1 38 yX1_turnedHolds, Cond.instanceMethod yX1_turnedHolds, Cond.selects RX1 yX1_turnedHolds yX1_turnedHolds, Cond.code yX1_turnedHolds cX1_turnedHolds 5 (some .boolean), Cond.methodLink RX1 41 yX1_threeHolds, Cond.instanceMethod yX1_threeHolds, Cond.selects RX1 yX1_threeHolds yX1_threeHolds, Cond.code yX1_threeHolds cX1_threeHolds 6 (some .boolean), Cond.methodLink RX1 57 yX1_firstUnlike, Cond.static yX1_firstUnlike, Cond.code yX1_firstUnlike cX1_firstUnlike 7 (some .int), Cond.methodLink RX8 153 yX5_closure, Cond.static yX5_closure, Cond.initialized RX5, Cond.code yX5_closure cX5_closure 5 (some .int), Cond.fieldLink RX5 15 "FuseBench$Table" "kinds" "I", Cond.methodLink RX5 25 yX5_grow, Cond.static yX5_grow]
def wsX8_closed_r4 : List Cond := [Cond.code yX5_grow cX5_grow 5 (some .int), Cond.methodLink RX5 9 yX5_holds, Cond.static yX5_holds, Cond.code yX5_holds cX5_holds 2 (some .boolean), Cond.methodLink RX5 29 yX5_fusedWithAny, Cond.static yX5_fusedWithAny, Cond.code yX5_fusedWithAny cX5_fusedWithAny 6 (some .int), Cond.methodLink RX5 21 yX7_number]
def wsX8_closed : List Cond := .code yX8_closed cX8_closed 3 (some .int) :: ((wsX8_closed_r1 ++ (wsX8_closed_r2 ++ (wsX8_closed_r3 ++ wsX8_closed_r4))) ++ wsX80 ++ wsX10 ++ wsX70)
def wsX8_least_r1 : List Cond := [Cond.fieldLink RX8 11 "FuseBench" "tables" "[LFuseBench$Table;", Cond.fieldLink RX8 23 "FuseBench" "laws" "LFuseBench$Laws;", Cond.fieldLink RX8 104 "FuseBench$Laws" "partners" "[I", Cond.methodLink RX8 150 yX8_isSet, Cond.instanceMethod yX8_isSet, Cond.selects RX8 yX8_isSet yX8_isSet, Cond.initialized RX8, Cond.code yX8_isSet cX8_isSet 3 (some .boolean), Cond.fieldLink RX8 111 "FuseBench$Table" "kinds" "I", Cond.methodLink RX8 66 yX8_isTable, Cond.static yX8_isTable, Cond.code yX8_isTable cX8_isTable 1 (some .boolean), Cond.methodLink RX8 101 yX8_isRight, Cond.instanceMethod yX8_isRight, Cond.selects RX8 yX8_isRight yX8_isRight, Cond.code yX8_isRight cX8_isRight 2 (some .boolean), Cond.methodLink RX8 86 yX1_allHold, Cond.instanceMethod yX1_allHold, Cond.selects RX1 yX1_allHold yX1_allHold, Cond.initialized RX1, Cond.code yX1_allHold cX1_allHold 2 (some .boolean), Cond.fieldLink RX1 18 "FuseBench$Laws" "broken" "I", Cond.fieldLink RX1 9 "FuseBench$Laws" "place" "[I", Cond.methodLink RX1 22 yJ7_fill_53178]
def wsX8_least_r2 : List Cond := [Cond.static yJ7_fill_53178, Cond.initialized RJ7, Cond.code yJ7_fill_53178 cJ7_fill_53178 4 none, Cond.methodLink RX1 28 yX1_unitHolds, Cond.instanceMethod yX1_unitHolds, Cond.selects RX1 yX1_unitHolds yX1_unitHolds, Cond.code yX1_unitHolds cX1_unitHolds 5 (some .boolean), Cond.fieldLink RX1 44 "FuseBench$Table" "kinds" "I", Cond.methodLink RX1 49 yX7_number, Cond.instanceMethod yX7_number, Cond.selects RX7 yX7_number yX7_number, Cond.initialized RX7, Cond.code yX7_number cX7_number 4 (some .int), Cond.fieldLink RX7 11 "FuseBench$Table" "numbers" "[I", Cond.methodLink RX7 23 yX7_placeOf, Cond.static yX7_placeOf, Cond.code yX7_placeOf cX7_placeOf 3 (some .int), Cond.methodLink RX1 53 yX1_breaks, Cond.instanceMethod yX1_breaks, Cond.selects RX1 yX1_breaks yX1_breaks, Cond.code yX1_breaks cX1_breaks 6 (some .boolean), Cond.methodLink RX1 32 yX1_eitherWayHolds, Cond.instanceMethod yX1_eitherWayHolds, Cond.selects RX1 yX1_eitherWayHolds yX1_eitherWayHolds]
def wsX8_least_r3 : List Cond := [Cond.code yX1_eitherWayHolds cX1_eitherWayHolds 5 (some .boolean), Cond.methodLink RX1 35 yX1_partnersHold, Cond.instanceMethod yX1_partnersHold, Cond.selects RX1 yX1_partnersHold yX1_partnersHold, Cond.code yX1_partnersHold cX1_partnersHold 5 (some .boolean), Cond.fieldLink RX1 15 "FuseBench$Laws" "partners" "[I", Cond.methodLink RX1 38 yX1_turnedHolds, Cond.instanceMethod yX1_turnedHolds, Cond.selects RX1 yX1_turnedHolds yX1_turnedHolds, Cond.code yX1_turnedHolds cX1_turnedHolds 5 (some .boolean), Cond.methodLink RX1 41 yX1_threeHolds, Cond.instanceMethod yX1_threeHolds, Cond.selects RX1 yX1_threeHolds yX1_threeHolds, Cond.code yX1_threeHolds cX1_threeHolds 6 (some .boolean), Cond.methodLink RX1 57 yX1_firstUnlike, Cond.static yX1_firstUnlike, Cond.code yX1_firstUnlike cX1_firstUnlike 7 (some .int), Cond.methodLink RX8 153 yX5_closure, Cond.static yX5_closure, Cond.initialized RX5, Cond.code yX5_closure cX5_closure 5 (some .int), Cond.fieldLink RX5 15 "FuseBench$Table" "kinds" "I", Cond.methodLink RX5 25 yX5_grow, Cond.static yX5_grow]
def wsX8_least_r4 : List Cond := [Cond.code yX5_grow cX5_grow 5 (some .int), Cond.methodLink RX5 9 yX5_holds, Cond.static yX5_holds, Cond.code yX5_holds cX5_holds 2 (some .boolean), Cond.methodLink RX5 29 yX5_fusedWithAny, Cond.static yX5_fusedWithAny, Cond.code yX5_fusedWithAny cX5_fusedWithAny 6 (some .int), Cond.methodLink RX5 21 yX7_number]
def wsX8_least : List Cond := .code yX8_least cX8_least 3 (some .int) :: ((wsX8_least_r1 ++ (wsX8_least_r2 ++ (wsX8_least_r3 ++ wsX8_least_r4))) ++ wsX80 ++ wsX10 ++ wsX70)
def wsX8_core_r1 : List Cond := [Cond.fieldLink RX8 11 "FuseBench" "tables" "[LFuseBench$Table;", Cond.fieldLink RX8 23 "FuseBench" "laws" "LFuseBench$Laws;", Cond.fieldLink RX8 104 "FuseBench$Laws" "partners" "[I", Cond.methodLink RX8 66 yX8_isTable, Cond.static yX8_isTable, Cond.initialized RX8, Cond.code yX8_isTable cX8_isTable 1 (some .boolean), Cond.methodLink RX8 101 yX8_isRight, Cond.instanceMethod yX8_isRight, Cond.selects RX8 yX8_isRight yX8_isRight, Cond.code yX8_isRight cX8_isRight 2 (some .boolean), Cond.methodLink RX8 86 yX1_allHold, Cond.instanceMethod yX1_allHold, Cond.selects RX1 yX1_allHold yX1_allHold, Cond.initialized RX1, Cond.code yX1_allHold cX1_allHold 2 (some .boolean), Cond.fieldLink RX1 18 "FuseBench$Laws" "broken" "I", Cond.fieldLink RX1 9 "FuseBench$Laws" "place" "[I", Cond.methodLink RX1 22 yJ7_fill_53178, Cond.static yJ7_fill_53178, Cond.initialized RJ7, Cond.code yJ7_fill_53178 cJ7_fill_53178 4 none, Cond.methodLink RX1 28 yX1_unitHolds, Cond.instanceMethod yX1_unitHolds]
def wsX8_core_r2 : List Cond := [Cond.selects RX1 yX1_unitHolds yX1_unitHolds, Cond.code yX1_unitHolds cX1_unitHolds 5 (some .boolean), Cond.fieldLink RX1 44 "FuseBench$Table" "kinds" "I", Cond.methodLink RX1 49 yX7_number, Cond.instanceMethod yX7_number, Cond.selects RX7 yX7_number yX7_number, Cond.initialized RX7, Cond.code yX7_number cX7_number 4 (some .int), Cond.fieldLink RX7 11 "FuseBench$Table" "numbers" "[I", Cond.methodLink RX7 23 yX7_placeOf, Cond.static yX7_placeOf, Cond.code yX7_placeOf cX7_placeOf 3 (some .int), Cond.methodLink RX1 53 yX1_breaks, Cond.instanceMethod yX1_breaks, Cond.selects RX1 yX1_breaks yX1_breaks, Cond.code yX1_breaks cX1_breaks 6 (some .boolean), Cond.methodLink RX1 32 yX1_eitherWayHolds, Cond.instanceMethod yX1_eitherWayHolds, Cond.selects RX1 yX1_eitherWayHolds yX1_eitherWayHolds, Cond.code yX1_eitherWayHolds cX1_eitherWayHolds 5 (some .boolean), Cond.methodLink RX1 35 yX1_partnersHold, Cond.instanceMethod yX1_partnersHold, Cond.selects RX1 yX1_partnersHold yX1_partnersHold, Cond.code yX1_partnersHold cX1_partnersHold 5 (some .boolean)]
def wsX8_core_r3 : List Cond := [Cond.fieldLink RX1 15 "FuseBench$Laws" "partners" "[I", Cond.methodLink RX1 38 yX1_turnedHolds, Cond.instanceMethod yX1_turnedHolds, Cond.selects RX1 yX1_turnedHolds yX1_turnedHolds, Cond.code yX1_turnedHolds cX1_turnedHolds 5 (some .boolean), Cond.methodLink RX1 41 yX1_threeHolds, Cond.instanceMethod yX1_threeHolds, Cond.selects RX1 yX1_threeHolds yX1_threeHolds, Cond.code yX1_threeHolds cX1_threeHolds 6 (some .boolean), Cond.methodLink RX1 57 yX1_firstUnlike, Cond.static yX1_firstUnlike, Cond.code yX1_firstUnlike cX1_firstUnlike 7 (some .int), Cond.methodLink RX8 159 yX5_innermost, Cond.static yX5_innermost, Cond.initialized RX5, Cond.code yX5_innermost cX5_innermost 4 (some .int), Cond.fieldLink RX5 15 "FuseBench$Table" "kinds" "I", Cond.methodLink RX5 29 yX5_fusedWithAny, Cond.static yX5_fusedWithAny, Cond.code yX5_fusedWithAny cX5_fusedWithAny 6 (some .int), Cond.methodLink RX5 9 yX5_holds, Cond.static yX5_holds, Cond.code yX5_holds cX5_holds 2 (some .boolean), Cond.methodLink RX5 21 yX7_number]
def wsX8_core_r4 : List Cond := [Cond.methodLink RX5 33 yX5_closure, Cond.static yX5_closure, Cond.code yX5_closure cX5_closure 5 (some .int), Cond.methodLink RX5 25 yX5_grow, Cond.static yX5_grow, Cond.code yX5_grow cX5_grow 5 (some .int)]
def wsX8_core : List Cond := .code yX8_core cX8_core 2 (some .int) :: ((wsX8_core_r1 ++ (wsX8_core_r2 ++ (wsX8_core_r3 ++ wsX8_core_r4))) ++ wsX80 ++ wsX10 ++ wsX70)
def wsX8_grade_r1 : List Cond := [Cond.fieldLink RX8 11 "FuseBench" "tables" "[LFuseBench$Table;", Cond.fieldLink RX8 23 "FuseBench" "laws" "LFuseBench$Laws;", Cond.fieldLink RX8 104 "FuseBench$Laws" "partners" "[I", Cond.methodLink RX8 97 yX8_isKind, Cond.instanceMethod yX8_isKind, Cond.selects RX8 yX8_isKind yX8_isKind, Cond.initialized RX8, Cond.code yX8_isKind cX8_isKind 3 (some .boolean), Cond.methodLink RX8 66 yX8_isTable, Cond.static yX8_isTable, Cond.code yX8_isTable cX8_isTable 1 (some .boolean), Cond.methodLink RX8 203 yX7_has, Cond.instanceMethod yX7_has, Cond.selects RX7 yX7_has yX7_has, Cond.initialized RX7, Cond.code yX7_has cX7_has 2 (some .boolean), Cond.fieldLink RX7 19 "FuseBench$Table" "kinds" "I", Cond.methodLink RX8 101 yX8_isRight, Cond.instanceMethod yX8_isRight, Cond.selects RX8 yX8_isRight yX8_isRight, Cond.code yX8_isRight cX8_isRight 2 (some .boolean), Cond.methodLink RX8 86 yX1_allHold, Cond.instanceMethod yX1_allHold, Cond.selects RX1 yX1_allHold yX1_allHold]
def wsX8_grade_r2 : List Cond := [Cond.initialized RX1, Cond.code yX1_allHold cX1_allHold 2 (some .boolean), Cond.fieldLink RX1 18 "FuseBench$Laws" "broken" "I", Cond.fieldLink RX1 9 "FuseBench$Laws" "place" "[I", Cond.methodLink RX1 22 yJ7_fill_53178, Cond.static yJ7_fill_53178, Cond.initialized RJ7, Cond.code yJ7_fill_53178 cJ7_fill_53178 4 none, Cond.methodLink RX1 28 yX1_unitHolds, Cond.instanceMethod yX1_unitHolds, Cond.selects RX1 yX1_unitHolds yX1_unitHolds, Cond.code yX1_unitHolds cX1_unitHolds 5 (some .boolean), Cond.fieldLink RX1 44 "FuseBench$Table" "kinds" "I", Cond.methodLink RX1 49 yX7_number, Cond.instanceMethod yX7_number, Cond.selects RX7 yX7_number yX7_number, Cond.code yX7_number cX7_number 4 (some .int), Cond.fieldLink RX7 11 "FuseBench$Table" "numbers" "[I", Cond.methodLink RX7 23 yX7_placeOf, Cond.static yX7_placeOf, Cond.code yX7_placeOf cX7_placeOf 3 (some .int), Cond.methodLink RX1 53 yX1_breaks, Cond.instanceMethod yX1_breaks, Cond.selects RX1 yX1_breaks yX1_breaks]
def wsX8_grade_r3 : List Cond := [Cond.code yX1_breaks cX1_breaks 6 (some .boolean), Cond.methodLink RX1 32 yX1_eitherWayHolds, Cond.instanceMethod yX1_eitherWayHolds, Cond.selects RX1 yX1_eitherWayHolds yX1_eitherWayHolds, Cond.code yX1_eitherWayHolds cX1_eitherWayHolds 5 (some .boolean), Cond.methodLink RX1 35 yX1_partnersHold, Cond.instanceMethod yX1_partnersHold, Cond.selects RX1 yX1_partnersHold yX1_partnersHold, Cond.code yX1_partnersHold cX1_partnersHold 5 (some .boolean), Cond.fieldLink RX1 15 "FuseBench$Laws" "partners" "[I", Cond.methodLink RX1 38 yX1_turnedHolds, Cond.instanceMethod yX1_turnedHolds, Cond.selects RX1 yX1_turnedHolds yX1_turnedHolds, Cond.code yX1_turnedHolds cX1_turnedHolds 5 (some .boolean), Cond.methodLink RX1 41 yX1_threeHolds, Cond.instanceMethod yX1_threeHolds, Cond.selects RX1 yX1_threeHolds yX1_threeHolds, Cond.code yX1_threeHolds cX1_threeHolds 6 (some .boolean), Cond.methodLink RX1 57 yX1_firstUnlike, Cond.static yX1_firstUnlike, Cond.code yX1_firstUnlike cX1_firstUnlike 7 (some .int), Cond.methodLink RX8 159 yX5_innermost, Cond.static yX5_innermost, Cond.initialized RX5]
def wsX8_grade_r4 : List Cond := [Cond.code yX5_innermost cX5_innermost 4 (some .int), Cond.fieldLink RX5 15 "FuseBench$Table" "kinds" "I", Cond.methodLink RX5 29 yX5_fusedWithAny, Cond.static yX5_fusedWithAny, Cond.code yX5_fusedWithAny cX5_fusedWithAny 6 (some .int), Cond.methodLink RX5 9 yX5_holds, Cond.static yX5_holds, Cond.code yX5_holds cX5_holds 2 (some .boolean), Cond.methodLink RX5 21 yX7_number, Cond.methodLink RX5 33 yX5_closure, Cond.static yX5_closure, Cond.code yX5_closure cX5_closure 5 (some .int), Cond.methodLink RX5 25 yX5_grow, Cond.static yX5_grow, Cond.code yX5_grow cX5_grow 5 (some .int), Cond.methodLink RX8 163 yX5_fusedWithAny, Cond.methodLink RX8 167 yX5_firstOf, Cond.static yX5_firstOf, Cond.code yX5_firstOf cX5_firstOf 2 (some .int)]
def wsX8_grade : List Cond := .code yX8_grade cX8_grade 4 (some .int) :: ((wsX8_grade_r1 ++ (wsX8_grade_r2 ++ (wsX8_grade_r3 ++ wsX8_grade_r4))) ++ wsX80 ++ wsX10 ++ wsX70)
def wsX8_within_r1 : List Cond := [Cond.fieldLink RX8 11 "FuseBench" "tables" "[LFuseBench$Table;", Cond.fieldLink RX8 23 "FuseBench" "laws" "LFuseBench$Laws;", Cond.fieldLink RX8 104 "FuseBench$Laws" "partners" "[I", Cond.methodLink RX8 66 yX8_isTable, Cond.static yX8_isTable, Cond.initialized RX8, Cond.code yX8_isTable cX8_isTable 1 (some .boolean), Cond.methodLink RX8 101 yX8_isRight, Cond.instanceMethod yX8_isRight, Cond.selects RX8 yX8_isRight yX8_isRight, Cond.code yX8_isRight cX8_isRight 2 (some .boolean), Cond.methodLink RX8 86 yX1_allHold, Cond.instanceMethod yX1_allHold, Cond.selects RX1 yX1_allHold yX1_allHold, Cond.initialized RX1, Cond.code yX1_allHold cX1_allHold 2 (some .boolean), Cond.fieldLink RX1 18 "FuseBench$Laws" "broken" "I", Cond.fieldLink RX1 9 "FuseBench$Laws" "place" "[I", Cond.methodLink RX1 22 yJ7_fill_53178, Cond.static yJ7_fill_53178, Cond.initialized RJ7, Cond.code yJ7_fill_53178 cJ7_fill_53178 4 none, Cond.methodLink RX1 28 yX1_unitHolds, Cond.instanceMethod yX1_unitHolds]
def wsX8_within_r2 : List Cond := [Cond.selects RX1 yX1_unitHolds yX1_unitHolds, Cond.code yX1_unitHolds cX1_unitHolds 5 (some .boolean), Cond.fieldLink RX1 44 "FuseBench$Table" "kinds" "I", Cond.methodLink RX1 49 yX7_number, Cond.instanceMethod yX7_number, Cond.selects RX7 yX7_number yX7_number, Cond.initialized RX7, Cond.code yX7_number cX7_number 4 (some .int), Cond.fieldLink RX7 11 "FuseBench$Table" "numbers" "[I", Cond.methodLink RX7 23 yX7_placeOf, Cond.static yX7_placeOf, Cond.code yX7_placeOf cX7_placeOf 3 (some .int), Cond.methodLink RX1 53 yX1_breaks, Cond.instanceMethod yX1_breaks, Cond.selects RX1 yX1_breaks yX1_breaks, Cond.code yX1_breaks cX1_breaks 6 (some .boolean), Cond.methodLink RX1 32 yX1_eitherWayHolds, Cond.instanceMethod yX1_eitherWayHolds, Cond.selects RX1 yX1_eitherWayHolds yX1_eitherWayHolds, Cond.code yX1_eitherWayHolds cX1_eitherWayHolds 5 (some .boolean), Cond.methodLink RX1 35 yX1_partnersHold, Cond.instanceMethod yX1_partnersHold, Cond.selects RX1 yX1_partnersHold yX1_partnersHold, Cond.code yX1_partnersHold cX1_partnersHold 5 (some .boolean)]
def wsX8_within_r3 : List Cond := [Cond.fieldLink RX1 15 "FuseBench$Laws" "partners" "[I", Cond.methodLink RX1 38 yX1_turnedHolds, Cond.instanceMethod yX1_turnedHolds, Cond.selects RX1 yX1_turnedHolds yX1_turnedHolds, Cond.code yX1_turnedHolds cX1_turnedHolds 5 (some .boolean), Cond.methodLink RX1 41 yX1_threeHolds, Cond.instanceMethod yX1_threeHolds, Cond.selects RX1 yX1_threeHolds yX1_threeHolds, Cond.code yX1_threeHolds cX1_threeHolds 6 (some .boolean), Cond.methodLink RX1 57 yX1_firstUnlike, Cond.static yX1_firstUnlike, Cond.code yX1_firstUnlike cX1_firstUnlike 7 (some .int), Cond.methodLink RX8 171 yX5_countClosed, Cond.static yX5_countClosed, Cond.initialized RX5, Cond.code yX5_countClosed cX5_countClosed 4 (some .int), Cond.fieldLink RX5 15 "FuseBench$Table" "kinds" "I", Cond.methodLink RX5 25 yX5_grow, Cond.static yX5_grow, Cond.code yX5_grow cX5_grow 5 (some .int), Cond.methodLink RX5 9 yX5_holds, Cond.static yX5_holds, Cond.code yX5_holds cX5_holds 2 (some .boolean), Cond.methodLink RX5 29 yX5_fusedWithAny]
def wsX8_within_r4 : List Cond := [Cond.static yX5_fusedWithAny, Cond.code yX5_fusedWithAny cX5_fusedWithAny 6 (some .int), Cond.methodLink RX5 21 yX7_number]
def wsX8_within : List Cond := .code yX8_within cX8_within 2 (some .int) :: ((wsX8_within_r1 ++ (wsX8_within_r2 ++ (wsX8_within_r3 ++ wsX8_within_r4))) ++ wsX80 ++ wsX10 ++ wsX70)
def wsX8_like_r1 : List Cond := [Cond.fieldLink RX8 44 "FuseBench" "namings" "LFuseBench$Namings;", Cond.fieldLink RX8 11 "FuseBench" "tables" "[LFuseBench$Table;", Cond.methodLink RX8 66 yX8_isTable, Cond.static yX8_isTable, Cond.initialized RX8, Cond.code yX8_isTable cX8_isTable 1 (some .boolean), Cond.methodLink RX8 174 yX3_count, Cond.instanceMethod yX3_count, Cond.selects RX3 yX3_count yX3_count, Cond.initialized RX3, Cond.code yX3_count cX3_count 3 (some .int), Cond.fieldLink RX3 15 "FuseBench$Table" "kinds" "I", Cond.fieldLink RX3 9 "FuseBench$Namings" "names" "[I", Cond.methodLink RX3 21 yX3_countFrom, Cond.static yX3_countFrom, Cond.code yX3_countFrom cX3_countFrom 7 (some .int), Cond.methodLink RX3 25 yX3_alike, Cond.static yX3_alike, Cond.code yX3_alike cX3_alike 6 (some .boolean), Cond.methodLink RX3 29 yX7_number, Cond.instanceMethod yX7_number, Cond.selects RX7 yX7_number yX7_number, Cond.initialized RX7, Cond.code yX7_number cX7_number 4 (some .int)]
def wsX8_like_r2 : List Cond := [Cond.fieldLink RX7 11 "FuseBench$Table" "numbers" "[I", Cond.methodLink RX7 23 yX7_placeOf, Cond.static yX7_placeOf, Cond.code yX7_placeOf cX7_placeOf 3 (some .int)]
def wsX8_like : List Cond := .code yX8_like cX8_like 3 (some .int) :: ((wsX8_like_r1 ++ wsX8_like_r2) ++ wsX80 ++ wsX70 ++ wsX30)
def wsX8_isPrime : List Cond := .code yX8_isPrime cX8_isPrime 5 (some .boolean) :: ([.fieldLink RX8 206 "FuseBench" "PRIMES" "[I"])
def wsX8_maps_r1 : List Cond := [Cond.fieldLink RX8 51 "FuseBench" "remainders" "LFuseBench$Remainders;", Cond.fieldLink RX8 11 "FuseBench" "tables" "[LFuseBench$Table;", Cond.methodLink RX8 66 yX8_isTable, Cond.static yX8_isTable, Cond.initialized RX8, Cond.code yX8_isTable cX8_isTable 1 (some .boolean), Cond.methodLink RX8 178 yX8_isPrime, Cond.static yX8_isPrime, Cond.code yX8_isPrime cX8_isPrime 5 (some .boolean), Cond.fieldLink RX8 206 "FuseBench" "PRIMES" "[I", Cond.methodLink RX8 101 yX8_isRight, Cond.instanceMethod yX8_isRight, Cond.selects RX8 yX8_isRight yX8_isRight, Cond.code yX8_isRight cX8_isRight 2 (some .boolean), Cond.fieldLink RX8 23 "FuseBench" "laws" "LFuseBench$Laws;", Cond.methodLink RX8 86 yX1_allHold, Cond.instanceMethod yX1_allHold, Cond.selects RX1 yX1_allHold yX1_allHold, Cond.initialized RX1, Cond.code yX1_allHold cX1_allHold 2 (some .boolean), Cond.fieldLink RX1 18 "FuseBench$Laws" "broken" "I", Cond.fieldLink RX1 9 "FuseBench$Laws" "place" "[I", Cond.methodLink RX1 22 yJ7_fill_53178, Cond.static yJ7_fill_53178]
def wsX8_maps_r2 : List Cond := [Cond.initialized RJ7, Cond.code yJ7_fill_53178 cJ7_fill_53178 4 none, Cond.methodLink RX1 28 yX1_unitHolds, Cond.instanceMethod yX1_unitHolds, Cond.selects RX1 yX1_unitHolds yX1_unitHolds, Cond.code yX1_unitHolds cX1_unitHolds 5 (some .boolean), Cond.fieldLink RX1 44 "FuseBench$Table" "kinds" "I", Cond.methodLink RX1 49 yX7_number, Cond.instanceMethod yX7_number, Cond.selects RX7 yX7_number yX7_number, Cond.initialized RX7, Cond.code yX7_number cX7_number 4 (some .int), Cond.fieldLink RX7 11 "FuseBench$Table" "numbers" "[I", Cond.methodLink RX7 23 yX7_placeOf, Cond.static yX7_placeOf, Cond.code yX7_placeOf cX7_placeOf 3 (some .int), Cond.methodLink RX1 53 yX1_breaks, Cond.instanceMethod yX1_breaks, Cond.selects RX1 yX1_breaks yX1_breaks, Cond.code yX1_breaks cX1_breaks 6 (some .boolean), Cond.methodLink RX1 32 yX1_eitherWayHolds, Cond.instanceMethod yX1_eitherWayHolds, Cond.selects RX1 yX1_eitherWayHolds yX1_eitherWayHolds, Cond.code yX1_eitherWayHolds cX1_eitherWayHolds 5 (some .boolean)]
def wsX8_maps_r3 : List Cond := [Cond.methodLink RX1 35 yX1_partnersHold, Cond.instanceMethod yX1_partnersHold, Cond.selects RX1 yX1_partnersHold yX1_partnersHold, Cond.code yX1_partnersHold cX1_partnersHold 5 (some .boolean), Cond.fieldLink RX1 15 "FuseBench$Laws" "partners" "[I", Cond.methodLink RX1 38 yX1_turnedHolds, Cond.instanceMethod yX1_turnedHolds, Cond.selects RX1 yX1_turnedHolds yX1_turnedHolds, Cond.code yX1_turnedHolds cX1_turnedHolds 5 (some .boolean), Cond.methodLink RX1 41 yX1_threeHolds, Cond.instanceMethod yX1_threeHolds, Cond.selects RX1 yX1_threeHolds yX1_threeHolds, Cond.code yX1_threeHolds cX1_threeHolds 6 (some .boolean), Cond.methodLink RX1 57 yX1_firstUnlike, Cond.static yX1_firstUnlike, Cond.code yX1_firstUnlike cX1_firstUnlike 7 (some .int), Cond.methodLink RX8 181 yX4_count, Cond.instanceMethod yX4_count, Cond.selects RX4 yX4_count yX4_count, Cond.initialized RX4, Cond.code yX4_count cX4_count 3 (some .int), Cond.fieldLink RX4 19 "FuseBench$Remainders" "passed" "I", Cond.methodLink RX4 15 yX4_walk, Cond.instanceMethod yX4_walk]
def wsX8_maps_r4 : List Cond := [Cond.selects RX4 yX4_walk yX4_walk, Cond.code yX4_walk cX4_walk 7 (some .boolean), Cond.fieldLink RX4 9 "FuseBench$Remainders" "row" "[I", Cond.fieldLink RX4 33 "FuseBench$Table" "kinds" "I", Cond.methodLink RX4 23 yJ7_fill_53178, Cond.methodLink RX4 29 yX4_lastOfBroken, Cond.instanceMethod yX4_lastOfBroken, Cond.selects RX4 yX4_lastOfBroken yX4_lastOfBroken, Cond.code yX4_lastOfBroken cX4_lastOfBroken 9 (some .int), Cond.methodLink RX4 46 Lib.Math.max.name, Cond.static Lib.Math.max.name, Cond.initialized "java/lang/Math", Cond.code Lib.Math.max.name Lib.Math.max.code 2 (some .int), Cond.methodLink RX4 42 yX7_number, Cond.methodLink RX4 38 yX4_nextRow, Cond.instanceMethod yX4_nextRow, Cond.selects RX4 yX4_nextRow yX4_nextRow, Cond.code yX4_nextRow cX4_nextRow 5 (some .boolean)]
def wsX8_maps : List Cond := .code yX8_maps cX8_maps 3 (some .int) :: ((wsX8_maps_r1 ++ (wsX8_maps_r2 ++ (wsX8_maps_r3 ++ wsX8_maps_r4))) ++ wsX80 ++ wsX10 ++ wsX70 ++ wsX40)
def wsX8_map_r1 : List Cond := [Cond.fieldLink RX8 51 "FuseBench" "remainders" "LFuseBench$Remainders;", Cond.fieldLink RX8 11 "FuseBench" "tables" "[LFuseBench$Table;", Cond.fieldLink RX8 188 "FuseBench$Remainders" "row" "[I", Cond.methodLink RX8 97 yX8_isKind, Cond.instanceMethod yX8_isKind, Cond.selects RX8 yX8_isKind yX8_isKind, Cond.initialized RX8, Cond.code yX8_isKind cX8_isKind 3 (some .boolean), Cond.methodLink RX8 66 yX8_isTable, Cond.static yX8_isTable, Cond.code yX8_isTable cX8_isTable 1 (some .boolean), Cond.methodLink RX8 203 yX7_has, Cond.instanceMethod yX7_has, Cond.selects RX7 yX7_has yX7_has, Cond.initialized RX7, Cond.code yX7_has cX7_has 2 (some .boolean), Cond.fieldLink RX7 19 "FuseBench$Table" "kinds" "I", Cond.methodLink RX8 178 yX8_isPrime, Cond.static yX8_isPrime, Cond.code yX8_isPrime cX8_isPrime 5 (some .boolean), Cond.fieldLink RX8 206 "FuseBench" "PRIMES" "[I", Cond.methodLink RX8 101 yX8_isRight, Cond.instanceMethod yX8_isRight, Cond.selects RX8 yX8_isRight yX8_isRight]
def wsX8_map_r2 : List Cond := [Cond.code yX8_isRight cX8_isRight 2 (some .boolean), Cond.fieldLink RX8 23 "FuseBench" "laws" "LFuseBench$Laws;", Cond.methodLink RX8 86 yX1_allHold, Cond.instanceMethod yX1_allHold, Cond.selects RX1 yX1_allHold yX1_allHold, Cond.initialized RX1, Cond.code yX1_allHold cX1_allHold 2 (some .boolean), Cond.fieldLink RX1 18 "FuseBench$Laws" "broken" "I", Cond.fieldLink RX1 9 "FuseBench$Laws" "place" "[I", Cond.methodLink RX1 22 yJ7_fill_53178, Cond.static yJ7_fill_53178, Cond.initialized RJ7, Cond.code yJ7_fill_53178 cJ7_fill_53178 4 none, Cond.methodLink RX1 28 yX1_unitHolds, Cond.instanceMethod yX1_unitHolds, Cond.selects RX1 yX1_unitHolds yX1_unitHolds, Cond.code yX1_unitHolds cX1_unitHolds 5 (some .boolean), Cond.fieldLink RX1 44 "FuseBench$Table" "kinds" "I", Cond.methodLink RX1 49 yX7_number, Cond.instanceMethod yX7_number, Cond.selects RX7 yX7_number yX7_number, Cond.code yX7_number cX7_number 4 (some .int), Cond.fieldLink RX7 11 "FuseBench$Table" "numbers" "[I", Cond.methodLink RX7 23 yX7_placeOf]
def wsX8_map_r3 : List Cond := [Cond.static yX7_placeOf, Cond.code yX7_placeOf cX7_placeOf 3 (some .int), Cond.methodLink RX1 53 yX1_breaks, Cond.instanceMethod yX1_breaks, Cond.selects RX1 yX1_breaks yX1_breaks, Cond.code yX1_breaks cX1_breaks 6 (some .boolean), Cond.methodLink RX1 32 yX1_eitherWayHolds, Cond.instanceMethod yX1_eitherWayHolds, Cond.selects RX1 yX1_eitherWayHolds yX1_eitherWayHolds, Cond.code yX1_eitherWayHolds cX1_eitherWayHolds 5 (some .boolean), Cond.methodLink RX1 35 yX1_partnersHold, Cond.instanceMethod yX1_partnersHold, Cond.selects RX1 yX1_partnersHold yX1_partnersHold, Cond.code yX1_partnersHold cX1_partnersHold 5 (some .boolean), Cond.fieldLink RX1 15 "FuseBench$Laws" "partners" "[I", Cond.methodLink RX1 38 yX1_turnedHolds, Cond.instanceMethod yX1_turnedHolds, Cond.selects RX1 yX1_turnedHolds yX1_turnedHolds, Cond.code yX1_turnedHolds cX1_turnedHolds 5 (some .boolean), Cond.methodLink RX1 41 yX1_threeHolds, Cond.instanceMethod yX1_threeHolds, Cond.selects RX1 yX1_threeHolds yX1_threeHolds, Cond.code yX1_threeHolds cX1_threeHolds 6 (some .boolean), Cond.methodLink RX1 57 yX1_firstUnlike]
def wsX8_map_r4 : List Cond := [Cond.static yX1_firstUnlike, Cond.code yX1_firstUnlike cX1_firstUnlike 7 (some .int), Cond.methodLink RX8 184 yX4_find, Cond.instanceMethod yX4_find, Cond.selects RX4 yX4_find yX4_find, Cond.initialized RX4, Cond.code yX4_find cX4_find 4 (some .boolean), Cond.methodLink RX4 15 yX4_walk, Cond.instanceMethod yX4_walk, Cond.selects RX4 yX4_walk yX4_walk, Cond.code yX4_walk cX4_walk 7 (some .boolean), Cond.fieldLink RX4 19 "FuseBench$Remainders" "passed" "I", Cond.fieldLink RX4 9 "FuseBench$Remainders" "row" "[I", Cond.fieldLink RX4 33 "FuseBench$Table" "kinds" "I", Cond.methodLink RX4 23 yJ7_fill_53178, Cond.methodLink RX4 29 yX4_lastOfBroken, Cond.instanceMethod yX4_lastOfBroken, Cond.selects RX4 yX4_lastOfBroken yX4_lastOfBroken, Cond.code yX4_lastOfBroken cX4_lastOfBroken 9 (some .int), Cond.methodLink RX4 46 Lib.Math.max.name, Cond.static Lib.Math.max.name, Cond.initialized "java/lang/Math", Cond.code Lib.Math.max.name Lib.Math.max.code 2 (some .int), Cond.methodLink RX4 42 yX7_number]
def wsX8_map_r5 : List Cond := [Cond.methodLink RX4 38 yX4_nextRow, Cond.instanceMethod yX4_nextRow, Cond.selects RX4 yX4_nextRow yX4_nextRow, Cond.code yX4_nextRow cX4_nextRow 5 (some .boolean)]
def wsX8_map : List Cond := .code yX8_map cX8_map 5 (some .int) :: ((wsX8_map_r1 ++ (wsX8_map_r2 ++ (wsX8_map_r3 ++ (wsX8_map_r4 ++ wsX8_map_r5)))) ++ wsX80 ++ wsX40 ++ wsX70 ++ wsX10)
def wsX8_size_r1 : List Cond := [Cond.fieldLink RX8 58 "FuseBench" "extent" "LFuseBench$Extent;", Cond.fieldLink RX8 11 "FuseBench" "tables" "[LFuseBench$Table;", Cond.methodLink RX8 66 yX8_isTable, Cond.static yX8_isTable, Cond.initialized RX8, Cond.code yX8_isTable cX8_isTable 1 (some .boolean), Cond.methodLink RX8 101 yX8_isRight, Cond.instanceMethod yX8_isRight, Cond.selects RX8 yX8_isRight yX8_isRight, Cond.code yX8_isRight cX8_isRight 2 (some .boolean), Cond.fieldLink RX8 23 "FuseBench" "laws" "LFuseBench$Laws;", Cond.methodLink RX8 86 yX1_allHold, Cond.instanceMethod yX1_allHold, Cond.selects RX1 yX1_allHold yX1_allHold, Cond.initialized RX1, Cond.code yX1_allHold cX1_allHold 2 (some .boolean), Cond.fieldLink RX1 18 "FuseBench$Laws" "broken" "I", Cond.fieldLink RX1 9 "FuseBench$Laws" "place" "[I", Cond.methodLink RX1 22 yJ7_fill_53178, Cond.static yJ7_fill_53178, Cond.initialized RJ7, Cond.code yJ7_fill_53178 cJ7_fill_53178 4 none, Cond.methodLink RX1 28 yX1_unitHolds, Cond.instanceMethod yX1_unitHolds]
def wsX8_size_r2 : List Cond := [Cond.selects RX1 yX1_unitHolds yX1_unitHolds, Cond.code yX1_unitHolds cX1_unitHolds 5 (some .boolean), Cond.fieldLink RX1 44 "FuseBench$Table" "kinds" "I", Cond.methodLink RX1 49 yX7_number, Cond.instanceMethod yX7_number, Cond.selects RX7 yX7_number yX7_number, Cond.initialized RX7, Cond.code yX7_number cX7_number 4 (some .int), Cond.fieldLink RX7 11 "FuseBench$Table" "numbers" "[I", Cond.methodLink RX7 23 yX7_placeOf, Cond.static yX7_placeOf, Cond.code yX7_placeOf cX7_placeOf 3 (some .int), Cond.methodLink RX1 53 yX1_breaks, Cond.instanceMethod yX1_breaks, Cond.selects RX1 yX1_breaks yX1_breaks, Cond.code yX1_breaks cX1_breaks 6 (some .boolean), Cond.methodLink RX1 32 yX1_eitherWayHolds, Cond.instanceMethod yX1_eitherWayHolds, Cond.selects RX1 yX1_eitherWayHolds yX1_eitherWayHolds, Cond.code yX1_eitherWayHolds cX1_eitherWayHolds 5 (some .boolean), Cond.methodLink RX1 35 yX1_partnersHold, Cond.instanceMethod yX1_partnersHold, Cond.selects RX1 yX1_partnersHold yX1_partnersHold, Cond.code yX1_partnersHold cX1_partnersHold 5 (some .boolean)]
def wsX8_size_r3 : List Cond := [Cond.fieldLink RX1 15 "FuseBench$Laws" "partners" "[I", Cond.methodLink RX1 38 yX1_turnedHolds, Cond.instanceMethod yX1_turnedHolds, Cond.selects RX1 yX1_turnedHolds yX1_turnedHolds, Cond.code yX1_turnedHolds cX1_turnedHolds 5 (some .boolean), Cond.methodLink RX1 41 yX1_threeHolds, Cond.instanceMethod yX1_threeHolds, Cond.selects RX1 yX1_threeHolds yX1_threeHolds, Cond.code yX1_threeHolds cX1_threeHolds 6 (some .boolean), Cond.methodLink RX1 57 yX1_firstUnlike, Cond.static yX1_firstUnlike, Cond.code yX1_firstUnlike cX1_firstUnlike 7 (some .int), Cond.methodLink RX8 191 yX0_tenths, Cond.instanceMethod yX0_tenths, Cond.selects RX0 yX0_tenths yX0_tenths, Cond.initialized RX0, Cond.code yX0_tenths cX0_tenths 6 (some .int), Cond.fieldLink RX0 23 "FuseBench$Table" "kinds" "I", Cond.methodLink RX0 19 yX0_addUp, Cond.instanceMethod yX0_addUp, Cond.selects RX0 yX0_addUp yX0_addUp, Cond.code yX0_addUp cX0_addUp 6 none, Cond.fieldLink RX0 9 "FuseBench$Extent" "sums" "[I", Cond.methodLink RX0 33 yX7_number]
def wsX8_size_r4 : List Cond := [Cond.methodLink RX0 29 yX0_isAbove, Cond.instanceMethod yX0_isAbove, Cond.selects RX0 yX0_isAbove yX0_isAbove, Cond.code yX0_isAbove cX0_isAbove 5 (some .boolean), Cond.fieldLink RX0 15 "FuseBench$Extent" "minors" "[J", Cond.methodLink RX0 37 yX0_expandedMinor, Cond.instanceMethod yX0_expandedMinor, Cond.selects RX0 yX0_expandedMinor yX0_expandedMinor, Cond.code yX0_expandedMinor cX0_expandedMinor 11 (some .long), Cond.constantLong RX0 52 (10), Cond.methodLink RX0 41 yJ6_bitCount_0f7a4, Cond.static yJ6_bitCount_0f7a4, Cond.initialized RJ6, Cond.code yJ6_bitCount_0f7a4 cJ6_bitCount_0f7a4 1 (some .int), Cond.constant RJ6 265 (1431655765), Cond.constant RJ6 266 (858993459), Cond.constant RJ6 267 (252645135), Cond.methodLink RX0 47 yX5_holds, Cond.static yX5_holds, Cond.initialized RX5, Cond.code yX5_holds cX5_holds 2 (some .boolean)]
def wsX8_size : List Cond := .code yX8_size cX8_size 2 (some .int) :: ((wsX8_size_r1 ++ (wsX8_size_r2 ++ (wsX8_size_r3 ++ wsX8_size_r4))) ++ wsX80 ++ wsX10 ++ wsX70 ++ wsX00)
def wsX8_digest : List Cond := .code yX8_digest cX8_digest 4 (some .long) :: ([.constantLong RX8 195 (223), .fieldLink RX8 11 "FuseBench" "tables" "[LFuseBench$Table;", .constantLong RX8 201 (31), .fieldLink RX8 132 "FuseBench" "wordLength" "I", .fieldLink RX8 62 "FuseBench" "word" "[I", .methodLink RX8 197 yX7_mixInto, .instanceMethod yX7_mixInto, .selects RX7 yX7_mixInto yX7_mixInto, .initialized RX7, .code yX7_mixInto cX7_mixInto 8 (some .long), .constantLong RX7 50 (31), .fieldLink RX7 19 "FuseBench$Table" "kinds" "I", .methodLink RX7 43 yX7_number, .instanceMethod yX7_number, .selects RX7 yX7_number yX7_number, .code yX7_number cX7_number 4 (some .int), .fieldLink RX7 11 "FuseBench$Table" "numbers" "[I", .methodLink RX7 23 yX7_placeOf, .static yX7_placeOf, .code yX7_placeOf cX7_placeOf 3 (some .int)] ++ wsX80 ++ wsX70)
def wsX9_lay : List Cond := .code yX9_lay cX9_lay 6 none :: ([.fieldLink RX9 13 "FuseBenchModel" "cells" "[I"] ++ wsX90)
def wsX9_begin : List Cond := .code yX9_begin cX9_begin 4 none :: ([.fieldLink RX9 7 "FuseBenchModel" "ranks" "[I", .fieldLink RX9 13 "FuseBenchModel" "cells" "[I", .methodLink RX9 54 yX9_lay, .instanceMethod yX9_lay, .selects RX9 yX9_lay yX9_lay, .initialized RX9, .code yX9_lay cX9_lay 6 none] ++ wsX90)
def wsX9_init_r1 : List Cond := [Cond.methodLink RX9 1 objectInit, Cond.instanceMethod objectInit, Cond.code objectInit ⟨#[0xb1]⟩ 1 none, Cond.arrayClass .int, Cond.fieldLink RX9 7 "FuseBenchModel" "ranks" "[I", Cond.fieldLink RX9 13 "FuseBenchModel" "cells" "[I", Cond.fieldLink RX9 16 "FuseBenchModel" "found" "[I", Cond.fieldLink RX9 19 "FuseBenchModel" "partners" "[I", Cond.fieldLink RX9 22 "FuseBenchModel" "like" "[I", Cond.fieldLink RX9 25 "FuseBenchModel" "firsts" "[I", Cond.fieldLink RX9 28 "FuseBenchModel" "word" "[I", Cond.arrayClass .long, Cond.fieldLink RX9 31 "FuseBenchModel" "sum" "[J", Cond.fieldLink RX9 35 "FuseBenchModel" "next" "[J", Cond.fieldLink RX9 38 "FuseBenchModel" "name" "[I", Cond.fieldLink RX9 41 "FuseBenchModel" "u" "[I", Cond.fieldLink RX9 44 "FuseBenchModel" "lines" "[I", Cond.fieldLink RX9 47 "FuseBenchModel" "turn" "[I", Cond.methodLink RX9 50 yX9_begin, Cond.instanceMethod yX9_begin, Cond.selects RX9 yX9_begin yX9_begin, Cond.initialized RX9, Cond.code yX9_begin cX9_begin 4 none, Cond.methodLink RX9 54 yX9_lay]
def wsX9_init_r2 : List Cond := [Cond.instanceMethod yX9_lay, Cond.selects RX9 yX9_lay yX9_lay, Cond.code yX9_lay cX9_lay 6 none]
def wsX9_init : List Cond := .code yX9_init cX9_init 2 none :: ((wsX9_init_r1 ++ wsX9_init_r2) ++ wsX90)
def wsX9_in : List Cond := .code yX9_in cX9_in 6 (some .boolean) :: ([])
def wsX9_n : List Cond := .code yX9_n cX9_n 5 (some .int) :: ([.fieldLink RX9 13 "FuseBenchModel" "cells" "[I"] ++ wsX90)
def wsX9_carry : List Cond := .code yX9_carry cX9_carry 4 none :: ([.fieldLink RX9 7 "FuseBenchModel" "ranks" "[I", .fieldLink RX9 13 "FuseBenchModel" "cells" "[I"] ++ wsX90)
def wsX9_noTable : List Cond := .code yX9_noTable cX9_noTable 1 (some .boolean) :: ([.constantLong RX9 58 (5), .methodLink RX9 60 yX9_in, .static yX9_in, .initialized RX9, .code yX9_in cX9_in 6 (some .boolean)])
def wsX9_isKind : List Cond := .code yX9_isKind cX9_isKind 3 (some .boolean) :: ([.fieldLink RX9 7 "FuseBenchModel" "ranks" "[I", .methodLink RX9 60 yX9_in, .static yX9_in, .initialized RX9, .code yX9_in cX9_in 6 (some .boolean)] ++ wsX90)
def wsX9_rank : List Cond := .code yX9_rank cX9_rank 3 (some .int) :: ([.constantLong RX9 58 (5), .methodLink RX9 64 yX9_noTable, .static yX9_noTable, .initialized RX9, .code yX9_noTable cX9_noTable 1 (some .boolean), .methodLink RX9 60 yX9_in, .static yX9_in, .code yX9_in cX9_in 6 (some .boolean), .methodLink RX9 50 yX9_begin, .instanceMethod yX9_begin, .selects RX9 yX9_begin yX9_begin, .code yX9_begin cX9_begin 4 none, .fieldLink RX9 7 "FuseBenchModel" "ranks" "[I", .fieldLink RX9 13 "FuseBenchModel" "cells" "[I", .methodLink RX9 54 yX9_lay, .instanceMethod yX9_lay, .selects RX9 yX9_lay yX9_lay, .code yX9_lay cX9_lay 6 none] ++ wsX90)
def wsX9_put : List Cond := .code yX9_put cX9_put 7 (some .int) :: ([.constantLong RX9 72 (9), .methodLink RX9 64 yX9_noTable, .static yX9_noTable, .initialized RX9, .code yX9_noTable cX9_noTable 1 (some .boolean), .constantLong RX9 58 (5), .methodLink RX9 60 yX9_in, .static yX9_in, .code yX9_in cX9_in 6 (some .boolean), .methodLink RX9 68 yX9_isKind, .instanceMethod yX9_isKind, .selects RX9 yX9_isKind yX9_isKind, .code yX9_isKind cX9_isKind 3 (some .boolean), .fieldLink RX9 7 "FuseBenchModel" "ranks" "[I", .methodLink RX9 74 yX9_n, .instanceMethod yX9_n, .selects RX9 yX9_n yX9_n, .code yX9_n cX9_n 5 (some .int), .fieldLink RX9 13 "FuseBenchModel" "cells" "[I", .methodLink RX9 54 yX9_lay, .instanceMethod yX9_lay, .selects RX9 yX9_lay yX9_lay, .code yX9_lay cX9_lay 6 none] ++ wsX90)
def wsX9_at : List Cond := .code yX9_at cX9_at 5 (some .int) :: ([.methodLink RX9 64 yX9_noTable, .static yX9_noTable, .initialized RX9, .code yX9_noTable cX9_noTable 1 (some .boolean), .constantLong RX9 58 (5), .methodLink RX9 60 yX9_in, .static yX9_in, .code yX9_in cX9_in 6 (some .boolean), .methodLink RX9 68 yX9_isKind, .instanceMethod yX9_isKind, .selects RX9 yX9_isKind yX9_isKind, .code yX9_isKind cX9_isKind 3 (some .boolean), .fieldLink RX9 7 "FuseBenchModel" "ranks" "[I", .methodLink RX9 74 yX9_n, .instanceMethod yX9_n, .selects RX9 yX9_n yX9_n, .code yX9_n cX9_n 5 (some .int), .fieldLink RX9 13 "FuseBenchModel" "cells" "[I"] ++ wsX90)
def wsX9_tell : List Cond := .code yX9_tell cX9_tell 6 (some .boolean) :: ([.fieldLink RX9 16 "FuseBenchModel" "found" "[I"] ++ wsX90)
def wsX9_breaksUnit : List Cond := .code yX9_breaksUnit cX9_breaksUnit 5 (some .boolean) :: ([.fieldLink RX9 7 "FuseBenchModel" "ranks" "[I", .methodLink RX9 74 yX9_n, .instanceMethod yX9_n, .selects RX9 yX9_n yX9_n, .initialized RX9, .code yX9_n cX9_n 5 (some .int), .fieldLink RX9 13 "FuseBenchModel" "cells" "[I", .methodLink RX9 78 yX9_tell, .instanceMethod yX9_tell, .selects RX9 yX9_tell yX9_tell, .code yX9_tell cX9_tell 6 (some .boolean), .fieldLink RX9 16 "FuseBenchModel" "found" "[I"] ++ wsX90)
def wsX9_breaksPartners : List Cond := .code yX9_breaksPartners cX9_breaksPartners 6 (some .boolean) :: ([.fieldLink RX9 7 "FuseBenchModel" "ranks" "[I", .fieldLink RX9 19 "FuseBenchModel" "partners" "[I", .methodLink RX9 74 yX9_n, .instanceMethod yX9_n, .selects RX9 yX9_n yX9_n, .initialized RX9, .code yX9_n cX9_n 5 (some .int), .fieldLink RX9 13 "FuseBenchModel" "cells" "[I", .methodLink RX9 78 yX9_tell, .instanceMethod yX9_tell, .selects RX9 yX9_tell yX9_tell, .code yX9_tell cX9_tell 6 (some .boolean), .fieldLink RX9 16 "FuseBenchModel" "found" "[I"] ++ wsX90)
def wsX9_breaksThree : List Cond := .code yX9_breaksThree cX9_breaksThree 9 (some .boolean) :: ([.fieldLink RX9 7 "FuseBenchModel" "ranks" "[I", .fieldLink RX9 19 "FuseBenchModel" "partners" "[I", .methodLink RX9 74 yX9_n, .instanceMethod yX9_n, .selects RX9 yX9_n yX9_n, .initialized RX9, .code yX9_n cX9_n 5 (some .int), .fieldLink RX9 13 "FuseBenchModel" "cells" "[I", .methodLink RX9 78 yX9_tell, .instanceMethod yX9_tell, .selects RX9 yX9_tell yX9_tell, .code yX9_tell cX9_tell 6 (some .boolean), .fieldLink RX9 16 "FuseBenchModel" "found" "[I"] ++ wsX90)
def wsX9_breaksSums : List Cond := .code yX9_breaksSums cX9_breaksSums 10 (some .boolean) :: ([.fieldLink RX9 7 "FuseBenchModel" "ranks" "[I", .methodLink RX9 74 yX9_n, .instanceMethod yX9_n, .selects RX9 yX9_n yX9_n, .initialized RX9, .code yX9_n cX9_n 5 (some .int), .fieldLink RX9 13 "FuseBenchModel" "cells" "[I", .methodLink RX9 78 yX9_tell, .instanceMethod yX9_tell, .selects RX9 yX9_tell yX9_tell, .code yX9_tell cX9_tell 6 (some .boolean), .fieldLink RX9 16 "FuseBenchModel" "found" "[I"] ++ wsX90)
def wsX9_isRight_r1 : List Cond := [Cond.methodLink RX9 82 yX9_breaksUnit, Cond.instanceMethod yX9_breaksUnit, Cond.selects RX9 yX9_breaksUnit yX9_breaksUnit, Cond.initialized RX9, Cond.code yX9_breaksUnit cX9_breaksUnit 5 (some .boolean), Cond.fieldLink RX9 7 "FuseBenchModel" "ranks" "[I", Cond.methodLink RX9 74 yX9_n, Cond.instanceMethod yX9_n, Cond.selects RX9 yX9_n yX9_n, Cond.code yX9_n cX9_n 5 (some .int), Cond.fieldLink RX9 13 "FuseBenchModel" "cells" "[I", Cond.methodLink RX9 78 yX9_tell, Cond.instanceMethod yX9_tell, Cond.selects RX9 yX9_tell yX9_tell, Cond.code yX9_tell cX9_tell 6 (some .boolean), Cond.fieldLink RX9 16 "FuseBenchModel" "found" "[I", Cond.methodLink RX9 85 yX9_breaksThree, Cond.instanceMethod yX9_breaksThree, Cond.selects RX9 yX9_breaksThree yX9_breaksThree, Cond.code yX9_breaksThree cX9_breaksThree 9 (some .boolean), Cond.fieldLink RX9 19 "FuseBenchModel" "partners" "[I", Cond.methodLink RX9 88 yX9_breaksPartners, Cond.instanceMethod yX9_breaksPartners, Cond.selects RX9 yX9_breaksPartners yX9_breaksPartners]
def wsX9_isRight_r2 : List Cond := [Cond.code yX9_breaksPartners cX9_breaksPartners 6 (some .boolean), Cond.methodLink RX9 91 yX9_breaksSums, Cond.instanceMethod yX9_breaksSums, Cond.selects RX9 yX9_breaksSums yX9_breaksSums, Cond.code yX9_breaksSums cX9_breaksSums 10 (some .boolean)]
def wsX9_isRight : List Cond := .code yX9_isRight cX9_isRight 4 (some .boolean) :: ((wsX9_isRight_r1 ++ wsX9_isRight_r2) ++ wsX90)
def wsX9_fault_r1 : List Cond := [Cond.constantLong RX9 94 (4), Cond.fieldLink RX9 16 "FuseBenchModel" "found" "[I", Cond.methodLink RX9 64 yX9_noTable, Cond.static yX9_noTable, Cond.initialized RX9, Cond.code yX9_noTable cX9_noTable 1 (some .boolean), Cond.constantLong RX9 58 (5), Cond.methodLink RX9 60 yX9_in, Cond.static yX9_in, Cond.code yX9_in cX9_in 6 (some .boolean), Cond.methodLink RX9 96 yX9_isRight, Cond.instanceMethod yX9_isRight, Cond.selects RX9 yX9_isRight yX9_isRight, Cond.code yX9_isRight cX9_isRight 4 (some .boolean), Cond.methodLink RX9 82 yX9_breaksUnit, Cond.instanceMethod yX9_breaksUnit, Cond.selects RX9 yX9_breaksUnit yX9_breaksUnit, Cond.code yX9_breaksUnit cX9_breaksUnit 5 (some .boolean), Cond.fieldLink RX9 7 "FuseBenchModel" "ranks" "[I", Cond.methodLink RX9 74 yX9_n, Cond.instanceMethod yX9_n, Cond.selects RX9 yX9_n yX9_n, Cond.code yX9_n cX9_n 5 (some .int), Cond.fieldLink RX9 13 "FuseBenchModel" "cells" "[I"]
def wsX9_fault_r2 : List Cond := [Cond.methodLink RX9 78 yX9_tell, Cond.instanceMethod yX9_tell, Cond.selects RX9 yX9_tell yX9_tell, Cond.code yX9_tell cX9_tell 6 (some .boolean), Cond.methodLink RX9 85 yX9_breaksThree, Cond.instanceMethod yX9_breaksThree, Cond.selects RX9 yX9_breaksThree yX9_breaksThree, Cond.code yX9_breaksThree cX9_breaksThree 9 (some .boolean), Cond.fieldLink RX9 19 "FuseBenchModel" "partners" "[I", Cond.methodLink RX9 88 yX9_breaksPartners, Cond.instanceMethod yX9_breaksPartners, Cond.selects RX9 yX9_breaksPartners yX9_breaksPartners, Cond.code yX9_breaksPartners cX9_breaksPartners 6 (some .boolean), Cond.methodLink RX9 91 yX9_breaksSums, Cond.instanceMethod yX9_breaksSums, Cond.selects RX9 yX9_breaksSums yX9_breaksSums, Cond.code yX9_breaksSums cX9_breaksSums 10 (some .boolean)]
def wsX9_fault : List Cond := .code yX9_fault cX9_fault 4 (some .int) :: ((wsX9_fault_r1 ++ wsX9_fault_r2) ++ wsX90)
def wsX9_partner_r1 : List Cond := [Cond.fieldLink RX9 19 "FuseBenchModel" "partners" "[I", Cond.methodLink RX9 64 yX9_noTable, Cond.static yX9_noTable, Cond.initialized RX9, Cond.code yX9_noTable cX9_noTable 1 (some .boolean), Cond.constantLong RX9 58 (5), Cond.methodLink RX9 60 yX9_in, Cond.static yX9_in, Cond.code yX9_in cX9_in 6 (some .boolean), Cond.methodLink RX9 68 yX9_isKind, Cond.instanceMethod yX9_isKind, Cond.selects RX9 yX9_isKind yX9_isKind, Cond.code yX9_isKind cX9_isKind 3 (some .boolean), Cond.fieldLink RX9 7 "FuseBenchModel" "ranks" "[I", Cond.methodLink RX9 96 yX9_isRight, Cond.instanceMethod yX9_isRight, Cond.selects RX9 yX9_isRight yX9_isRight, Cond.code yX9_isRight cX9_isRight 4 (some .boolean), Cond.methodLink RX9 82 yX9_breaksUnit, Cond.instanceMethod yX9_breaksUnit, Cond.selects RX9 yX9_breaksUnit yX9_breaksUnit, Cond.code yX9_breaksUnit cX9_breaksUnit 5 (some .boolean), Cond.methodLink RX9 74 yX9_n, Cond.instanceMethod yX9_n]
def wsX9_partner_r2 : List Cond := [Cond.selects RX9 yX9_n yX9_n, Cond.code yX9_n cX9_n 5 (some .int), Cond.fieldLink RX9 13 "FuseBenchModel" "cells" "[I", Cond.methodLink RX9 78 yX9_tell, Cond.instanceMethod yX9_tell, Cond.selects RX9 yX9_tell yX9_tell, Cond.code yX9_tell cX9_tell 6 (some .boolean), Cond.fieldLink RX9 16 "FuseBenchModel" "found" "[I", Cond.methodLink RX9 85 yX9_breaksThree, Cond.instanceMethod yX9_breaksThree, Cond.selects RX9 yX9_breaksThree yX9_breaksThree, Cond.code yX9_breaksThree cX9_breaksThree 9 (some .boolean), Cond.methodLink RX9 88 yX9_breaksPartners, Cond.instanceMethod yX9_breaksPartners, Cond.selects RX9 yX9_breaksPartners yX9_breaksPartners, Cond.code yX9_breaksPartners cX9_breaksPartners 6 (some .boolean), Cond.methodLink RX9 91 yX9_breaksSums, Cond.instanceMethod yX9_breaksSums, Cond.selects RX9 yX9_breaksSums yX9_breaksSums, Cond.code yX9_breaksSums cX9_breaksSums 10 (some .boolean)]
def wsX9_partner : List Cond := .code yX9_partner cX9_partner 3 (some .int) :: ((wsX9_partner_r1 ++ wsX9_partner_r2) ++ wsX90)
def wsX9_copy : List Cond := .code yX9_copy cX9_copy 3 (some .int) :: ([.fieldLink RX9 7 "FuseBenchModel" "ranks" "[I", .methodLink RX9 64 yX9_noTable, .static yX9_noTable, .initialized RX9, .code yX9_noTable cX9_noTable 1 (some .boolean), .constantLong RX9 58 (5), .methodLink RX9 60 yX9_in, .static yX9_in, .code yX9_in cX9_in 6 (some .boolean), .methodLink RX9 99 yX9_carry, .instanceMethod yX9_carry, .selects RX9 yX9_carry yX9_carry, .code yX9_carry cX9_carry 4 none, .fieldLink RX9 13 "FuseBenchModel" "cells" "[I"] ++ wsX90)
def wsX9_layGroup : List Cond := .code yX9_layGroup cX9_layGroup 5 none :: ([.methodLink RX9 54 yX9_lay, .instanceMethod yX9_lay, .selects RX9 yX9_lay yX9_lay, .initialized RX9, .code yX9_lay cX9_lay 6 none, .fieldLink RX9 13 "FuseBenchModel" "cells" "[I"] ++ wsX90)
def wsX9_group : List Cond := .code yX9_group cX9_group 3 (some .int) :: ([.constantLong RX9 58 (5), .methodLink RX9 64 yX9_noTable, .static yX9_noTable, .initialized RX9, .code yX9_noTable cX9_noTable 1 (some .boolean), .methodLink RX9 60 yX9_in, .static yX9_in, .code yX9_in cX9_in 6 (some .boolean), .methodLink RX9 50 yX9_begin, .instanceMethod yX9_begin, .selects RX9 yX9_begin yX9_begin, .code yX9_begin cX9_begin 4 none, .fieldLink RX9 7 "FuseBenchModel" "ranks" "[I", .fieldLink RX9 13 "FuseBenchModel" "cells" "[I", .methodLink RX9 54 yX9_lay, .instanceMethod yX9_lay, .selects RX9 yX9_lay yX9_lay, .code yX9_lay cX9_lay 6 none, .methodLink RX9 102 yX9_layGroup, .instanceMethod yX9_layGroup, .selects RX9 yX9_layGroup yX9_layGroup, .code yX9_layGroup cX9_layGroup 5 none] ++ wsX90)
def wsX9_near : List Cond := .code yX9_near cX9_near 5 (some .int) :: ([.constantLong RX9 94 (4), .constantLong RX9 72 (9), .methodLink RX9 64 yX9_noTable, .static yX9_noTable, .initialized RX9, .code yX9_noTable cX9_noTable 1 (some .boolean), .constantLong RX9 58 (5), .methodLink RX9 60 yX9_in, .static yX9_in, .code yX9_in cX9_in 6 (some .boolean), .methodLink RX9 50 yX9_begin, .instanceMethod yX9_begin, .selects RX9 yX9_begin yX9_begin, .code yX9_begin cX9_begin 4 none, .fieldLink RX9 7 "FuseBenchModel" "ranks" "[I", .fieldLink RX9 13 "FuseBenchModel" "cells" "[I", .methodLink RX9 54 yX9_lay, .instanceMethod yX9_lay, .selects RX9 yX9_lay yX9_lay, .code yX9_lay cX9_lay 6 none, .methodLink RX9 102 yX9_layGroup, .instanceMethod yX9_layGroup, .selects RX9 yX9_layGroup yX9_layGroup, .code yX9_layGroup cX9_layGroup 5 none] ++ wsX90)
def wsX9_together_r1 : List Cond := [Cond.fieldLink RX9 7 "FuseBenchModel" "ranks" "[I", Cond.methodLink RX9 64 yX9_noTable, Cond.static yX9_noTable, Cond.initialized RX9, Cond.code yX9_noTable cX9_noTable 1 (some .boolean), Cond.constantLong RX9 58 (5), Cond.methodLink RX9 60 yX9_in, Cond.static yX9_in, Cond.code yX9_in cX9_in 6 (some .boolean), Cond.methodLink RX9 50 yX9_begin, Cond.instanceMethod yX9_begin, Cond.selects RX9 yX9_begin yX9_begin, Cond.code yX9_begin cX9_begin 4 none, Cond.fieldLink RX9 13 "FuseBenchModel" "cells" "[I", Cond.methodLink RX9 54 yX9_lay, Cond.instanceMethod yX9_lay, Cond.selects RX9 yX9_lay yX9_lay, Cond.code yX9_lay cX9_lay 6 none, Cond.methodLink RX9 74 yX9_n, Cond.instanceMethod yX9_n, Cond.selects RX9 yX9_n yX9_n, Cond.code yX9_n cX9_n 5 (some .int), Cond.methodLink RX9 99 yX9_carry, Cond.instanceMethod yX9_carry]
def wsX9_together_r2 : List Cond := [Cond.selects RX9 yX9_carry yX9_carry, Cond.code yX9_carry cX9_carry 4 none]
def wsX9_together : List Cond := .code yX9_together cX9_together 10 (some .int) :: ((wsX9_together_r1 ++ wsX9_together_r2) ++ wsX90)
def wsX9_mate : List Cond := .code yX9_mate cX9_mate 2 (some .int) :: ([])
def wsX9_placeOf : List Cond := .code yX9_placeOf cX9_placeOf 3 (some .int) :: ([])
def wsX9_join : List Cond := .code yX9_join cX9_join 5 (some .boolean) :: ([.fieldLink RX9 22 "FuseBenchModel" "like" "[I"] ++ wsX90)
def wsX9_findLike : List Cond := .code yX9_findLike cX9_findLike 9 none :: ([.fieldLink RX9 22 "FuseBenchModel" "like" "[I", .fieldLink RX9 116 "FuseBenchModel" "firstMany" "I", .fieldLink RX9 25 "FuseBenchModel" "firsts" "[I", .methodLink RX9 105 yX9_placeOf, .static yX9_placeOf, .initialized RX9, .code yX9_placeOf cX9_placeOf 3 (some .int), .methodLink RX9 109 yX9_join, .instanceMethod yX9_join, .selects RX9 yX9_join yX9_join, .code yX9_join cX9_join 5 (some .boolean), .methodLink RX9 112 yX9_mate, .static yX9_mate, .code yX9_mate cX9_mate 2 (some .int)] ++ wsX90)
def wsX9_layOut : List Cond := .code yX9_layOut cX9_layOut 9 none :: ([.fieldLink RX9 116 "FuseBenchModel" "firstMany" "I", .fieldLink RX9 13 "FuseBenchModel" "cells" "[I", .fieldLink RX9 25 "FuseBenchModel" "firsts" "[I", .fieldLink RX9 22 "FuseBenchModel" "like" "[I", .methodLink RX9 50 yX9_begin, .instanceMethod yX9_begin, .selects RX9 yX9_begin yX9_begin, .initialized RX9, .code yX9_begin cX9_begin 4 none, .fieldLink RX9 7 "FuseBenchModel" "ranks" "[I", .methodLink RX9 54 yX9_lay, .instanceMethod yX9_lay, .selects RX9 yX9_lay yX9_lay, .code yX9_lay cX9_lay 6 none, .methodLink RX9 112 yX9_mate, .static yX9_mate, .code yX9_mate cX9_mate 2 (some .int), .methodLink RX9 105 yX9_placeOf, .static yX9_placeOf, .code yX9_placeOf cX9_placeOf 3 (some .int)] ++ wsX90)
def wsX9_isListed : List Cond := .code yX9_isListed cX9_isListed 3 (some .boolean) :: ([.constantLong RX9 120 (2), .constantLong RX9 94 (4), .constantLong RX9 122 (3), .methodLink RX9 60 yX9_in, .static yX9_in, .initialized RX9, .code yX9_in cX9_in 6 (some .boolean)])
def wsX9_goThrough_r1 : List Cond := [Cond.fieldLink RX9 116 "FuseBenchModel" "firstMany" "I", Cond.methodLink RX9 124 yX9_findLike, Cond.instanceMethod yX9_findLike, Cond.selects RX9 yX9_findLike yX9_findLike, Cond.initialized RX9, Cond.code yX9_findLike cX9_findLike 9 none, Cond.fieldLink RX9 22 "FuseBenchModel" "like" "[I", Cond.fieldLink RX9 25 "FuseBenchModel" "firsts" "[I", Cond.methodLink RX9 105 yX9_placeOf, Cond.static yX9_placeOf, Cond.code yX9_placeOf cX9_placeOf 3 (some .int), Cond.methodLink RX9 109 yX9_join, Cond.instanceMethod yX9_join, Cond.selects RX9 yX9_join yX9_join, Cond.code yX9_join cX9_join 5 (some .boolean), Cond.methodLink RX9 112 yX9_mate, Cond.static yX9_mate, Cond.code yX9_mate cX9_mate 2 (some .int), Cond.methodLink RX9 127 yX9_layOut, Cond.instanceMethod yX9_layOut, Cond.selects RX9 yX9_layOut yX9_layOut, Cond.code yX9_layOut cX9_layOut 9 none, Cond.fieldLink RX9 13 "FuseBenchModel" "cells" "[I", Cond.methodLink RX9 50 yX9_begin]
def wsX9_goThrough_r2 : List Cond := [Cond.instanceMethod yX9_begin, Cond.selects RX9 yX9_begin yX9_begin, Cond.code yX9_begin cX9_begin 4 none, Cond.fieldLink RX9 7 "FuseBenchModel" "ranks" "[I", Cond.methodLink RX9 54 yX9_lay, Cond.instanceMethod yX9_lay, Cond.selects RX9 yX9_lay yX9_lay, Cond.code yX9_lay cX9_lay 6 none, Cond.methodLink RX9 96 yX9_isRight, Cond.instanceMethod yX9_isRight, Cond.selects RX9 yX9_isRight yX9_isRight, Cond.code yX9_isRight cX9_isRight 4 (some .boolean), Cond.methodLink RX9 82 yX9_breaksUnit, Cond.instanceMethod yX9_breaksUnit, Cond.selects RX9 yX9_breaksUnit yX9_breaksUnit, Cond.code yX9_breaksUnit cX9_breaksUnit 5 (some .boolean), Cond.methodLink RX9 74 yX9_n, Cond.instanceMethod yX9_n, Cond.selects RX9 yX9_n yX9_n, Cond.code yX9_n cX9_n 5 (some .int), Cond.methodLink RX9 78 yX9_tell, Cond.instanceMethod yX9_tell, Cond.selects RX9 yX9_tell yX9_tell, Cond.code yX9_tell cX9_tell 6 (some .boolean)]
def wsX9_goThrough_r3 : List Cond := [Cond.fieldLink RX9 16 "FuseBenchModel" "found" "[I", Cond.methodLink RX9 85 yX9_breaksThree, Cond.instanceMethod yX9_breaksThree, Cond.selects RX9 yX9_breaksThree yX9_breaksThree, Cond.code yX9_breaksThree cX9_breaksThree 9 (some .boolean), Cond.fieldLink RX9 19 "FuseBenchModel" "partners" "[I", Cond.methodLink RX9 88 yX9_breaksPartners, Cond.instanceMethod yX9_breaksPartners, Cond.selects RX9 yX9_breaksPartners yX9_breaksPartners, Cond.code yX9_breaksPartners cX9_breaksPartners 6 (some .boolean), Cond.methodLink RX9 91 yX9_breaksSums, Cond.instanceMethod yX9_breaksSums, Cond.selects RX9 yX9_breaksSums yX9_breaksSums, Cond.code yX9_breaksSums cX9_breaksSums 10 (some .boolean)]
def wsX9_goThrough : List Cond := .code yX9_goThrough cX9_goThrough 8 (some .int) :: ((wsX9_goThrough_r1 ++ (wsX9_goThrough_r2 ++ wsX9_goThrough_r3)) ++ wsX90)
def wsX9_list_r1 : List Cond := [Cond.methodLink RX9 131 yX9_isListed, Cond.static yX9_isListed, Cond.initialized RX9, Cond.code yX9_isListed cX9_isListed 3 (some .boolean), Cond.constantLong RX9 120 (2), Cond.constantLong RX9 94 (4), Cond.constantLong RX9 122 (3), Cond.methodLink RX9 60 yX9_in, Cond.static yX9_in, Cond.code yX9_in cX9_in 6 (some .boolean), Cond.methodLink RX9 135 yX9_goThrough, Cond.instanceMethod yX9_goThrough, Cond.selects RX9 yX9_goThrough yX9_goThrough, Cond.code yX9_goThrough cX9_goThrough 8 (some .int), Cond.fieldLink RX9 116 "FuseBenchModel" "firstMany" "I", Cond.methodLink RX9 124 yX9_findLike, Cond.instanceMethod yX9_findLike, Cond.selects RX9 yX9_findLike yX9_findLike, Cond.code yX9_findLike cX9_findLike 9 none, Cond.fieldLink RX9 22 "FuseBenchModel" "like" "[I", Cond.fieldLink RX9 25 "FuseBenchModel" "firsts" "[I", Cond.methodLink RX9 105 yX9_placeOf, Cond.static yX9_placeOf, Cond.code yX9_placeOf cX9_placeOf 3 (some .int)]
def wsX9_list_r2 : List Cond := [Cond.methodLink RX9 109 yX9_join, Cond.instanceMethod yX9_join, Cond.selects RX9 yX9_join yX9_join, Cond.code yX9_join cX9_join 5 (some .boolean), Cond.methodLink RX9 112 yX9_mate, Cond.static yX9_mate, Cond.code yX9_mate cX9_mate 2 (some .int), Cond.methodLink RX9 127 yX9_layOut, Cond.instanceMethod yX9_layOut, Cond.selects RX9 yX9_layOut yX9_layOut, Cond.code yX9_layOut cX9_layOut 9 none, Cond.fieldLink RX9 13 "FuseBenchModel" "cells" "[I", Cond.methodLink RX9 50 yX9_begin, Cond.instanceMethod yX9_begin, Cond.selects RX9 yX9_begin yX9_begin, Cond.code yX9_begin cX9_begin 4 none, Cond.fieldLink RX9 7 "FuseBenchModel" "ranks" "[I", Cond.methodLink RX9 54 yX9_lay, Cond.instanceMethod yX9_lay, Cond.selects RX9 yX9_lay yX9_lay, Cond.code yX9_lay cX9_lay 6 none, Cond.methodLink RX9 96 yX9_isRight, Cond.instanceMethod yX9_isRight, Cond.selects RX9 yX9_isRight yX9_isRight]
def wsX9_list_r3 : List Cond := [Cond.code yX9_isRight cX9_isRight 4 (some .boolean), Cond.methodLink RX9 82 yX9_breaksUnit, Cond.instanceMethod yX9_breaksUnit, Cond.selects RX9 yX9_breaksUnit yX9_breaksUnit, Cond.code yX9_breaksUnit cX9_breaksUnit 5 (some .boolean), Cond.methodLink RX9 74 yX9_n, Cond.instanceMethod yX9_n, Cond.selects RX9 yX9_n yX9_n, Cond.code yX9_n cX9_n 5 (some .int), Cond.methodLink RX9 78 yX9_tell, Cond.instanceMethod yX9_tell, Cond.selects RX9 yX9_tell yX9_tell, Cond.code yX9_tell cX9_tell 6 (some .boolean), Cond.fieldLink RX9 16 "FuseBenchModel" "found" "[I", Cond.methodLink RX9 85 yX9_breaksThree, Cond.instanceMethod yX9_breaksThree, Cond.selects RX9 yX9_breaksThree yX9_breaksThree, Cond.code yX9_breaksThree cX9_breaksThree 9 (some .boolean), Cond.fieldLink RX9 19 "FuseBenchModel" "partners" "[I", Cond.methodLink RX9 88 yX9_breaksPartners, Cond.instanceMethod yX9_breaksPartners, Cond.selects RX9 yX9_breaksPartners yX9_breaksPartners, Cond.code yX9_breaksPartners cX9_breaksPartners 6 (some .boolean), Cond.methodLink RX9 91 yX9_breaksSums]
def wsX9_list_r4 : List Cond := [Cond.instanceMethod yX9_breaksSums, Cond.selects RX9 yX9_breaksSums yX9_breaksSums, Cond.code yX9_breaksSums cX9_breaksSums 10 (some .boolean)]
def wsX9_list : List Cond := .code yX9_list cX9_list 4 (some .int) :: ((wsX9_list_r1 ++ (wsX9_list_r2 ++ (wsX9_list_r3 ++ wsX9_list_r4))) ++ wsX90)
def wsX9_take_r1 : List Cond := [Cond.constant RX9 138 (100000), Cond.methodLink RX9 64 yX9_noTable, Cond.static yX9_noTable, Cond.initialized RX9, Cond.code yX9_noTable cX9_noTable 1 (some .boolean), Cond.constantLong RX9 58 (5), Cond.methodLink RX9 60 yX9_in, Cond.static yX9_in, Cond.code yX9_in cX9_in 6 (some .boolean), Cond.methodLink RX9 131 yX9_isListed, Cond.static yX9_isListed, Cond.code yX9_isListed cX9_isListed 3 (some .boolean), Cond.constantLong RX9 120 (2), Cond.constantLong RX9 94 (4), Cond.constantLong RX9 122 (3), Cond.methodLink RX9 135 yX9_goThrough, Cond.instanceMethod yX9_goThrough, Cond.selects RX9 yX9_goThrough yX9_goThrough, Cond.code yX9_goThrough cX9_goThrough 8 (some .int), Cond.fieldLink RX9 116 "FuseBenchModel" "firstMany" "I", Cond.methodLink RX9 124 yX9_findLike, Cond.instanceMethod yX9_findLike, Cond.selects RX9 yX9_findLike yX9_findLike, Cond.code yX9_findLike cX9_findLike 9 none]
def wsX9_take_r2 : List Cond := [Cond.fieldLink RX9 22 "FuseBenchModel" "like" "[I", Cond.fieldLink RX9 25 "FuseBenchModel" "firsts" "[I", Cond.methodLink RX9 105 yX9_placeOf, Cond.static yX9_placeOf, Cond.code yX9_placeOf cX9_placeOf 3 (some .int), Cond.methodLink RX9 109 yX9_join, Cond.instanceMethod yX9_join, Cond.selects RX9 yX9_join yX9_join, Cond.code yX9_join cX9_join 5 (some .boolean), Cond.methodLink RX9 112 yX9_mate, Cond.static yX9_mate, Cond.code yX9_mate cX9_mate 2 (some .int), Cond.methodLink RX9 127 yX9_layOut, Cond.instanceMethod yX9_layOut, Cond.selects RX9 yX9_layOut yX9_layOut, Cond.code yX9_layOut cX9_layOut 9 none, Cond.fieldLink RX9 13 "FuseBenchModel" "cells" "[I", Cond.methodLink RX9 50 yX9_begin, Cond.instanceMethod yX9_begin, Cond.selects RX9 yX9_begin yX9_begin, Cond.code yX9_begin cX9_begin 4 none, Cond.fieldLink RX9 7 "FuseBenchModel" "ranks" "[I", Cond.methodLink RX9 54 yX9_lay, Cond.instanceMethod yX9_lay]
def wsX9_take_r3 : List Cond := [Cond.selects RX9 yX9_lay yX9_lay, Cond.code yX9_lay cX9_lay 6 none, Cond.methodLink RX9 96 yX9_isRight, Cond.instanceMethod yX9_isRight, Cond.selects RX9 yX9_isRight yX9_isRight, Cond.code yX9_isRight cX9_isRight 4 (some .boolean), Cond.methodLink RX9 82 yX9_breaksUnit, Cond.instanceMethod yX9_breaksUnit, Cond.selects RX9 yX9_breaksUnit yX9_breaksUnit, Cond.code yX9_breaksUnit cX9_breaksUnit 5 (some .boolean), Cond.methodLink RX9 74 yX9_n, Cond.instanceMethod yX9_n, Cond.selects RX9 yX9_n yX9_n, Cond.code yX9_n cX9_n 5 (some .int), Cond.methodLink RX9 78 yX9_tell, Cond.instanceMethod yX9_tell, Cond.selects RX9 yX9_tell yX9_tell, Cond.code yX9_tell cX9_tell 6 (some .boolean), Cond.fieldLink RX9 16 "FuseBenchModel" "found" "[I", Cond.methodLink RX9 85 yX9_breaksThree, Cond.instanceMethod yX9_breaksThree, Cond.selects RX9 yX9_breaksThree yX9_breaksThree, Cond.code yX9_breaksThree cX9_breaksThree 9 (some .boolean), Cond.fieldLink RX9 19 "FuseBenchModel" "partners" "[I"]
def wsX9_take_r4 : List Cond := [Cond.methodLink RX9 88 yX9_breaksPartners, Cond.instanceMethod yX9_breaksPartners, Cond.selects RX9 yX9_breaksPartners yX9_breaksPartners, Cond.code yX9_breaksPartners cX9_breaksPartners 6 (some .boolean), Cond.methodLink RX9 91 yX9_breaksSums, Cond.instanceMethod yX9_breaksSums, Cond.selects RX9 yX9_breaksSums yX9_breaksSums, Cond.code yX9_breaksSums cX9_breaksSums 10 (some .boolean), Cond.methodLink RX9 99 yX9_carry, Cond.instanceMethod yX9_carry, Cond.selects RX9 yX9_carry yX9_carry, Cond.code yX9_carry cX9_carry 4 none]
def wsX9_take : List Cond := .code yX9_take cX9_take 6 (some .int) :: ((wsX9_take_r1 ++ (wsX9_take_r2 ++ (wsX9_take_r3 ++ wsX9_take_r4))) ++ wsX90)
def wsX9_letter : List Cond := .code yX9_letter cX9_letter 2 (some .int) :: ([.constantLong RX9 94 (4), .fieldLink RX9 139 "FuseBenchModel" "letters" "I", .fieldLink RX9 28 "FuseBenchModel" "word" "[I", .methodLink RX9 60 yX9_in, .static yX9_in, .initialized RX9, .code yX9_in cX9_in 6 (some .boolean)] ++ wsX90)
def wsX9_empty : List Cond := .code yX9_empty cX9_empty 2 (some .int) :: ([.fieldLink RX9 139 "FuseBenchModel" "letters" "I"] ++ wsX90)
def wsX9_start : List Cond := .code yX9_start cX9_start 4 none :: ([.fieldLink RX9 31 "FuseBenchModel" "sum" "[J"] ++ wsX90)
def wsX9_fuse : List Cond := .code yX9_fuse cX9_fuse 5 none :: ([.fieldLink RX9 7 "FuseBenchModel" "ranks" "[I", .fieldLink RX9 35 "FuseBenchModel" "next" "[J", .fieldLink RX9 31 "FuseBenchModel" "sum" "[J", .methodLink RX9 74 yX9_n, .instanceMethod yX9_n, .selects RX9 yX9_n yX9_n, .initialized RX9, .code yX9_n cX9_n 5 (some .int), .fieldLink RX9 13 "FuseBenchModel" "cells" "[I"] ++ wsX90)
def wsX9_fused_r1 : List Cond := [Cond.constantLong RX9 142 (-2), Cond.fieldLink RX9 139 "FuseBenchModel" "letters" "I", Cond.fieldLink RX9 28 "FuseBenchModel" "word" "[I", Cond.fieldLink RX9 31 "FuseBenchModel" "sum" "[J", Cond.methodLink RX9 64 yX9_noTable, Cond.static yX9_noTable, Cond.initialized RX9, Cond.code yX9_noTable cX9_noTable 1 (some .boolean), Cond.constantLong RX9 58 (5), Cond.methodLink RX9 60 yX9_in, Cond.static yX9_in, Cond.code yX9_in cX9_in 6 (some .boolean), Cond.methodLink RX9 68 yX9_isKind, Cond.instanceMethod yX9_isKind, Cond.selects RX9 yX9_isKind yX9_isKind, Cond.code yX9_isKind cX9_isKind 3 (some .boolean), Cond.fieldLink RX9 7 "FuseBenchModel" "ranks" "[I", Cond.methodLink RX9 144 yX9_start, Cond.instanceMethod yX9_start, Cond.selects RX9 yX9_start yX9_start, Cond.code yX9_start cX9_start 4 none, Cond.methodLink RX9 147 yX9_fuse, Cond.instanceMethod yX9_fuse, Cond.selects RX9 yX9_fuse yX9_fuse]
def wsX9_fused_r2 : List Cond := [Cond.code yX9_fuse cX9_fuse 5 none, Cond.fieldLink RX9 35 "FuseBenchModel" "next" "[J", Cond.methodLink RX9 74 yX9_n, Cond.instanceMethod yX9_n, Cond.selects RX9 yX9_n yX9_n, Cond.code yX9_n cX9_n 5 (some .int), Cond.fieldLink RX9 13 "FuseBenchModel" "cells" "[I"]
def wsX9_fused : List Cond := .code yX9_fused cX9_fused 4 (some .long) :: ((wsX9_fused_r1 ++ wsX9_fused_r2) ++ wsX90)
def wsX9_ways_r1 : List Cond := [Cond.constantLong RX9 150 (12), Cond.constantLong RX9 142 (-2), Cond.fieldLink RX9 31 "FuseBenchModel" "sum" "[J", Cond.methodLink RX9 64 yX9_noTable, Cond.static yX9_noTable, Cond.initialized RX9, Cond.code yX9_noTable cX9_noTable 1 (some .boolean), Cond.constantLong RX9 58 (5), Cond.methodLink RX9 60 yX9_in, Cond.static yX9_in, Cond.code yX9_in cX9_in 6 (some .boolean), Cond.methodLink RX9 68 yX9_isKind, Cond.instanceMethod yX9_isKind, Cond.selects RX9 yX9_isKind yX9_isKind, Cond.code yX9_isKind cX9_isKind 3 (some .boolean), Cond.fieldLink RX9 7 "FuseBenchModel" "ranks" "[I", Cond.methodLink RX9 144 yX9_start, Cond.instanceMethod yX9_start, Cond.selects RX9 yX9_start yX9_start, Cond.code yX9_start cX9_start 4 none, Cond.methodLink RX9 147 yX9_fuse, Cond.instanceMethod yX9_fuse, Cond.selects RX9 yX9_fuse yX9_fuse, Cond.code yX9_fuse cX9_fuse 5 none]
def wsX9_ways_r2 : List Cond := [Cond.fieldLink RX9 35 "FuseBenchModel" "next" "[J", Cond.methodLink RX9 74 yX9_n, Cond.instanceMethod yX9_n, Cond.selects RX9 yX9_n yX9_n, Cond.code yX9_n cX9_n 5 (some .int), Cond.fieldLink RX9 13 "FuseBenchModel" "cells" "[I"]
def wsX9_ways : List Cond := .code yX9_ways cX9_ways 7 (some .long) :: ((wsX9_ways_r1 ++ wsX9_ways_r2) ++ wsX90)
def wsX9_close : List Cond := .code yX9_close cX9_close 8 (some .int) :: ([.fieldLink RX9 7 "FuseBenchModel" "ranks" "[I", .fieldLink RX9 19 "FuseBenchModel" "partners" "[I", .methodLink RX9 74 yX9_n, .instanceMethod yX9_n, .selects RX9 yX9_n yX9_n, .initialized RX9, .code yX9_n cX9_n 5 (some .int), .fieldLink RX9 13 "FuseBenchModel" "cells" "[I"] ++ wsX90)
def wsX9_isSet : List Cond := .code yX9_isSet cX9_isSet 4 (some .boolean) :: ([.fieldLink RX9 7 "FuseBenchModel" "ranks" "[I", .methodLink RX9 60 yX9_in, .static yX9_in, .initialized RX9, .code yX9_in cX9_in 6 (some .boolean)] ++ wsX90)
def wsX9_closed_r1 : List Cond := [Cond.methodLink RX9 64 yX9_noTable, Cond.static yX9_noTable, Cond.initialized RX9, Cond.code yX9_noTable cX9_noTable 1 (some .boolean), Cond.constantLong RX9 58 (5), Cond.methodLink RX9 60 yX9_in, Cond.static yX9_in, Cond.code yX9_in cX9_in 6 (some .boolean), Cond.methodLink RX9 152 yX9_isSet, Cond.instanceMethod yX9_isSet, Cond.selects RX9 yX9_isSet yX9_isSet, Cond.code yX9_isSet cX9_isSet 4 (some .boolean), Cond.fieldLink RX9 7 "FuseBenchModel" "ranks" "[I", Cond.methodLink RX9 96 yX9_isRight, Cond.instanceMethod yX9_isRight, Cond.selects RX9 yX9_isRight yX9_isRight, Cond.code yX9_isRight cX9_isRight 4 (some .boolean), Cond.methodLink RX9 82 yX9_breaksUnit, Cond.instanceMethod yX9_breaksUnit, Cond.selects RX9 yX9_breaksUnit yX9_breaksUnit, Cond.code yX9_breaksUnit cX9_breaksUnit 5 (some .boolean), Cond.methodLink RX9 74 yX9_n, Cond.instanceMethod yX9_n, Cond.selects RX9 yX9_n yX9_n]
def wsX9_closed_r2 : List Cond := [Cond.code yX9_n cX9_n 5 (some .int), Cond.fieldLink RX9 13 "FuseBenchModel" "cells" "[I", Cond.methodLink RX9 78 yX9_tell, Cond.instanceMethod yX9_tell, Cond.selects RX9 yX9_tell yX9_tell, Cond.code yX9_tell cX9_tell 6 (some .boolean), Cond.fieldLink RX9 16 "FuseBenchModel" "found" "[I", Cond.methodLink RX9 85 yX9_breaksThree, Cond.instanceMethod yX9_breaksThree, Cond.selects RX9 yX9_breaksThree yX9_breaksThree, Cond.code yX9_breaksThree cX9_breaksThree 9 (some .boolean), Cond.fieldLink RX9 19 "FuseBenchModel" "partners" "[I", Cond.methodLink RX9 88 yX9_breaksPartners, Cond.instanceMethod yX9_breaksPartners, Cond.selects RX9 yX9_breaksPartners yX9_breaksPartners, Cond.code yX9_breaksPartners cX9_breaksPartners 6 (some .boolean), Cond.methodLink RX9 91 yX9_breaksSums, Cond.instanceMethod yX9_breaksSums, Cond.selects RX9 yX9_breaksSums yX9_breaksSums, Cond.code yX9_breaksSums cX9_breaksSums 10 (some .boolean), Cond.methodLink RX9 155 yX9_close, Cond.instanceMethod yX9_close, Cond.selects RX9 yX9_close yX9_close, Cond.code yX9_close cX9_close 8 (some .int)]
def wsX9_closed : List Cond := .code yX9_closed cX9_closed 3 (some .int) :: ((wsX9_closed_r1 ++ wsX9_closed_r2) ++ wsX90)
def wsX9_least_r1 : List Cond := [Cond.methodLink RX9 64 yX9_noTable, Cond.static yX9_noTable, Cond.initialized RX9, Cond.code yX9_noTable cX9_noTable 1 (some .boolean), Cond.constantLong RX9 58 (5), Cond.methodLink RX9 60 yX9_in, Cond.static yX9_in, Cond.code yX9_in cX9_in 6 (some .boolean), Cond.methodLink RX9 152 yX9_isSet, Cond.instanceMethod yX9_isSet, Cond.selects RX9 yX9_isSet yX9_isSet, Cond.code yX9_isSet cX9_isSet 4 (some .boolean), Cond.fieldLink RX9 7 "FuseBenchModel" "ranks" "[I", Cond.methodLink RX9 96 yX9_isRight, Cond.instanceMethod yX9_isRight, Cond.selects RX9 yX9_isRight yX9_isRight, Cond.code yX9_isRight cX9_isRight 4 (some .boolean), Cond.methodLink RX9 82 yX9_breaksUnit, Cond.instanceMethod yX9_breaksUnit, Cond.selects RX9 yX9_breaksUnit yX9_breaksUnit, Cond.code yX9_breaksUnit cX9_breaksUnit 5 (some .boolean), Cond.methodLink RX9 74 yX9_n, Cond.instanceMethod yX9_n, Cond.selects RX9 yX9_n yX9_n]
def wsX9_least_r2 : List Cond := [Cond.code yX9_n cX9_n 5 (some .int), Cond.fieldLink RX9 13 "FuseBenchModel" "cells" "[I", Cond.methodLink RX9 78 yX9_tell, Cond.instanceMethod yX9_tell, Cond.selects RX9 yX9_tell yX9_tell, Cond.code yX9_tell cX9_tell 6 (some .boolean), Cond.fieldLink RX9 16 "FuseBenchModel" "found" "[I", Cond.methodLink RX9 85 yX9_breaksThree, Cond.instanceMethod yX9_breaksThree, Cond.selects RX9 yX9_breaksThree yX9_breaksThree, Cond.code yX9_breaksThree cX9_breaksThree 9 (some .boolean), Cond.fieldLink RX9 19 "FuseBenchModel" "partners" "[I", Cond.methodLink RX9 88 yX9_breaksPartners, Cond.instanceMethod yX9_breaksPartners, Cond.selects RX9 yX9_breaksPartners yX9_breaksPartners, Cond.code yX9_breaksPartners cX9_breaksPartners 6 (some .boolean), Cond.methodLink RX9 91 yX9_breaksSums, Cond.instanceMethod yX9_breaksSums, Cond.selects RX9 yX9_breaksSums yX9_breaksSums, Cond.code yX9_breaksSums cX9_breaksSums 10 (some .boolean), Cond.methodLink RX9 155 yX9_close, Cond.instanceMethod yX9_close, Cond.selects RX9 yX9_close yX9_close, Cond.code yX9_close cX9_close 8 (some .int)]
def wsX9_least : List Cond := .code yX9_least cX9_least 3 (some .int) :: ((wsX9_least_r1 ++ wsX9_least_r2) ++ wsX90)
def wsX9_coreOf : List Cond := .code yX9_coreOf cX9_coreOf 5 (some .int) :: ([.fieldLink RX9 7 "FuseBenchModel" "ranks" "[I", .fieldLink RX9 19 "FuseBenchModel" "partners" "[I", .methodLink RX9 74 yX9_n, .instanceMethod yX9_n, .selects RX9 yX9_n yX9_n, .initialized RX9, .code yX9_n cX9_n 5 (some .int), .fieldLink RX9 13 "FuseBenchModel" "cells" "[I", .methodLink RX9 155 yX9_close, .instanceMethod yX9_close, .selects RX9 yX9_close yX9_close, .code yX9_close cX9_close 8 (some .int)] ++ wsX90)
def wsX9_core_r1 : List Cond := [Cond.methodLink RX9 64 yX9_noTable, Cond.static yX9_noTable, Cond.initialized RX9, Cond.code yX9_noTable cX9_noTable 1 (some .boolean), Cond.constantLong RX9 58 (5), Cond.methodLink RX9 60 yX9_in, Cond.static yX9_in, Cond.code yX9_in cX9_in 6 (some .boolean), Cond.methodLink RX9 96 yX9_isRight, Cond.instanceMethod yX9_isRight, Cond.selects RX9 yX9_isRight yX9_isRight, Cond.code yX9_isRight cX9_isRight 4 (some .boolean), Cond.methodLink RX9 82 yX9_breaksUnit, Cond.instanceMethod yX9_breaksUnit, Cond.selects RX9 yX9_breaksUnit yX9_breaksUnit, Cond.code yX9_breaksUnit cX9_breaksUnit 5 (some .boolean), Cond.fieldLink RX9 7 "FuseBenchModel" "ranks" "[I", Cond.methodLink RX9 74 yX9_n, Cond.instanceMethod yX9_n, Cond.selects RX9 yX9_n yX9_n, Cond.code yX9_n cX9_n 5 (some .int), Cond.fieldLink RX9 13 "FuseBenchModel" "cells" "[I", Cond.methodLink RX9 78 yX9_tell, Cond.instanceMethod yX9_tell]
def wsX9_core_r2 : List Cond := [Cond.selects RX9 yX9_tell yX9_tell, Cond.code yX9_tell cX9_tell 6 (some .boolean), Cond.fieldLink RX9 16 "FuseBenchModel" "found" "[I", Cond.methodLink RX9 85 yX9_breaksThree, Cond.instanceMethod yX9_breaksThree, Cond.selects RX9 yX9_breaksThree yX9_breaksThree, Cond.code yX9_breaksThree cX9_breaksThree 9 (some .boolean), Cond.fieldLink RX9 19 "FuseBenchModel" "partners" "[I", Cond.methodLink RX9 88 yX9_breaksPartners, Cond.instanceMethod yX9_breaksPartners, Cond.selects RX9 yX9_breaksPartners yX9_breaksPartners, Cond.code yX9_breaksPartners cX9_breaksPartners 6 (some .boolean), Cond.methodLink RX9 91 yX9_breaksSums, Cond.instanceMethod yX9_breaksSums, Cond.selects RX9 yX9_breaksSums yX9_breaksSums, Cond.code yX9_breaksSums cX9_breaksSums 10 (some .boolean), Cond.methodLink RX9 158 yX9_coreOf, Cond.instanceMethod yX9_coreOf, Cond.selects RX9 yX9_coreOf yX9_coreOf, Cond.code yX9_coreOf cX9_coreOf 5 (some .int), Cond.methodLink RX9 155 yX9_close, Cond.instanceMethod yX9_close, Cond.selects RX9 yX9_close yX9_close, Cond.code yX9_close cX9_close 8 (some .int)]
def wsX9_core : List Cond := .code yX9_core cX9_core 2 (some .int) :: ((wsX9_core_r1 ++ wsX9_core_r2) ++ wsX90)
def wsX9_grade_r1 : List Cond := [Cond.fieldLink RX9 7 "FuseBenchModel" "ranks" "[I", Cond.methodLink RX9 64 yX9_noTable, Cond.static yX9_noTable, Cond.initialized RX9, Cond.code yX9_noTable cX9_noTable 1 (some .boolean), Cond.constantLong RX9 58 (5), Cond.methodLink RX9 60 yX9_in, Cond.static yX9_in, Cond.code yX9_in cX9_in 6 (some .boolean), Cond.methodLink RX9 68 yX9_isKind, Cond.instanceMethod yX9_isKind, Cond.selects RX9 yX9_isKind yX9_isKind, Cond.code yX9_isKind cX9_isKind 3 (some .boolean), Cond.methodLink RX9 96 yX9_isRight, Cond.instanceMethod yX9_isRight, Cond.selects RX9 yX9_isRight yX9_isRight, Cond.code yX9_isRight cX9_isRight 4 (some .boolean), Cond.methodLink RX9 82 yX9_breaksUnit, Cond.instanceMethod yX9_breaksUnit, Cond.selects RX9 yX9_breaksUnit yX9_breaksUnit, Cond.code yX9_breaksUnit cX9_breaksUnit 5 (some .boolean), Cond.methodLink RX9 74 yX9_n, Cond.instanceMethod yX9_n, Cond.selects RX9 yX9_n yX9_n]
def wsX9_grade_r2 : List Cond := [Cond.code yX9_n cX9_n 5 (some .int), Cond.fieldLink RX9 13 "FuseBenchModel" "cells" "[I", Cond.methodLink RX9 78 yX9_tell, Cond.instanceMethod yX9_tell, Cond.selects RX9 yX9_tell yX9_tell, Cond.code yX9_tell cX9_tell 6 (some .boolean), Cond.fieldLink RX9 16 "FuseBenchModel" "found" "[I", Cond.methodLink RX9 85 yX9_breaksThree, Cond.instanceMethod yX9_breaksThree, Cond.selects RX9 yX9_breaksThree yX9_breaksThree, Cond.code yX9_breaksThree cX9_breaksThree 9 (some .boolean), Cond.fieldLink RX9 19 "FuseBenchModel" "partners" "[I", Cond.methodLink RX9 88 yX9_breaksPartners, Cond.instanceMethod yX9_breaksPartners, Cond.selects RX9 yX9_breaksPartners yX9_breaksPartners, Cond.code yX9_breaksPartners cX9_breaksPartners 6 (some .boolean), Cond.methodLink RX9 91 yX9_breaksSums, Cond.instanceMethod yX9_breaksSums, Cond.selects RX9 yX9_breaksSums yX9_breaksSums, Cond.code yX9_breaksSums cX9_breaksSums 10 (some .boolean), Cond.methodLink RX9 158 yX9_coreOf, Cond.instanceMethod yX9_coreOf, Cond.selects RX9 yX9_coreOf yX9_coreOf, Cond.code yX9_coreOf cX9_coreOf 5 (some .int)]
def wsX9_grade_r3 : List Cond := [Cond.methodLink RX9 155 yX9_close, Cond.instanceMethod yX9_close, Cond.selects RX9 yX9_close yX9_close, Cond.code yX9_close cX9_close 8 (some .int)]
def wsX9_grade : List Cond := .code yX9_grade cX9_grade 8 (some .int) :: ((wsX9_grade_r1 ++ (wsX9_grade_r2 ++ wsX9_grade_r3)) ++ wsX90)
def wsX9_within_r1 : List Cond := [Cond.fieldLink RX9 7 "FuseBenchModel" "ranks" "[I", Cond.methodLink RX9 64 yX9_noTable, Cond.static yX9_noTable, Cond.initialized RX9, Cond.code yX9_noTable cX9_noTable 1 (some .boolean), Cond.constantLong RX9 58 (5), Cond.methodLink RX9 60 yX9_in, Cond.static yX9_in, Cond.code yX9_in cX9_in 6 (some .boolean), Cond.methodLink RX9 96 yX9_isRight, Cond.instanceMethod yX9_isRight, Cond.selects RX9 yX9_isRight yX9_isRight, Cond.code yX9_isRight cX9_isRight 4 (some .boolean), Cond.methodLink RX9 82 yX9_breaksUnit, Cond.instanceMethod yX9_breaksUnit, Cond.selects RX9 yX9_breaksUnit yX9_breaksUnit, Cond.code yX9_breaksUnit cX9_breaksUnit 5 (some .boolean), Cond.methodLink RX9 74 yX9_n, Cond.instanceMethod yX9_n, Cond.selects RX9 yX9_n yX9_n, Cond.code yX9_n cX9_n 5 (some .int), Cond.fieldLink RX9 13 "FuseBenchModel" "cells" "[I", Cond.methodLink RX9 78 yX9_tell, Cond.instanceMethod yX9_tell]
def wsX9_within_r2 : List Cond := [Cond.selects RX9 yX9_tell yX9_tell, Cond.code yX9_tell cX9_tell 6 (some .boolean), Cond.fieldLink RX9 16 "FuseBenchModel" "found" "[I", Cond.methodLink RX9 85 yX9_breaksThree, Cond.instanceMethod yX9_breaksThree, Cond.selects RX9 yX9_breaksThree yX9_breaksThree, Cond.code yX9_breaksThree cX9_breaksThree 9 (some .boolean), Cond.fieldLink RX9 19 "FuseBenchModel" "partners" "[I", Cond.methodLink RX9 88 yX9_breaksPartners, Cond.instanceMethod yX9_breaksPartners, Cond.selects RX9 yX9_breaksPartners yX9_breaksPartners, Cond.code yX9_breaksPartners cX9_breaksPartners 6 (some .boolean), Cond.methodLink RX9 91 yX9_breaksSums, Cond.instanceMethod yX9_breaksSums, Cond.selects RX9 yX9_breaksSums yX9_breaksSums, Cond.code yX9_breaksSums cX9_breaksSums 10 (some .boolean), Cond.methodLink RX9 155 yX9_close, Cond.instanceMethod yX9_close, Cond.selects RX9 yX9_close yX9_close, Cond.code yX9_close cX9_close 8 (some .int)]
def wsX9_within : List Cond := .code yX9_within cX9_within 4 (some .int) :: ((wsX9_within_r1 ++ wsX9_within_r2) ++ wsX90)
def wsX9_layNaming : List Cond := .code yX9_layNaming cX9_layNaming 6 (some .boolean) :: ([.fieldLink RX9 38 "FuseBenchModel" "name" "[I"] ++ wsX90)
def wsX9_isLike : List Cond := .code yX9_isLike cX9_isLike 7 (some .boolean) :: ([.fieldLink RX9 7 "FuseBenchModel" "ranks" "[I", .fieldLink RX9 38 "FuseBenchModel" "name" "[I", .methodLink RX9 74 yX9_n, .instanceMethod yX9_n, .selects RX9 yX9_n yX9_n, .initialized RX9, .code yX9_n cX9_n 5 (some .int), .fieldLink RX9 13 "FuseBenchModel" "cells" "[I"] ++ wsX90)
def wsX9_like : List Cond := .code yX9_like cX9_like 7 (some .int) :: ([.fieldLink RX9 7 "FuseBenchModel" "ranks" "[I", .methodLink RX9 64 yX9_noTable, .static yX9_noTable, .initialized RX9, .code yX9_noTable cX9_noTable 1 (some .boolean), .constantLong RX9 58 (5), .methodLink RX9 60 yX9_in, .static yX9_in, .code yX9_in cX9_in 6 (some .boolean), .methodLink RX9 162 yX9_layNaming, .instanceMethod yX9_layNaming, .selects RX9 yX9_layNaming yX9_layNaming, .code yX9_layNaming cX9_layNaming 6 (some .boolean), .fieldLink RX9 38 "FuseBenchModel" "name" "[I", .methodLink RX9 165 yX9_isLike, .instanceMethod yX9_isLike, .selects RX9 yX9_isLike yX9_isLike, .code yX9_isLike cX9_isLike 7 (some .boolean), .methodLink RX9 74 yX9_n, .instanceMethod yX9_n, .selects RX9 yX9_n yX9_n, .code yX9_n cX9_n 5 (some .int), .fieldLink RX9 13 "FuseBenchModel" "cells" "[I"] ++ wsX90)
def wsX9_isPrime : List Cond := .code yX9_isPrime cX9_isPrime 1 (some .boolean) :: ([])
def wsX9_isMap : List Cond := .code yX9_isMap cX9_isMap 7 (some .boolean) :: ([.fieldLink RX9 7 "FuseBenchModel" "ranks" "[I", .fieldLink RX9 41 "FuseBenchModel" "u" "[I", .methodLink RX9 74 yX9_n, .instanceMethod yX9_n, .selects RX9 yX9_n yX9_n, .initialized RX9, .code yX9_n cX9_n 5 (some .int), .fieldLink RX9 13 "FuseBenchModel" "cells" "[I"] ++ wsX90)
def wsX9_findMaps : List Cond := .code yX9_findMaps cX9_findMaps 9 (some .int) :: ([.fieldLink RX9 7 "FuseBenchModel" "ranks" "[I", .fieldLink RX9 41 "FuseBenchModel" "u" "[I", .methodLink RX9 168 yX9_isMap, .instanceMethod yX9_isMap, .selects RX9 yX9_isMap yX9_isMap, .initialized RX9, .code yX9_isMap cX9_isMap 7 (some .boolean), .methodLink RX9 74 yX9_n, .instanceMethod yX9_n, .selects RX9 yX9_n yX9_n, .code yX9_n cX9_n 5 (some .int), .fieldLink RX9 13 "FuseBenchModel" "cells" "[I"] ++ wsX90)
def wsX9_maps_r1 : List Cond := [Cond.methodLink RX9 64 yX9_noTable, Cond.static yX9_noTable, Cond.initialized RX9, Cond.code yX9_noTable cX9_noTable 1 (some .boolean), Cond.constantLong RX9 58 (5), Cond.methodLink RX9 60 yX9_in, Cond.static yX9_in, Cond.code yX9_in cX9_in 6 (some .boolean), Cond.methodLink RX9 171 yX9_isPrime, Cond.static yX9_isPrime, Cond.code yX9_isPrime cX9_isPrime 1 (some .boolean), Cond.methodLink RX9 96 yX9_isRight, Cond.instanceMethod yX9_isRight, Cond.selects RX9 yX9_isRight yX9_isRight, Cond.code yX9_isRight cX9_isRight 4 (some .boolean), Cond.methodLink RX9 82 yX9_breaksUnit, Cond.instanceMethod yX9_breaksUnit, Cond.selects RX9 yX9_breaksUnit yX9_breaksUnit, Cond.code yX9_breaksUnit cX9_breaksUnit 5 (some .boolean), Cond.fieldLink RX9 7 "FuseBenchModel" "ranks" "[I", Cond.methodLink RX9 74 yX9_n, Cond.instanceMethod yX9_n, Cond.selects RX9 yX9_n yX9_n, Cond.code yX9_n cX9_n 5 (some .int)]
def wsX9_maps_r2 : List Cond := [Cond.fieldLink RX9 13 "FuseBenchModel" "cells" "[I", Cond.methodLink RX9 78 yX9_tell, Cond.instanceMethod yX9_tell, Cond.selects RX9 yX9_tell yX9_tell, Cond.code yX9_tell cX9_tell 6 (some .boolean), Cond.fieldLink RX9 16 "FuseBenchModel" "found" "[I", Cond.methodLink RX9 85 yX9_breaksThree, Cond.instanceMethod yX9_breaksThree, Cond.selects RX9 yX9_breaksThree yX9_breaksThree, Cond.code yX9_breaksThree cX9_breaksThree 9 (some .boolean), Cond.fieldLink RX9 19 "FuseBenchModel" "partners" "[I", Cond.methodLink RX9 88 yX9_breaksPartners, Cond.instanceMethod yX9_breaksPartners, Cond.selects RX9 yX9_breaksPartners yX9_breaksPartners, Cond.code yX9_breaksPartners cX9_breaksPartners 6 (some .boolean), Cond.methodLink RX9 91 yX9_breaksSums, Cond.instanceMethod yX9_breaksSums, Cond.selects RX9 yX9_breaksSums yX9_breaksSums, Cond.code yX9_breaksSums cX9_breaksSums 10 (some .boolean), Cond.methodLink RX9 174 yX9_findMaps, Cond.instanceMethod yX9_findMaps, Cond.selects RX9 yX9_findMaps yX9_findMaps, Cond.code yX9_findMaps cX9_findMaps 9 (some .int), Cond.fieldLink RX9 41 "FuseBenchModel" "u" "[I"]
def wsX9_maps_r3 : List Cond := [Cond.methodLink RX9 168 yX9_isMap, Cond.instanceMethod yX9_isMap, Cond.selects RX9 yX9_isMap yX9_isMap, Cond.code yX9_isMap cX9_isMap 7 (some .boolean)]
def wsX9_maps : List Cond := .code yX9_maps cX9_maps 3 (some .int) :: ((wsX9_maps_r1 ++ (wsX9_maps_r2 ++ wsX9_maps_r3)) ++ wsX90)
def wsX9_map_r1 : List Cond := [Cond.constant RX9 138 (100000), Cond.fieldLink RX9 41 "FuseBenchModel" "u" "[I", Cond.methodLink RX9 64 yX9_noTable, Cond.static yX9_noTable, Cond.initialized RX9, Cond.code yX9_noTable cX9_noTable 1 (some .boolean), Cond.constantLong RX9 58 (5), Cond.methodLink RX9 60 yX9_in, Cond.static yX9_in, Cond.code yX9_in cX9_in 6 (some .boolean), Cond.methodLink RX9 171 yX9_isPrime, Cond.static yX9_isPrime, Cond.code yX9_isPrime cX9_isPrime 1 (some .boolean), Cond.methodLink RX9 68 yX9_isKind, Cond.instanceMethod yX9_isKind, Cond.selects RX9 yX9_isKind yX9_isKind, Cond.code yX9_isKind cX9_isKind 3 (some .boolean), Cond.fieldLink RX9 7 "FuseBenchModel" "ranks" "[I", Cond.methodLink RX9 96 yX9_isRight, Cond.instanceMethod yX9_isRight, Cond.selects RX9 yX9_isRight yX9_isRight, Cond.code yX9_isRight cX9_isRight 4 (some .boolean), Cond.methodLink RX9 82 yX9_breaksUnit, Cond.instanceMethod yX9_breaksUnit]
def wsX9_map_r2 : List Cond := [Cond.selects RX9 yX9_breaksUnit yX9_breaksUnit, Cond.code yX9_breaksUnit cX9_breaksUnit 5 (some .boolean), Cond.methodLink RX9 74 yX9_n, Cond.instanceMethod yX9_n, Cond.selects RX9 yX9_n yX9_n, Cond.code yX9_n cX9_n 5 (some .int), Cond.fieldLink RX9 13 "FuseBenchModel" "cells" "[I", Cond.methodLink RX9 78 yX9_tell, Cond.instanceMethod yX9_tell, Cond.selects RX9 yX9_tell yX9_tell, Cond.code yX9_tell cX9_tell 6 (some .boolean), Cond.fieldLink RX9 16 "FuseBenchModel" "found" "[I", Cond.methodLink RX9 85 yX9_breaksThree, Cond.instanceMethod yX9_breaksThree, Cond.selects RX9 yX9_breaksThree yX9_breaksThree, Cond.code yX9_breaksThree cX9_breaksThree 9 (some .boolean), Cond.fieldLink RX9 19 "FuseBenchModel" "partners" "[I", Cond.methodLink RX9 88 yX9_breaksPartners, Cond.instanceMethod yX9_breaksPartners, Cond.selects RX9 yX9_breaksPartners yX9_breaksPartners, Cond.code yX9_breaksPartners cX9_breaksPartners 6 (some .boolean), Cond.methodLink RX9 91 yX9_breaksSums, Cond.instanceMethod yX9_breaksSums, Cond.selects RX9 yX9_breaksSums yX9_breaksSums]
def wsX9_map_r3 : List Cond := [Cond.code yX9_breaksSums cX9_breaksSums 10 (some .boolean), Cond.methodLink RX9 174 yX9_findMaps, Cond.instanceMethod yX9_findMaps, Cond.selects RX9 yX9_findMaps yX9_findMaps, Cond.code yX9_findMaps cX9_findMaps 9 (some .int), Cond.methodLink RX9 168 yX9_isMap, Cond.instanceMethod yX9_isMap, Cond.selects RX9 yX9_isMap yX9_isMap, Cond.code yX9_isMap cX9_isMap 7 (some .boolean)]
def wsX9_map : List Cond := .code yX9_map cX9_map 5 (some .int) :: ((wsX9_map_r1 ++ (wsX9_map_r2 ++ wsX9_map_r3)) ++ wsX90)
def wsX9_layLines : List Cond := .code yX9_layLines cX9_layLines 7 none :: ([.fieldLink RX9 7 "FuseBenchModel" "ranks" "[I", .fieldLink RX9 44 "FuseBenchModel" "lines" "[I", .methodLink RX9 74 yX9_n, .instanceMethod yX9_n, .selects RX9 yX9_n yX9_n, .initialized RX9, .code yX9_n cX9_n 5 (some .int), .fieldLink RX9 13 "FuseBenchModel" "cells" "[I"] ++ wsX90)
def wsX9_layTurn : List Cond := .code yX9_layTurn cX9_layTurn 7 (some .int) :: ([.fieldLink RX9 47 "FuseBenchModel" "turn" "[I"] ++ wsX90)
def wsX9_isAbove : List Cond := .code yX9_isAbove cX9_isAbove 14 (some .boolean) :: ([.fieldLink RX9 44 "FuseBenchModel" "lines" "[I", .fieldLink RX9 47 "FuseBenchModel" "turn" "[I", .constantLong RX9 180 (1000000), .methodLink RX9 177 yX9_layTurn, .instanceMethod yX9_layTurn, .selects RX9 yX9_layTurn yX9_layTurn, .initialized RX9, .code yX9_layTurn cX9_layTurn 7 (some .int)] ++ wsX90)
def wsX9_isBelow : List Cond := .code yX9_isBelow cX9_isBelow 5 (some .boolean) :: ([.fieldLink RX9 7 "FuseBenchModel" "ranks" "[I", .methodLink RX9 182 yX9_layLines, .instanceMethod yX9_layLines, .selects RX9 yX9_layLines yX9_layLines, .initialized RX9, .code yX9_layLines cX9_layLines 7 none, .fieldLink RX9 44 "FuseBenchModel" "lines" "[I", .methodLink RX9 74 yX9_n, .instanceMethod yX9_n, .selects RX9 yX9_n yX9_n, .code yX9_n cX9_n 5 (some .int), .fieldLink RX9 13 "FuseBenchModel" "cells" "[I", .methodLink RX9 185 yX9_isAbove, .instanceMethod yX9_isAbove, .selects RX9 yX9_isAbove yX9_isAbove, .code yX9_isAbove cX9_isAbove 14 (some .boolean), .fieldLink RX9 47 "FuseBenchModel" "turn" "[I", .constantLong RX9 180 (1000000), .methodLink RX9 177 yX9_layTurn, .instanceMethod yX9_layTurn, .selects RX9 yX9_layTurn yX9_layTurn, .code yX9_layTurn cX9_layTurn 7 (some .int)] ++ wsX90)
def wsX9_size_r1 : List Cond := [Cond.methodLink RX9 64 yX9_noTable, Cond.static yX9_noTable, Cond.initialized RX9, Cond.code yX9_noTable cX9_noTable 1 (some .boolean), Cond.constantLong RX9 58 (5), Cond.methodLink RX9 60 yX9_in, Cond.static yX9_in, Cond.code yX9_in cX9_in 6 (some .boolean), Cond.methodLink RX9 96 yX9_isRight, Cond.instanceMethod yX9_isRight, Cond.selects RX9 yX9_isRight yX9_isRight, Cond.code yX9_isRight cX9_isRight 4 (some .boolean), Cond.methodLink RX9 82 yX9_breaksUnit, Cond.instanceMethod yX9_breaksUnit, Cond.selects RX9 yX9_breaksUnit yX9_breaksUnit, Cond.code yX9_breaksUnit cX9_breaksUnit 5 (some .boolean), Cond.fieldLink RX9 7 "FuseBenchModel" "ranks" "[I", Cond.methodLink RX9 74 yX9_n, Cond.instanceMethod yX9_n, Cond.selects RX9 yX9_n yX9_n, Cond.code yX9_n cX9_n 5 (some .int), Cond.fieldLink RX9 13 "FuseBenchModel" "cells" "[I", Cond.methodLink RX9 78 yX9_tell, Cond.instanceMethod yX9_tell]
def wsX9_size_r2 : List Cond := [Cond.selects RX9 yX9_tell yX9_tell, Cond.code yX9_tell cX9_tell 6 (some .boolean), Cond.fieldLink RX9 16 "FuseBenchModel" "found" "[I", Cond.methodLink RX9 85 yX9_breaksThree, Cond.instanceMethod yX9_breaksThree, Cond.selects RX9 yX9_breaksThree yX9_breaksThree, Cond.code yX9_breaksThree cX9_breaksThree 9 (some .boolean), Cond.fieldLink RX9 19 "FuseBenchModel" "partners" "[I", Cond.methodLink RX9 88 yX9_breaksPartners, Cond.instanceMethod yX9_breaksPartners, Cond.selects RX9 yX9_breaksPartners yX9_breaksPartners, Cond.code yX9_breaksPartners cX9_breaksPartners 6 (some .boolean), Cond.methodLink RX9 91 yX9_breaksSums, Cond.instanceMethod yX9_breaksSums, Cond.selects RX9 yX9_breaksSums yX9_breaksSums, Cond.code yX9_breaksSums cX9_breaksSums 10 (some .boolean), Cond.methodLink RX9 188 yX9_isBelow, Cond.instanceMethod yX9_isBelow, Cond.selects RX9 yX9_isBelow yX9_isBelow, Cond.code yX9_isBelow cX9_isBelow 5 (some .boolean), Cond.methodLink RX9 182 yX9_layLines, Cond.instanceMethod yX9_layLines, Cond.selects RX9 yX9_layLines yX9_layLines, Cond.code yX9_layLines cX9_layLines 7 none]
def wsX9_size_r3 : List Cond := [Cond.fieldLink RX9 44 "FuseBenchModel" "lines" "[I", Cond.methodLink RX9 185 yX9_isAbove, Cond.instanceMethod yX9_isAbove, Cond.selects RX9 yX9_isAbove yX9_isAbove, Cond.code yX9_isAbove cX9_isAbove 14 (some .boolean), Cond.fieldLink RX9 47 "FuseBenchModel" "turn" "[I", Cond.constantLong RX9 180 (1000000), Cond.methodLink RX9 177 yX9_layTurn, Cond.instanceMethod yX9_layTurn, Cond.selects RX9 yX9_layTurn yX9_layTurn, Cond.code yX9_layTurn cX9_layTurn 7 (some .int)]
def wsX9_size : List Cond := .code yX9_size cX9_size 5 (some .int) :: ((wsX9_size_r1 ++ (wsX9_size_r2 ++ wsX9_size_r3)) ++ wsX90)
def wsX9_digest : List Cond := .code yX9_digest cX9_digest 6 (some .long) :: ([.constantLong RX9 191 (223), .fieldLink RX9 7 "FuseBenchModel" "ranks" "[I", .constantLong RX9 193 (31), .fieldLink RX9 139 "FuseBenchModel" "letters" "I", .fieldLink RX9 28 "FuseBenchModel" "word" "[I", .methodLink RX9 74 yX9_n, .instanceMethod yX9_n, .selects RX9 yX9_n yX9_n, .initialized RX9, .code yX9_n cX9_n 5 (some .int), .fieldLink RX9 13 "FuseBenchModel" "cells" "[I"] ++ wsX90)
def wsJ9_max_7cf53 : List Cond := .code yJ9_max_7cf53 cJ9_max_7cf53 2 (some .int) :: ([])
def wsL_law_r1 : List Cond := [Cond.classLink RL 7 RX8, Cond.instantiable RX8 10, Cond.initialized RX8, Cond.classLink RL 10 RX9, Cond.instantiable RX9 15, Cond.initialized RX9, Cond.methodLink RL 9 yX8_init, Cond.instanceMethod yX8_init, Cond.code yX8_init cX8_init 2 none, Cond.methodLink RX8 1 objectInit, Cond.instanceMethod objectInit, Cond.code objectInit ⟨#[0xb1]⟩ 1 none, Cond.classLink RX8 9 RX7, Cond.fieldLink RX8 11 "FuseBench" "tables" "[LFuseBench$Table;", Cond.instantiable RX7 2, Cond.initialized RX7, Cond.fieldLink RX8 16 "FuseBench" "spare" "LFuseBench$Table;", Cond.classLink RX8 20 RX1, Cond.instantiable RX1 3, Cond.initialized RX1, Cond.fieldLink RX8 23 "FuseBench" "laws" "LFuseBench$Laws;", Cond.classLink RX8 27 RX6, Cond.instantiable RX6 2, Cond.initialized RX6]
def wsL_law_r2 : List Cond := [Cond.fieldLink RX8 30 "FuseBench" "sum" "LFuseBench$Sum;", Cond.classLink RX8 34 RX2, Cond.instantiable RX2 10, Cond.initialized RX2, Cond.fieldLink RX8 37 "FuseBench" "listing" "LFuseBench$Listing;", Cond.classLink RX8 41 RX3, Cond.instantiable RX3 1, Cond.initialized RX3, Cond.fieldLink RX8 44 "FuseBench" "namings" "LFuseBench$Namings;", Cond.classLink RX8 48 RX4, Cond.instantiable RX4 2, Cond.initialized RX4, Cond.fieldLink RX8 51 "FuseBench" "remainders" "LFuseBench$Remainders;", Cond.classLink RX8 55 RX0, Cond.instantiable RX0 2, Cond.initialized RX0, Cond.fieldLink RX8 58 "FuseBench" "extent" "LFuseBench$Extent;", Cond.arrayClass .int, Cond.fieldLink RX8 62 "FuseBench" "word" "[I", Cond.methodLink RX8 15 yX7_init, Cond.instanceMethod yX7_init, Cond.code yX7_init cX7_init 1 none, Cond.methodLink RX7 3 objectInit, Cond.fieldLink RX7 11 "FuseBench$Table" "numbers" "[I"]
def wsL_law_r3 : List Cond := [Cond.methodLink RX7 15 yX7_reset, Cond.instanceMethod yX7_reset, Cond.selects RX7 yX7_reset yX7_reset, Cond.code yX7_reset cX7_reset 3 none, Cond.fieldLink RX7 19 "FuseBench$Table" "kinds" "I", Cond.methodLink RX7 27 yJ7_fill_53178, Cond.static yJ7_fill_53178, Cond.initialized RJ7, Cond.code yJ7_fill_53178 cJ7_fill_53178 4 none, Cond.methodLink RX7 33 yX7_setNumber, Cond.instanceMethod yX7_setNumber, Cond.selects RX7 yX7_setNumber yX7_setNumber, Cond.code yX7_setNumber cX7_setNumber 5 none, Cond.methodLink RX7 23 yX7_placeOf, Cond.static yX7_placeOf, Cond.code yX7_placeOf cX7_placeOf 3 (some .int), Cond.instanceMethod yX1_init, Cond.code yX1_init cX1_init 1 none, Cond.methodLink RX1 3 objectInit, Cond.fieldLink RX1 9 "FuseBench$Laws" "place" "[I", Cond.fieldLink RX1 15 "FuseBench$Laws" "partners" "[I", Cond.instanceMethod yX6_init, Cond.code yX6_init cX6_init 1 none, Cond.methodLink RX6 3 objectInit]
def wsL_law_r4 : List Cond := [Cond.arrayClass .long, Cond.fieldLink RX6 9 "FuseBench$Sum" "times" "[J", Cond.fieldLink RX6 15 "FuseBench$Sum" "next" "[J", Cond.instanceMethod yX2_init, Cond.code yX2_init cX2_init 1 none, Cond.methodLink RX2 5 objectInit, Cond.fieldLink RX2 13 "FuseBench$Listing" "freeAt" "[I", Cond.fieldLink RX2 17 "FuseBench$Listing" "row" "[I", Cond.fieldLink RX2 20 "FuseBench$Listing" "found" "[I", Cond.classLink RX2 11 RX7, Cond.fieldLink RX2 24 "FuseBench$Listing" "candidate" "LFuseBench$Table;", Cond.classLink RX2 28 RX1, Cond.fieldLink RX2 31 "FuseBench$Listing" "laws" "LFuseBench$Laws;", Cond.methodLink RX2 23 yX7_init, Cond.instanceMethod yX3_init, Cond.code yX3_init cX3_init 1 none, Cond.methodLink RX3 3 objectInit, Cond.fieldLink RX3 9 "FuseBench$Namings" "names" "[I", Cond.instanceMethod yX4_init, Cond.code yX4_init cX4_init 1 none, Cond.methodLink RX4 3 objectInit, Cond.fieldLink RX4 9 "FuseBench$Remainders" "row" "[I", Cond.instanceMethod yX0_init, Cond.code yX0_init cX0_init 1 none]
def wsL_law_r5 : List Cond := [Cond.methodLink RX0 3 objectInit, Cond.fieldLink RX0 9 "FuseBench$Extent" "sums" "[I", Cond.fieldLink RX0 15 "FuseBench$Extent" "minors" "[J", Cond.methodLink RL 12 yX9_init, Cond.instanceMethod yX9_init, Cond.code yX9_init cX9_init 2 none, Cond.methodLink RX9 1 objectInit, Cond.fieldLink RX9 7 "FuseBenchModel" "ranks" "[I", Cond.fieldLink RX9 13 "FuseBenchModel" "cells" "[I", Cond.fieldLink RX9 16 "FuseBenchModel" "found" "[I", Cond.fieldLink RX9 19 "FuseBenchModel" "partners" "[I", Cond.fieldLink RX9 22 "FuseBenchModel" "like" "[I", Cond.fieldLink RX9 25 "FuseBenchModel" "firsts" "[I", Cond.fieldLink RX9 28 "FuseBenchModel" "word" "[I", Cond.fieldLink RX9 31 "FuseBenchModel" "sum" "[J", Cond.fieldLink RX9 35 "FuseBenchModel" "next" "[J", Cond.fieldLink RX9 38 "FuseBenchModel" "name" "[I", Cond.fieldLink RX9 41 "FuseBenchModel" "u" "[I", Cond.fieldLink RX9 44 "FuseBenchModel" "lines" "[I", Cond.fieldLink RX9 47 "FuseBenchModel" "turn" "[I", Cond.methodLink RX9 50 yX9_begin, Cond.instanceMethod yX9_begin, Cond.selects RX9 yX9_begin yX9_begin, Cond.code yX9_begin cX9_begin 4 none]
def wsL_law_r6 : List Cond := [Cond.methodLink RX9 54 yX9_lay, Cond.instanceMethod yX9_lay, Cond.selects RX9 yX9_lay yX9_lay, Cond.code yX9_lay cX9_lay 6 none, Cond.methodLink RL 13 yX8_rank, Cond.instanceMethod yX8_rank, Cond.selects RX8 yX8_rank yX8_rank, Cond.code yX8_rank cX8_rank 3 (some .int), Cond.methodLink RX8 66 yX8_isTable, Cond.static yX8_isTable, Cond.code yX8_isTable cX8_isTable 1 (some .boolean), Cond.methodLink RX8 70 yX7_reset, Cond.methodLink RL 17 yX9_rank, Cond.instanceMethod yX9_rank, Cond.selects RX9 yX9_rank yX9_rank, Cond.code yX9_rank cX9_rank 3 (some .int), Cond.constantLong RX9 58 (5), Cond.methodLink RX9 64 yX9_noTable, Cond.static yX9_noTable, Cond.code yX9_noTable cX9_noTable 1 (some .boolean), Cond.methodLink RX9 60 yX9_in, Cond.static yX9_in, Cond.code yX9_in cX9_in 6 (some .boolean), Cond.methodLink RL 18 yX8_put]
def wsL_law_r7 : List Cond := [Cond.instanceMethod yX8_put, Cond.selects RX8 yX8_put yX8_put, Cond.code yX8_put cX8_put 7 (some .int), Cond.methodLink RX8 74 yX8_isPlace, Cond.instanceMethod yX8_isPlace, Cond.selects RX8 yX8_isPlace yX8_isPlace, Cond.code yX8_isPlace cX8_isPlace 5 (some .boolean), Cond.methodLink RX8 97 yX8_isKind, Cond.instanceMethod yX8_isKind, Cond.selects RX8 yX8_isKind yX8_isKind, Cond.code yX8_isKind cX8_isKind 3 (some .boolean), Cond.methodLink RX8 203 yX7_has, Cond.instanceMethod yX7_has, Cond.selects RX7 yX7_has yX7_has, Cond.code yX7_has cX7_has 2 (some .boolean), Cond.methodLink RX8 78 yX7_number, Cond.instanceMethod yX7_number, Cond.selects RX7 yX7_number yX7_number, Cond.code yX7_number cX7_number 4 (some .int), Cond.methodLink RX8 82 yX7_setNumber, Cond.methodLink RL 22 yX9_put, Cond.instanceMethod yX9_put, Cond.selects RX9 yX9_put yX9_put, Cond.code yX9_put cX9_put 7 (some .int)]
def wsL_law_r8 : List Cond := [Cond.constantLong RX9 72 (9), Cond.methodLink RX9 68 yX9_isKind, Cond.instanceMethod yX9_isKind, Cond.selects RX9 yX9_isKind yX9_isKind, Cond.code yX9_isKind cX9_isKind 3 (some .boolean), Cond.methodLink RX9 74 yX9_n, Cond.instanceMethod yX9_n, Cond.selects RX9 yX9_n yX9_n, Cond.code yX9_n cX9_n 5 (some .int), Cond.methodLink RL 23 yX8_at, Cond.instanceMethod yX8_at, Cond.selects RX8 yX8_at yX8_at, Cond.code yX8_at cX8_at 5 (some .int), Cond.methodLink RL 27 yX9_at, Cond.instanceMethod yX9_at, Cond.selects RX9 yX9_at yX9_at, Cond.code yX9_at cX9_at 5 (some .int), Cond.methodLink RL 28 yX8_fault, Cond.instanceMethod yX8_fault, Cond.selects RX8 yX8_fault yX8_fault, Cond.code yX8_fault cX8_fault 3 (some .int), Cond.fieldLink RX8 90 "FuseBench$Laws" "broken" "I", Cond.fieldLink RX8 94 "FuseBench$Laws" "place" "[I", Cond.methodLink RX8 86 yX1_allHold]
def wsL_law_r9 : List Cond := [Cond.instanceMethod yX1_allHold, Cond.selects RX1 yX1_allHold yX1_allHold, Cond.code yX1_allHold cX1_allHold 2 (some .boolean), Cond.fieldLink RX1 18 "FuseBench$Laws" "broken" "I", Cond.methodLink RX1 22 yJ7_fill_53178, Cond.methodLink RX1 28 yX1_unitHolds, Cond.instanceMethod yX1_unitHolds, Cond.selects RX1 yX1_unitHolds yX1_unitHolds, Cond.code yX1_unitHolds cX1_unitHolds 5 (some .boolean), Cond.fieldLink RX1 44 "FuseBench$Table" "kinds" "I", Cond.methodLink RX1 49 yX7_number, Cond.methodLink RX1 53 yX1_breaks, Cond.instanceMethod yX1_breaks, Cond.selects RX1 yX1_breaks yX1_breaks, Cond.code yX1_breaks cX1_breaks 6 (some .boolean), Cond.methodLink RX1 32 yX1_eitherWayHolds, Cond.instanceMethod yX1_eitherWayHolds, Cond.selects RX1 yX1_eitherWayHolds yX1_eitherWayHolds, Cond.code yX1_eitherWayHolds cX1_eitherWayHolds 5 (some .boolean), Cond.methodLink RX1 35 yX1_partnersHold, Cond.instanceMethod yX1_partnersHold, Cond.selects RX1 yX1_partnersHold yX1_partnersHold, Cond.code yX1_partnersHold cX1_partnersHold 5 (some .boolean), Cond.methodLink RX1 38 yX1_turnedHolds]
def wsL_law_r10 : List Cond := [Cond.instanceMethod yX1_turnedHolds, Cond.selects RX1 yX1_turnedHolds yX1_turnedHolds, Cond.code yX1_turnedHolds cX1_turnedHolds 5 (some .boolean), Cond.methodLink RX1 41 yX1_threeHolds, Cond.instanceMethod yX1_threeHolds, Cond.selects RX1 yX1_threeHolds yX1_threeHolds, Cond.code yX1_threeHolds cX1_threeHolds 6 (some .boolean), Cond.methodLink RX1 57 yX1_firstUnlike, Cond.static yX1_firstUnlike, Cond.code yX1_firstUnlike cX1_firstUnlike 7 (some .int), Cond.methodLink RL 31 yX9_fault, Cond.instanceMethod yX9_fault, Cond.selects RX9 yX9_fault yX9_fault, Cond.code yX9_fault cX9_fault 4 (some .int), Cond.constantLong RX9 94 (4), Cond.methodLink RX9 96 yX9_isRight, Cond.instanceMethod yX9_isRight, Cond.selects RX9 yX9_isRight yX9_isRight, Cond.code yX9_isRight cX9_isRight 4 (some .boolean), Cond.methodLink RX9 82 yX9_breaksUnit, Cond.instanceMethod yX9_breaksUnit, Cond.selects RX9 yX9_breaksUnit yX9_breaksUnit, Cond.code yX9_breaksUnit cX9_breaksUnit 5 (some .boolean), Cond.methodLink RX9 78 yX9_tell]
def wsL_law_r11 : List Cond := [Cond.instanceMethod yX9_tell, Cond.selects RX9 yX9_tell yX9_tell, Cond.code yX9_tell cX9_tell 6 (some .boolean), Cond.methodLink RX9 85 yX9_breaksThree, Cond.instanceMethod yX9_breaksThree, Cond.selects RX9 yX9_breaksThree yX9_breaksThree, Cond.code yX9_breaksThree cX9_breaksThree 9 (some .boolean), Cond.methodLink RX9 88 yX9_breaksPartners, Cond.instanceMethod yX9_breaksPartners, Cond.selects RX9 yX9_breaksPartners yX9_breaksPartners, Cond.code yX9_breaksPartners cX9_breaksPartners 6 (some .boolean), Cond.methodLink RX9 91 yX9_breaksSums, Cond.instanceMethod yX9_breaksSums, Cond.selects RX9 yX9_breaksSums yX9_breaksSums, Cond.code yX9_breaksSums cX9_breaksSums 10 (some .boolean), Cond.methodLink RL 32 yX8_partner, Cond.instanceMethod yX8_partner, Cond.selects RX8 yX8_partner yX8_partner, Cond.code yX8_partner cX8_partner 3 (some .int), Cond.fieldLink RX8 104 "FuseBench$Laws" "partners" "[I", Cond.methodLink RX8 101 yX8_isRight, Cond.instanceMethod yX8_isRight, Cond.selects RX8 yX8_isRight yX8_isRight, Cond.code yX8_isRight cX8_isRight 2 (some .boolean)]
def wsL_law_r12 : List Cond := [Cond.methodLink RL 35 yX9_partner, Cond.instanceMethod yX9_partner, Cond.selects RX9 yX9_partner yX9_partner, Cond.code yX9_partner cX9_partner 3 (some .int), Cond.methodLink RL 36 yX8_copy, Cond.instanceMethod yX8_copy, Cond.selects RX8 yX8_copy yX8_copy, Cond.code yX8_copy cX8_copy 3 (some .int), Cond.fieldLink RX8 111 "FuseBench$Table" "kinds" "I", Cond.methodLink RX8 107 yX7_become, Cond.instanceMethod yX7_become, Cond.selects RX7 yX7_become yX7_become, Cond.code yX7_become cX7_become 2 none, Cond.methodLink RX7 37 arraycopyName, Cond.native arraycopyName, Cond.static arraycopyName, Cond.initialized "java/lang/System", Cond.methodLink RL 39 yX9_copy, Cond.instanceMethod yX9_copy, Cond.selects RX9 yX9_copy yX9_copy, Cond.code yX9_copy cX9_copy 3 (some .int), Cond.methodLink RX9 99 yX9_carry, Cond.instanceMethod yX9_carry, Cond.selects RX9 yX9_carry yX9_carry]
def wsL_law_r13 : List Cond := [Cond.code yX9_carry cX9_carry 4 none, Cond.methodLink RL 40 yX8_group, Cond.instanceMethod yX8_group, Cond.selects RX8 yX8_group yX8_group, Cond.code yX8_group cX8_group 3 (some .int), Cond.methodLink RX8 114 yX7_fuseAsGroup, Cond.instanceMethod yX7_fuseAsGroup, Cond.selects RX7 yX7_fuseAsGroup yX7_fuseAsGroup, Cond.code yX7_fuseAsGroup cX7_fuseAsGroup 5 none, Cond.methodLink RL 43 yX9_group, Cond.instanceMethod yX9_group, Cond.selects RX9 yX9_group yX9_group, Cond.code yX9_group cX9_group 3 (some .int), Cond.methodLink RX9 102 yX9_layGroup, Cond.instanceMethod yX9_layGroup, Cond.selects RX9 yX9_layGroup yX9_layGroup, Cond.code yX9_layGroup cX9_layGroup 5 none, Cond.methodLink RL 44 yX8_near, Cond.instanceMethod yX8_near, Cond.selects RX8 yX8_near yX8_near, Cond.code yX8_near cX8_near 5 (some .int), Cond.methodLink RL 48 yX9_near, Cond.instanceMethod yX9_near, Cond.selects RX9 yX9_near yX9_near]
def wsL_law_r14 : List Cond := [Cond.code yX9_near cX9_near 5 (some .int), Cond.methodLink RL 49 yX8_together, Cond.instanceMethod yX8_together, Cond.selects RX8 yX8_together yX8_together, Cond.code yX8_together cX8_together 4 (some .int), Cond.methodLink RX8 117 yX7_becomeProduct, Cond.instanceMethod yX7_becomeProduct, Cond.selects RX7 yX7_becomeProduct yX7_becomeProduct, Cond.code yX7_becomeProduct cX7_becomeProduct 7 (some .boolean), Cond.methodLink RX7 43 yX7_number, Cond.methodLink RX7 46 yX7_placeBlock, Cond.instanceMethod yX7_placeBlock, Cond.selects RX7 yX7_placeBlock yX7_placeBlock, Cond.code yX7_placeBlock cX7_placeBlock 10 (some .boolean), Cond.methodLink RL 52 yX9_together, Cond.instanceMethod yX9_together, Cond.selects RX9 yX9_together yX9_together, Cond.code yX9_together cX9_together 10 (some .int), Cond.methodLink RL 53 yX8_list, Cond.instanceMethod yX8_list, Cond.selects RX8 yX8_list yX8_list, Cond.code yX8_list cX8_list 4 (some .int), Cond.methodLink RX8 121 yX8_isListed, Cond.static yX8_isListed]
def wsL_law_r15 : List Cond := [Cond.code yX8_isListed cX8_isListed 5 (some .boolean), Cond.methodLink RX8 125 yX2_howMany, Cond.instanceMethod yX2_howMany, Cond.selects RX2 yX2_howMany yX2_howMany, Cond.code yX2_howMany cX2_howMany 4 (some .int), Cond.fieldLink RX2 35 "FuseBench$Listing" "kinds" "I", Cond.fieldLink RX2 39 "FuseBench$Listing" "bound" "I", Cond.fieldLink RX2 42 "FuseBench$Listing" "pairs" "I", Cond.fieldLink RX2 51 "FuseBench$Listing" "count" "I", Cond.methodLink RX2 45 yX2_findFree, Cond.instanceMethod yX2_findFree, Cond.selects RX2 yX2_findFree yX2_findFree, Cond.code yX2_findFree cX2_findFree 4 none, Cond.fieldLink RX2 54 "FuseBench$Listing" "free" "I", Cond.methodLink RX2 64 yJ7_fill_53178, Cond.methodLink RX2 70 yX7_placeOf, Cond.methodLink RX2 74 yX2_markAlike, Cond.instanceMethod yX2_markAlike, Cond.selects RX2 yX2_markAlike yX2_markAlike, Cond.code yX2_markAlike cX2_markAlike 9 none, Cond.methodLink RX2 78 yX2_partnerOf, Cond.instanceMethod yX2_partnerOf, Cond.selects RX2 yX2_partnerOf yX2_partnerOf, Cond.code yX2_partnerOf cX2_partnerOf 2 (some .int)]
def wsL_law_r16 : List Cond := [Cond.methodLink RX2 48 yX2_findRight, Cond.instanceMethod yX2_findRight, Cond.selects RX2 yX2_findRight yX2_findRight, Cond.code yX2_findRight cX2_findRight 3 none, Cond.methodLink RX2 57 yX2_buildCandidate, Cond.instanceMethod yX2_buildCandidate, Cond.selects RX2 yX2_buildCandidate yX2_buildCandidate, Cond.code yX2_buildCandidate cX2_buildCandidate 5 none, Cond.methodLink RX2 94 yX7_reset, Cond.methodLink RX2 98 yX7_setNumber, Cond.methodLink RX2 82 yX1_threeHolds, Cond.methodLink RX2 86 yX2_packedRow, Cond.instanceMethod yX2_packedRow, Cond.selects RX2 yX2_packedRow yX2_packedRow, Cond.code yX2_packedRow cX2_packedRow 3 (some .int), Cond.methodLink RX2 90 yX2_nextRow, Cond.instanceMethod yX2_nextRow, Cond.selects RX2 yX2_nextRow yX2_nextRow, Cond.code yX2_nextRow cX2_nextRow 2 (some .boolean), Cond.methodLink RL 56 yX9_list, Cond.instanceMethod yX9_list, Cond.selects RX9 yX9_list yX9_list, Cond.code yX9_list cX9_list 4 (some .int), Cond.methodLink RX9 131 yX9_isListed]
def wsL_law_r17 : List Cond := [Cond.static yX9_isListed, Cond.code yX9_isListed cX9_isListed 3 (some .boolean), Cond.constantLong RX9 120 (2), Cond.constantLong RX9 122 (3), Cond.methodLink RX9 135 yX9_goThrough, Cond.instanceMethod yX9_goThrough, Cond.selects RX9 yX9_goThrough yX9_goThrough, Cond.code yX9_goThrough cX9_goThrough 8 (some .int), Cond.fieldLink RX9 116 "FuseBenchModel" "firstMany" "I", Cond.methodLink RX9 124 yX9_findLike, Cond.instanceMethod yX9_findLike, Cond.selects RX9 yX9_findLike yX9_findLike, Cond.code yX9_findLike cX9_findLike 9 none, Cond.methodLink RX9 105 yX9_placeOf, Cond.static yX9_placeOf, Cond.code yX9_placeOf cX9_placeOf 3 (some .int), Cond.methodLink RX9 109 yX9_join, Cond.instanceMethod yX9_join, Cond.selects RX9 yX9_join yX9_join, Cond.code yX9_join cX9_join 5 (some .boolean), Cond.methodLink RX9 112 yX9_mate, Cond.static yX9_mate, Cond.code yX9_mate cX9_mate 2 (some .int), Cond.methodLink RX9 127 yX9_layOut]
def wsL_law_r18 : List Cond := [Cond.instanceMethod yX9_layOut, Cond.selects RX9 yX9_layOut yX9_layOut, Cond.code yX9_layOut cX9_layOut 9 none, Cond.methodLink RL 57 yX8_take, Cond.instanceMethod yX8_take, Cond.selects RX8 yX8_take yX8_take, Cond.code yX8_take cX8_take 6 (some .int), Cond.methodLink RX8 128 yX2_write, Cond.instanceMethod yX2_write, Cond.selects RX2 yX2_write yX2_write, Cond.code yX2_write cX2_write 5 none, Cond.methodLink RX2 60 yX7_become, Cond.methodLink RL 60 yX9_take, Cond.instanceMethod yX9_take, Cond.selects RX9 yX9_take yX9_take, Cond.code yX9_take cX9_take 6 (some .int), Cond.constant RX9 138 (100000), Cond.methodLink RL 61 yX8_letter, Cond.instanceMethod yX8_letter, Cond.selects RX8 yX8_letter yX8_letter, Cond.code yX8_letter cX8_letter 2 (some .int), Cond.fieldLink RX8 132 "FuseBench" "wordLength" "I", Cond.methodLink RL 65 yX9_letter, Cond.instanceMethod yX9_letter]
def wsL_law_r19 : List Cond := [Cond.selects RX9 yX9_letter yX9_letter, Cond.code yX9_letter cX9_letter 2 (some .int), Cond.fieldLink RX9 139 "FuseBenchModel" "letters" "I", Cond.methodLink RL 66 yX8_empty, Cond.instanceMethod yX8_empty, Cond.selects RX8 yX8_empty yX8_empty, Cond.code yX8_empty cX8_empty 2 (some .int), Cond.methodLink RL 70 yX9_empty, Cond.instanceMethod yX9_empty, Cond.selects RX9 yX9_empty yX9_empty, Cond.code yX9_empty cX9_empty 2 (some .int), Cond.methodLink RL 71 yX8_fused, Cond.instanceMethod yX8_fused, Cond.selects RX8 yX8_fused yX8_fused, Cond.code yX8_fused cX8_fused 4 (some .long), Cond.constantLong RX8 138 (-2), Cond.fieldLink RX8 146 "FuseBench$Sum" "times" "[J", Cond.methodLink RX8 135 yX8_hasWord, Cond.instanceMethod yX8_hasWord, Cond.selects RX8 yX8_hasWord yX8_hasWord, Cond.code yX8_hasWord cX8_hasWord 3 (some .boolean), Cond.methodLink RX8 140 yX6_begin, Cond.instanceMethod yX6_begin, Cond.selects RX6 yX6_begin yX6_begin]
def wsL_law_r20 : List Cond := [Cond.code yX6_begin cX6_begin 2 none, Cond.methodLink RX6 18 yJ7_fill_d0a16, Cond.static yJ7_fill_d0a16, Cond.code yJ7_fill_d0a16 cJ7_fill_d0a16 5 none, Cond.methodLink RX8 143 yX6_fuseWith, Cond.instanceMethod yX6_fuseWith, Cond.selects RX6 yX6_fuseWith yX6_fuseWith, Cond.code yX6_fuseWith cX6_fuseWith 5 none, Cond.fieldLink RX6 24 "FuseBench$Table" "kinds" "I", Cond.methodLink RX6 34 arraycopyName, Cond.methodLink RX6 30 yX7_number, Cond.methodLink RL 75 yX9_fused, Cond.instanceMethod yX9_fused, Cond.selects RX9 yX9_fused yX9_fused, Cond.code yX9_fused cX9_fused 4 (some .long), Cond.constantLong RX9 142 (-2), Cond.methodLink RX9 144 yX9_start, Cond.instanceMethod yX9_start, Cond.selects RX9 yX9_start yX9_start, Cond.code yX9_start cX9_start 4 none, Cond.methodLink RX9 147 yX9_fuse, Cond.instanceMethod yX9_fuse, Cond.selects RX9 yX9_fuse yX9_fuse, Cond.code yX9_fuse cX9_fuse 5 none]
def wsL_law_r21 : List Cond := [Cond.methodLink RL 76 yX8_ways, Cond.instanceMethod yX8_ways, Cond.selects RX8 yX8_ways yX8_ways, Cond.code yX8_ways cX8_ways 7 (some .long), Cond.methodLink RL 80 yX9_ways, Cond.instanceMethod yX9_ways, Cond.selects RX9 yX9_ways yX9_ways, Cond.code yX9_ways cX9_ways 7 (some .long), Cond.constantLong RX9 150 (12), Cond.methodLink RL 81 yX8_closed, Cond.instanceMethod yX8_closed, Cond.selects RX8 yX8_closed yX8_closed, Cond.code yX8_closed cX8_closed 3 (some .int), Cond.methodLink RX8 150 yX8_isSet, Cond.instanceMethod yX8_isSet, Cond.selects RX8 yX8_isSet yX8_isSet, Cond.code yX8_isSet cX8_isSet 3 (some .boolean), Cond.methodLink RX8 153 yX5_closure, Cond.static yX5_closure, Cond.initialized RX5, Cond.code yX5_closure cX5_closure 5 (some .int), Cond.fieldLink RX5 15 "FuseBench$Table" "kinds" "I", Cond.methodLink RX5 25 yX5_grow, Cond.static yX5_grow]
def wsL_law_r22 : List Cond := [Cond.code yX5_grow cX5_grow 5 (some .int), Cond.methodLink RX5 9 yX5_holds, Cond.static yX5_holds, Cond.code yX5_holds cX5_holds 2 (some .boolean), Cond.methodLink RX5 29 yX5_fusedWithAny, Cond.static yX5_fusedWithAny, Cond.code yX5_fusedWithAny cX5_fusedWithAny 6 (some .int), Cond.methodLink RX5 21 yX7_number, Cond.methodLink RL 84 yX9_closed, Cond.instanceMethod yX9_closed, Cond.selects RX9 yX9_closed yX9_closed, Cond.code yX9_closed cX9_closed 3 (some .int), Cond.methodLink RX9 152 yX9_isSet, Cond.instanceMethod yX9_isSet, Cond.selects RX9 yX9_isSet yX9_isSet, Cond.code yX9_isSet cX9_isSet 4 (some .boolean), Cond.methodLink RX9 155 yX9_close, Cond.instanceMethod yX9_close, Cond.selects RX9 yX9_close yX9_close, Cond.code yX9_close cX9_close 8 (some .int), Cond.methodLink RL 85 yX8_least, Cond.instanceMethod yX8_least, Cond.selects RX8 yX8_least yX8_least, Cond.code yX8_least cX8_least 3 (some .int)]
def wsL_law_r23 : List Cond := [Cond.methodLink RL 88 yX9_least, Cond.instanceMethod yX9_least, Cond.selects RX9 yX9_least yX9_least, Cond.code yX9_least cX9_least 3 (some .int), Cond.methodLink RL 89 yX8_core, Cond.instanceMethod yX8_core, Cond.selects RX8 yX8_core yX8_core, Cond.code yX8_core cX8_core 2 (some .int), Cond.methodLink RX8 159 yX5_innermost, Cond.static yX5_innermost, Cond.code yX5_innermost cX5_innermost 4 (some .int), Cond.methodLink RX5 33 yX5_closure, Cond.methodLink RL 92 yX9_core, Cond.instanceMethod yX9_core, Cond.selects RX9 yX9_core yX9_core, Cond.code yX9_core cX9_core 2 (some .int), Cond.methodLink RX9 158 yX9_coreOf, Cond.instanceMethod yX9_coreOf, Cond.selects RX9 yX9_coreOf yX9_coreOf, Cond.code yX9_coreOf cX9_coreOf 5 (some .int), Cond.methodLink RL 93 yX8_grade, Cond.instanceMethod yX8_grade, Cond.selects RX8 yX8_grade yX8_grade, Cond.code yX8_grade cX8_grade 4 (some .int)]
def wsL_law_r24 : List Cond := [Cond.methodLink RX8 163 yX5_fusedWithAny, Cond.methodLink RX8 167 yX5_firstOf, Cond.static yX5_firstOf, Cond.code yX5_firstOf cX5_firstOf 2 (some .int), Cond.methodLink RL 96 yX9_grade, Cond.instanceMethod yX9_grade, Cond.selects RX9 yX9_grade yX9_grade, Cond.code yX9_grade cX9_grade 8 (some .int), Cond.methodLink RL 97 yX8_within, Cond.instanceMethod yX8_within, Cond.selects RX8 yX8_within yX8_within, Cond.code yX8_within cX8_within 2 (some .int), Cond.methodLink RX8 171 yX5_countClosed, Cond.static yX5_countClosed, Cond.code yX5_countClosed cX5_countClosed 4 (some .int), Cond.methodLink RL 100 yX9_within, Cond.instanceMethod yX9_within, Cond.selects RX9 yX9_within yX9_within, Cond.code yX9_within cX9_within 4 (some .int), Cond.methodLink RL 101 yX8_like, Cond.instanceMethod yX8_like, Cond.selects RX8 yX8_like yX8_like, Cond.code yX8_like cX8_like 3 (some .int), Cond.methodLink RX8 174 yX3_count]
def wsL_law_r25 : List Cond := [Cond.instanceMethod yX3_count, Cond.selects RX3 yX3_count yX3_count, Cond.code yX3_count cX3_count 3 (some .int), Cond.fieldLink RX3 15 "FuseBench$Table" "kinds" "I", Cond.methodLink RX3 21 yX3_countFrom, Cond.static yX3_countFrom, Cond.code yX3_countFrom cX3_countFrom 7 (some .int), Cond.methodLink RX3 25 yX3_alike, Cond.static yX3_alike, Cond.code yX3_alike cX3_alike 6 (some .boolean), Cond.methodLink RX3 29 yX7_number, Cond.methodLink RL 104 yX9_like, Cond.instanceMethod yX9_like, Cond.selects RX9 yX9_like yX9_like, Cond.code yX9_like cX9_like 7 (some .int), Cond.methodLink RX9 162 yX9_layNaming, Cond.instanceMethod yX9_layNaming, Cond.selects RX9 yX9_layNaming yX9_layNaming, Cond.code yX9_layNaming cX9_layNaming 6 (some .boolean), Cond.methodLink RX9 165 yX9_isLike, Cond.instanceMethod yX9_isLike, Cond.selects RX9 yX9_isLike yX9_isLike, Cond.code yX9_isLike cX9_isLike 7 (some .boolean), Cond.methodLink RL 105 yX8_maps]
def wsL_law_r26 : List Cond := [Cond.instanceMethod yX8_maps, Cond.selects RX8 yX8_maps yX8_maps, Cond.code yX8_maps cX8_maps 3 (some .int), Cond.methodLink RX8 178 yX8_isPrime, Cond.static yX8_isPrime, Cond.code yX8_isPrime cX8_isPrime 5 (some .boolean), Cond.fieldLink RX8 206 "FuseBench" "PRIMES" "[I", Cond.methodLink RX8 181 yX4_count, Cond.instanceMethod yX4_count, Cond.selects RX4 yX4_count yX4_count, Cond.code yX4_count cX4_count 3 (some .int), Cond.fieldLink RX4 19 "FuseBench$Remainders" "passed" "I", Cond.methodLink RX4 15 yX4_walk, Cond.instanceMethod yX4_walk, Cond.selects RX4 yX4_walk yX4_walk, Cond.code yX4_walk cX4_walk 7 (some .boolean), Cond.fieldLink RX4 33 "FuseBench$Table" "kinds" "I", Cond.methodLink RX4 23 yJ7_fill_53178, Cond.methodLink RX4 29 yX4_lastOfBroken, Cond.instanceMethod yX4_lastOfBroken, Cond.selects RX4 yX4_lastOfBroken yX4_lastOfBroken, Cond.code yX4_lastOfBroken cX4_lastOfBroken 9 (some .int), Cond.methodLink RX4 46 Lib.Math.max.name, Cond.static Lib.Math.max.name]
def wsL_law_r27 : List Cond := [Cond.initialized "java/lang/Math", Cond.code Lib.Math.max.name Lib.Math.max.code 2 (some .int), Cond.methodLink RX4 42 yX7_number, Cond.methodLink RX4 38 yX4_nextRow, Cond.instanceMethod yX4_nextRow, Cond.selects RX4 yX4_nextRow yX4_nextRow, Cond.code yX4_nextRow cX4_nextRow 5 (some .boolean), Cond.methodLink RL 108 yX9_maps, Cond.instanceMethod yX9_maps, Cond.selects RX9 yX9_maps yX9_maps, Cond.code yX9_maps cX9_maps 3 (some .int), Cond.methodLink RX9 171 yX9_isPrime, Cond.static yX9_isPrime, Cond.code yX9_isPrime cX9_isPrime 1 (some .boolean), Cond.methodLink RX9 174 yX9_findMaps, Cond.instanceMethod yX9_findMaps, Cond.selects RX9 yX9_findMaps yX9_findMaps, Cond.code yX9_findMaps cX9_findMaps 9 (some .int), Cond.methodLink RX9 168 yX9_isMap, Cond.instanceMethod yX9_isMap, Cond.selects RX9 yX9_isMap yX9_isMap, Cond.code yX9_isMap cX9_isMap 7 (some .boolean), Cond.methodLink RL 109 yX8_map, Cond.instanceMethod yX8_map]
def wsL_law_r28 : List Cond := [Cond.selects RX8 yX8_map yX8_map, Cond.code yX8_map cX8_map 5 (some .int), Cond.fieldLink RX8 188 "FuseBench$Remainders" "row" "[I", Cond.methodLink RX8 184 yX4_find, Cond.instanceMethod yX4_find, Cond.selects RX4 yX4_find yX4_find, Cond.code yX4_find cX4_find 4 (some .boolean), Cond.methodLink RL 112 yX9_map, Cond.instanceMethod yX9_map, Cond.selects RX9 yX9_map yX9_map, Cond.code yX9_map cX9_map 5 (some .int), Cond.methodLink RL 113 yX8_size, Cond.instanceMethod yX8_size, Cond.selects RX8 yX8_size yX8_size, Cond.code yX8_size cX8_size 2 (some .int), Cond.methodLink RX8 191 yX0_tenths, Cond.instanceMethod yX0_tenths, Cond.selects RX0 yX0_tenths yX0_tenths, Cond.code yX0_tenths cX0_tenths 6 (some .int), Cond.fieldLink RX0 23 "FuseBench$Table" "kinds" "I", Cond.methodLink RX0 19 yX0_addUp, Cond.instanceMethod yX0_addUp, Cond.selects RX0 yX0_addUp yX0_addUp, Cond.code yX0_addUp cX0_addUp 6 none]
def wsL_law_r29 : List Cond := [Cond.methodLink RX0 33 yX7_number, Cond.methodLink RX0 29 yX0_isAbove, Cond.instanceMethod yX0_isAbove, Cond.selects RX0 yX0_isAbove yX0_isAbove, Cond.code yX0_isAbove cX0_isAbove 5 (some .boolean), Cond.methodLink RX0 37 yX0_expandedMinor, Cond.instanceMethod yX0_expandedMinor, Cond.selects RX0 yX0_expandedMinor yX0_expandedMinor, Cond.code yX0_expandedMinor cX0_expandedMinor 11 (some .long), Cond.constantLong RX0 52 (10), Cond.methodLink RX0 41 yJ6_bitCount_0f7a4, Cond.static yJ6_bitCount_0f7a4, Cond.initialized RJ6, Cond.code yJ6_bitCount_0f7a4 cJ6_bitCount_0f7a4 1 (some .int), Cond.constant RJ6 265 (1431655765), Cond.constant RJ6 266 (858993459), Cond.constant RJ6 267 (252645135), Cond.methodLink RX0 47 yX5_holds, Cond.methodLink RL 116 yX9_size, Cond.instanceMethod yX9_size, Cond.selects RX9 yX9_size yX9_size, Cond.code yX9_size cX9_size 5 (some .int), Cond.methodLink RX9 188 yX9_isBelow, Cond.instanceMethod yX9_isBelow]
def wsL_law_r30 : List Cond := [Cond.selects RX9 yX9_isBelow yX9_isBelow, Cond.code yX9_isBelow cX9_isBelow 5 (some .boolean), Cond.methodLink RX9 182 yX9_layLines, Cond.instanceMethod yX9_layLines, Cond.selects RX9 yX9_layLines yX9_layLines, Cond.code yX9_layLines cX9_layLines 7 none, Cond.methodLink RX9 185 yX9_isAbove, Cond.instanceMethod yX9_isAbove, Cond.selects RX9 yX9_isAbove yX9_isAbove, Cond.code yX9_isAbove cX9_isAbove 14 (some .boolean), Cond.constantLong RX9 180 (1000000), Cond.methodLink RX9 177 yX9_layTurn, Cond.instanceMethod yX9_layTurn, Cond.selects RX9 yX9_layTurn yX9_layTurn, Cond.code yX9_layTurn cX9_layTurn 7 (some .int), Cond.methodLink RL 117 yX8_digest, Cond.instanceMethod yX8_digest, Cond.selects RX8 yX8_digest yX8_digest, Cond.code yX8_digest cX8_digest 4 (some .long), Cond.constantLong RX8 195 (223), Cond.constantLong RX8 201 (31), Cond.methodLink RX8 197 yX7_mixInto, Cond.instanceMethod yX7_mixInto, Cond.selects RX7 yX7_mixInto yX7_mixInto]
def wsL_law_r31 : List Cond := [Cond.code yX7_mixInto cX7_mixInto 8 (some .long), Cond.constantLong RX7 50 (31), Cond.methodLink RL 121 yX9_digest, Cond.instanceMethod yX9_digest, Cond.selects RX9 yX9_digest yX9_digest, Cond.code yX9_digest cX9_digest 6 (some .long), Cond.constantLong RX9 191 (223), Cond.constantLong RX9 193 (31)]
def wsL_law : List Cond := (wsL_law_r1 ++ (wsL_law_r2 ++ (wsL_law_r3 ++ (wsL_law_r4 ++ (wsL_law_r5 ++ (wsL_law_r6 ++ (wsL_law_r7 ++ (wsL_law_r8 ++ (wsL_law_r9 ++ (wsL_law_r10 ++ (wsL_law_r11 ++ (wsL_law_r12 ++ (wsL_law_r13 ++ (wsL_law_r14 ++ (wsL_law_r15 ++ (wsL_law_r16 ++ (wsL_law_r17 ++ (wsL_law_r18 ++ (wsL_law_r19 ++ (wsL_law_r20 ++ (wsL_law_r21 ++ (wsL_law_r22 ++ (wsL_law_r23 ++ (wsL_law_r24 ++ (wsL_law_r25 ++ (wsL_law_r26 ++ (wsL_law_r27 ++ (wsL_law_r28 ++ (wsL_law_r29 ++ (wsL_law_r30 ++ wsL_law_r31)))))))))))))))))))))))))))))) ++ wsX80 ++ wsX90 ++ wsX70 ++ wsX10 ++ wsX60 ++ wsX20 ++ wsX30 ++ wsX40 ++ wsX00 ++ ([] : List Cond)
set_option maxRecDepth 20000 in
theorem wsL_law_r1_p : wsL_law_r1 = ([68, 69, 54, 597, 598, 63, 70, 71, 72, 73, 74, 75, 76, 224, 78, 55, 225, 112, 113, 57, 226, 131, 132, 58] : List Nat).filterMap (fun i => lw_tbl[i]?) := by decide +kernel
set_option maxRecDepth 20000 in
theorem wsL_law_r2_p : wsL_law_r2 = ([227, 146, 147, 59, 228, 187, 188, 60, 229, 197, 198, 61, 230, 211, 212, 62, 231, 111, 232, 79, 80, 81, 82, 97] : List Nat).filterMap (fun i => lw_tbl[i]?) := by decide +kernel
set_option maxRecDepth 20000 in
theorem wsL_law_r3_p : wsL_law_r3 = ([83, 84, 85, 86, 101, 87, 88, 56, 89, 90, 91, 92, 93, 94, 95, 96, 115, 116, 117, 118, 120, 134, 135, 136] : List Nat).filterMap (fun i => lw_tbl[i]?) := by decide +kernel
set_option maxRecDepth 20000 in
theorem wsL_law_r4_p : wsL_law_r4 = ([145, 137, 139, 149, 150, 151, 156, 157, 158, 152, 159, 154, 160, 153, 190, 191, 192, 193, 200, 201, 202, 203, 214, 215] : List Nat).filterMap (fun i => lw_tbl[i]?) := by decide +kernel
set_option maxRecDepth 20000 in
theorem wsL_law_r5_p : wsL_law_r5 = ([216, 217, 218, 599, 600, 601, 602, 611, 612, 613, 614, 615, 616, 618, 620, 621, 622, 623, 624, 625, 603, 605, 24, 606] : List Nat).filterMap (fun i => lw_tbl[i]?) := by decide +kernel
set_option maxRecDepth 20000 in
theorem wsL_law_r6_p : wsL_law_r6 = ([607, 609, 25, 610, 255, 256, 257, 258, 259, 260, 261, 262, 657, 658, 659, 660, 664, 661, 662, 663, 665, 666, 667, 263] : List Nat).filterMap (fun i => lw_tbl[i]?) := by decide +kernel
set_option maxRecDepth 20000 in
theorem wsL_law_r7_p : wsL_law_r7 = ([264, 265, 266, 267, 269, 0, 270, 271, 273, 1, 274, 275, 276, 277, 278, 279, 280, 281, 282, 283, 668, 669, 670, 671] : List Nat).filterMap (fun i => lw_tbl[i]?) := by decide +kernel
set_option maxRecDepth 20000 in
theorem wsL_law_r8_p : wsL_law_r8 = ([676, 672, 674, 26, 675, 677, 679, 27, 680, 284, 285, 286, 287, 681, 682, 683, 684, 288, 289, 290, 291, 123, 119, 292] : List Nat).filterMap (fun i => lw_tbl[i]?) := by decide +kernel
set_option maxRecDepth 20000 in
theorem wsL_law_r9_p : wsL_law_r9 = ([293, 294, 295, 122, 296, 297, 299, 2, 300, 102, 301, 302, 304, 3, 305, 306, 308, 4, 309, 310, 312, 5, 313, 314] : List Nat).filterMap (fun i => lw_tbl[i]?) := by decide +kernel
set_option maxRecDepth 20000 in
theorem wsL_law_r10_p : wsL_law_r10 = ([316, 6, 317, 318, 319, 320, 321, 322, 323, 324, 685, 686, 687, 688, 689, 690, 692, 28, 693, 694, 696, 29, 697, 698] : List Nat).filterMap (fun i => lw_tbl[i]?) := by decide +kernel
set_option maxRecDepth 20000 in
theorem wsL_law_r11_p : wsL_law_r11 = ([700, 30, 701, 702, 704, 31, 705, 706, 708, 32, 709, 710, 712, 33, 713, 325, 326, 327, 328, 121, 329, 331, 7, 332] : List Nat).filterMap (fun i => lw_tbl[i]?) := by decide +kernel
set_option maxRecDepth 20000 in
theorem wsL_law_r12_p : wsL_law_r12 = ([714, 715, 716, 717, 333, 334, 335, 336, 105, 337, 338, 339, 340, 341, 343, 342, 64, 718, 719, 720, 721, 722, 724, 34] : List Nat).filterMap (fun i => lw_tbl[i]?) := by decide +kernel
set_option maxRecDepth 20000 in
theorem wsL_law_r13_p : wsL_law_r13 = ([725, 344, 345, 346, 347, 348, 349, 350, 351, 726, 727, 728, 729, 730, 732, 35, 733, 352, 353, 354, 355, 734, 735, 736] : List Nat).filterMap (fun i => lw_tbl[i]?) := by decide +kernel
set_option maxRecDepth 20000 in
theorem wsL_law_r14_p : wsL_law_r14 = ([737, 356, 357, 358, 359, 360, 361, 362, 363, 364, 365, 367, 8, 368, 738, 739, 740, 741, 369, 370, 371, 372, 373, 374] : List Nat).filterMap (fun i => lw_tbl[i]?) := by decide +kernel
set_option maxRecDepth 20000 in
theorem wsL_law_r15_p : wsL_law_r15 = ([375, 376, 377, 378, 379, 161, 162, 163, 165, 380, 382, 9, 383, 164, 384, 385, 386, 388, 10, 389, 390, 392, 11, 393] : List Nat).filterMap (fun i => lw_tbl[i]?) := by decide +kernel
set_option maxRecDepth 20000 in
theorem wsL_law_r16_p : wsL_law_r16 = ([394, 396, 12, 397, 398, 400, 13, 401, 402, 403, 404, 405, 407, 14, 408, 409, 411, 15, 412, 742, 743, 744, 745, 746] : List Nat).filterMap (fun i => lw_tbl[i]?) := by decide +kernel
set_option maxRecDepth 20000 in
theorem wsL_law_r17_p : wsL_law_r17 = ([747, 748, 749, 750, 751, 753, 36, 754, 617, 755, 757, 37, 758, 759, 760, 761, 762, 764, 38, 765, 766, 767, 768, 769] : List Nat).filterMap (fun i => lw_tbl[i]?) := by decide +kernel
set_option maxRecDepth 20000 in
theorem wsL_law_r18_p : wsL_law_r18 = ([771, 39, 772, 413, 414, 415, 416, 417, 418, 419, 420, 421, 773, 774, 775, 776, 777, 422, 423, 424, 425, 233, 778, 779] : List Nat).filterMap (fun i => lw_tbl[i]?) := by decide +kernel
set_option maxRecDepth 20000 in
theorem wsL_law_r19_p : wsL_law_r19 = ([780, 781, 619, 426, 427, 428, 429, 782, 783, 784, 785, 430, 431, 432, 433, 438, 138, 434, 436, 16, 437, 439, 440, 441] : List Nat).filterMap (fun i => lw_tbl[i]?) := by decide +kernel
set_option maxRecDepth 20000 in
theorem wsL_law_r20_p : wsL_law_r20 = ([442, 443, 444, 445, 446, 447, 448, 449, 100, 451, 450, 786, 787, 788, 789, 790, 791, 793, 40, 794, 795, 797, 41, 798] : List Nat).filterMap (fun i => lw_tbl[i]?) := by decide +kernel
set_option maxRecDepth 20000 in
theorem wsL_law_r21_p : wsL_law_r21 = ([452, 453, 454, 455, 799, 800, 801, 802, 803, 456, 457, 458, 459, 460, 462, 17, 463, 464, 465, 65, 466, 103, 467, 468] : List Nat).filterMap (fun i => lw_tbl[i]?) := by decide +kernel
set_option maxRecDepth 20000 in
theorem wsL_law_r22_p : wsL_law_r22 = ([469, 470, 471, 472, 473, 474, 475, 476, 804, 805, 806, 807, 808, 810, 42, 811, 812, 814, 43, 815, 477, 478, 479, 480] : List Nat).filterMap (fun i => lw_tbl[i]?) := by decide +kernel
set_option maxRecDepth 20000 in
theorem wsL_law_r23_p : wsL_law_r23 = ([816, 817, 818, 819, 481, 482, 483, 484, 485, 486, 487, 488, 820, 821, 822, 823, 824, 826, 44, 827, 489, 490, 491, 492] : List Nat).filterMap (fun i => lw_tbl[i]?) := by decide +kernel
set_option maxRecDepth 20000 in
theorem wsL_law_r24_p : wsL_law_r24 = ([493, 494, 495, 496, 828, 829, 830, 831, 497, 498, 499, 500, 501, 502, 503, 832, 833, 834, 835, 504, 505, 506, 507, 508] : List Nat).filterMap (fun i => lw_tbl[i]?) := by decide +kernel
set_option maxRecDepth 20000 in
theorem wsL_law_r25_p : wsL_law_r25 = ([509, 510, 511, 98, 512, 513, 514, 515, 516, 517, 518, 836, 837, 838, 839, 840, 842, 45, 843, 844, 846, 46, 847, 519] : List Nat).filterMap (fun i => lw_tbl[i]?) := by decide +kernel
set_option maxRecDepth 20000 in
theorem wsL_law_r26_p : wsL_law_r26 = ([520, 521, 522, 523, 524, 525, 526, 528, 529, 530, 531, 205, 532, 534, 18, 535, 104, 536, 537, 539, 19, 540, 542, 543] : List Nat).filterMap (fun i => lw_tbl[i]?) := by decide +kernel
set_option maxRecDepth 20000 in
theorem wsL_law_r27_p : wsL_law_r27 = ([66, 544, 541, 545, 547, 20, 548, 848, 849, 850, 851, 852, 853, 854, 855, 857, 47, 858, 859, 861, 48, 862, 549, 550] : List Nat).filterMap (fun i => lw_tbl[i]?) := by decide +kernel
set_option maxRecDepth 20000 in
theorem wsL_law_r28_p : wsL_law_r28 = ([551, 552, 204, 553, 554, 555, 556, 863, 864, 865, 866, 557, 558, 559, 560, 561, 562, 563, 564, 99, 565, 567, 21, 568] : List Nat).filterMap (fun i => lw_tbl[i]?) := by decide +kernel
set_option maxRecDepth 20000 in
theorem wsL_law_r29_p : wsL_law_r29 = ([569, 570, 572, 22, 573, 574, 576, 23, 577, 585, 578, 579, 67, 580, 581, 582, 583, 584, 867, 868, 869, 870, 871, 873] : List Nat).filterMap (fun i => lw_tbl[i]?) := by decide +kernel
set_option maxRecDepth 20000 in
theorem wsL_law_r30_p : wsL_law_r30 = ([49, 874, 875, 877, 50, 878, 879, 881, 51, 882, 887, 883, 885, 52, 886, 586, 587, 588, 589, 590, 596, 591, 592, 593] : List Nat).filterMap (fun i => lw_tbl[i]?) := by decide +kernel
set_option maxRecDepth 20000 in
theorem wsL_law_r31_p : wsL_law_r31 = ([594, 595, 888, 889, 890, 891, 892, 893] : List Nat).filterMap (fun i => lw_tbl[i]?) := by decide +kernel
theorem in_of_places {ws big : List Cond} {ps : List Nat} (h : ws = ps.filterMap (fun i => big[i]?)) : ∀ w ∈ ws, w ∈ big := by
  intro w hw
  rw [h] at hw
  obtain ⟨i, -, hi⟩ := List.mem_filterMap.mp hw
  exact List.mem_of_getElem? hi
set_option maxRecDepth 20000 in
theorem inX0 : ∀ w ∈ wsX00, w ∈ lw_tbl := by decide +kernel
set_option maxRecDepth 20000 in
theorem inX1 : ∀ w ∈ wsX10, w ∈ lw_tbl := by decide +kernel
set_option maxRecDepth 20000 in
theorem inX2 : ∀ w ∈ wsX20, w ∈ lw_tbl := by decide +kernel
set_option maxRecDepth 20000 in
theorem inX3 : ∀ w ∈ wsX30, w ∈ lw_tbl := by decide +kernel
set_option maxRecDepth 20000 in
theorem inX4 : ∀ w ∈ wsX40, w ∈ lw_tbl := by decide +kernel
set_option maxRecDepth 20000 in
theorem inX6 : ∀ w ∈ wsX60, w ∈ lw_tbl := by decide +kernel
set_option maxRecDepth 20000 in
theorem inX7 : ∀ w ∈ wsX70, w ∈ lw_tbl := by decide +kernel
set_option maxRecDepth 20000 in
theorem inX8 : ∀ w ∈ wsX80, w ∈ lw_tbl := by decide +kernel
set_option maxRecDepth 20000 in
theorem inX9 : ∀ w ∈ wsX90, w ∈ lw_tbl := by decide +kernel
theorem inX5 : ∀ w ∈ wsX50, w ∈ lw_tbl := by decide +kernel
theorem wsL_law_in : ∀ w ∈ wsL_law, w ∈ lw_tbl := List.forall_mem_append.mpr ⟨List.forall_mem_append.mpr ⟨List.forall_mem_append.mpr ⟨List.forall_mem_append.mpr ⟨List.forall_mem_append.mpr ⟨List.forall_mem_append.mpr ⟨List.forall_mem_append.mpr ⟨List.forall_mem_append.mpr ⟨List.forall_mem_append.mpr ⟨List.forall_mem_append.mpr ⟨List.forall_mem_append.mpr ⟨in_of_places wsL_law_r1_p, List.forall_mem_append.mpr ⟨in_of_places wsL_law_r2_p, List.forall_mem_append.mpr ⟨in_of_places wsL_law_r3_p, List.forall_mem_append.mpr ⟨in_of_places wsL_law_r4_p, List.forall_mem_append.mpr ⟨in_of_places wsL_law_r5_p, List.forall_mem_append.mpr ⟨in_of_places wsL_law_r6_p, List.forall_mem_append.mpr ⟨in_of_places wsL_law_r7_p, List.forall_mem_append.mpr ⟨in_of_places wsL_law_r8_p, List.forall_mem_append.mpr ⟨in_of_places wsL_law_r9_p, List.forall_mem_append.mpr ⟨in_of_places wsL_law_r10_p, List.forall_mem_append.mpr ⟨in_of_places wsL_law_r11_p, List.forall_mem_append.mpr ⟨in_of_places wsL_law_r12_p, List.forall_mem_append.mpr ⟨in_of_places wsL_law_r13_p, List.forall_mem_append.mpr ⟨in_of_places wsL_law_r14_p, List.forall_mem_append.mpr ⟨in_of_places wsL_law_r15_p, List.forall_mem_append.mpr ⟨in_of_places wsL_law_r16_p, List.forall_mem_append.mpr ⟨in_of_places wsL_law_r17_p, List.forall_mem_append.mpr ⟨in_of_places wsL_law_r18_p, List.forall_mem_append.mpr ⟨in_of_places wsL_law_r19_p, List.forall_mem_append.mpr ⟨in_of_places wsL_law_r20_p, List.forall_mem_append.mpr ⟨in_of_places wsL_law_r21_p, List.forall_mem_append.mpr ⟨in_of_places wsL_law_r22_p, List.forall_mem_append.mpr ⟨in_of_places wsL_law_r23_p, List.forall_mem_append.mpr ⟨in_of_places wsL_law_r24_p, List.forall_mem_append.mpr ⟨in_of_places wsL_law_r25_p, List.forall_mem_append.mpr ⟨in_of_places wsL_law_r26_p, List.forall_mem_append.mpr ⟨in_of_places wsL_law_r27_p, List.forall_mem_append.mpr ⟨in_of_places wsL_law_r28_p, List.forall_mem_append.mpr ⟨in_of_places wsL_law_r29_p, List.forall_mem_append.mpr ⟨in_of_places wsL_law_r30_p, in_of_places wsL_law_r31_p⟩⟩⟩⟩⟩⟩⟩⟩⟩⟩⟩⟩⟩⟩⟩⟩⟩⟩⟩⟩⟩⟩⟩⟩⟩⟩⟩⟩⟩⟩, inX8⟩, inX9⟩, inX7⟩, inX1⟩, inX6⟩, inX2⟩, inX3⟩, inX4⟩, inX0⟩, fun _ h => absurd h List.not_mem_nil⟩
abbrev vwCl : List vw_C := [(RX0, TX0, 2), (RX1, TX1, 3), (RX2, TX2, 10), (RX3, TX3, 1), (RX4, TX4, 2), (RX6, TX6, 2), (RX7, TX7, 2), (RX8, TX8, 10), (RX9, TX9, 15)]
end
section
theorem inJ6 : ∀ w ∈ wsJ60, w ∈ lw_tbl := by decide +kernel
theorem inJ9 : ∀ w ∈ wsJ90, w ∈ lw_tbl := by decide +kernel
theorem inJ10 : ∀ w ∈ wsJ100, w ∈ lw_tbl := by decide +kernel
theorem inJ7 : ∀ w ∈ wsJ70, w ∈ lw_tbl := by decide +kernel
theorem dX0_init_0 : decode cX0_init 0 = .ok (.aload_n 0, 1) := by decide +kernel
theorem dX0_init_1 : decode cX0_init 1 = .ok (.invokespecial 3, 3) := by decide +kernel
theorem dX0_init_4 : decode cX0_init 4 = .ok (.aload_n 0, 1) := by decide +kernel
theorem dX0_init_5 : decode cX0_init 5 = .ok (.bipush 25, 2) := by decide +kernel
theorem dX0_init_7 : decode cX0_init 7 = .ok (.newarray .int, 2) := by decide +kernel
theorem dX0_init_9 : decode cX0_init 9 = .ok (.putfield 9, 3) := by decide +kernel
theorem dX0_init_12 : decode cX0_init 12 = .ok (.aload_n 0, 1) := by decide +kernel
theorem dX0_init_13 : decode cX0_init 13 = .ok (.bipush 32, 2) := by decide +kernel
theorem dX0_init_15 : decode cX0_init 15 = .ok (.newarray .long, 2) := by decide +kernel
theorem dX0_init_17 : decode cX0_init 17 = .ok (.putfield 15, 3) := by decide +kernel
theorem dX0_init_20 : decode cX0_init 20 = .ok (.return_, 1) := by decide +kernel
set_option maxRecDepth 20000 in
theorem ggX0_tenths_X0_addUp : GoodIn wsX0_tenths wsX0_addUp := goodIn_r _ [6, 1, 7, 8, 9, 10, 11, 12, 13, 14, 15, 16, 38, 39, 40, 41] (by decide +kernel) (by decide +kernel)
set_option maxRecDepth 20000 in
theorem gX0_tenths_X0_addUp : GoodIn wsX0_tenths (wsV RX0 19 RX0 yX0_addUp wsX0_addUp) := goodIn_app (goodIn_of _ (by decide +kernel)) ggX0_tenths_X0_addUp
set_option maxRecDepth 20000 in
theorem ggX0_tenths_X0_isAbove : GoodIn wsX0_tenths wsX0_isAbove := goodIn_r _ [20, 21, 22, 23, 24, 5, 25, 26, 7, 27, 28, 29, 30, 31, 32, 33, 34, 35, 36, 37, 40, 41] (by decide +kernel) (by decide +kernel)
set_option maxRecDepth 20000 in
theorem gX0_tenths_X0_isAbove : GoodIn wsX0_tenths (wsV RX0 29 RX0 yX0_isAbove wsX0_isAbove) := goodIn_app (goodIn_of _ (by decide +kernel)) ggX0_tenths_X0_isAbove
theorem dX0_tenths_0 : decode cX0_tenths 0 = .ok (.aload_n 0, 1) := by decide +kernel
theorem dX0_tenths_1 : decode cX0_tenths 1 = .ok (.aload_n 1, 1) := by decide +kernel
theorem dX0_tenths_2 : decode cX0_tenths 2 = .ok (.invokevirtual 19, 3) := by decide +kernel
theorem dX0_tenths_5 : decode cX0_tenths 5 = .ok (.iconst 0, 1) := by decide +kernel
theorem dX0_tenths_6 : decode cX0_tenths 6 = .ok (.istore_n 2, 1) := by decide +kernel
theorem dX0_tenths_7 : decode cX0_tenths 7 = .ok (.sipush 2251, 3) := by decide +kernel
theorem dX0_tenths_10 : decode cX0_tenths 10 = .ok (.istore_n 3, 1) := by decide +kernel
theorem dX0_tenths_11 : decode cX0_tenths 11 = .ok (.iconst 0, 1) := by decide +kernel
theorem dX0_tenths_12 : decode cX0_tenths 12 = .ok (.istore 4, 2) := by decide +kernel
theorem dX0_tenths_14 : decode cX0_tenths 14 = .ok (.iload 4, 2) := by decide +kernel
theorem dX0_tenths_16 : decode cX0_tenths 16 = .ok (.bipush 12, 2) := by decide +kernel
theorem dX0_tenths_18 : decode cX0_tenths 18 = .ok (.if_icmp .ge 45, 3) := by decide +kernel
theorem dX0_tenths_21 : decode cX0_tenths 21 = .ok (.iload_n 3, 1) := by decide +kernel
theorem dX0_tenths_22 : decode cX0_tenths 22 = .ok (.iload_n 2, 1) := by decide +kernel
theorem dX0_tenths_23 : decode cX0_tenths 23 = .ok (.isub, 1) := by decide +kernel
theorem dX0_tenths_24 : decode cX0_tenths 24 = .ok (.iconst 1, 1) := by decide +kernel
theorem dX0_tenths_25 : decode cX0_tenths 25 = .ok (.if_icmp .le 38, 3) := by decide +kernel
theorem dX0_tenths_28 : decode cX0_tenths 28 = .ok (.iload_n 2, 1) := by decide +kernel
theorem dX0_tenths_29 : decode cX0_tenths 29 = .ok (.iload_n 3, 1) := by decide +kernel
theorem dX0_tenths_30 : decode cX0_tenths 30 = .ok (.iadd, 1) := by decide +kernel
theorem dX0_tenths_31 : decode cX0_tenths 31 = .ok (.iconst 1, 1) := by decide +kernel
theorem dX0_tenths_32 : decode cX0_tenths 32 = .ok (.ishr, 1) := by decide +kernel
theorem dX0_tenths_33 : decode cX0_tenths 33 = .ok (.istore 5, 2) := by decide +kernel
theorem dX0_tenths_35 : decode cX0_tenths 35 = .ok (.aload_n 0, 1) := by decide +kernel
theorem dX0_tenths_36 : decode cX0_tenths 36 = .ok (.iload 5, 2) := by decide +kernel
theorem dX0_tenths_38 : decode cX0_tenths 38 = .ok (.aload_n 1, 1) := by decide +kernel
theorem dX0_tenths_39 : decode cX0_tenths 39 = .ok (.getfield 23, 3) := by decide +kernel
theorem dX0_tenths_42 : decode cX0_tenths 42 = .ok (.invokevirtual 29, 3) := by decide +kernel
theorem dX0_tenths_45 : decode cX0_tenths 45 = .ok (.ifCond .eq 9, 3) := by decide +kernel
theorem dX0_tenths_48 : decode cX0_tenths 48 = .ok (.iload 5, 2) := by decide +kernel
theorem dX0_tenths_50 : decode cX0_tenths 50 = .ok (.istore_n 3, 1) := by decide +kernel
theorem dX0_tenths_51 : decode cX0_tenths 51 = .ok (.goto 6, 3) := by decide +kernel
theorem dX0_tenths_54 : decode cX0_tenths 54 = .ok (.iload 5, 2) := by decide +kernel
theorem dX0_tenths_56 : decode cX0_tenths 56 = .ok (.istore_n 2, 1) := by decide +kernel
theorem dX0_tenths_57 : decode cX0_tenths 57 = .ok (.iinc 4 1, 3) := by decide +kernel
theorem dX0_tenths_60 : decode cX0_tenths 60 = .ok (.goto (-46), 3) := by decide +kernel
theorem dX0_tenths_63 : decode cX0_tenths 63 = .ok (.iload_n 2, 1) := by decide +kernel
theorem dX0_tenths_64 : decode cX0_tenths 64 = .ok (.ireturn, 1) := by decide +kernel
set_option maxRecDepth 20000 in
theorem ggX0_addUp_X7_number : GoodIn wsX0_addUp wsX7_number := goodIn_r _ [7, 8, 9, 10, 6, 11, 12, 13] (by decide +kernel) (by decide +kernel)
set_option maxRecDepth 20000 in
theorem gX0_addUp_X7_number : GoodIn wsX0_addUp (wsV RX0 33 RX7 yX7_number wsX7_number) := goodIn_app (goodIn_of _ (by decide +kernel)) ggX0_addUp_X7_number
theorem dX0_addUp_0 : decode cX0_addUp 0 = .ok (.iconst 0, 1) := by decide +kernel
theorem dX0_addUp_1 : decode cX0_addUp 1 = .ok (.istore_n 2, 1) := by decide +kernel
theorem dX0_addUp_2 : decode cX0_addUp 2 = .ok (.iload_n 2, 1) := by decide +kernel
theorem dX0_addUp_3 : decode cX0_addUp 3 = .ok (.aload_n 1, 1) := by decide +kernel
theorem dX0_addUp_4 : decode cX0_addUp 4 = .ok (.getfield 23, 3) := by decide +kernel
theorem dX0_addUp_7 : decode cX0_addUp 7 = .ok (.if_icmp .ge 71, 3) := by decide +kernel
theorem dX0_addUp_10 : decode cX0_addUp 10 = .ok (.iconst 0, 1) := by decide +kernel
theorem dX0_addUp_11 : decode cX0_addUp 11 = .ok (.istore_n 3, 1) := by decide +kernel
theorem dX0_addUp_12 : decode cX0_addUp 12 = .ok (.iload_n 3, 1) := by decide +kernel
theorem dX0_addUp_13 : decode cX0_addUp 13 = .ok (.aload_n 1, 1) := by decide +kernel
theorem dX0_addUp_14 : decode cX0_addUp 14 = .ok (.getfield 23, 3) := by decide +kernel
theorem dX0_addUp_17 : decode cX0_addUp 17 = .ok (.if_icmp .ge 55, 3) := by decide +kernel
theorem dX0_addUp_20 : decode cX0_addUp 20 = .ok (.iconst 0, 1) := by decide +kernel
theorem dX0_addUp_21 : decode cX0_addUp 21 = .ok (.istore 4, 2) := by decide +kernel
theorem dX0_addUp_23 : decode cX0_addUp 23 = .ok (.iconst 0, 1) := by decide +kernel
theorem dX0_addUp_24 : decode cX0_addUp 24 = .ok (.istore 5, 2) := by decide +kernel
theorem dX0_addUp_26 : decode cX0_addUp 26 = .ok (.iload 5, 2) := by decide +kernel
theorem dX0_addUp_28 : decode cX0_addUp 28 = .ok (.aload_n 1, 1) := by decide +kernel
theorem dX0_addUp_29 : decode cX0_addUp 29 = .ok (.getfield 23, 3) := by decide +kernel
theorem dX0_addUp_32 : decode cX0_addUp 32 = .ok (.if_icmp .ge 22, 3) := by decide +kernel
theorem dX0_addUp_35 : decode cX0_addUp 35 = .ok (.iload 4, 2) := by decide +kernel
theorem dX0_addUp_37 : decode cX0_addUp 37 = .ok (.aload_n 1, 1) := by decide +kernel
theorem dX0_addUp_38 : decode cX0_addUp 38 = .ok (.iload 5, 2) := by decide +kernel
theorem dX0_addUp_40 : decode cX0_addUp 40 = .ok (.iload_n 2, 1) := by decide +kernel
theorem dX0_addUp_41 : decode cX0_addUp 41 = .ok (.iload_n 3, 1) := by decide +kernel
theorem dX0_addUp_42 : decode cX0_addUp 42 = .ok (.invokevirtual 33, 3) := by decide +kernel
theorem dX0_addUp_45 : decode cX0_addUp 45 = .ok (.iadd, 1) := by decide +kernel
theorem dX0_addUp_46 : decode cX0_addUp 46 = .ok (.istore 4, 2) := by decide +kernel
theorem dX0_addUp_48 : decode cX0_addUp 48 = .ok (.iinc 5 1, 3) := by decide +kernel
theorem dX0_addUp_51 : decode cX0_addUp 51 = .ok (.goto (-25), 3) := by decide +kernel
theorem dX0_addUp_54 : decode cX0_addUp 54 = .ok (.aload_n 0, 1) := by decide +kernel
theorem dX0_addUp_55 : decode cX0_addUp 55 = .ok (.getfield 9, 3) := by decide +kernel
theorem dX0_addUp_58 : decode cX0_addUp 58 = .ok (.iload_n 2, 1) := by decide +kernel
theorem dX0_addUp_59 : decode cX0_addUp 59 = .ok (.iconst 5, 1) := by decide +kernel
theorem dX0_addUp_60 : decode cX0_addUp 60 = .ok (.imul, 1) := by decide +kernel
theorem dX0_addUp_61 : decode cX0_addUp 61 = .ok (.iload_n 3, 1) := by decide +kernel
theorem dX0_addUp_62 : decode cX0_addUp 62 = .ok (.iadd, 1) := by decide +kernel
theorem dX0_addUp_63 : decode cX0_addUp 63 = .ok (.iload 4, 2) := by decide +kernel
theorem dX0_addUp_65 : decode cX0_addUp 65 = .ok (.iastore, 1) := by decide +kernel
theorem dX0_addUp_66 : decode cX0_addUp 66 = .ok (.iinc 3 1, 3) := by decide +kernel
theorem dX0_addUp_69 : decode cX0_addUp 69 = .ok (.goto (-57), 3) := by decide +kernel
theorem dX0_addUp_72 : decode cX0_addUp 72 = .ok (.iinc 2 1, 3) := by decide +kernel
theorem dX0_addUp_75 : decode cX0_addUp 75 = .ok (.goto (-73), 3) := by decide +kernel
theorem dX0_addUp_78 : decode cX0_addUp 78 = .ok (.return_, 1) := by decide +kernel
set_option maxRecDepth 20000 in
theorem ggX0_isAbove_X0_expandedMinor : GoodIn wsX0_isAbove wsX0_expandedMinor := goodIn_r _ [6, 7, 8, 1, 9, 10, 11, 12, 13, 14, 15, 16, 17, 18, 19, 20, 21] (by decide +kernel) (by decide +kernel)
set_option maxRecDepth 20000 in
theorem gX0_isAbove_X0_expandedMinor : GoodIn wsX0_isAbove (wsV RX0 37 RX0 yX0_expandedMinor wsX0_expandedMinor) := goodIn_app (goodIn_of _ (by decide +kernel)) ggX0_isAbove_X0_expandedMinor
theorem dX0_isAbove_0 : decode cX0_isAbove 0 = .ok (.aload_n 0, 1) := by decide +kernel
theorem dX0_isAbove_1 : decode cX0_isAbove 1 = .ok (.getfield 15, 3) := by decide +kernel
theorem dX0_isAbove_4 : decode cX0_isAbove 4 = .ok (.iconst 0, 1) := by decide +kernel
theorem dX0_isAbove_5 : decode cX0_isAbove 5 = .ok (.lconst 1, 1) := by decide +kernel
theorem dX0_isAbove_6 : decode cX0_isAbove 6 = .ok (.lastore, 1) := by decide +kernel
theorem dX0_isAbove_7 : decode cX0_isAbove 7 = .ok (.iconst 1, 1) := by decide +kernel
theorem dX0_isAbove_8 : decode cX0_isAbove 8 = .ok (.istore_n 3, 1) := by decide +kernel
theorem dX0_isAbove_9 : decode cX0_isAbove 9 = .ok (.iload_n 3, 1) := by decide +kernel
theorem dX0_isAbove_10 : decode cX0_isAbove 10 = .ok (.iconst 1, 1) := by decide +kernel
theorem dX0_isAbove_11 : decode cX0_isAbove 11 = .ok (.iload_n 2, 1) := by decide +kernel
theorem dX0_isAbove_12 : decode cX0_isAbove 12 = .ok (.ishl, 1) := by decide +kernel
theorem dX0_isAbove_13 : decode cX0_isAbove 13 = .ok (.if_icmp .ge 54, 3) := by decide +kernel
theorem dX0_isAbove_16 : decode cX0_isAbove 16 = .ok (.aload_n 0, 1) := by decide +kernel
theorem dX0_isAbove_17 : decode cX0_isAbove 17 = .ok (.getfield 15, 3) := by decide +kernel
theorem dX0_isAbove_20 : decode cX0_isAbove 20 = .ok (.iload_n 3, 1) := by decide +kernel
theorem dX0_isAbove_21 : decode cX0_isAbove 21 = .ok (.aload_n 0, 1) := by decide +kernel
theorem dX0_isAbove_22 : decode cX0_isAbove 22 = .ok (.iload_n 1, 1) := by decide +kernel
theorem dX0_isAbove_23 : decode cX0_isAbove 23 = .ok (.iload_n 3, 1) := by decide +kernel
theorem dX0_isAbove_24 : decode cX0_isAbove 24 = .ok (.invokevirtual 37, 3) := by decide +kernel
theorem dX0_isAbove_27 : decode cX0_isAbove 27 = .ok (.lastore, 1) := by decide +kernel
theorem dX0_isAbove_28 : decode cX0_isAbove 28 = .ok (.iload_n 3, 1) := by decide +kernel
theorem dX0_isAbove_29 : decode cX0_isAbove 29 = .ok (.iload_n 3, 1) := by decide +kernel
theorem dX0_isAbove_30 : decode cX0_isAbove 30 = .ok (.iconst 1, 1) := by decide +kernel
theorem dX0_isAbove_31 : decode cX0_isAbove 31 = .ok (.iadd, 1) := by decide +kernel
theorem dX0_isAbove_32 : decode cX0_isAbove 32 = .ok (.iand, 1) := by decide +kernel
theorem dX0_isAbove_33 : decode cX0_isAbove 33 = .ok (.ifCond .ne 7, 3) := by decide +kernel
theorem dX0_isAbove_36 : decode cX0_isAbove 36 = .ok (.iconst 1, 1) := by decide +kernel
theorem dX0_isAbove_37 : decode cX0_isAbove 37 = .ok (.goto 4, 3) := by decide +kernel
theorem dX0_isAbove_40 : decode cX0_isAbove 40 = .ok (.iconst 0, 1) := by decide +kernel
theorem dX0_isAbove_41 : decode cX0_isAbove 41 = .ok (.istore 4, 2) := by decide +kernel
theorem dX0_isAbove_43 : decode cX0_isAbove 43 = .ok (.iload 4, 2) := by decide +kernel
theorem dX0_isAbove_45 : decode cX0_isAbove 45 = .ok (.ifCond .eq 16, 3) := by decide +kernel
theorem dX0_isAbove_48 : decode cX0_isAbove 48 = .ok (.aload_n 0, 1) := by decide +kernel
theorem dX0_isAbove_49 : decode cX0_isAbove 49 = .ok (.getfield 15, 3) := by decide +kernel
theorem dX0_isAbove_52 : decode cX0_isAbove 52 = .ok (.iload_n 3, 1) := by decide +kernel
theorem dX0_isAbove_53 : decode cX0_isAbove 53 = .ok (.laload, 1) := by decide +kernel
theorem dX0_isAbove_54 : decode cX0_isAbove 54 = .ok (.lconst 0, 1) := by decide +kernel
theorem dX0_isAbove_55 : decode cX0_isAbove 55 = .ok (.lcmp, 1) := by decide +kernel
theorem dX0_isAbove_56 : decode cX0_isAbove 56 = .ok (.ifCond .gt 5, 3) := by decide +kernel
theorem dX0_isAbove_59 : decode cX0_isAbove 59 = .ok (.iconst 0, 1) := by decide +kernel
theorem dX0_isAbove_60 : decode cX0_isAbove 60 = .ok (.ireturn, 1) := by decide +kernel
theorem dX0_isAbove_61 : decode cX0_isAbove 61 = .ok (.iinc 3 1, 3) := by decide +kernel
theorem dX0_isAbove_64 : decode cX0_isAbove 64 = .ok (.goto (-55), 3) := by decide +kernel
theorem dX0_isAbove_67 : decode cX0_isAbove 67 = .ok (.iconst 1, 1) := by decide +kernel
theorem dX0_isAbove_68 : decode cX0_isAbove 68 = .ok (.ireturn, 1) := by decide +kernel
set_option maxRecDepth 20000 in
theorem ggX0_expandedMinor_J6_bitCount_0f7a4 : GoodIn wsX0_expandedMinor wsJ6_bitCount_0f7a4 := goodIn_r _ [7, 8, 9, 10] (by decide +kernel) (by decide +kernel)
set_option maxRecDepth 20000 in
theorem gX0_expandedMinor_J6_bitCount_0f7a4 : GoodIn wsX0_expandedMinor (va_wsS RX0 41 yJ6_bitCount_0f7a4 wsJ6_bitCount_0f7a4) := goodIn_app (goodIn_of _ (by decide +kernel)) ggX0_expandedMinor_J6_bitCount_0f7a4
set_option maxRecDepth 20000 in
theorem ggX0_expandedMinor_X5_holds : GoodIn wsX0_expandedMinor wsX5_holds := goodIn_r _ [14] (by decide +kernel) (by decide +kernel)
set_option maxRecDepth 20000 in
theorem gX0_expandedMinor_X5_holds : GoodIn wsX0_expandedMinor (va_wsS RX0 47 yX5_holds wsX5_holds) := goodIn_app (goodIn_of _ (by decide +kernel)) ggX0_expandedMinor_X5_holds
theorem dX0_expandedMinor_0 : decode cX0_expandedMinor 0 = .ok (.iload_n 2, 1) := by decide +kernel
theorem dX0_expandedMinor_1 : decode cX0_expandedMinor 1 = .ok (.invokestatic 41, 3) := by decide +kernel
theorem dX0_expandedMinor_4 : decode cX0_expandedMinor 4 = .ok (.iconst 1, 1) := by decide +kernel
theorem dX0_expandedMinor_5 : decode cX0_expandedMinor 5 = .ok (.isub, 1) := by decide +kernel
theorem dX0_expandedMinor_6 : decode cX0_expandedMinor 6 = .ok (.istore_n 3, 1) := by decide +kernel
theorem dX0_expandedMinor_7 : decode cX0_expandedMinor 7 = .ok (.lconst 0, 1) := by decide +kernel
theorem dX0_expandedMinor_8 : decode cX0_expandedMinor 8 = .ok (.lstore 4, 2) := by decide +kernel
theorem dX0_expandedMinor_10 : decode cX0_expandedMinor 10 = .ok (.lconst 1, 1) := by decide +kernel
theorem dX0_expandedMinor_11 : decode cX0_expandedMinor 11 = .ok (.lstore 6, 2) := by decide +kernel
theorem dX0_expandedMinor_13 : decode cX0_expandedMinor 13 = .ok (.iconst 4, 1) := by decide +kernel
theorem dX0_expandedMinor_14 : decode cX0_expandedMinor 14 = .ok (.istore 8, 2) := by decide +kernel
theorem dX0_expandedMinor_16 : decode cX0_expandedMinor 16 = .ok (.iload 8, 2) := by decide +kernel
theorem dX0_expandedMinor_18 : decode cX0_expandedMinor 18 = .ok (.ifCond .lt 78, 3) := by decide +kernel
theorem dX0_expandedMinor_21 : decode cX0_expandedMinor 21 = .ok (.iload_n 2, 1) := by decide +kernel
theorem dX0_expandedMinor_22 : decode cX0_expandedMinor 22 = .ok (.iload 8, 2) := by decide +kernel
theorem dX0_expandedMinor_24 : decode cX0_expandedMinor 24 = .ok (.invokestatic 47, 3) := by decide +kernel
theorem dX0_expandedMinor_27 : decode cX0_expandedMinor 27 = .ok (.ifCond .eq 63, 3) := by decide +kernel
theorem dX0_expandedMinor_30 : decode cX0_expandedMinor 30 = .ok (.iload 8, 2) := by decide +kernel
theorem dX0_expandedMinor_32 : decode cX0_expandedMinor 32 = .ok (.iload_n 3, 1) := by decide +kernel
theorem dX0_expandedMinor_33 : decode cX0_expandedMinor 33 = .ok (.if_icmp .ne 7, 3) := by decide +kernel
theorem dX0_expandedMinor_36 : decode cX0_expandedMinor 36 = .ok (.iload_n 1, 1) := by decide +kernel
theorem dX0_expandedMinor_37 : decode cX0_expandedMinor 37 = .ok (.goto 4, 3) := by decide +kernel
theorem dX0_expandedMinor_40 : decode cX0_expandedMinor 40 = .ok (.iconst 0, 1) := by decide +kernel
theorem dX0_expandedMinor_41 : decode cX0_expandedMinor 41 = .ok (.i2l, 1) := by decide +kernel
theorem dX0_expandedMinor_42 : decode cX0_expandedMinor 42 = .ok (.ldc2_w 52, 3) := by decide +kernel
theorem dX0_expandedMinor_45 : decode cX0_expandedMinor 45 = .ok (.aload_n 0, 1) := by decide +kernel
theorem dX0_expandedMinor_46 : decode cX0_expandedMinor 46 = .ok (.getfield 9, 3) := by decide +kernel
theorem dX0_expandedMinor_49 : decode cX0_expandedMinor 49 = .ok (.iload_n 3, 1) := by decide +kernel
theorem dX0_expandedMinor_50 : decode cX0_expandedMinor 50 = .ok (.iconst 5, 1) := by decide +kernel
theorem dX0_expandedMinor_51 : decode cX0_expandedMinor 51 = .ok (.imul, 1) := by decide +kernel
theorem dX0_expandedMinor_52 : decode cX0_expandedMinor 52 = .ok (.iload 8, 2) := by decide +kernel
theorem dX0_expandedMinor_54 : decode cX0_expandedMinor 54 = .ok (.iadd, 1) := by decide +kernel
theorem dX0_expandedMinor_55 : decode cX0_expandedMinor 55 = .ok (.iaload, 1) := by decide +kernel
theorem dX0_expandedMinor_56 : decode cX0_expandedMinor 56 = .ok (.i2l, 1) := by decide +kernel
theorem dX0_expandedMinor_57 : decode cX0_expandedMinor 57 = .ok (.lmul, 1) := by decide +kernel
theorem dX0_expandedMinor_58 : decode cX0_expandedMinor 58 = .ok (.lsub, 1) := by decide +kernel
theorem dX0_expandedMinor_59 : decode cX0_expandedMinor 59 = .ok (.lstore 9, 2) := by decide +kernel
theorem dX0_expandedMinor_61 : decode cX0_expandedMinor 61 = .ok (.lload 4, 2) := by decide +kernel
theorem dX0_expandedMinor_63 : decode cX0_expandedMinor 63 = .ok (.lload 6, 2) := by decide +kernel
theorem dX0_expandedMinor_65 : decode cX0_expandedMinor 65 = .ok (.lload 9, 2) := by decide +kernel
theorem dX0_expandedMinor_67 : decode cX0_expandedMinor 67 = .ok (.lmul, 1) := by decide +kernel
theorem dX0_expandedMinor_68 : decode cX0_expandedMinor 68 = .ok (.aload_n 0, 1) := by decide +kernel
theorem dX0_expandedMinor_69 : decode cX0_expandedMinor 69 = .ok (.getfield 15, 3) := by decide +kernel
theorem dX0_expandedMinor_72 : decode cX0_expandedMinor 72 = .ok (.iload_n 2, 1) := by decide +kernel
theorem dX0_expandedMinor_73 : decode cX0_expandedMinor 73 = .ok (.iconst 1, 1) := by decide +kernel
theorem dX0_expandedMinor_74 : decode cX0_expandedMinor 74 = .ok (.iload 8, 2) := by decide +kernel
theorem dX0_expandedMinor_76 : decode cX0_expandedMinor 76 = .ok (.ishl, 1) := by decide +kernel
theorem dX0_expandedMinor_77 : decode cX0_expandedMinor 77 = .ok (.iconst (-1), 1) := by decide +kernel
theorem dX0_expandedMinor_78 : decode cX0_expandedMinor 78 = .ok (.ixor, 1) := by decide +kernel
theorem dX0_expandedMinor_79 : decode cX0_expandedMinor 79 = .ok (.iand, 1) := by decide +kernel
theorem dX0_expandedMinor_80 : decode cX0_expandedMinor 80 = .ok (.laload, 1) := by decide +kernel
theorem dX0_expandedMinor_81 : decode cX0_expandedMinor 81 = .ok (.lmul, 1) := by decide +kernel
theorem dX0_expandedMinor_82 : decode cX0_expandedMinor 82 = .ok (.ladd, 1) := by decide +kernel
theorem dX0_expandedMinor_83 : decode cX0_expandedMinor 83 = .ok (.lstore 4, 2) := by decide +kernel
theorem dX0_expandedMinor_85 : decode cX0_expandedMinor 85 = .ok (.lload 6, 2) := by decide +kernel
theorem dX0_expandedMinor_87 : decode cX0_expandedMinor 87 = .ok (.lneg, 1) := by decide +kernel
theorem dX0_expandedMinor_88 : decode cX0_expandedMinor 88 = .ok (.lstore 6, 2) := by decide +kernel
theorem dX0_expandedMinor_90 : decode cX0_expandedMinor 90 = .ok (.iinc 8 (-1), 3) := by decide +kernel
theorem dX0_expandedMinor_93 : decode cX0_expandedMinor 93 = .ok (.goto (-77), 3) := by decide +kernel
theorem dX0_expandedMinor_96 : decode cX0_expandedMinor 96 = .ok (.lload 4, 2) := by decide +kernel
theorem dX0_expandedMinor_98 : decode cX0_expandedMinor 98 = .ok (.lreturn, 1) := by decide +kernel
theorem dX1_init_0 : decode cX1_init 0 = .ok (.aload_n 0, 1) := by decide +kernel
theorem dX1_init_1 : decode cX1_init 1 = .ok (.invokespecial 3, 3) := by decide +kernel
theorem dX1_init_4 : decode cX1_init 4 = .ok (.aload_n 0, 1) := by decide +kernel
theorem dX1_init_5 : decode cX1_init 5 = .ok (.iconst 4, 1) := by decide +kernel
theorem dX1_init_6 : decode cX1_init 6 = .ok (.newarray .int, 2) := by decide +kernel
theorem dX1_init_8 : decode cX1_init 8 = .ok (.putfield 9, 3) := by decide +kernel
theorem dX1_init_11 : decode cX1_init 11 = .ok (.aload_n 0, 1) := by decide +kernel
theorem dX1_init_12 : decode cX1_init 12 = .ok (.iconst 5, 1) := by decide +kernel
theorem dX1_init_13 : decode cX1_init 13 = .ok (.newarray .int, 2) := by decide +kernel
theorem dX1_init_15 : decode cX1_init 15 = .ok (.putfield 15, 3) := by decide +kernel
theorem dX1_init_18 : decode cX1_init 18 = .ok (.return_, 1) := by decide +kernel
set_option maxRecDepth 20000 in
theorem ggX1_allHold_J7_fill_53178 : GoodIn wsX1_allHold wsJ7_fill_53178 := goodIn_r _ [6] (by decide +kernel) (by decide +kernel)
set_option maxRecDepth 20000 in
theorem gX1_allHold_J7_fill_53178 : GoodIn wsX1_allHold (va_wsS RX1 22 yJ7_fill_53178 wsJ7_fill_53178) := goodIn_app (goodIn_of _ (by decide +kernel)) ggX1_allHold_J7_fill_53178
set_option maxRecDepth 20000 in
theorem ggX1_allHold_X1_unitHolds : GoodIn wsX1_allHold wsX1_unitHolds := goodIn_r _ [11, 12, 13, 14, 15, 16, 17, 18, 19, 20, 21, 22, 23, 24, 10, 25, 1, 2, 49, 50, 46, 47, 48] (by decide +kernel) (by decide +kernel)
set_option maxRecDepth 20000 in
theorem gX1_allHold_X1_unitHolds : GoodIn wsX1_allHold (wsV RX1 28 RX1 yX1_unitHolds wsX1_unitHolds) := goodIn_app (goodIn_of _ (by decide +kernel)) ggX1_allHold_X1_unitHolds
set_option maxRecDepth 20000 in
theorem ggX1_allHold_X1_eitherWayHolds : GoodIn wsX1_allHold wsX1_eitherWayHolds := goodIn_r _ [29, 12, 13, 14, 15, 16, 17, 18, 19, 20, 21, 22, 23, 24, 10, 25, 1, 2, 49, 50, 46, 47, 48] (by decide +kernel) (by decide +kernel)
set_option maxRecDepth 20000 in
theorem gX1_allHold_X1_eitherWayHolds : GoodIn wsX1_allHold (wsV RX1 32 RX1 yX1_eitherWayHolds wsX1_eitherWayHolds) := goodIn_app (goodIn_of _ (by decide +kernel)) ggX1_allHold_X1_eitherWayHolds
set_option maxRecDepth 20000 in
theorem ggX1_allHold_X1_partnersHold : GoodIn wsX1_allHold wsX1_partnersHold := goodIn_r _ [33, 12, 34, 13, 14, 15, 16, 17, 18, 19, 20, 21, 22, 23, 24, 10, 25, 1, 2, 49, 50, 46, 47, 48] (by decide +kernel) (by decide +kernel)
set_option maxRecDepth 20000 in
theorem gX1_allHold_X1_partnersHold : GoodIn wsX1_allHold (wsV RX1 35 RX1 yX1_partnersHold wsX1_partnersHold) := goodIn_app (goodIn_of _ (by decide +kernel)) ggX1_allHold_X1_partnersHold
set_option maxRecDepth 20000 in
theorem ggX1_allHold_X1_turnedHolds : GoodIn wsX1_allHold wsX1_turnedHolds := goodIn_r _ [38, 12, 34, 13, 14, 15, 16, 17, 18, 19, 20, 21, 22, 23, 24, 10, 25, 1, 2, 49, 50, 46, 47, 48] (by decide +kernel) (by decide +kernel)
set_option maxRecDepth 20000 in
theorem gX1_allHold_X1_turnedHolds : GoodIn wsX1_allHold (wsV RX1 38 RX1 yX1_turnedHolds wsX1_turnedHolds) := goodIn_app (goodIn_of _ (by decide +kernel)) ggX1_allHold_X1_turnedHolds
set_option maxRecDepth 20000 in
theorem ggX1_allHold_X1_threeHolds : GoodIn wsX1_allHold wsX1_threeHolds := goodIn_r _ [42, 12, 43, 44, 10, 45, 13, 14, 15, 16, 17, 18, 19, 20, 21, 22, 23, 24, 25, 1, 2, 49, 50, 46, 47, 48] (by decide +kernel) (by decide +kernel)
set_option maxRecDepth 20000 in
theorem gX1_allHold_X1_threeHolds : GoodIn wsX1_allHold (wsV RX1 41 RX1 yX1_threeHolds wsX1_threeHolds) := goodIn_app (goodIn_of _ (by decide +kernel)) ggX1_allHold_X1_threeHolds
theorem dX1_allHold_0 : decode cX1_allHold 0 = .ok (.aload_n 0, 1) := by decide +kernel
theorem dX1_allHold_1 : decode cX1_allHold 1 = .ok (.iconst 0, 1) := by decide +kernel
theorem dX1_allHold_2 : decode cX1_allHold 2 = .ok (.putfield 18, 3) := by decide +kernel
theorem dX1_allHold_5 : decode cX1_allHold 5 = .ok (.aload_n 0, 1) := by decide +kernel
theorem dX1_allHold_6 : decode cX1_allHold 6 = .ok (.getfield 9, 3) := by decide +kernel
theorem dX1_allHold_9 : decode cX1_allHold 9 = .ok (.iconst (-1), 1) := by decide +kernel
theorem dX1_allHold_10 : decode cX1_allHold 10 = .ok (.invokestatic 22, 3) := by decide +kernel
theorem dX1_allHold_13 : decode cX1_allHold 13 = .ok (.aload_n 0, 1) := by decide +kernel
theorem dX1_allHold_14 : decode cX1_allHold 14 = .ok (.aload_n 1, 1) := by decide +kernel
theorem dX1_allHold_15 : decode cX1_allHold 15 = .ok (.invokevirtual 28, 3) := by decide +kernel
theorem dX1_allHold_18 : decode cX1_allHold 18 = .ok (.ifCond .eq 39, 3) := by decide +kernel
theorem dX1_allHold_21 : decode cX1_allHold 21 = .ok (.aload_n 0, 1) := by decide +kernel
theorem dX1_allHold_22 : decode cX1_allHold 22 = .ok (.aload_n 1, 1) := by decide +kernel
theorem dX1_allHold_23 : decode cX1_allHold 23 = .ok (.invokevirtual 32, 3) := by decide +kernel
theorem dX1_allHold_26 : decode cX1_allHold 26 = .ok (.ifCond .eq 31, 3) := by decide +kernel
theorem dX1_allHold_29 : decode cX1_allHold 29 = .ok (.aload_n 0, 1) := by decide +kernel
theorem dX1_allHold_30 : decode cX1_allHold 30 = .ok (.aload_n 1, 1) := by decide +kernel
theorem dX1_allHold_31 : decode cX1_allHold 31 = .ok (.invokevirtual 35, 3) := by decide +kernel
theorem dX1_allHold_34 : decode cX1_allHold 34 = .ok (.ifCond .eq 23, 3) := by decide +kernel
theorem dX1_allHold_37 : decode cX1_allHold 37 = .ok (.aload_n 0, 1) := by decide +kernel
theorem dX1_allHold_38 : decode cX1_allHold 38 = .ok (.aload_n 1, 1) := by decide +kernel
theorem dX1_allHold_39 : decode cX1_allHold 39 = .ok (.invokevirtual 38, 3) := by decide +kernel
theorem dX1_allHold_42 : decode cX1_allHold 42 = .ok (.ifCond .eq 15, 3) := by decide +kernel
theorem dX1_allHold_45 : decode cX1_allHold 45 = .ok (.aload_n 0, 1) := by decide +kernel
theorem dX1_allHold_46 : decode cX1_allHold 46 = .ok (.aload_n 1, 1) := by decide +kernel
theorem dX1_allHold_47 : decode cX1_allHold 47 = .ok (.invokevirtual 41, 3) := by decide +kernel
theorem dX1_allHold_50 : decode cX1_allHold 50 = .ok (.ifCond .eq 7, 3) := by decide +kernel
theorem dX1_allHold_53 : decode cX1_allHold 53 = .ok (.iconst 1, 1) := by decide +kernel
theorem dX1_allHold_54 : decode cX1_allHold 54 = .ok (.goto 4, 3) := by decide +kernel
theorem dX1_allHold_57 : decode cX1_allHold 57 = .ok (.iconst 0, 1) := by decide +kernel
theorem dX1_allHold_58 : decode cX1_allHold 58 = .ok (.ireturn, 1) := by decide +kernel
theorem dX1_breaks_0 : decode cX1_breaks 0 = .ok (.aload_n 0, 1) := by decide +kernel
theorem dX1_breaks_1 : decode cX1_breaks 1 = .ok (.iload_n 1, 1) := by decide +kernel
theorem dX1_breaks_2 : decode cX1_breaks 2 = .ok (.putfield 18, 3) := by decide +kernel
theorem dX1_breaks_5 : decode cX1_breaks 5 = .ok (.aload_n 0, 1) := by decide +kernel
theorem dX1_breaks_6 : decode cX1_breaks 6 = .ok (.getfield 9, 3) := by decide +kernel
theorem dX1_breaks_9 : decode cX1_breaks 9 = .ok (.iconst 0, 1) := by decide +kernel
theorem dX1_breaks_10 : decode cX1_breaks 10 = .ok (.iload_n 2, 1) := by decide +kernel
theorem dX1_breaks_11 : decode cX1_breaks 11 = .ok (.iastore, 1) := by decide +kernel
theorem dX1_breaks_12 : decode cX1_breaks 12 = .ok (.aload_n 0, 1) := by decide +kernel
theorem dX1_breaks_13 : decode cX1_breaks 13 = .ok (.getfield 9, 3) := by decide +kernel
theorem dX1_breaks_16 : decode cX1_breaks 16 = .ok (.iconst 1, 1) := by decide +kernel
theorem dX1_breaks_17 : decode cX1_breaks 17 = .ok (.iload_n 3, 1) := by decide +kernel
theorem dX1_breaks_18 : decode cX1_breaks 18 = .ok (.iastore, 1) := by decide +kernel
theorem dX1_breaks_19 : decode cX1_breaks 19 = .ok (.aload_n 0, 1) := by decide +kernel
theorem dX1_breaks_20 : decode cX1_breaks 20 = .ok (.getfield 9, 3) := by decide +kernel
theorem dX1_breaks_23 : decode cX1_breaks 23 = .ok (.iconst 2, 1) := by decide +kernel
theorem dX1_breaks_24 : decode cX1_breaks 24 = .ok (.iload 4, 2) := by decide +kernel
theorem dX1_breaks_26 : decode cX1_breaks 26 = .ok (.iastore, 1) := by decide +kernel
theorem dX1_breaks_27 : decode cX1_breaks 27 = .ok (.aload_n 0, 1) := by decide +kernel
theorem dX1_breaks_28 : decode cX1_breaks 28 = .ok (.getfield 9, 3) := by decide +kernel
theorem dX1_breaks_31 : decode cX1_breaks 31 = .ok (.iconst 3, 1) := by decide +kernel
theorem dX1_breaks_32 : decode cX1_breaks 32 = .ok (.iload 5, 2) := by decide +kernel
theorem dX1_breaks_34 : decode cX1_breaks 34 = .ok (.iastore, 1) := by decide +kernel
theorem dX1_breaks_35 : decode cX1_breaks 35 = .ok (.iconst 0, 1) := by decide +kernel
theorem dX1_breaks_36 : decode cX1_breaks 36 = .ok (.ireturn, 1) := by decide +kernel
set_option maxRecDepth 20000 in
theorem ggX1_unitHolds_X7_number : GoodIn wsX1_unitHolds wsX7_number := goodIn_r _ [6, 7, 8, 9, 5, 10, 18, 19] (by decide +kernel) (by decide +kernel)
set_option maxRecDepth 20000 in
theorem gX1_unitHolds_X7_number : GoodIn wsX1_unitHolds (wsV RX1 49 RX7 yX7_number wsX7_number) := goodIn_app (goodIn_of _ (by decide +kernel)) ggX1_unitHolds_X7_number
set_option maxRecDepth 20000 in
theorem ggX1_unitHolds_X1_breaks : GoodIn wsX1_unitHolds wsX1_breaks := goodIn_r _ [15, 16, 17, 20, 21, 22] (by decide +kernel) (by decide +kernel)
set_option maxRecDepth 20000 in
theorem gX1_unitHolds_X1_breaks : GoodIn wsX1_unitHolds (wsV RX1 53 RX1 yX1_breaks wsX1_breaks) := goodIn_app (goodIn_of _ (by decide +kernel)) ggX1_unitHolds_X1_breaks
theorem dX1_unitHolds_0 : decode cX1_unitHolds 0 = .ok (.iconst 0, 1) := by decide +kernel
theorem dX1_unitHolds_1 : decode cX1_unitHolds 1 = .ok (.istore_n 2, 1) := by decide +kernel
theorem dX1_unitHolds_2 : decode cX1_unitHolds 2 = .ok (.iload_n 2, 1) := by decide +kernel
theorem dX1_unitHolds_3 : decode cX1_unitHolds 3 = .ok (.aload_n 1, 1) := by decide +kernel
theorem dX1_unitHolds_4 : decode cX1_unitHolds 4 = .ok (.getfield 44, 3) := by decide +kernel
theorem dX1_unitHolds_7 : decode cX1_unitHolds 7 = .ok (.if_icmp .ge 71, 3) := by decide +kernel
theorem dX1_unitHolds_10 : decode cX1_unitHolds 10 = .ok (.iconst 0, 1) := by decide +kernel
theorem dX1_unitHolds_11 : decode cX1_unitHolds 11 = .ok (.istore_n 3, 1) := by decide +kernel
theorem dX1_unitHolds_12 : decode cX1_unitHolds 12 = .ok (.iload_n 3, 1) := by decide +kernel
theorem dX1_unitHolds_13 : decode cX1_unitHolds 13 = .ok (.aload_n 1, 1) := by decide +kernel
theorem dX1_unitHolds_14 : decode cX1_unitHolds 14 = .ok (.getfield 44, 3) := by decide +kernel
theorem dX1_unitHolds_17 : decode cX1_unitHolds 17 = .ok (.if_icmp .ge 55, 3) := by decide +kernel
theorem dX1_unitHolds_20 : decode cX1_unitHolds 20 = .ok (.iload_n 2, 1) := by decide +kernel
theorem dX1_unitHolds_21 : decode cX1_unitHolds 21 = .ok (.iload_n 3, 1) := by decide +kernel
theorem dX1_unitHolds_22 : decode cX1_unitHolds 22 = .ok (.if_icmp .ne 7, 3) := by decide +kernel
theorem dX1_unitHolds_25 : decode cX1_unitHolds 25 = .ok (.iconst 1, 1) := by decide +kernel
theorem dX1_unitHolds_26 : decode cX1_unitHolds 26 = .ok (.goto 4, 3) := by decide +kernel
theorem dX1_unitHolds_29 : decode cX1_unitHolds 29 = .ok (.iconst 0, 1) := by decide +kernel
theorem dX1_unitHolds_30 : decode cX1_unitHolds 30 = .ok (.istore 4, 2) := by decide +kernel
theorem dX1_unitHolds_32 : decode cX1_unitHolds 32 = .ok (.aload_n 1, 1) := by decide +kernel
theorem dX1_unitHolds_33 : decode cX1_unitHolds 33 = .ok (.iconst 0, 1) := by decide +kernel
theorem dX1_unitHolds_34 : decode cX1_unitHolds 34 = .ok (.iload_n 2, 1) := by decide +kernel
theorem dX1_unitHolds_35 : decode cX1_unitHolds 35 = .ok (.iload_n 3, 1) := by decide +kernel
theorem dX1_unitHolds_36 : decode cX1_unitHolds 36 = .ok (.invokevirtual 49, 3) := by decide +kernel
theorem dX1_unitHolds_39 : decode cX1_unitHolds 39 = .ok (.iload 4, 2) := by decide +kernel
theorem dX1_unitHolds_41 : decode cX1_unitHolds 41 = .ok (.if_icmp .ne 15, 3) := by decide +kernel
theorem dX1_unitHolds_44 : decode cX1_unitHolds 44 = .ok (.aload_n 1, 1) := by decide +kernel
theorem dX1_unitHolds_45 : decode cX1_unitHolds 45 = .ok (.iload_n 2, 1) := by decide +kernel
theorem dX1_unitHolds_46 : decode cX1_unitHolds 46 = .ok (.iconst 0, 1) := by decide +kernel
theorem dX1_unitHolds_47 : decode cX1_unitHolds 47 = .ok (.iload_n 3, 1) := by decide +kernel
theorem dX1_unitHolds_48 : decode cX1_unitHolds 48 = .ok (.invokevirtual 49, 3) := by decide +kernel
theorem dX1_unitHolds_51 : decode cX1_unitHolds 51 = .ok (.iload 4, 2) := by decide +kernel
theorem dX1_unitHolds_53 : decode cX1_unitHolds 53 = .ok (.if_icmp .eq 13, 3) := by decide +kernel
theorem dX1_unitHolds_56 : decode cX1_unitHolds 56 = .ok (.aload_n 0, 1) := by decide +kernel
theorem dX1_unitHolds_57 : decode cX1_unitHolds 57 = .ok (.iconst 1, 1) := by decide +kernel
theorem dX1_unitHolds_58 : decode cX1_unitHolds 58 = .ok (.iload_n 2, 1) := by decide +kernel
theorem dX1_unitHolds_59 : decode cX1_unitHolds 59 = .ok (.iload_n 3, 1) := by decide +kernel
theorem dX1_unitHolds_60 : decode cX1_unitHolds 60 = .ok (.iconst (-1), 1) := by decide +kernel
theorem dX1_unitHolds_61 : decode cX1_unitHolds 61 = .ok (.iconst (-1), 1) := by decide +kernel
theorem dX1_unitHolds_62 : decode cX1_unitHolds 62 = .ok (.invokevirtual 53, 3) := by decide +kernel
theorem dX1_unitHolds_65 : decode cX1_unitHolds 65 = .ok (.ireturn, 1) := by decide +kernel
theorem dX1_unitHolds_66 : decode cX1_unitHolds 66 = .ok (.iinc 3 1, 3) := by decide +kernel
theorem dX1_unitHolds_69 : decode cX1_unitHolds 69 = .ok (.goto (-57), 3) := by decide +kernel
theorem dX1_unitHolds_72 : decode cX1_unitHolds 72 = .ok (.iinc 2 1, 3) := by decide +kernel
theorem dX1_unitHolds_75 : decode cX1_unitHolds 75 = .ok (.goto (-73), 3) := by decide +kernel
theorem dX1_unitHolds_78 : decode cX1_unitHolds 78 = .ok (.iconst 1, 1) := by decide +kernel
theorem dX1_unitHolds_79 : decode cX1_unitHolds 79 = .ok (.ireturn, 1) := by decide +kernel
set_option maxRecDepth 20000 in
theorem ggX1_eitherWayHolds_X7_number : GoodIn wsX1_eitherWayHolds wsX7_number := goodIn_r _ [6, 7, 8, 9, 5, 10, 18, 19] (by decide +kernel) (by decide +kernel)
set_option maxRecDepth 20000 in
theorem gX1_eitherWayHolds_X7_number : GoodIn wsX1_eitherWayHolds (wsV RX1 49 RX7 yX7_number wsX7_number) := goodIn_app (goodIn_of _ (by decide +kernel)) ggX1_eitherWayHolds_X7_number
set_option maxRecDepth 20000 in
theorem ggX1_eitherWayHolds_X1_breaks : GoodIn wsX1_eitherWayHolds wsX1_breaks := goodIn_r _ [15, 16, 17, 20, 21, 22] (by decide +kernel) (by decide +kernel)
set_option maxRecDepth 20000 in
theorem gX1_eitherWayHolds_X1_breaks : GoodIn wsX1_eitherWayHolds (wsV RX1 53 RX1 yX1_breaks wsX1_breaks) := goodIn_app (goodIn_of _ (by decide +kernel)) ggX1_eitherWayHolds_X1_breaks
theorem dX1_eitherWayHolds_0 : decode cX1_eitherWayHolds 0 = .ok (.iconst 0, 1) := by decide +kernel
theorem dX1_eitherWayHolds_1 : decode cX1_eitherWayHolds 1 = .ok (.istore_n 2, 1) := by decide +kernel
theorem dX1_eitherWayHolds_2 : decode cX1_eitherWayHolds 2 = .ok (.iload_n 2, 1) := by decide +kernel
theorem dX1_eitherWayHolds_3 : decode cX1_eitherWayHolds 3 = .ok (.aload_n 1, 1) := by decide +kernel
theorem dX1_eitherWayHolds_4 : decode cX1_eitherWayHolds 4 = .ok (.getfield 44, 3) := by decide +kernel
theorem dX1_eitherWayHolds_7 : decode cX1_eitherWayHolds 7 = .ok (.if_icmp .ge 73, 3) := by decide +kernel
theorem dX1_eitherWayHolds_10 : decode cX1_eitherWayHolds 10 = .ok (.iconst 0, 1) := by decide +kernel
theorem dX1_eitherWayHolds_11 : decode cX1_eitherWayHolds 11 = .ok (.istore_n 3, 1) := by decide +kernel
theorem dX1_eitherWayHolds_12 : decode cX1_eitherWayHolds 12 = .ok (.iload_n 3, 1) := by decide +kernel
theorem dX1_eitherWayHolds_13 : decode cX1_eitherWayHolds 13 = .ok (.aload_n 1, 1) := by decide +kernel
theorem dX1_eitherWayHolds_14 : decode cX1_eitherWayHolds 14 = .ok (.getfield 44, 3) := by decide +kernel
theorem dX1_eitherWayHolds_17 : decode cX1_eitherWayHolds 17 = .ok (.if_icmp .ge 57, 3) := by decide +kernel
theorem dX1_eitherWayHolds_20 : decode cX1_eitherWayHolds 20 = .ok (.iconst 0, 1) := by decide +kernel
theorem dX1_eitherWayHolds_21 : decode cX1_eitherWayHolds 21 = .ok (.istore 4, 2) := by decide +kernel
theorem dX1_eitherWayHolds_23 : decode cX1_eitherWayHolds 23 = .ok (.iload 4, 2) := by decide +kernel
theorem dX1_eitherWayHolds_25 : decode cX1_eitherWayHolds 25 = .ok (.aload_n 1, 1) := by decide +kernel
theorem dX1_eitherWayHolds_26 : decode cX1_eitherWayHolds 26 = .ok (.getfield 44, 3) := by decide +kernel
theorem dX1_eitherWayHolds_29 : decode cX1_eitherWayHolds 29 = .ok (.if_icmp .ge 39, 3) := by decide +kernel
theorem dX1_eitherWayHolds_32 : decode cX1_eitherWayHolds 32 = .ok (.aload_n 1, 1) := by decide +kernel
theorem dX1_eitherWayHolds_33 : decode cX1_eitherWayHolds 33 = .ok (.iload_n 2, 1) := by decide +kernel
theorem dX1_eitherWayHolds_34 : decode cX1_eitherWayHolds 34 = .ok (.iload_n 3, 1) := by decide +kernel
theorem dX1_eitherWayHolds_35 : decode cX1_eitherWayHolds 35 = .ok (.iload 4, 2) := by decide +kernel
theorem dX1_eitherWayHolds_37 : decode cX1_eitherWayHolds 37 = .ok (.invokevirtual 49, 3) := by decide +kernel
theorem dX1_eitherWayHolds_40 : decode cX1_eitherWayHolds 40 = .ok (.aload_n 1, 1) := by decide +kernel
theorem dX1_eitherWayHolds_41 : decode cX1_eitherWayHolds 41 = .ok (.iload_n 3, 1) := by decide +kernel
theorem dX1_eitherWayHolds_42 : decode cX1_eitherWayHolds 42 = .ok (.iload_n 2, 1) := by decide +kernel
theorem dX1_eitherWayHolds_43 : decode cX1_eitherWayHolds 43 = .ok (.iload 4, 2) := by decide +kernel
theorem dX1_eitherWayHolds_45 : decode cX1_eitherWayHolds 45 = .ok (.invokevirtual 49, 3) := by decide +kernel
theorem dX1_eitherWayHolds_48 : decode cX1_eitherWayHolds 48 = .ok (.if_icmp .eq 14, 3) := by decide +kernel
theorem dX1_eitherWayHolds_51 : decode cX1_eitherWayHolds 51 = .ok (.aload_n 0, 1) := by decide +kernel
theorem dX1_eitherWayHolds_52 : decode cX1_eitherWayHolds 52 = .ok (.iconst 2, 1) := by decide +kernel
theorem dX1_eitherWayHolds_53 : decode cX1_eitherWayHolds 53 = .ok (.iload_n 2, 1) := by decide +kernel
theorem dX1_eitherWayHolds_54 : decode cX1_eitherWayHolds 54 = .ok (.iload_n 3, 1) := by decide +kernel
theorem dX1_eitherWayHolds_55 : decode cX1_eitherWayHolds 55 = .ok (.iload 4, 2) := by decide +kernel
theorem dX1_eitherWayHolds_57 : decode cX1_eitherWayHolds 57 = .ok (.iconst (-1), 1) := by decide +kernel
theorem dX1_eitherWayHolds_58 : decode cX1_eitherWayHolds 58 = .ok (.invokevirtual 53, 3) := by decide +kernel
theorem dX1_eitherWayHolds_61 : decode cX1_eitherWayHolds 61 = .ok (.ireturn, 1) := by decide +kernel
theorem dX1_eitherWayHolds_62 : decode cX1_eitherWayHolds 62 = .ok (.iinc 4 1, 3) := by decide +kernel
theorem dX1_eitherWayHolds_65 : decode cX1_eitherWayHolds 65 = .ok (.goto (-42), 3) := by decide +kernel
theorem dX1_eitherWayHolds_68 : decode cX1_eitherWayHolds 68 = .ok (.iinc 3 1, 3) := by decide +kernel
theorem dX1_eitherWayHolds_71 : decode cX1_eitherWayHolds 71 = .ok (.goto (-59), 3) := by decide +kernel
theorem dX1_eitherWayHolds_74 : decode cX1_eitherWayHolds 74 = .ok (.iinc 2 1, 3) := by decide +kernel
theorem dX1_eitherWayHolds_77 : decode cX1_eitherWayHolds 77 = .ok (.goto (-75), 3) := by decide +kernel
theorem dX1_eitherWayHolds_80 : decode cX1_eitherWayHolds 80 = .ok (.iconst 1, 1) := by decide +kernel
theorem dX1_eitherWayHolds_81 : decode cX1_eitherWayHolds 81 = .ok (.ireturn, 1) := by decide +kernel
set_option maxRecDepth 20000 in
theorem ggX1_partnersHold_X7_number : GoodIn wsX1_partnersHold wsX7_number := goodIn_r _ [7, 8, 9, 10, 6, 11, 19, 20] (by decide +kernel) (by decide +kernel)
set_option maxRecDepth 20000 in
theorem gX1_partnersHold_X7_number : GoodIn wsX1_partnersHold (wsV RX1 49 RX7 yX7_number wsX7_number) := goodIn_app (goodIn_of _ (by decide +kernel)) ggX1_partnersHold_X7_number
set_option maxRecDepth 20000 in
theorem ggX1_partnersHold_X1_breaks : GoodIn wsX1_partnersHold wsX1_breaks := goodIn_r _ [16, 17, 18, 21, 22, 23] (by decide +kernel) (by decide +kernel)
set_option maxRecDepth 20000 in
theorem gX1_partnersHold_X1_breaks : GoodIn wsX1_partnersHold (wsV RX1 53 RX1 yX1_breaks wsX1_breaks) := goodIn_app (goodIn_of _ (by decide +kernel)) ggX1_partnersHold_X1_breaks
theorem dX1_partnersHold_0 : decode cX1_partnersHold 0 = .ok (.iconst 0, 1) := by decide +kernel
theorem dX1_partnersHold_1 : decode cX1_partnersHold 1 = .ok (.istore_n 2, 1) := by decide +kernel
theorem dX1_partnersHold_2 : decode cX1_partnersHold 2 = .ok (.iload_n 2, 1) := by decide +kernel
theorem dX1_partnersHold_3 : decode cX1_partnersHold 3 = .ok (.aload_n 1, 1) := by decide +kernel
theorem dX1_partnersHold_4 : decode cX1_partnersHold 4 = .ok (.getfield 44, 3) := by decide +kernel
theorem dX1_partnersHold_7 : decode cX1_partnersHold 7 = .ok (.if_icmp .ge 74, 3) := by decide +kernel
theorem dX1_partnersHold_10 : decode cX1_partnersHold 10 = .ok (.iconst 0, 1) := by decide +kernel
theorem dX1_partnersHold_11 : decode cX1_partnersHold 11 = .ok (.istore_n 3, 1) := by decide +kernel
theorem dX1_partnersHold_12 : decode cX1_partnersHold 12 = .ok (.iconst 0, 1) := by decide +kernel
theorem dX1_partnersHold_13 : decode cX1_partnersHold 13 = .ok (.istore 4, 2) := by decide +kernel
theorem dX1_partnersHold_15 : decode cX1_partnersHold 15 = .ok (.iload 4, 2) := by decide +kernel
theorem dX1_partnersHold_17 : decode cX1_partnersHold 17 = .ok (.aload_n 1, 1) := by decide +kernel
theorem dX1_partnersHold_18 : decode cX1_partnersHold 18 = .ok (.getfield 44, 3) := by decide +kernel
theorem dX1_partnersHold_21 : decode cX1_partnersHold 21 = .ok (.if_icmp .ge 39, 3) := by decide +kernel
theorem dX1_partnersHold_24 : decode cX1_partnersHold 24 = .ok (.iload_n 3, 1) := by decide +kernel
theorem dX1_partnersHold_25 : decode cX1_partnersHold 25 = .ok (.aload_n 1, 1) := by decide +kernel
theorem dX1_partnersHold_26 : decode cX1_partnersHold 26 = .ok (.iload_n 2, 1) := by decide +kernel
theorem dX1_partnersHold_27 : decode cX1_partnersHold 27 = .ok (.iload 4, 2) := by decide +kernel
theorem dX1_partnersHold_29 : decode cX1_partnersHold 29 = .ok (.iconst 0, 1) := by decide +kernel
theorem dX1_partnersHold_30 : decode cX1_partnersHold 30 = .ok (.invokevirtual 49, 3) := by decide +kernel
theorem dX1_partnersHold_33 : decode cX1_partnersHold 33 = .ok (.iadd, 1) := by decide +kernel
theorem dX1_partnersHold_34 : decode cX1_partnersHold 34 = .ok (.istore_n 3, 1) := by decide +kernel
theorem dX1_partnersHold_35 : decode cX1_partnersHold 35 = .ok (.aload_n 1, 1) := by decide +kernel
theorem dX1_partnersHold_36 : decode cX1_partnersHold 36 = .ok (.iload_n 2, 1) := by decide +kernel
theorem dX1_partnersHold_37 : decode cX1_partnersHold 37 = .ok (.iload 4, 2) := by decide +kernel
theorem dX1_partnersHold_39 : decode cX1_partnersHold 39 = .ok (.iconst 0, 1) := by decide +kernel
theorem dX1_partnersHold_40 : decode cX1_partnersHold 40 = .ok (.invokevirtual 49, 3) := by decide +kernel
theorem dX1_partnersHold_43 : decode cX1_partnersHold 43 = .ok (.ifCond .le 11, 3) := by decide +kernel
theorem dX1_partnersHold_46 : decode cX1_partnersHold 46 = .ok (.aload_n 0, 1) := by decide +kernel
theorem dX1_partnersHold_47 : decode cX1_partnersHold 47 = .ok (.getfield 15, 3) := by decide +kernel
theorem dX1_partnersHold_50 : decode cX1_partnersHold 50 = .ok (.iload_n 2, 1) := by decide +kernel
theorem dX1_partnersHold_51 : decode cX1_partnersHold 51 = .ok (.iload 4, 2) := by decide +kernel
theorem dX1_partnersHold_53 : decode cX1_partnersHold 53 = .ok (.iastore, 1) := by decide +kernel
theorem dX1_partnersHold_54 : decode cX1_partnersHold 54 = .ok (.iinc 4 1, 3) := by decide +kernel
theorem dX1_partnersHold_57 : decode cX1_partnersHold 57 = .ok (.goto (-42), 3) := by decide +kernel
theorem dX1_partnersHold_60 : decode cX1_partnersHold 60 = .ok (.iload_n 3, 1) := by decide +kernel
theorem dX1_partnersHold_61 : decode cX1_partnersHold 61 = .ok (.iconst 1, 1) := by decide +kernel
theorem dX1_partnersHold_62 : decode cX1_partnersHold 62 = .ok (.if_icmp .eq 13, 3) := by decide +kernel
theorem dX1_partnersHold_65 : decode cX1_partnersHold 65 = .ok (.aload_n 0, 1) := by decide +kernel
theorem dX1_partnersHold_66 : decode cX1_partnersHold 66 = .ok (.iconst 3, 1) := by decide +kernel
theorem dX1_partnersHold_67 : decode cX1_partnersHold 67 = .ok (.iload_n 2, 1) := by decide +kernel
theorem dX1_partnersHold_68 : decode cX1_partnersHold 68 = .ok (.iconst (-1), 1) := by decide +kernel
theorem dX1_partnersHold_69 : decode cX1_partnersHold 69 = .ok (.iconst (-1), 1) := by decide +kernel
theorem dX1_partnersHold_70 : decode cX1_partnersHold 70 = .ok (.iconst (-1), 1) := by decide +kernel
theorem dX1_partnersHold_71 : decode cX1_partnersHold 71 = .ok (.invokevirtual 53, 3) := by decide +kernel
theorem dX1_partnersHold_74 : decode cX1_partnersHold 74 = .ok (.ireturn, 1) := by decide +kernel
theorem dX1_partnersHold_75 : decode cX1_partnersHold 75 = .ok (.iinc 2 1, 3) := by decide +kernel
theorem dX1_partnersHold_78 : decode cX1_partnersHold 78 = .ok (.goto (-76), 3) := by decide +kernel
theorem dX1_partnersHold_81 : decode cX1_partnersHold 81 = .ok (.iconst 1, 1) := by decide +kernel
theorem dX1_partnersHold_82 : decode cX1_partnersHold 82 = .ok (.ireturn, 1) := by decide +kernel
set_option maxRecDepth 20000 in
theorem ggX1_turnedHolds_X7_number : GoodIn wsX1_turnedHolds wsX7_number := goodIn_r _ [7, 8, 9, 10, 6, 11, 19, 20] (by decide +kernel) (by decide +kernel)
set_option maxRecDepth 20000 in
theorem gX1_turnedHolds_X7_number : GoodIn wsX1_turnedHolds (wsV RX1 49 RX7 yX7_number wsX7_number) := goodIn_app (goodIn_of _ (by decide +kernel)) ggX1_turnedHolds_X7_number
set_option maxRecDepth 20000 in
theorem ggX1_turnedHolds_X1_breaks : GoodIn wsX1_turnedHolds wsX1_breaks := goodIn_r _ [16, 17, 18, 21, 22, 23] (by decide +kernel) (by decide +kernel)
set_option maxRecDepth 20000 in
theorem gX1_turnedHolds_X1_breaks : GoodIn wsX1_turnedHolds (wsV RX1 53 RX1 yX1_breaks wsX1_breaks) := goodIn_app (goodIn_of _ (by decide +kernel)) ggX1_turnedHolds_X1_breaks
theorem dX1_turnedHolds_0 : decode cX1_turnedHolds 0 = .ok (.iconst 0, 1) := by decide +kernel
theorem dX1_turnedHolds_1 : decode cX1_turnedHolds 1 = .ok (.istore_n 2, 1) := by decide +kernel
theorem dX1_turnedHolds_2 : decode cX1_turnedHolds 2 = .ok (.iload_n 2, 1) := by decide +kernel
theorem dX1_turnedHolds_3 : decode cX1_turnedHolds 3 = .ok (.aload_n 1, 1) := by decide +kernel
theorem dX1_turnedHolds_4 : decode cX1_turnedHolds 4 = .ok (.getfield 44, 3) := by decide +kernel
theorem dX1_turnedHolds_7 : decode cX1_turnedHolds 7 = .ok (.if_icmp .ge 78, 3) := by decide +kernel
theorem dX1_turnedHolds_10 : decode cX1_turnedHolds 10 = .ok (.iconst 0, 1) := by decide +kernel
theorem dX1_turnedHolds_11 : decode cX1_turnedHolds 11 = .ok (.istore_n 3, 1) := by decide +kernel
theorem dX1_turnedHolds_12 : decode cX1_turnedHolds 12 = .ok (.iload_n 3, 1) := by decide +kernel
theorem dX1_turnedHolds_13 : decode cX1_turnedHolds 13 = .ok (.aload_n 1, 1) := by decide +kernel
theorem dX1_turnedHolds_14 : decode cX1_turnedHolds 14 = .ok (.getfield 44, 3) := by decide +kernel
theorem dX1_turnedHolds_17 : decode cX1_turnedHolds 17 = .ok (.if_icmp .ge 62, 3) := by decide +kernel
theorem dX1_turnedHolds_20 : decode cX1_turnedHolds 20 = .ok (.iconst 0, 1) := by decide +kernel
theorem dX1_turnedHolds_21 : decode cX1_turnedHolds 21 = .ok (.istore 4, 2) := by decide +kernel
theorem dX1_turnedHolds_23 : decode cX1_turnedHolds 23 = .ok (.iload 4, 2) := by decide +kernel
theorem dX1_turnedHolds_25 : decode cX1_turnedHolds 25 = .ok (.aload_n 1, 1) := by decide +kernel
theorem dX1_turnedHolds_26 : decode cX1_turnedHolds 26 = .ok (.getfield 44, 3) := by decide +kernel
theorem dX1_turnedHolds_29 : decode cX1_turnedHolds 29 = .ok (.if_icmp .ge 44, 3) := by decide +kernel
theorem dX1_turnedHolds_32 : decode cX1_turnedHolds 32 = .ok (.aload_n 1, 1) := by decide +kernel
theorem dX1_turnedHolds_33 : decode cX1_turnedHolds 33 = .ok (.iload_n 2, 1) := by decide +kernel
theorem dX1_turnedHolds_34 : decode cX1_turnedHolds 34 = .ok (.iload_n 3, 1) := by decide +kernel
theorem dX1_turnedHolds_35 : decode cX1_turnedHolds 35 = .ok (.iload 4, 2) := by decide +kernel
theorem dX1_turnedHolds_37 : decode cX1_turnedHolds 37 = .ok (.invokevirtual 49, 3) := by decide +kernel
theorem dX1_turnedHolds_40 : decode cX1_turnedHolds 40 = .ok (.aload_n 1, 1) := by decide +kernel
theorem dX1_turnedHolds_41 : decode cX1_turnedHolds 41 = .ok (.aload_n 0, 1) := by decide +kernel
theorem dX1_turnedHolds_42 : decode cX1_turnedHolds 42 = .ok (.getfield 15, 3) := by decide +kernel
theorem dX1_turnedHolds_45 : decode cX1_turnedHolds 45 = .ok (.iload_n 2, 1) := by decide +kernel
theorem dX1_turnedHolds_46 : decode cX1_turnedHolds 46 = .ok (.iaload, 1) := by decide +kernel
theorem dX1_turnedHolds_47 : decode cX1_turnedHolds 47 = .ok (.iload 4, 2) := by decide +kernel
theorem dX1_turnedHolds_49 : decode cX1_turnedHolds 49 = .ok (.iload_n 3, 1) := by decide +kernel
theorem dX1_turnedHolds_50 : decode cX1_turnedHolds 50 = .ok (.invokevirtual 49, 3) := by decide +kernel
theorem dX1_turnedHolds_53 : decode cX1_turnedHolds 53 = .ok (.if_icmp .eq 14, 3) := by decide +kernel
theorem dX1_turnedHolds_56 : decode cX1_turnedHolds 56 = .ok (.aload_n 0, 1) := by decide +kernel
theorem dX1_turnedHolds_57 : decode cX1_turnedHolds 57 = .ok (.iconst 4, 1) := by decide +kernel
theorem dX1_turnedHolds_58 : decode cX1_turnedHolds 58 = .ok (.iload_n 2, 1) := by decide +kernel
theorem dX1_turnedHolds_59 : decode cX1_turnedHolds 59 = .ok (.iload_n 3, 1) := by decide +kernel
theorem dX1_turnedHolds_60 : decode cX1_turnedHolds 60 = .ok (.iload 4, 2) := by decide +kernel
theorem dX1_turnedHolds_62 : decode cX1_turnedHolds 62 = .ok (.iconst (-1), 1) := by decide +kernel
theorem dX1_turnedHolds_63 : decode cX1_turnedHolds 63 = .ok (.invokevirtual 53, 3) := by decide +kernel
theorem dX1_turnedHolds_66 : decode cX1_turnedHolds 66 = .ok (.ireturn, 1) := by decide +kernel
theorem dX1_turnedHolds_67 : decode cX1_turnedHolds 67 = .ok (.iinc 4 1, 3) := by decide +kernel
theorem dX1_turnedHolds_70 : decode cX1_turnedHolds 70 = .ok (.goto (-47), 3) := by decide +kernel
theorem dX1_turnedHolds_73 : decode cX1_turnedHolds 73 = .ok (.iinc 3 1, 3) := by decide +kernel
theorem dX1_turnedHolds_76 : decode cX1_turnedHolds 76 = .ok (.goto (-64), 3) := by decide +kernel
theorem dX1_turnedHolds_79 : decode cX1_turnedHolds 79 = .ok (.iinc 2 1, 3) := by decide +kernel
theorem dX1_turnedHolds_82 : decode cX1_turnedHolds 82 = .ok (.goto (-80), 3) := by decide +kernel
theorem dX1_turnedHolds_85 : decode cX1_turnedHolds 85 = .ok (.iconst 1, 1) := by decide +kernel
theorem dX1_turnedHolds_86 : decode cX1_turnedHolds 86 = .ok (.ireturn, 1) := by decide +kernel
set_option maxRecDepth 20000 in
theorem ggX1_threeHolds_X1_firstUnlike : GoodIn wsX1_threeHolds wsX1_firstUnlike := goodIn_r _ [5, 1, 6, 7, 8, 9, 10, 11, 12, 13, 14, 21, 22] (by decide +kernel) (by decide +kernel)
set_option maxRecDepth 20000 in
theorem gX1_threeHolds_X1_firstUnlike : GoodIn wsX1_threeHolds (va_wsS RX1 57 yX1_firstUnlike wsX1_firstUnlike) := goodIn_app (goodIn_of _ (by decide +kernel)) ggX1_threeHolds_X1_firstUnlike
set_option maxRecDepth 20000 in
theorem ggX1_threeHolds_X1_breaks : GoodIn wsX1_threeHolds wsX1_breaks := goodIn_r _ [18, 19, 20, 23, 24, 25] (by decide +kernel) (by decide +kernel)
set_option maxRecDepth 20000 in
theorem gX1_threeHolds_X1_breaks : GoodIn wsX1_threeHolds (wsV RX1 53 RX1 yX1_breaks wsX1_breaks) := goodIn_app (goodIn_of _ (by decide +kernel)) ggX1_threeHolds_X1_breaks
theorem dX1_threeHolds_0 : decode cX1_threeHolds 0 = .ok (.iconst 1, 1) := by decide +kernel
theorem dX1_threeHolds_1 : decode cX1_threeHolds 1 = .ok (.istore_n 2, 1) := by decide +kernel
theorem dX1_threeHolds_2 : decode cX1_threeHolds 2 = .ok (.iload_n 2, 1) := by decide +kernel
theorem dX1_threeHolds_3 : decode cX1_threeHolds 3 = .ok (.aload_n 1, 1) := by decide +kernel
theorem dX1_threeHolds_4 : decode cX1_threeHolds 4 = .ok (.getfield 44, 3) := by decide +kernel
theorem dX1_threeHolds_7 : decode cX1_threeHolds 7 = .ok (.if_icmp .ge 71, 3) := by decide +kernel
theorem dX1_threeHolds_10 : decode cX1_threeHolds 10 = .ok (.iconst 1, 1) := by decide +kernel
theorem dX1_threeHolds_11 : decode cX1_threeHolds 11 = .ok (.istore_n 3, 1) := by decide +kernel
theorem dX1_threeHolds_12 : decode cX1_threeHolds 12 = .ok (.iload_n 3, 1) := by decide +kernel
theorem dX1_threeHolds_13 : decode cX1_threeHolds 13 = .ok (.aload_n 1, 1) := by decide +kernel
theorem dX1_threeHolds_14 : decode cX1_threeHolds 14 = .ok (.getfield 44, 3) := by decide +kernel
theorem dX1_threeHolds_17 : decode cX1_threeHolds 17 = .ok (.if_icmp .ge 55, 3) := by decide +kernel
theorem dX1_threeHolds_20 : decode cX1_threeHolds 20 = .ok (.iconst 1, 1) := by decide +kernel
theorem dX1_threeHolds_21 : decode cX1_threeHolds 21 = .ok (.istore 4, 2) := by decide +kernel
theorem dX1_threeHolds_23 : decode cX1_threeHolds 23 = .ok (.iload 4, 2) := by decide +kernel
theorem dX1_threeHolds_25 : decode cX1_threeHolds 25 = .ok (.aload_n 1, 1) := by decide +kernel
theorem dX1_threeHolds_26 : decode cX1_threeHolds 26 = .ok (.getfield 44, 3) := by decide +kernel
theorem dX1_threeHolds_29 : decode cX1_threeHolds 29 = .ok (.if_icmp .ge 37, 3) := by decide +kernel
theorem dX1_threeHolds_32 : decode cX1_threeHolds 32 = .ok (.aload_n 1, 1) := by decide +kernel
theorem dX1_threeHolds_33 : decode cX1_threeHolds 33 = .ok (.iload_n 2, 1) := by decide +kernel
theorem dX1_threeHolds_34 : decode cX1_threeHolds 34 = .ok (.iload_n 3, 1) := by decide +kernel
theorem dX1_threeHolds_35 : decode cX1_threeHolds 35 = .ok (.iload 4, 2) := by decide +kernel
theorem dX1_threeHolds_37 : decode cX1_threeHolds 37 = .ok (.invokestatic 57, 3) := by decide +kernel
theorem dX1_threeHolds_40 : decode cX1_threeHolds 40 = .ok (.istore 5, 2) := by decide +kernel
theorem dX1_threeHolds_42 : decode cX1_threeHolds 42 = .ok (.iload 5, 2) := by decide +kernel
theorem dX1_threeHolds_44 : decode cX1_threeHolds 44 = .ok (.iconst (-1), 1) := by decide +kernel
theorem dX1_threeHolds_45 : decode cX1_threeHolds 45 = .ok (.if_icmp .eq 15, 3) := by decide +kernel
theorem dX1_threeHolds_48 : decode cX1_threeHolds 48 = .ok (.aload_n 0, 1) := by decide +kernel
theorem dX1_threeHolds_49 : decode cX1_threeHolds 49 = .ok (.iconst 5, 1) := by decide +kernel
theorem dX1_threeHolds_50 : decode cX1_threeHolds 50 = .ok (.iload_n 2, 1) := by decide +kernel
theorem dX1_threeHolds_51 : decode cX1_threeHolds 51 = .ok (.iload_n 3, 1) := by decide +kernel
theorem dX1_threeHolds_52 : decode cX1_threeHolds 52 = .ok (.iload 4, 2) := by decide +kernel
theorem dX1_threeHolds_54 : decode cX1_threeHolds 54 = .ok (.iload 5, 2) := by decide +kernel
theorem dX1_threeHolds_56 : decode cX1_threeHolds 56 = .ok (.invokevirtual 53, 3) := by decide +kernel
theorem dX1_threeHolds_59 : decode cX1_threeHolds 59 = .ok (.ireturn, 1) := by decide +kernel
theorem dX1_threeHolds_60 : decode cX1_threeHolds 60 = .ok (.iinc 4 1, 3) := by decide +kernel
theorem dX1_threeHolds_63 : decode cX1_threeHolds 63 = .ok (.goto (-40), 3) := by decide +kernel
theorem dX1_threeHolds_66 : decode cX1_threeHolds 66 = .ok (.iinc 3 1, 3) := by decide +kernel
theorem dX1_threeHolds_69 : decode cX1_threeHolds 69 = .ok (.goto (-57), 3) := by decide +kernel
theorem dX1_threeHolds_72 : decode cX1_threeHolds 72 = .ok (.iinc 2 1, 3) := by decide +kernel
theorem dX1_threeHolds_75 : decode cX1_threeHolds 75 = .ok (.goto (-73), 3) := by decide +kernel
theorem dX1_threeHolds_78 : decode cX1_threeHolds 78 = .ok (.iconst 1, 1) := by decide +kernel
theorem dX1_threeHolds_79 : decode cX1_threeHolds 79 = .ok (.ireturn, 1) := by decide +kernel
set_option maxRecDepth 20000 in
theorem ggX1_firstUnlike_X7_number : GoodIn wsX1_firstUnlike wsX7_number := goodIn_r _ [6, 7, 8, 9, 5, 10, 11, 12] (by decide +kernel) (by decide +kernel)
set_option maxRecDepth 20000 in
theorem gX1_firstUnlike_X7_number : GoodIn wsX1_firstUnlike (wsV RX1 49 RX7 yX7_number wsX7_number) := goodIn_app (goodIn_of _ (by decide +kernel)) ggX1_firstUnlike_X7_number
theorem dX1_firstUnlike_0 : decode cX1_firstUnlike 0 = .ok (.iconst 0, 1) := by decide +kernel
theorem dX1_firstUnlike_1 : decode cX1_firstUnlike 1 = .ok (.istore 4, 2) := by decide +kernel
theorem dX1_firstUnlike_3 : decode cX1_firstUnlike 3 = .ok (.iload 4, 2) := by decide +kernel
theorem dX1_firstUnlike_5 : decode cX1_firstUnlike 5 = .ok (.aload_n 0, 1) := by decide +kernel
theorem dX1_firstUnlike_6 : decode cX1_firstUnlike 6 = .ok (.getfield 44, 3) := by decide +kernel
theorem dX1_firstUnlike_9 : decode cX1_firstUnlike 9 = .ok (.if_icmp .ge 80, 3) := by decide +kernel
theorem dX1_firstUnlike_12 : decode cX1_firstUnlike 12 = .ok (.iconst 0, 1) := by decide +kernel
theorem dX1_firstUnlike_13 : decode cX1_firstUnlike 13 = .ok (.istore 5, 2) := by decide +kernel
theorem dX1_firstUnlike_15 : decode cX1_firstUnlike 15 = .ok (.iconst 0, 1) := by decide +kernel
theorem dX1_firstUnlike_16 : decode cX1_firstUnlike 16 = .ok (.istore 6, 2) := by decide +kernel
theorem dX1_firstUnlike_18 : decode cX1_firstUnlike 18 = .ok (.iload 6, 2) := by decide +kernel
theorem dX1_firstUnlike_20 : decode cX1_firstUnlike 20 = .ok (.aload_n 0, 1) := by decide +kernel
theorem dX1_firstUnlike_21 : decode cX1_firstUnlike 21 = .ok (.getfield 44, 3) := by decide +kernel
theorem dX1_firstUnlike_24 : decode cX1_firstUnlike 24 = .ok (.if_icmp .ge 51, 3) := by decide +kernel
theorem dX1_firstUnlike_27 : decode cX1_firstUnlike 27 = .ok (.iload 5, 2) := by decide +kernel
theorem dX1_firstUnlike_29 : decode cX1_firstUnlike 29 = .ok (.aload_n 0, 1) := by decide +kernel
theorem dX1_firstUnlike_30 : decode cX1_firstUnlike 30 = .ok (.iload_n 1, 1) := by decide +kernel
theorem dX1_firstUnlike_31 : decode cX1_firstUnlike 31 = .ok (.iload_n 2, 1) := by decide +kernel
theorem dX1_firstUnlike_32 : decode cX1_firstUnlike 32 = .ok (.iload 6, 2) := by decide +kernel
theorem dX1_firstUnlike_34 : decode cX1_firstUnlike 34 = .ok (.invokevirtual 49, 3) := by decide +kernel
theorem dX1_firstUnlike_37 : decode cX1_firstUnlike 37 = .ok (.aload_n 0, 1) := by decide +kernel
theorem dX1_firstUnlike_38 : decode cX1_firstUnlike 38 = .ok (.iload 6, 2) := by decide +kernel
theorem dX1_firstUnlike_40 : decode cX1_firstUnlike 40 = .ok (.iload_n 3, 1) := by decide +kernel
theorem dX1_firstUnlike_41 : decode cX1_firstUnlike 41 = .ok (.iload 4, 2) := by decide +kernel
theorem dX1_firstUnlike_43 : decode cX1_firstUnlike 43 = .ok (.invokevirtual 49, 3) := by decide +kernel
theorem dX1_firstUnlike_46 : decode cX1_firstUnlike 46 = .ok (.imul, 1) := by decide +kernel
theorem dX1_firstUnlike_47 : decode cX1_firstUnlike 47 = .ok (.aload_n 0, 1) := by decide +kernel
theorem dX1_firstUnlike_48 : decode cX1_firstUnlike 48 = .ok (.iload_n 2, 1) := by decide +kernel
theorem dX1_firstUnlike_49 : decode cX1_firstUnlike 49 = .ok (.iload_n 3, 1) := by decide +kernel
theorem dX1_firstUnlike_50 : decode cX1_firstUnlike 50 = .ok (.iload 6, 2) := by decide +kernel
theorem dX1_firstUnlike_52 : decode cX1_firstUnlike 52 = .ok (.invokevirtual 49, 3) := by decide +kernel
theorem dX1_firstUnlike_55 : decode cX1_firstUnlike 55 = .ok (.aload_n 0, 1) := by decide +kernel
theorem dX1_firstUnlike_56 : decode cX1_firstUnlike 56 = .ok (.iload_n 1, 1) := by decide +kernel
theorem dX1_firstUnlike_57 : decode cX1_firstUnlike 57 = .ok (.iload 6, 2) := by decide +kernel
theorem dX1_firstUnlike_59 : decode cX1_firstUnlike 59 = .ok (.iload 4, 2) := by decide +kernel
theorem dX1_firstUnlike_61 : decode cX1_firstUnlike 61 = .ok (.invokevirtual 49, 3) := by decide +kernel
theorem dX1_firstUnlike_64 : decode cX1_firstUnlike 64 = .ok (.imul, 1) := by decide +kernel
theorem dX1_firstUnlike_65 : decode cX1_firstUnlike 65 = .ok (.isub, 1) := by decide +kernel
theorem dX1_firstUnlike_66 : decode cX1_firstUnlike 66 = .ok (.iadd, 1) := by decide +kernel
theorem dX1_firstUnlike_67 : decode cX1_firstUnlike 67 = .ok (.istore 5, 2) := by decide +kernel
theorem dX1_firstUnlike_69 : decode cX1_firstUnlike 69 = .ok (.iinc 6 1, 3) := by decide +kernel
theorem dX1_firstUnlike_72 : decode cX1_firstUnlike 72 = .ok (.goto (-54), 3) := by decide +kernel
theorem dX1_firstUnlike_75 : decode cX1_firstUnlike 75 = .ok (.iload 5, 2) := by decide +kernel
theorem dX1_firstUnlike_77 : decode cX1_firstUnlike 77 = .ok (.ifCond .eq 6, 3) := by decide +kernel
theorem dX1_firstUnlike_80 : decode cX1_firstUnlike 80 = .ok (.iload 4, 2) := by decide +kernel
theorem dX1_firstUnlike_82 : decode cX1_firstUnlike 82 = .ok (.ireturn, 1) := by decide +kernel
theorem dX1_firstUnlike_83 : decode cX1_firstUnlike 83 = .ok (.iinc 4 1, 3) := by decide +kernel
theorem dX1_firstUnlike_86 : decode cX1_firstUnlike 86 = .ok (.goto (-83), 3) := by decide +kernel
theorem dX1_firstUnlike_89 : decode cX1_firstUnlike 89 = .ok (.iconst (-1), 1) := by decide +kernel
theorem dX1_firstUnlike_90 : decode cX1_firstUnlike 90 = .ok (.ireturn, 1) := by decide +kernel
set_option maxRecDepth 20000 in
theorem ggX2_init_X7_init : GoodIn wsX2_init wsX7_init := goodIn_r _ [18, 19, 2, 3, 4, 20, 21, 22, 23, 10, 24, 25, 26, 27, 28, 29, 30, 31, 32, 33, 34, 35, 36, 52, 53] (by decide +kernel) (by decide +kernel)
set_option maxRecDepth 20000 in
theorem gX2_init_X7_init : GoodIn wsX2_init (wsX7_init) := ggX2_init_X7_init
set_option maxRecDepth 20000 in
theorem ggX2_init_X1_init : GoodIn wsX2_init wsX1_init := goodIn_r _ [38, 39, 2, 3, 4, 40, 41, 54, 55, 56] (by decide +kernel) (by decide +kernel)
set_option maxRecDepth 20000 in
theorem gX2_init_X1_init_n30 : GoodIn wsX2_init (wsX1_init) := ggX2_init_X1_init
theorem dX2_init_0 : decode cX2_init 0 = .ok (.aload_n 0, 1) := by decide +kernel
theorem dX2_init_1 : decode cX2_init 1 = .ok (.invokespecial 5, 3) := by decide +kernel
theorem dX2_init_4 : decode cX2_init 4 = .ok (.aload_n 0, 1) := by decide +kernel
theorem dX2_init_5 : decode cX2_init 5 = .ok (.bipush 125, 2) := by decide +kernel
theorem dX2_init_7 : decode cX2_init 7 = .ok (.newarray .int, 2) := by decide +kernel
theorem dX2_init_9 : decode cX2_init 9 = .ok (.putfield 13, 3) := by decide +kernel
theorem dX2_init_12 : decode cX2_init 12 = .ok (.aload_n 0, 1) := by decide +kernel
theorem dX2_init_13 : decode cX2_init 13 = .ok (.bipush 10, 2) := by decide +kernel
theorem dX2_init_15 : decode cX2_init 15 = .ok (.newarray .int, 2) := by decide +kernel
theorem dX2_init_17 : decode cX2_init 17 = .ok (.putfield 17, 3) := by decide +kernel
theorem dX2_init_20 : decode cX2_init 20 = .ok (.aload_n 0, 1) := by decide +kernel
theorem dX2_init_21 : decode cX2_init 21 = .ok (.sipush 1024, 3) := by decide +kernel
theorem dX2_init_24 : decode cX2_init 24 = .ok (.newarray .int, 2) := by decide +kernel
theorem dX2_init_26 : decode cX2_init 26 = .ok (.putfield 20, 3) := by decide +kernel
theorem dX2_init_29 : decode cX2_init 29 = .ok (.aload_n 0, 1) := by decide +kernel
theorem dX2_init_30 : decode cX2_init 30 = .ok (.new 11, 3) := by decide +kernel
theorem dX2_init_33 : decode cX2_init 33 = .ok (.dup, 1) := by decide +kernel
theorem dX2_init_34 : decode cX2_init 34 = .ok (.invokespecial 23, 3) := by decide +kernel
theorem dX2_init_37 : decode cX2_init 37 = .ok (.putfield 24, 3) := by decide +kernel
theorem dX2_init_40 : decode cX2_init 40 = .ok (.aload_n 0, 1) := by decide +kernel
theorem dX2_init_41 : decode cX2_init 41 = .ok (.new 28, 3) := by decide +kernel
theorem dX2_init_44 : decode cX2_init 44 = .ok (.dup, 1) := by decide +kernel
theorem dX2_init_45 : decode cX2_init 45 = .ok (.invokespecial 30, 3) := by decide +kernel
theorem dX2_init_48 : decode cX2_init 48 = .ok (.putfield 31, 3) := by decide +kernel
theorem dX2_init_51 : decode cX2_init 51 = .ok (.return_, 1) := by decide +kernel
set_option maxRecDepth 20000 in
theorem ggX2_howMany_X2_findFree : GoodIn wsX2_howMany wsX2_findFree := goodIn_r _ [9, 10, 11, 1, 12, 13, 14, 15, 16, 17, 18, 19, 20, 21, 22, 8, 23, 24, 25, 26, 27, 3, 80, 81, 82, 83, 84, 85, 86, 87, 88, 89] (by decide +kernel) (by decide +kernel)
set_option maxRecDepth 20000 in
theorem gX2_howMany_X2_findFree : GoodIn wsX2_howMany (wsV RX2 45 RX2 yX2_findFree wsX2_findFree) := goodIn_app (goodIn_of _ (by decide +kernel)) ggX2_howMany_X2_findFree
set_option maxRecDepth 20000 in
theorem ggX2_howMany_X2_findRight : GoodIn wsX2_howMany wsX2_findRight := goodIn_r _ [31, 4, 32, 33, 34, 35, 12, 13, 14, 15, 36, 37, 38, 8, 39, 1, 10, 40, 41, 42, 18, 43, 44, 45, 46, 47, 48, 49, 50, 51, 17, 19, 24, 25, 26, 27, 3, 52, 16, 53, 54, 55, 56, 57, 58, 59, 60, 61, 62, 63, 64, 65, 66, 67, 68, 69, 70, 71, 72, 73, 74, 75, 11, 76, 77, 78, 79, 2, 80, 81, 82, 83, 84, 85, 86, 87, 88, 89, 90, 91, 92, 93, 94] (by decide +kernel) (by decide +kernel)
set_option maxRecDepth 20000 in
theorem gX2_howMany_X2_findRight : GoodIn wsX2_howMany (wsV RX2 48 RX2 yX2_findRight wsX2_findRight) := goodIn_app (goodIn_of _ (by decide +kernel)) ggX2_howMany_X2_findRight
theorem dX2_howMany_0 : decode cX2_howMany 0 = .ok (.iload_n 1, 1) := by decide +kernel
theorem dX2_howMany_1 : decode cX2_howMany 1 = .ok (.aload_n 0, 1) := by decide +kernel
theorem dX2_howMany_2 : decode cX2_howMany 2 = .ok (.getfield 35, 3) := by decide +kernel
theorem dX2_howMany_5 : decode cX2_howMany 5 = .ok (.if_icmp .ne 19, 3) := by decide +kernel
theorem dX2_howMany_8 : decode cX2_howMany 8 = .ok (.iload_n 2, 1) := by decide +kernel
theorem dX2_howMany_9 : decode cX2_howMany 9 = .ok (.aload_n 0, 1) := by decide +kernel
theorem dX2_howMany_10 : decode cX2_howMany 10 = .ok (.getfield 39, 3) := by decide +kernel
theorem dX2_howMany_13 : decode cX2_howMany 13 = .ok (.if_icmp .ne 11, 3) := by decide +kernel
theorem dX2_howMany_16 : decode cX2_howMany 16 = .ok (.iload_n 3, 1) := by decide +kernel
theorem dX2_howMany_17 : decode cX2_howMany 17 = .ok (.aload_n 0, 1) := by decide +kernel
theorem dX2_howMany_18 : decode cX2_howMany 18 = .ok (.getfield 42, 3) := by decide +kernel
theorem dX2_howMany_21 : decode cX2_howMany 21 = .ok (.if_icmp .eq 26, 3) := by decide +kernel
theorem dX2_howMany_24 : decode cX2_howMany 24 = .ok (.aload_n 0, 1) := by decide +kernel
theorem dX2_howMany_25 : decode cX2_howMany 25 = .ok (.iload_n 1, 1) := by decide +kernel
theorem dX2_howMany_26 : decode cX2_howMany 26 = .ok (.putfield 35, 3) := by decide +kernel
theorem dX2_howMany_29 : decode cX2_howMany 29 = .ok (.aload_n 0, 1) := by decide +kernel
theorem dX2_howMany_30 : decode cX2_howMany 30 = .ok (.iload_n 2, 1) := by decide +kernel
theorem dX2_howMany_31 : decode cX2_howMany 31 = .ok (.putfield 39, 3) := by decide +kernel
theorem dX2_howMany_34 : decode cX2_howMany 34 = .ok (.aload_n 0, 1) := by decide +kernel
theorem dX2_howMany_35 : decode cX2_howMany 35 = .ok (.iload_n 3, 1) := by decide +kernel
theorem dX2_howMany_36 : decode cX2_howMany 36 = .ok (.putfield 42, 3) := by decide +kernel
theorem dX2_howMany_39 : decode cX2_howMany 39 = .ok (.aload_n 0, 1) := by decide +kernel
theorem dX2_howMany_40 : decode cX2_howMany 40 = .ok (.invokevirtual 45, 3) := by decide +kernel
theorem dX2_howMany_43 : decode cX2_howMany 43 = .ok (.aload_n 0, 1) := by decide +kernel
theorem dX2_howMany_44 : decode cX2_howMany 44 = .ok (.invokevirtual 48, 3) := by decide +kernel
theorem dX2_howMany_47 : decode cX2_howMany 47 = .ok (.aload_n 0, 1) := by decide +kernel
theorem dX2_howMany_48 : decode cX2_howMany 48 = .ok (.getfield 51, 3) := by decide +kernel
theorem dX2_howMany_51 : decode cX2_howMany 51 = .ok (.ireturn, 1) := by decide +kernel
set_option maxRecDepth 20000 in
theorem ggX2_write_X2_buildCandidate : GoodIn wsX2_write wsX2_buildCandidate := goodIn_r _ [10, 5, 11, 12, 4, 13, 14, 15, 16, 17, 18, 19, 20, 21, 22, 23, 24, 25, 26, 27, 28, 29, 30, 31, 32, 33, 9, 34, 35, 36, 37, 46, 47, 48, 49, 50, 51, 52, 53, 54, 55, 56, 57] (by decide +kernel) (by decide +kernel)
set_option maxRecDepth 20000 in
theorem gX2_write_X2_buildCandidate : GoodIn wsX2_write (wsV RX2 57 RX2 yX2_buildCandidate wsX2_buildCandidate) := goodIn_app (goodIn_of _ (by decide +kernel)) ggX2_write_X2_buildCandidate
set_option maxRecDepth 20000 in
theorem ggX2_write_X7_become : GoodIn wsX2_write wsX7_become := goodIn_r _ [41, 19, 18, 42, 43, 44, 45, 56, 57] (by decide +kernel) (by decide +kernel)
set_option maxRecDepth 20000 in
theorem gX2_write_X7_become : GoodIn wsX2_write (wsV RX2 60 RX7 yX7_become wsX7_become) := goodIn_app (goodIn_of _ (by decide +kernel)) ggX2_write_X7_become
theorem dX2_write_0 : decode cX2_write 0 = .ok (.iload_n 2, 1) := by decide +kernel
theorem dX2_write_1 : decode cX2_write 1 = .ok (.ifCond .lt 11, 3) := by decide +kernel
theorem dX2_write_4 : decode cX2_write 4 = .ok (.iload_n 2, 1) := by decide +kernel
theorem dX2_write_5 : decode cX2_write 5 = .ok (.aload_n 0, 1) := by decide +kernel
theorem dX2_write_6 : decode cX2_write 6 = .ok (.getfield 51, 3) := by decide +kernel
theorem dX2_write_9 : decode cX2_write 9 = .ok (.if_icmp .lt 4, 3) := by decide +kernel
theorem dX2_write_12 : decode cX2_write 12 = .ok (.return_, 1) := by decide +kernel
theorem dX2_write_13 : decode cX2_write 13 = .ok (.aload_n 0, 1) := by decide +kernel
theorem dX2_write_14 : decode cX2_write 14 = .ok (.getfield 20, 3) := by decide +kernel
theorem dX2_write_17 : decode cX2_write 17 = .ok (.iload_n 2, 1) := by decide +kernel
theorem dX2_write_18 : decode cX2_write 18 = .ok (.iaload, 1) := by decide +kernel
theorem dX2_write_19 : decode cX2_write 19 = .ok (.istore_n 3, 1) := by decide +kernel
theorem dX2_write_20 : decode cX2_write 20 = .ok (.aload_n 0, 1) := by decide +kernel
theorem dX2_write_21 : decode cX2_write 21 = .ok (.getfield 54, 3) := by decide +kernel
theorem dX2_write_24 : decode cX2_write 24 = .ok (.iconst 1, 1) := by decide +kernel
theorem dX2_write_25 : decode cX2_write 25 = .ok (.isub, 1) := by decide +kernel
theorem dX2_write_26 : decode cX2_write 26 = .ok (.istore 4, 2) := by decide +kernel
theorem dX2_write_28 : decode cX2_write 28 = .ok (.iload 4, 2) := by decide +kernel
theorem dX2_write_30 : decode cX2_write 30 = .ok (.ifCond .lt 23, 3) := by decide +kernel
theorem dX2_write_33 : decode cX2_write 33 = .ok (.aload_n 0, 1) := by decide +kernel
theorem dX2_write_34 : decode cX2_write 34 = .ok (.getfield 17, 3) := by decide +kernel
theorem dX2_write_37 : decode cX2_write 37 = .ok (.iload 4, 2) := by decide +kernel
theorem dX2_write_39 : decode cX2_write 39 = .ok (.iload_n 3, 1) := by decide +kernel
theorem dX2_write_40 : decode cX2_write 40 = .ok (.iconst 3, 1) := by decide +kernel
theorem dX2_write_41 : decode cX2_write 41 = .ok (.iand, 1) := by decide +kernel
theorem dX2_write_42 : decode cX2_write 42 = .ok (.iastore, 1) := by decide +kernel
theorem dX2_write_43 : decode cX2_write 43 = .ok (.iload_n 3, 1) := by decide +kernel
theorem dX2_write_44 : decode cX2_write 44 = .ok (.iconst 2, 1) := by decide +kernel
theorem dX2_write_45 : decode cX2_write 45 = .ok (.ishr, 1) := by decide +kernel
theorem dX2_write_46 : decode cX2_write 46 = .ok (.istore_n 3, 1) := by decide +kernel
theorem dX2_write_47 : decode cX2_write 47 = .ok (.iinc 4 (-1), 3) := by decide +kernel
theorem dX2_write_50 : decode cX2_write 50 = .ok (.goto (-22), 3) := by decide +kernel
theorem dX2_write_53 : decode cX2_write 53 = .ok (.aload_n 0, 1) := by decide +kernel
theorem dX2_write_54 : decode cX2_write 54 = .ok (.invokevirtual 57, 3) := by decide +kernel
theorem dX2_write_57 : decode cX2_write 57 = .ok (.aload_n 1, 1) := by decide +kernel
theorem dX2_write_58 : decode cX2_write 58 = .ok (.aload_n 0, 1) := by decide +kernel
theorem dX2_write_59 : decode cX2_write 59 = .ok (.getfield 24, 3) := by decide +kernel
theorem dX2_write_62 : decode cX2_write 62 = .ok (.invokevirtual 60, 3) := by decide +kernel
theorem dX2_write_65 : decode cX2_write 65 = .ok (.return_, 1) := by decide +kernel
theorem dX2_partnerOf_0 : decode cX2_partnerOf 0 = .ok (.aload_n 0, 1) := by decide +kernel
theorem dX2_partnerOf_1 : decode cX2_partnerOf 1 = .ok (.getfield 42, 3) := by decide +kernel
theorem dX2_partnerOf_4 : decode cX2_partnerOf 4 = .ok (.iconst 1, 1) := by decide +kernel
theorem dX2_partnerOf_5 : decode cX2_partnerOf 5 = .ok (.if_icmp .ne 19, 3) := by decide +kernel
theorem dX2_partnerOf_8 : decode cX2_partnerOf 8 = .ok (.iload_n 1, 1) := by decide +kernel
theorem dX2_partnerOf_9 : decode cX2_partnerOf 9 = .ok (.iconst 1, 1) := by decide +kernel
theorem dX2_partnerOf_10 : decode cX2_partnerOf 10 = .ok (.if_icmp .eq 8, 3) := by decide +kernel
theorem dX2_partnerOf_13 : decode cX2_partnerOf 13 = .ok (.iload_n 1, 1) := by decide +kernel
theorem dX2_partnerOf_14 : decode cX2_partnerOf 14 = .ok (.iconst 2, 1) := by decide +kernel
theorem dX2_partnerOf_15 : decode cX2_partnerOf 15 = .ok (.if_icmp .ne 9, 3) := by decide +kernel
theorem dX2_partnerOf_18 : decode cX2_partnerOf 18 = .ok (.iconst 3, 1) := by decide +kernel
theorem dX2_partnerOf_19 : decode cX2_partnerOf 19 = .ok (.iload_n 1, 1) := by decide +kernel
theorem dX2_partnerOf_20 : decode cX2_partnerOf 20 = .ok (.isub, 1) := by decide +kernel
theorem dX2_partnerOf_21 : decode cX2_partnerOf 21 = .ok (.goto 4, 3) := by decide +kernel
theorem dX2_partnerOf_24 : decode cX2_partnerOf 24 = .ok (.iload_n 1, 1) := by decide +kernel
theorem dX2_partnerOf_25 : decode cX2_partnerOf 25 = .ok (.ireturn, 1) := by decide +kernel
set_option maxRecDepth 20000 in
theorem ggX2_findFree_J7_fill_53178 : GoodIn wsX2_findFree wsJ7_fill_53178 := goodIn_r _ [7] (by decide +kernel) (by decide +kernel)
set_option maxRecDepth 20000 in
theorem gX2_findFree_J7_fill_53178 : GoodIn wsX2_findFree (va_wsS RX2 64 yJ7_fill_53178 wsJ7_fill_53178) := goodIn_app (goodIn_of _ (by decide +kernel)) ggX2_findFree_J7_fill_53178
set_option maxRecDepth 20000 in
theorem ggX2_findFree_X7_placeOf : GoodIn wsX2_findFree wsX7_placeOf := goodIn_r _ [11] (by decide +kernel) (by decide +kernel)
set_option maxRecDepth 20000 in
theorem gX2_findFree_X7_placeOf : GoodIn wsX2_findFree (va_wsS RX2 70 yX7_placeOf wsX7_placeOf) := goodIn_app (goodIn_of _ (by decide +kernel)) ggX2_findFree_X7_placeOf
set_option maxRecDepth 20000 in
theorem ggX2_findFree_X2_markAlike : GoodIn wsX2_findFree wsX2_markAlike := goodIn_r _ [16, 1, 2, 8, 9, 10, 11, 17, 18, 19, 15, 20, 21, 22, 23, 24, 25, 26, 27, 28, 29, 30, 31] (by decide +kernel) (by decide +kernel)
set_option maxRecDepth 20000 in
theorem gX2_findFree_X2_markAlike : GoodIn wsX2_findFree (wsV RX2 74 RX2 yX2_markAlike wsX2_markAlike) := goodIn_app (goodIn_of _ (by decide +kernel)) ggX2_findFree_X2_markAlike
theorem dX2_findFree_0 : decode cX2_findFree 0 = .ok (.aload_n 0, 1) := by decide +kernel
theorem dX2_findFree_1 : decode cX2_findFree 1 = .ok (.getfield 13, 3) := by decide +kernel
theorem dX2_findFree_4 : decode cX2_findFree 4 = .ok (.iconst (-1), 1) := by decide +kernel
theorem dX2_findFree_5 : decode cX2_findFree 5 = .ok (.invokestatic 64, 3) := by decide +kernel
theorem dX2_findFree_8 : decode cX2_findFree 8 = .ok (.aload_n 0, 1) := by decide +kernel
theorem dX2_findFree_9 : decode cX2_findFree 9 = .ok (.iconst 0, 1) := by decide +kernel
theorem dX2_findFree_10 : decode cX2_findFree 10 = .ok (.putfield 54, 3) := by decide +kernel
theorem dX2_findFree_13 : decode cX2_findFree 13 = .ok (.iconst 1, 1) := by decide +kernel
theorem dX2_findFree_14 : decode cX2_findFree 14 = .ok (.istore_n 1, 1) := by decide +kernel
theorem dX2_findFree_15 : decode cX2_findFree 15 = .ok (.iload_n 1, 1) := by decide +kernel
theorem dX2_findFree_16 : decode cX2_findFree 16 = .ok (.aload_n 0, 1) := by decide +kernel
theorem dX2_findFree_17 : decode cX2_findFree 17 = .ok (.getfield 35, 3) := by decide +kernel
theorem dX2_findFree_20 : decode cX2_findFree 20 = .ok (.if_icmp .ge 82, 3) := by decide +kernel
theorem dX2_findFree_23 : decode cX2_findFree 23 = .ok (.iconst 1, 1) := by decide +kernel
theorem dX2_findFree_24 : decode cX2_findFree 24 = .ok (.istore_n 2, 1) := by decide +kernel
theorem dX2_findFree_25 : decode cX2_findFree 25 = .ok (.iload_n 2, 1) := by decide +kernel
theorem dX2_findFree_26 : decode cX2_findFree 26 = .ok (.aload_n 0, 1) := by decide +kernel
theorem dX2_findFree_27 : decode cX2_findFree 27 = .ok (.getfield 35, 3) := by decide +kernel
theorem dX2_findFree_30 : decode cX2_findFree 30 = .ok (.if_icmp .ge 66, 3) := by decide +kernel
theorem dX2_findFree_33 : decode cX2_findFree 33 = .ok (.iconst 1, 1) := by decide +kernel
theorem dX2_findFree_34 : decode cX2_findFree 34 = .ok (.istore_n 3, 1) := by decide +kernel
theorem dX2_findFree_35 : decode cX2_findFree 35 = .ok (.iload_n 3, 1) := by decide +kernel
theorem dX2_findFree_36 : decode cX2_findFree 36 = .ok (.aload_n 0, 1) := by decide +kernel
theorem dX2_findFree_37 : decode cX2_findFree 37 = .ok (.getfield 35, 3) := by decide +kernel
theorem dX2_findFree_40 : decode cX2_findFree 40 = .ok (.if_icmp .ge 50, 3) := by decide +kernel
theorem dX2_findFree_43 : decode cX2_findFree 43 = .ok (.aload_n 0, 1) := by decide +kernel
theorem dX2_findFree_44 : decode cX2_findFree 44 = .ok (.getfield 13, 3) := by decide +kernel
theorem dX2_findFree_47 : decode cX2_findFree 47 = .ok (.iload_n 1, 1) := by decide +kernel
theorem dX2_findFree_48 : decode cX2_findFree 48 = .ok (.iload_n 2, 1) := by decide +kernel
theorem dX2_findFree_49 : decode cX2_findFree 49 = .ok (.iload_n 3, 1) := by decide +kernel
theorem dX2_findFree_50 : decode cX2_findFree 50 = .ok (.invokestatic 70, 3) := by decide +kernel
theorem dX2_findFree_53 : decode cX2_findFree 53 = .ok (.iaload, 1) := by decide +kernel
theorem dX2_findFree_54 : decode cX2_findFree 54 = .ok (.iconst (-1), 1) := by decide +kernel
theorem dX2_findFree_55 : decode cX2_findFree 55 = .ok (.if_icmp .ne 29, 3) := by decide +kernel
theorem dX2_findFree_58 : decode cX2_findFree 58 = .ok (.aload_n 0, 1) := by decide +kernel
theorem dX2_findFree_59 : decode cX2_findFree 59 = .ok (.getfield 54, 3) := by decide +kernel
theorem dX2_findFree_62 : decode cX2_findFree 62 = .ok (.bipush 10, 2) := by decide +kernel
theorem dX2_findFree_64 : decode cX2_findFree 64 = .ok (.if_icmp .ge 20, 3) := by decide +kernel
theorem dX2_findFree_67 : decode cX2_findFree 67 = .ok (.aload_n 0, 1) := by decide +kernel
theorem dX2_findFree_68 : decode cX2_findFree 68 = .ok (.iload_n 1, 1) := by decide +kernel
theorem dX2_findFree_69 : decode cX2_findFree 69 = .ok (.iload_n 2, 1) := by decide +kernel
theorem dX2_findFree_70 : decode cX2_findFree 70 = .ok (.iload_n 3, 1) := by decide +kernel
theorem dX2_findFree_71 : decode cX2_findFree 71 = .ok (.invokevirtual 74, 3) := by decide +kernel
theorem dX2_findFree_74 : decode cX2_findFree 74 = .ok (.aload_n 0, 1) := by decide +kernel
theorem dX2_findFree_75 : decode cX2_findFree 75 = .ok (.dup, 1) := by decide +kernel
theorem dX2_findFree_76 : decode cX2_findFree 76 = .ok (.getfield 54, 3) := by decide +kernel
theorem dX2_findFree_79 : decode cX2_findFree 79 = .ok (.iconst 1, 1) := by decide +kernel
theorem dX2_findFree_80 : decode cX2_findFree 80 = .ok (.iadd, 1) := by decide +kernel
theorem dX2_findFree_81 : decode cX2_findFree 81 = .ok (.putfield 54, 3) := by decide +kernel
theorem dX2_findFree_84 : decode cX2_findFree 84 = .ok (.iinc 3 1, 3) := by decide +kernel
theorem dX2_findFree_87 : decode cX2_findFree 87 = .ok (.goto (-52), 3) := by decide +kernel
theorem dX2_findFree_90 : decode cX2_findFree 90 = .ok (.iinc 2 1, 3) := by decide +kernel
theorem dX2_findFree_93 : decode cX2_findFree 93 = .ok (.goto (-68), 3) := by decide +kernel
theorem dX2_findFree_96 : decode cX2_findFree 96 = .ok (.iinc 1 1, 3) := by decide +kernel
theorem dX2_findFree_99 : decode cX2_findFree 99 = .ok (.goto (-84), 3) := by decide +kernel
theorem dX2_findFree_102 : decode cX2_findFree 102 = .ok (.return_, 1) := by decide +kernel
set_option maxRecDepth 20000 in
theorem ggX2_markAlike_X7_placeOf : GoodIn wsX2_markAlike wsX7_placeOf := goodIn_r _ [6] (by decide +kernel) (by decide +kernel)
set_option maxRecDepth 20000 in
theorem gX2_markAlike_X7_placeOf : GoodIn wsX2_markAlike (va_wsS RX2 70 yX7_placeOf wsX7_placeOf) := goodIn_app (goodIn_of _ (by decide +kernel)) ggX2_markAlike_X7_placeOf
set_option maxRecDepth 20000 in
theorem ggX2_markAlike_X2_partnerOf : GoodIn wsX2_markAlike wsX2_partnerOf := goodIn_r _ [11, 12, 13, 14, 15, 16, 17, 18, 19, 20, 21, 22] (by decide +kernel) (by decide +kernel)
set_option maxRecDepth 20000 in
theorem gX2_markAlike_X2_partnerOf : GoodIn wsX2_markAlike (wsV RX2 78 RX2 yX2_partnerOf wsX2_partnerOf) := goodIn_app (goodIn_of _ (by decide +kernel)) ggX2_markAlike_X2_partnerOf
theorem dX2_markAlike_0 : decode cX2_markAlike 0 = .ok (.iload_n 1, 1) := by decide +kernel
theorem dX2_markAlike_1 : decode cX2_markAlike 1 = .ok (.istore 4, 2) := by decide +kernel
theorem dX2_markAlike_3 : decode cX2_markAlike 3 = .ok (.iload_n 2, 1) := by decide +kernel
theorem dX2_markAlike_4 : decode cX2_markAlike 4 = .ok (.istore 5, 2) := by decide +kernel
theorem dX2_markAlike_6 : decode cX2_markAlike 6 = .ok (.iload_n 3, 1) := by decide +kernel
theorem dX2_markAlike_7 : decode cX2_markAlike 7 = .ok (.istore 6, 2) := by decide +kernel
theorem dX2_markAlike_9 : decode cX2_markAlike 9 = .ok (.iconst 0, 1) := by decide +kernel
theorem dX2_markAlike_10 : decode cX2_markAlike 10 = .ok (.istore 7, 2) := by decide +kernel
theorem dX2_markAlike_12 : decode cX2_markAlike 12 = .ok (.iload 7, 2) := by decide +kernel
theorem dX2_markAlike_14 : decode cX2_markAlike 14 = .ok (.bipush 12, 2) := by decide +kernel
theorem dX2_markAlike_16 : decode cX2_markAlike 16 = .ok (.if_icmp .ge 65, 3) := by decide +kernel
theorem dX2_markAlike_19 : decode cX2_markAlike 19 = .ok (.aload_n 0, 1) := by decide +kernel
theorem dX2_markAlike_20 : decode cX2_markAlike 20 = .ok (.getfield 13, 3) := by decide +kernel
theorem dX2_markAlike_23 : decode cX2_markAlike 23 = .ok (.iload 4, 2) := by decide +kernel
theorem dX2_markAlike_25 : decode cX2_markAlike 25 = .ok (.iload 5, 2) := by decide +kernel
theorem dX2_markAlike_27 : decode cX2_markAlike 27 = .ok (.iload 6, 2) := by decide +kernel
theorem dX2_markAlike_29 : decode cX2_markAlike 29 = .ok (.invokestatic 70, 3) := by decide +kernel
theorem dX2_markAlike_32 : decode cX2_markAlike 32 = .ok (.aload_n 0, 1) := by decide +kernel
theorem dX2_markAlike_33 : decode cX2_markAlike 33 = .ok (.getfield 54, 3) := by decide +kernel
theorem dX2_markAlike_36 : decode cX2_markAlike 36 = .ok (.iastore, 1) := by decide +kernel
theorem dX2_markAlike_37 : decode cX2_markAlike 37 = .ok (.iload 5, 2) := by decide +kernel
theorem dX2_markAlike_39 : decode cX2_markAlike 39 = .ok (.istore 8, 2) := by decide +kernel
theorem dX2_markAlike_41 : decode cX2_markAlike 41 = .ok (.iload 7, 2) := by decide +kernel
theorem dX2_markAlike_43 : decode cX2_markAlike 43 = .ok (.iconst 1, 1) := by decide +kernel
theorem dX2_markAlike_44 : decode cX2_markAlike 44 = .ok (.iand, 1) := by decide +kernel
theorem dX2_markAlike_45 : decode cX2_markAlike 45 = .ok (.ifCond .ne 14, 3) := by decide +kernel
theorem dX2_markAlike_48 : decode cX2_markAlike 48 = .ok (.iload 4, 2) := by decide +kernel
theorem dX2_markAlike_50 : decode cX2_markAlike 50 = .ok (.istore 5, 2) := by decide +kernel
theorem dX2_markAlike_52 : decode cX2_markAlike 52 = .ok (.iload 8, 2) := by decide +kernel
theorem dX2_markAlike_54 : decode cX2_markAlike 54 = .ok (.istore 4, 2) := by decide +kernel
theorem dX2_markAlike_56 : decode cX2_markAlike 56 = .ok (.goto 19, 3) := by decide +kernel
theorem dX2_markAlike_59 : decode cX2_markAlike 59 = .ok (.aload_n 0, 1) := by decide +kernel
theorem dX2_markAlike_60 : decode cX2_markAlike 60 = .ok (.iload 4, 2) := by decide +kernel
theorem dX2_markAlike_62 : decode cX2_markAlike 62 = .ok (.invokevirtual 78, 3) := by decide +kernel
theorem dX2_markAlike_65 : decode cX2_markAlike 65 = .ok (.istore 4, 2) := by decide +kernel
theorem dX2_markAlike_67 : decode cX2_markAlike 67 = .ok (.iload 6, 2) := by decide +kernel
theorem dX2_markAlike_69 : decode cX2_markAlike 69 = .ok (.istore 5, 2) := by decide +kernel
theorem dX2_markAlike_71 : decode cX2_markAlike 71 = .ok (.iload 8, 2) := by decide +kernel
theorem dX2_markAlike_73 : decode cX2_markAlike 73 = .ok (.istore 6, 2) := by decide +kernel
theorem dX2_markAlike_75 : decode cX2_markAlike 75 = .ok (.iinc 7 1, 3) := by decide +kernel
theorem dX2_markAlike_78 : decode cX2_markAlike 78 = .ok (.goto (-66), 3) := by decide +kernel
theorem dX2_markAlike_81 : decode cX2_markAlike 81 = .ok (.return_, 1) := by decide +kernel
set_option maxRecDepth 20000 in
theorem ggX2_findRight_J7_fill_53178 : GoodIn wsX2_findRight wsJ7_fill_53178 := goodIn_r _ [9] (by decide +kernel) (by decide +kernel)
set_option maxRecDepth 20000 in
theorem gX2_findRight_J7_fill_53178 : GoodIn wsX2_findRight (va_wsS RX2 64 yJ7_fill_53178 wsJ7_fill_53178) := goodIn_app (goodIn_of _ (by decide +kernel)) ggX2_findRight_J7_fill_53178
set_option maxRecDepth 20000 in
theorem ggX2_findRight_X2_buildCandidate : GoodIn wsX2_findRight wsX2_buildCandidate := goodIn_r _ [14, 4, 15, 16, 2, 17, 18, 19, 20, 21, 22, 23, 24, 7, 8, 9, 25, 26, 27, 28, 29, 30, 31, 32, 33, 34, 13, 35, 36, 37, 38, 68, 69, 70, 71, 72, 73, 74, 75, 76, 77, 78, 79] (by decide +kernel) (by decide +kernel)
set_option maxRecDepth 20000 in
theorem gX2_findRight_X2_buildCandidate : GoodIn wsX2_findRight (wsV RX2 57 RX2 yX2_buildCandidate wsX2_buildCandidate) := goodIn_app (goodIn_of _ (by decide +kernel)) ggX2_findRight_X2_buildCandidate
set_option maxRecDepth 20000 in
theorem ggX2_findRight_X1_threeHolds : GoodIn wsX2_findRight wsX1_threeHolds := goodIn_r _ [43, 44, 45, 46, 42, 47, 48, 49, 50, 20, 51, 22, 29, 30, 31, 52, 53, 54, 55, 56, 57, 78, 79, 80, 81, 82] (by decide +kernel) (by decide +kernel)
set_option maxRecDepth 20000 in
theorem gX2_findRight_X1_threeHolds : GoodIn wsX2_findRight (wsV RX2 82 RX1 yX1_threeHolds wsX1_threeHolds) := goodIn_app (goodIn_of _ (by decide +kernel)) ggX2_findRight_X1_threeHolds
set_option maxRecDepth 20000 in
theorem ggX2_findRight_X2_packedRow : GoodIn wsX2_findRight wsX2_packedRow := goodIn_r _ [61, 62, 2, 68, 69, 70, 71, 72, 73, 74, 75, 76, 77] (by decide +kernel) (by decide +kernel)
set_option maxRecDepth 20000 in
theorem gX2_findRight_X2_packedRow : GoodIn wsX2_findRight (wsV RX2 86 RX2 yX2_packedRow wsX2_packedRow) := goodIn_app (goodIn_of _ (by decide +kernel)) ggX2_findRight_X2_packedRow
set_option maxRecDepth 20000 in
theorem ggX2_findRight_X2_nextRow : GoodIn wsX2_findRight wsX2_nextRow := goodIn_r _ [66, 62, 2, 67, 68, 69, 70, 71, 72, 73, 74, 75, 76, 77] (by decide +kernel) (by decide +kernel)
set_option maxRecDepth 20000 in
theorem gX2_findRight_X2_nextRow : GoodIn wsX2_findRight (wsV RX2 90 RX2 yX2_nextRow wsX2_nextRow) := goodIn_app (goodIn_of _ (by decide +kernel)) ggX2_findRight_X2_nextRow
theorem dX2_findRight_0 : decode cX2_findRight 0 = .ok (.aload_n 0, 1) := by decide +kernel
theorem dX2_findRight_1 : decode cX2_findRight 1 = .ok (.iconst 0, 1) := by decide +kernel
theorem dX2_findRight_2 : decode cX2_findRight 2 = .ok (.putfield 51, 3) := by decide +kernel
theorem dX2_findRight_5 : decode cX2_findRight 5 = .ok (.aload_n 0, 1) := by decide +kernel
theorem dX2_findRight_6 : decode cX2_findRight 6 = .ok (.getfield 17, 3) := by decide +kernel
theorem dX2_findRight_9 : decode cX2_findRight 9 = .ok (.iconst 0, 1) := by decide +kernel
theorem dX2_findRight_10 : decode cX2_findRight 10 = .ok (.invokestatic 64, 3) := by decide +kernel
theorem dX2_findRight_13 : decode cX2_findRight 13 = .ok (.iconst 1, 1) := by decide +kernel
theorem dX2_findRight_14 : decode cX2_findRight 14 = .ok (.istore_n 1, 1) := by decide +kernel
theorem dX2_findRight_15 : decode cX2_findRight 15 = .ok (.iconst 0, 1) := by decide +kernel
theorem dX2_findRight_16 : decode cX2_findRight 16 = .ok (.istore_n 2, 1) := by decide +kernel
theorem dX2_findRight_17 : decode cX2_findRight 17 = .ok (.iload_n 2, 1) := by decide +kernel
theorem dX2_findRight_18 : decode cX2_findRight 18 = .ok (.sipush 1024, 3) := by decide +kernel
theorem dX2_findRight_21 : decode cX2_findRight 21 = .ok (.if_icmp .ge 59, 3) := by decide +kernel
theorem dX2_findRight_24 : decode cX2_findRight 24 = .ok (.iload_n 1, 1) := by decide +kernel
theorem dX2_findRight_25 : decode cX2_findRight 25 = .ok (.ifCond .eq 55, 3) := by decide +kernel
theorem dX2_findRight_28 : decode cX2_findRight 28 = .ok (.aload_n 0, 1) := by decide +kernel
theorem dX2_findRight_29 : decode cX2_findRight 29 = .ok (.invokevirtual 57, 3) := by decide +kernel
theorem dX2_findRight_32 : decode cX2_findRight 32 = .ok (.aload_n 0, 1) := by decide +kernel
theorem dX2_findRight_33 : decode cX2_findRight 33 = .ok (.getfield 31, 3) := by decide +kernel
theorem dX2_findRight_36 : decode cX2_findRight 36 = .ok (.aload_n 0, 1) := by decide +kernel
theorem dX2_findRight_37 : decode cX2_findRight 37 = .ok (.getfield 24, 3) := by decide +kernel
theorem dX2_findRight_40 : decode cX2_findRight 40 = .ok (.invokevirtual 82, 3) := by decide +kernel
theorem dX2_findRight_43 : decode cX2_findRight 43 = .ok (.ifCond .eq 26, 3) := by decide +kernel
theorem dX2_findRight_46 : decode cX2_findRight 46 = .ok (.aload_n 0, 1) := by decide +kernel
theorem dX2_findRight_47 : decode cX2_findRight 47 = .ok (.getfield 20, 3) := by decide +kernel
theorem dX2_findRight_50 : decode cX2_findRight 50 = .ok (.aload_n 0, 1) := by decide +kernel
theorem dX2_findRight_51 : decode cX2_findRight 51 = .ok (.getfield 51, 3) := by decide +kernel
theorem dX2_findRight_54 : decode cX2_findRight 54 = .ok (.aload_n 0, 1) := by decide +kernel
theorem dX2_findRight_55 : decode cX2_findRight 55 = .ok (.invokevirtual 86, 3) := by decide +kernel
theorem dX2_findRight_58 : decode cX2_findRight 58 = .ok (.iastore, 1) := by decide +kernel
theorem dX2_findRight_59 : decode cX2_findRight 59 = .ok (.aload_n 0, 1) := by decide +kernel
theorem dX2_findRight_60 : decode cX2_findRight 60 = .ok (.dup, 1) := by decide +kernel
theorem dX2_findRight_61 : decode cX2_findRight 61 = .ok (.getfield 51, 3) := by decide +kernel
theorem dX2_findRight_64 : decode cX2_findRight 64 = .ok (.iconst 1, 1) := by decide +kernel
theorem dX2_findRight_65 : decode cX2_findRight 65 = .ok (.iadd, 1) := by decide +kernel
theorem dX2_findRight_66 : decode cX2_findRight 66 = .ok (.putfield 51, 3) := by decide +kernel
theorem dX2_findRight_69 : decode cX2_findRight 69 = .ok (.aload_n 0, 1) := by decide +kernel
theorem dX2_findRight_70 : decode cX2_findRight 70 = .ok (.invokevirtual 90, 3) := by decide +kernel
theorem dX2_findRight_73 : decode cX2_findRight 73 = .ok (.istore_n 1, 1) := by decide +kernel
theorem dX2_findRight_74 : decode cX2_findRight 74 = .ok (.iinc 2 1, 3) := by decide +kernel
theorem dX2_findRight_77 : decode cX2_findRight 77 = .ok (.goto (-60), 3) := by decide +kernel
theorem dX2_findRight_80 : decode cX2_findRight 80 = .ok (.return_, 1) := by decide +kernel
set_option maxRecDepth 20000 in
theorem ggX2_buildCandidate_X7_reset : GoodIn wsX2_buildCandidate wsX7_reset := goodIn_r _ [9, 10, 11, 12, 13, 14, 15, 16, 17, 18, 8, 19, 20, 21, 22, 41, 42] (by decide +kernel) (by decide +kernel)
set_option maxRecDepth 20000 in
theorem gX2_buildCandidate_X7_reset : GoodIn wsX2_buildCandidate (wsV RX2 94 RX7 yX7_reset wsX7_reset) := goodIn_app (goodIn_of _ (by decide +kernel)) ggX2_buildCandidate_X7_reset
set_option maxRecDepth 20000 in
theorem ggX2_buildCandidate_X2_partnerOf : GoodIn wsX2_buildCandidate wsX2_partnerOf := goodIn_r _ [27, 28, 31, 32, 33, 34, 35, 36, 37, 38, 39, 40] (by decide +kernel) (by decide +kernel)
set_option maxRecDepth 20000 in
theorem gX2_buildCandidate_X2_partnerOf : GoodIn wsX2_buildCandidate (wsV RX2 78 RX2 yX2_partnerOf wsX2_partnerOf) := goodIn_app (goodIn_of _ (by decide +kernel)) ggX2_buildCandidate_X2_partnerOf
set_option maxRecDepth 20000 in
theorem ggX2_buildCandidate_X7_setNumber : GoodIn wsX2_buildCandidate wsX7_setNumber := goodIn_r _ [19, 10, 20, 21, 8, 22, 41, 42] (by decide +kernel) (by decide +kernel)
set_option maxRecDepth 20000 in
theorem gX2_buildCandidate_X7_setNumber : GoodIn wsX2_buildCandidate (wsV RX2 98 RX7 yX7_setNumber wsX7_setNumber) := goodIn_app (goodIn_of _ (by decide +kernel)) ggX2_buildCandidate_X7_setNumber
set_option maxRecDepth 20000 in
theorem ggX2_buildCandidate_X7_placeOf : GoodIn wsX2_buildCandidate wsX7_placeOf := goodIn_r _ [22] (by decide +kernel) (by decide +kernel)
set_option maxRecDepth 20000 in
theorem gX2_buildCandidate_X7_placeOf : GoodIn wsX2_buildCandidate (va_wsS RX2 70 yX7_placeOf wsX7_placeOf) := goodIn_app (goodIn_of _ (by decide +kernel)) ggX2_buildCandidate_X7_placeOf
theorem dX2_buildCandidate_0 : decode cX2_buildCandidate 0 = .ok (.aload_n 0, 1) := by decide +kernel
theorem dX2_buildCandidate_1 : decode cX2_buildCandidate 1 = .ok (.getfield 24, 3) := by decide +kernel
theorem dX2_buildCandidate_4 : decode cX2_buildCandidate 4 = .ok (.aload_n 0, 1) := by decide +kernel
theorem dX2_buildCandidate_5 : decode cX2_buildCandidate 5 = .ok (.getfield 35, 3) := by decide +kernel
theorem dX2_buildCandidate_8 : decode cX2_buildCandidate 8 = .ok (.invokevirtual 94, 3) := by decide +kernel
theorem dX2_buildCandidate_11 : decode cX2_buildCandidate 11 = .ok (.iconst 1, 1) := by decide +kernel
theorem dX2_buildCandidate_12 : decode cX2_buildCandidate 12 = .ok (.istore_n 1, 1) := by decide +kernel
theorem dX2_buildCandidate_13 : decode cX2_buildCandidate 13 = .ok (.iload_n 1, 1) := by decide +kernel
theorem dX2_buildCandidate_14 : decode cX2_buildCandidate 14 = .ok (.aload_n 0, 1) := by decide +kernel
theorem dX2_buildCandidate_15 : decode cX2_buildCandidate 15 = .ok (.getfield 35, 3) := by decide +kernel
theorem dX2_buildCandidate_18 : decode cX2_buildCandidate 18 = .ok (.if_icmp .ge 96, 3) := by decide +kernel
theorem dX2_buildCandidate_21 : decode cX2_buildCandidate 21 = .ok (.aload_n 0, 1) := by decide +kernel
theorem dX2_buildCandidate_22 : decode cX2_buildCandidate 22 = .ok (.getfield 24, 3) := by decide +kernel
theorem dX2_buildCandidate_25 : decode cX2_buildCandidate 25 = .ok (.iload_n 1, 1) := by decide +kernel
theorem dX2_buildCandidate_26 : decode cX2_buildCandidate 26 = .ok (.aload_n 0, 1) := by decide +kernel
theorem dX2_buildCandidate_27 : decode cX2_buildCandidate 27 = .ok (.iload_n 1, 1) := by decide +kernel
theorem dX2_buildCandidate_28 : decode cX2_buildCandidate 28 = .ok (.invokevirtual 78, 3) := by decide +kernel
theorem dX2_buildCandidate_31 : decode cX2_buildCandidate 31 = .ok (.iconst 0, 1) := by decide +kernel
theorem dX2_buildCandidate_32 : decode cX2_buildCandidate 32 = .ok (.iconst 1, 1) := by decide +kernel
theorem dX2_buildCandidate_33 : decode cX2_buildCandidate 33 = .ok (.invokevirtual 98, 3) := by decide +kernel
theorem dX2_buildCandidate_36 : decode cX2_buildCandidate 36 = .ok (.iconst 1, 1) := by decide +kernel
theorem dX2_buildCandidate_37 : decode cX2_buildCandidate 37 = .ok (.istore_n 2, 1) := by decide +kernel
theorem dX2_buildCandidate_38 : decode cX2_buildCandidate 38 = .ok (.iload_n 2, 1) := by decide +kernel
theorem dX2_buildCandidate_39 : decode cX2_buildCandidate 39 = .ok (.aload_n 0, 1) := by decide +kernel
theorem dX2_buildCandidate_40 : decode cX2_buildCandidate 40 = .ok (.getfield 35, 3) := by decide +kernel
theorem dX2_buildCandidate_43 : decode cX2_buildCandidate 43 = .ok (.if_icmp .ge 65, 3) := by decide +kernel
theorem dX2_buildCandidate_46 : decode cX2_buildCandidate 46 = .ok (.iconst 1, 1) := by decide +kernel
theorem dX2_buildCandidate_47 : decode cX2_buildCandidate 47 = .ok (.istore_n 3, 1) := by decide +kernel
theorem dX2_buildCandidate_48 : decode cX2_buildCandidate 48 = .ok (.iload_n 3, 1) := by decide +kernel
theorem dX2_buildCandidate_49 : decode cX2_buildCandidate 49 = .ok (.aload_n 0, 1) := by decide +kernel
theorem dX2_buildCandidate_50 : decode cX2_buildCandidate 50 = .ok (.getfield 35, 3) := by decide +kernel
theorem dX2_buildCandidate_53 : decode cX2_buildCandidate 53 = .ok (.if_icmp .ge 49, 3) := by decide +kernel
theorem dX2_buildCandidate_56 : decode cX2_buildCandidate 56 = .ok (.aload_n 0, 1) := by decide +kernel
theorem dX2_buildCandidate_57 : decode cX2_buildCandidate 57 = .ok (.getfield 13, 3) := by decide +kernel
theorem dX2_buildCandidate_60 : decode cX2_buildCandidate 60 = .ok (.iload_n 1, 1) := by decide +kernel
theorem dX2_buildCandidate_61 : decode cX2_buildCandidate 61 = .ok (.iload_n 2, 1) := by decide +kernel
theorem dX2_buildCandidate_62 : decode cX2_buildCandidate 62 = .ok (.iload_n 3, 1) := by decide +kernel
theorem dX2_buildCandidate_63 : decode cX2_buildCandidate 63 = .ok (.invokestatic 70, 3) := by decide +kernel
theorem dX2_buildCandidate_66 : decode cX2_buildCandidate 66 = .ok (.iaload, 1) := by decide +kernel
theorem dX2_buildCandidate_67 : decode cX2_buildCandidate 67 = .ok (.istore 4, 2) := by decide +kernel
theorem dX2_buildCandidate_69 : decode cX2_buildCandidate 69 = .ok (.aload_n 0, 1) := by decide +kernel
theorem dX2_buildCandidate_70 : decode cX2_buildCandidate 70 = .ok (.getfield 24, 3) := by decide +kernel
theorem dX2_buildCandidate_73 : decode cX2_buildCandidate 73 = .ok (.iload_n 1, 1) := by decide +kernel
theorem dX2_buildCandidate_74 : decode cX2_buildCandidate 74 = .ok (.iload_n 2, 1) := by decide +kernel
theorem dX2_buildCandidate_75 : decode cX2_buildCandidate 75 = .ok (.iload_n 3, 1) := by decide +kernel
theorem dX2_buildCandidate_76 : decode cX2_buildCandidate 76 = .ok (.iload 4, 2) := by decide +kernel
theorem dX2_buildCandidate_78 : decode cX2_buildCandidate 78 = .ok (.iconst (-1), 1) := by decide +kernel
theorem dX2_buildCandidate_79 : decode cX2_buildCandidate 79 = .ok (.if_icmp .ne 7, 3) := by decide +kernel
theorem dX2_buildCandidate_82 : decode cX2_buildCandidate 82 = .ok (.iconst 0, 1) := by decide +kernel
theorem dX2_buildCandidate_83 : decode cX2_buildCandidate 83 = .ok (.goto 10, 3) := by decide +kernel
theorem dX2_buildCandidate_86 : decode cX2_buildCandidate 86 = .ok (.aload_n 0, 1) := by decide +kernel
theorem dX2_buildCandidate_87 : decode cX2_buildCandidate 87 = .ok (.getfield 17, 3) := by decide +kernel
theorem dX2_buildCandidate_90 : decode cX2_buildCandidate 90 = .ok (.iload 4, 2) := by decide +kernel
theorem dX2_buildCandidate_92 : decode cX2_buildCandidate 92 = .ok (.iaload, 1) := by decide +kernel
theorem dX2_buildCandidate_93 : decode cX2_buildCandidate 93 = .ok (.invokevirtual 98, 3) := by decide +kernel
theorem dX2_buildCandidate_96 : decode cX2_buildCandidate 96 = .ok (.iinc 3 1, 3) := by decide +kernel
theorem dX2_buildCandidate_99 : decode cX2_buildCandidate 99 = .ok (.goto (-51), 3) := by decide +kernel
theorem dX2_buildCandidate_102 : decode cX2_buildCandidate 102 = .ok (.iinc 2 1, 3) := by decide +kernel
theorem dX2_buildCandidate_105 : decode cX2_buildCandidate 105 = .ok (.goto (-67), 3) := by decide +kernel
theorem dX2_buildCandidate_108 : decode cX2_buildCandidate 108 = .ok (.iinc 1 1, 3) := by decide +kernel
theorem dX2_buildCandidate_111 : decode cX2_buildCandidate 111 = .ok (.goto (-98), 3) := by decide +kernel
theorem dX2_buildCandidate_114 : decode cX2_buildCandidate 114 = .ok (.return_, 1) := by decide +kernel
theorem dX2_packedRow_0 : decode cX2_packedRow 0 = .ok (.iconst 0, 1) := by decide +kernel
theorem dX2_packedRow_1 : decode cX2_packedRow 1 = .ok (.istore_n 1, 1) := by decide +kernel
theorem dX2_packedRow_2 : decode cX2_packedRow 2 = .ok (.iconst 0, 1) := by decide +kernel
theorem dX2_packedRow_3 : decode cX2_packedRow 3 = .ok (.istore_n 2, 1) := by decide +kernel
theorem dX2_packedRow_4 : decode cX2_packedRow 4 = .ok (.iload_n 2, 1) := by decide +kernel
theorem dX2_packedRow_5 : decode cX2_packedRow 5 = .ok (.aload_n 0, 1) := by decide +kernel
theorem dX2_packedRow_6 : decode cX2_packedRow 6 = .ok (.getfield 54, 3) := by decide +kernel
theorem dX2_packedRow_9 : decode cX2_packedRow 9 = .ok (.if_icmp .ge 20, 3) := by decide +kernel
theorem dX2_packedRow_12 : decode cX2_packedRow 12 = .ok (.iload_n 1, 1) := by decide +kernel
theorem dX2_packedRow_13 : decode cX2_packedRow 13 = .ok (.iconst 2, 1) := by decide +kernel
theorem dX2_packedRow_14 : decode cX2_packedRow 14 = .ok (.ishl, 1) := by decide +kernel
theorem dX2_packedRow_15 : decode cX2_packedRow 15 = .ok (.aload_n 0, 1) := by decide +kernel
theorem dX2_packedRow_16 : decode cX2_packedRow 16 = .ok (.getfield 17, 3) := by decide +kernel
theorem dX2_packedRow_19 : decode cX2_packedRow 19 = .ok (.iload_n 2, 1) := by decide +kernel
theorem dX2_packedRow_20 : decode cX2_packedRow 20 = .ok (.iaload, 1) := by decide +kernel
theorem dX2_packedRow_21 : decode cX2_packedRow 21 = .ok (.ior, 1) := by decide +kernel
theorem dX2_packedRow_22 : decode cX2_packedRow 22 = .ok (.istore_n 1, 1) := by decide +kernel
theorem dX2_packedRow_23 : decode cX2_packedRow 23 = .ok (.iinc 2 1, 3) := by decide +kernel
theorem dX2_packedRow_26 : decode cX2_packedRow 26 = .ok (.goto (-22), 3) := by decide +kernel
theorem dX2_packedRow_29 : decode cX2_packedRow 29 = .ok (.iload_n 1, 1) := by decide +kernel
theorem dX2_packedRow_30 : decode cX2_packedRow 30 = .ok (.ireturn, 1) := by decide +kernel
theorem dX2_nextRow_0 : decode cX2_nextRow 0 = .ok (.aload_n 0, 1) := by decide +kernel
theorem dX2_nextRow_1 : decode cX2_nextRow 1 = .ok (.getfield 54, 3) := by decide +kernel
theorem dX2_nextRow_4 : decode cX2_nextRow 4 = .ok (.iconst 1, 1) := by decide +kernel
theorem dX2_nextRow_5 : decode cX2_nextRow 5 = .ok (.isub, 1) := by decide +kernel
theorem dX2_nextRow_6 : decode cX2_nextRow 6 = .ok (.istore_n 1, 1) := by decide +kernel
theorem dX2_nextRow_7 : decode cX2_nextRow 7 = .ok (.iload_n 1, 1) := by decide +kernel
theorem dX2_nextRow_8 : decode cX2_nextRow 8 = .ok (.ifCond .lt 41, 3) := by decide +kernel
theorem dX2_nextRow_11 : decode cX2_nextRow 11 = .ok (.aload_n 0, 1) := by decide +kernel
theorem dX2_nextRow_12 : decode cX2_nextRow 12 = .ok (.getfield 17, 3) := by decide +kernel
theorem dX2_nextRow_15 : decode cX2_nextRow 15 = .ok (.iload_n 1, 1) := by decide +kernel
theorem dX2_nextRow_16 : decode cX2_nextRow 16 = .ok (.iaload, 1) := by decide +kernel
theorem dX2_nextRow_17 : decode cX2_nextRow 17 = .ok (.aload_n 0, 1) := by decide +kernel
theorem dX2_nextRow_18 : decode cX2_nextRow 18 = .ok (.getfield 39, 3) := by decide +kernel
theorem dX2_nextRow_21 : decode cX2_nextRow 21 = .ok (.if_icmp .ge 15, 3) := by decide +kernel
theorem dX2_nextRow_24 : decode cX2_nextRow 24 = .ok (.aload_n 0, 1) := by decide +kernel
theorem dX2_nextRow_25 : decode cX2_nextRow 25 = .ok (.getfield 17, 3) := by decide +kernel
theorem dX2_nextRow_28 : decode cX2_nextRow 28 = .ok (.iload_n 1, 1) := by decide +kernel
theorem dX2_nextRow_29 : decode cX2_nextRow 29 = .ok (.dup2, 1) := by decide +kernel
theorem dX2_nextRow_30 : decode cX2_nextRow 30 = .ok (.iaload, 1) := by decide +kernel
theorem dX2_nextRow_31 : decode cX2_nextRow 31 = .ok (.iconst 1, 1) := by decide +kernel
theorem dX2_nextRow_32 : decode cX2_nextRow 32 = .ok (.iadd, 1) := by decide +kernel
theorem dX2_nextRow_33 : decode cX2_nextRow 33 = .ok (.iastore, 1) := by decide +kernel
theorem dX2_nextRow_34 : decode cX2_nextRow 34 = .ok (.iconst 1, 1) := by decide +kernel
theorem dX2_nextRow_35 : decode cX2_nextRow 35 = .ok (.ireturn, 1) := by decide +kernel
theorem dX2_nextRow_36 : decode cX2_nextRow 36 = .ok (.aload_n 0, 1) := by decide +kernel
theorem dX2_nextRow_37 : decode cX2_nextRow 37 = .ok (.getfield 17, 3) := by decide +kernel
theorem dX2_nextRow_40 : decode cX2_nextRow 40 = .ok (.iload_n 1, 1) := by decide +kernel
theorem dX2_nextRow_41 : decode cX2_nextRow 41 = .ok (.iconst 0, 1) := by decide +kernel
theorem dX2_nextRow_42 : decode cX2_nextRow 42 = .ok (.iastore, 1) := by decide +kernel
theorem dX2_nextRow_43 : decode cX2_nextRow 43 = .ok (.iinc 1 (-1), 3) := by decide +kernel
theorem dX2_nextRow_46 : decode cX2_nextRow 46 = .ok (.goto (-39), 3) := by decide +kernel
theorem dX2_nextRow_49 : decode cX2_nextRow 49 = .ok (.iconst 0, 1) := by decide +kernel
theorem dX2_nextRow_50 : decode cX2_nextRow 50 = .ok (.ireturn, 1) := by decide +kernel
theorem dX3_init_0 : decode cX3_init 0 = .ok (.aload_n 0, 1) := by decide +kernel
theorem dX3_init_1 : decode cX3_init 1 = .ok (.invokespecial 3, 3) := by decide +kernel
theorem dX3_init_4 : decode cX3_init 4 = .ok (.aload_n 0, 1) := by decide +kernel
theorem dX3_init_5 : decode cX3_init 5 = .ok (.iconst 5, 1) := by decide +kernel
theorem dX3_init_6 : decode cX3_init 6 = .ok (.newarray .int, 2) := by decide +kernel
theorem dX3_init_8 : decode cX3_init 8 = .ok (.putfield 9, 3) := by decide +kernel
theorem dX3_init_11 : decode cX3_init 11 = .ok (.return_, 1) := by decide +kernel
set_option maxRecDepth 20000 in
theorem ggX3_count_X3_countFrom : GoodIn wsX3_count wsX3_countFrom := goodIn_r _ [6, 1, 7, 8, 5, 9, 10, 11, 12, 13, 14, 15, 16, 17, 18, 3, 4, 19, 20] (by decide +kernel) (by decide +kernel)
set_option maxRecDepth 20000 in
theorem gX3_count_X3_countFrom : GoodIn wsX3_count (va_wsS RX3 21 yX3_countFrom wsX3_countFrom) := goodIn_app (goodIn_of _ (by decide +kernel)) ggX3_count_X3_countFrom
theorem dX3_count_0 : decode cX3_count 0 = .ok (.aload_n 1, 1) := by decide +kernel
theorem dX3_count_1 : decode cX3_count 1 = .ok (.getfield 15, 3) := by decide +kernel
theorem dX3_count_4 : decode cX3_count 4 = .ok (.aload_n 2, 1) := by decide +kernel
theorem dX3_count_5 : decode cX3_count 5 = .ok (.getfield 15, 3) := by decide +kernel
theorem dX3_count_8 : decode cX3_count 8 = .ok (.if_icmp .ne 17, 3) := by decide +kernel
theorem dX3_count_11 : decode cX3_count 11 = .ok (.aload_n 1, 1) := by decide +kernel
theorem dX3_count_12 : decode cX3_count 12 = .ok (.aload_n 2, 1) := by decide +kernel
theorem dX3_count_13 : decode cX3_count 13 = .ok (.aload_n 0, 1) := by decide +kernel
theorem dX3_count_14 : decode cX3_count 14 = .ok (.getfield 9, 3) := by decide +kernel
theorem dX3_count_17 : decode cX3_count 17 = .ok (.iconst 1, 1) := by decide +kernel
theorem dX3_count_18 : decode cX3_count 18 = .ok (.iconst 1, 1) := by decide +kernel
theorem dX3_count_19 : decode cX3_count 19 = .ok (.invokestatic 21, 3) := by decide +kernel
theorem dX3_count_22 : decode cX3_count 22 = .ok (.goto 4, 3) := by decide +kernel
theorem dX3_count_25 : decode cX3_count 25 = .ok (.iconst 0, 1) := by decide +kernel
theorem dX3_count_26 : decode cX3_count 26 = .ok (.ireturn, 1) := by decide +kernel
set_option maxRecDepth 20000 in
theorem ggX3_countFrom_X3_alike : GoodIn wsX3_countFrom wsX3_alike := goodIn_r _ [5, 1, 6, 7, 8, 9, 10, 11, 12, 13, 14, 17, 18] (by decide +kernel) (by decide +kernel)
set_option maxRecDepth 20000 in
theorem gX3_countFrom_X3_alike : GoodIn wsX3_countFrom (va_wsS RX3 25 yX3_alike wsX3_alike) := goodIn_app (goodIn_of _ (by decide +kernel)) ggX3_countFrom_X3_alike
set_option maxRecDepth 20000 in
theorem ggX3_countFrom_X3_countFrom : GoodIn wsX3_countFrom wsX3_countFrom := goodIn_r _ [0, 1, 2, 3, 4, 5, 6, 7, 8, 9, 10, 11, 12, 13, 14, 15, 16, 17, 18] (by decide +kernel) (by decide +kernel)
set_option maxRecDepth 20000 in
theorem gX3_countFrom_X3_countFrom : GoodIn wsX3_countFrom (va_wsS RX3 21 yX3_countFrom wsX3_countFrom) := goodIn_app (goodIn_of _ (by decide +kernel)) ggX3_countFrom_X3_countFrom
theorem dX3_countFrom_0 : decode cX3_countFrom 0 = .ok (.iload_n 3, 1) := by decide +kernel
theorem dX3_countFrom_1 : decode cX3_countFrom 1 = .ok (.aload_n 0, 1) := by decide +kernel
theorem dX3_countFrom_2 : decode cX3_countFrom 2 = .ok (.getfield 15, 3) := by decide +kernel
theorem dX3_countFrom_5 : decode cX3_countFrom 5 = .ok (.if_icmp .lt 18, 3) := by decide +kernel
theorem dX3_countFrom_8 : decode cX3_countFrom 8 = .ok (.aload_n 0, 1) := by decide +kernel
theorem dX3_countFrom_9 : decode cX3_countFrom 9 = .ok (.aload_n 1, 1) := by decide +kernel
theorem dX3_countFrom_10 : decode cX3_countFrom 10 = .ok (.aload_n 2, 1) := by decide +kernel
theorem dX3_countFrom_11 : decode cX3_countFrom 11 = .ok (.invokestatic 25, 3) := by decide +kernel
theorem dX3_countFrom_14 : decode cX3_countFrom 14 = .ok (.ifCond .eq 7, 3) := by decide +kernel
theorem dX3_countFrom_17 : decode cX3_countFrom 17 = .ok (.iconst 1, 1) := by decide +kernel
theorem dX3_countFrom_18 : decode cX3_countFrom 18 = .ok (.goto 4, 3) := by decide +kernel
theorem dX3_countFrom_21 : decode cX3_countFrom 21 = .ok (.iconst 0, 1) := by decide +kernel
theorem dX3_countFrom_22 : decode cX3_countFrom 22 = .ok (.ireturn, 1) := by decide +kernel
theorem dX3_countFrom_23 : decode cX3_countFrom 23 = .ok (.iconst 0, 1) := by decide +kernel
theorem dX3_countFrom_24 : decode cX3_countFrom 24 = .ok (.istore 5, 2) := by decide +kernel
theorem dX3_countFrom_26 : decode cX3_countFrom 26 = .ok (.iconst 1, 1) := by decide +kernel
theorem dX3_countFrom_27 : decode cX3_countFrom 27 = .ok (.istore 6, 2) := by decide +kernel
theorem dX3_countFrom_29 : decode cX3_countFrom 29 = .ok (.iload 6, 2) := by decide +kernel
theorem dX3_countFrom_31 : decode cX3_countFrom 31 = .ok (.aload_n 0, 1) := by decide +kernel
theorem dX3_countFrom_32 : decode cX3_countFrom 32 = .ok (.getfield 15, 3) := by decide +kernel
theorem dX3_countFrom_35 : decode cX3_countFrom 35 = .ok (.if_icmp .ge 45, 3) := by decide +kernel
theorem dX3_countFrom_38 : decode cX3_countFrom 38 = .ok (.iload 4, 2) := by decide +kernel
theorem dX3_countFrom_40 : decode cX3_countFrom 40 = .ok (.iload 6, 2) := by decide +kernel
theorem dX3_countFrom_42 : decode cX3_countFrom 42 = .ok (.ishr, 1) := by decide +kernel
theorem dX3_countFrom_43 : decode cX3_countFrom 43 = .ok (.iconst 1, 1) := by decide +kernel
theorem dX3_countFrom_44 : decode cX3_countFrom 44 = .ok (.iand, 1) := by decide +kernel
theorem dX3_countFrom_45 : decode cX3_countFrom 45 = .ok (.ifCond .ne 29, 3) := by decide +kernel
theorem dX3_countFrom_48 : decode cX3_countFrom 48 = .ok (.aload_n 2, 1) := by decide +kernel
theorem dX3_countFrom_49 : decode cX3_countFrom 49 = .ok (.iload_n 3, 1) := by decide +kernel
theorem dX3_countFrom_50 : decode cX3_countFrom 50 = .ok (.iload 6, 2) := by decide +kernel
theorem dX3_countFrom_52 : decode cX3_countFrom 52 = .ok (.iastore, 1) := by decide +kernel
theorem dX3_countFrom_53 : decode cX3_countFrom 53 = .ok (.iload 5, 2) := by decide +kernel
theorem dX3_countFrom_55 : decode cX3_countFrom 55 = .ok (.aload_n 0, 1) := by decide +kernel
theorem dX3_countFrom_56 : decode cX3_countFrom 56 = .ok (.aload_n 1, 1) := by decide +kernel
theorem dX3_countFrom_57 : decode cX3_countFrom 57 = .ok (.aload_n 2, 1) := by decide +kernel
theorem dX3_countFrom_58 : decode cX3_countFrom 58 = .ok (.iload_n 3, 1) := by decide +kernel
theorem dX3_countFrom_59 : decode cX3_countFrom 59 = .ok (.iconst 1, 1) := by decide +kernel
theorem dX3_countFrom_60 : decode cX3_countFrom 60 = .ok (.iadd, 1) := by decide +kernel
theorem dX3_countFrom_61 : decode cX3_countFrom 61 = .ok (.iload 4, 2) := by decide +kernel
theorem dX3_countFrom_63 : decode cX3_countFrom 63 = .ok (.iconst 1, 1) := by decide +kernel
theorem dX3_countFrom_64 : decode cX3_countFrom 64 = .ok (.iload 6, 2) := by decide +kernel
theorem dX3_countFrom_66 : decode cX3_countFrom 66 = .ok (.ishl, 1) := by decide +kernel
theorem dX3_countFrom_67 : decode cX3_countFrom 67 = .ok (.ior, 1) := by decide +kernel
theorem dX3_countFrom_68 : decode cX3_countFrom 68 = .ok (.invokestatic 21, 3) := by decide +kernel
theorem dX3_countFrom_71 : decode cX3_countFrom 71 = .ok (.iadd, 1) := by decide +kernel
theorem dX3_countFrom_72 : decode cX3_countFrom 72 = .ok (.istore 5, 2) := by decide +kernel
theorem dX3_countFrom_74 : decode cX3_countFrom 74 = .ok (.iinc 6 1, 3) := by decide +kernel
theorem dX3_countFrom_77 : decode cX3_countFrom 77 = .ok (.goto (-48), 3) := by decide +kernel
theorem dX3_countFrom_80 : decode cX3_countFrom 80 = .ok (.iload 5, 2) := by decide +kernel
theorem dX3_countFrom_82 : decode cX3_countFrom 82 = .ok (.ireturn, 1) := by decide +kernel
set_option maxRecDepth 20000 in
theorem ggX3_alike_X7_number : GoodIn wsX3_alike wsX7_number := goodIn_r _ [6, 7, 8, 9, 5, 10, 11, 12] (by decide +kernel) (by decide +kernel)
set_option maxRecDepth 20000 in
theorem gX3_alike_X7_number : GoodIn wsX3_alike (wsV RX3 29 RX7 yX7_number wsX7_number) := goodIn_app (goodIn_of _ (by decide +kernel)) ggX3_alike_X7_number
theorem dX3_alike_0 : decode cX3_alike 0 = .ok (.iconst 0, 1) := by decide +kernel
theorem dX3_alike_1 : decode cX3_alike 1 = .ok (.istore_n 3, 1) := by decide +kernel
theorem dX3_alike_2 : decode cX3_alike 2 = .ok (.iload_n 3, 1) := by decide +kernel
theorem dX3_alike_3 : decode cX3_alike 3 = .ok (.aload_n 0, 1) := by decide +kernel
theorem dX3_alike_4 : decode cX3_alike 4 = .ok (.getfield 15, 3) := by decide +kernel
theorem dX3_alike_7 : decode cX3_alike 7 = .ok (.if_icmp .ge 74, 3) := by decide +kernel
theorem dX3_alike_10 : decode cX3_alike 10 = .ok (.iconst 0, 1) := by decide +kernel
theorem dX3_alike_11 : decode cX3_alike 11 = .ok (.istore 4, 2) := by decide +kernel
theorem dX3_alike_13 : decode cX3_alike 13 = .ok (.iload 4, 2) := by decide +kernel
theorem dX3_alike_15 : decode cX3_alike 15 = .ok (.aload_n 0, 1) := by decide +kernel
theorem dX3_alike_16 : decode cX3_alike 16 = .ok (.getfield 15, 3) := by decide +kernel
theorem dX3_alike_19 : decode cX3_alike 19 = .ok (.if_icmp .ge 56, 3) := by decide +kernel
theorem dX3_alike_22 : decode cX3_alike 22 = .ok (.iconst 0, 1) := by decide +kernel
theorem dX3_alike_23 : decode cX3_alike 23 = .ok (.istore 5, 2) := by decide +kernel
theorem dX3_alike_25 : decode cX3_alike 25 = .ok (.iload 5, 2) := by decide +kernel
theorem dX3_alike_27 : decode cX3_alike 27 = .ok (.aload_n 0, 1) := by decide +kernel
theorem dX3_alike_28 : decode cX3_alike 28 = .ok (.getfield 15, 3) := by decide +kernel
theorem dX3_alike_31 : decode cX3_alike 31 = .ok (.if_icmp .ge 38, 3) := by decide +kernel
theorem dX3_alike_34 : decode cX3_alike 34 = .ok (.aload_n 0, 1) := by decide +kernel
theorem dX3_alike_35 : decode cX3_alike 35 = .ok (.iload_n 3, 1) := by decide +kernel
theorem dX3_alike_36 : decode cX3_alike 36 = .ok (.iload 4, 2) := by decide +kernel
theorem dX3_alike_38 : decode cX3_alike 38 = .ok (.iload 5, 2) := by decide +kernel
theorem dX3_alike_40 : decode cX3_alike 40 = .ok (.invokevirtual 29, 3) := by decide +kernel
theorem dX3_alike_43 : decode cX3_alike 43 = .ok (.aload_n 1, 1) := by decide +kernel
theorem dX3_alike_44 : decode cX3_alike 44 = .ok (.aload_n 2, 1) := by decide +kernel
theorem dX3_alike_45 : decode cX3_alike 45 = .ok (.iload_n 3, 1) := by decide +kernel
theorem dX3_alike_46 : decode cX3_alike 46 = .ok (.iaload, 1) := by decide +kernel
theorem dX3_alike_47 : decode cX3_alike 47 = .ok (.aload_n 2, 1) := by decide +kernel
theorem dX3_alike_48 : decode cX3_alike 48 = .ok (.iload 4, 2) := by decide +kernel
theorem dX3_alike_50 : decode cX3_alike 50 = .ok (.iaload, 1) := by decide +kernel
theorem dX3_alike_51 : decode cX3_alike 51 = .ok (.aload_n 2, 1) := by decide +kernel
theorem dX3_alike_52 : decode cX3_alike 52 = .ok (.iload 5, 2) := by decide +kernel
theorem dX3_alike_54 : decode cX3_alike 54 = .ok (.iaload, 1) := by decide +kernel
theorem dX3_alike_55 : decode cX3_alike 55 = .ok (.invokevirtual 29, 3) := by decide +kernel
theorem dX3_alike_58 : decode cX3_alike 58 = .ok (.if_icmp .eq 5, 3) := by decide +kernel
theorem dX3_alike_61 : decode cX3_alike 61 = .ok (.iconst 0, 1) := by decide +kernel
theorem dX3_alike_62 : decode cX3_alike 62 = .ok (.ireturn, 1) := by decide +kernel
theorem dX3_alike_63 : decode cX3_alike 63 = .ok (.iinc 5 1, 3) := by decide +kernel
theorem dX3_alike_66 : decode cX3_alike 66 = .ok (.goto (-41), 3) := by decide +kernel
theorem dX3_alike_69 : decode cX3_alike 69 = .ok (.iinc 4 1, 3) := by decide +kernel
theorem dX3_alike_72 : decode cX3_alike 72 = .ok (.goto (-59), 3) := by decide +kernel
theorem dX3_alike_75 : decode cX3_alike 75 = .ok (.iinc 3 1, 3) := by decide +kernel
theorem dX3_alike_78 : decode cX3_alike 78 = .ok (.goto (-76), 3) := by decide +kernel
theorem dX3_alike_81 : decode cX3_alike 81 = .ok (.iconst 1, 1) := by decide +kernel
theorem dX3_alike_82 : decode cX3_alike 82 = .ok (.ireturn, 1) := by decide +kernel
theorem dX4_init_0 : decode cX4_init 0 = .ok (.aload_n 0, 1) := by decide +kernel
theorem dX4_init_1 : decode cX4_init 1 = .ok (.invokespecial 3, 3) := by decide +kernel
theorem dX4_init_4 : decode cX4_init 4 = .ok (.aload_n 0, 1) := by decide +kernel
theorem dX4_init_5 : decode cX4_init 5 = .ok (.iconst 5, 1) := by decide +kernel
theorem dX4_init_6 : decode cX4_init 6 = .ok (.newarray .int, 2) := by decide +kernel
theorem dX4_init_8 : decode cX4_init 8 = .ok (.putfield 9, 3) := by decide +kernel
theorem dX4_init_11 : decode cX4_init 11 = .ok (.return_, 1) := by decide +kernel
set_option maxRecDepth 20000 in
theorem ggX4_count_X4_walk : GoodIn wsX4_count wsX4_walk := goodIn_r _ [6, 1, 7, 8, 9, 10, 11, 12, 13, 14, 15, 5, 16, 17, 18, 19, 20, 21, 22, 23, 24, 25, 26, 27, 28, 29, 30, 31, 32, 33, 34, 35, 36, 37] (by decide +kernel) (by decide +kernel)
set_option maxRecDepth 20000 in
theorem gX4_count_X4_walk : GoodIn wsX4_count (wsV RX4 15 RX4 yX4_walk wsX4_walk) := goodIn_app (goodIn_of _ (by decide +kernel)) ggX4_count_X4_walk
theorem dX4_count_0 : decode cX4_count 0 = .ok (.aload_n 0, 1) := by decide +kernel
theorem dX4_count_1 : decode cX4_count 1 = .ok (.aload_n 1, 1) := by decide +kernel
theorem dX4_count_2 : decode cX4_count 2 = .ok (.iload_n 2, 1) := by decide +kernel
theorem dX4_count_3 : decode cX4_count 3 = .ok (.iconst (-1), 1) := by decide +kernel
theorem dX4_count_4 : decode cX4_count 4 = .ok (.invokevirtual 15, 3) := by decide +kernel
theorem dX4_count_7 : decode cX4_count 7 = .ok (.pop, 1) := by decide +kernel
theorem dX4_count_8 : decode cX4_count 8 = .ok (.aload_n 0, 1) := by decide +kernel
theorem dX4_count_9 : decode cX4_count 9 = .ok (.getfield 19, 3) := by decide +kernel
theorem dX4_count_12 : decode cX4_count 12 = .ok (.ireturn, 1) := by decide +kernel
set_option maxRecDepth 20000 in
theorem ggX4_find_X4_walk : GoodIn wsX4_find wsX4_walk := goodIn_r _ [5, 6, 7, 8, 9, 10, 11, 12, 13, 14, 15, 4, 16, 17, 18, 19, 20, 21, 22, 23, 24, 25, 26, 27, 28, 29, 30, 31, 32, 33, 34, 35, 36, 37] (by decide +kernel) (by decide +kernel)
set_option maxRecDepth 20000 in
theorem gX4_find_X4_walk : GoodIn wsX4_find (wsV RX4 15 RX4 yX4_walk wsX4_walk) := goodIn_app (goodIn_of _ (by decide +kernel)) ggX4_find_X4_walk
theorem dX4_find_0 : decode cX4_find 0 = .ok (.aload_n 0, 1) := by decide +kernel
theorem dX4_find_1 : decode cX4_find 1 = .ok (.aload_n 1, 1) := by decide +kernel
theorem dX4_find_2 : decode cX4_find 2 = .ok (.iload_n 2, 1) := by decide +kernel
theorem dX4_find_3 : decode cX4_find 3 = .ok (.iload_n 3, 1) := by decide +kernel
theorem dX4_find_4 : decode cX4_find 4 = .ok (.invokevirtual 15, 3) := by decide +kernel
theorem dX4_find_7 : decode cX4_find 7 = .ok (.ireturn, 1) := by decide +kernel
set_option maxRecDepth 20000 in
theorem ggX4_walk_J7_fill_53178 : GoodIn wsX4_walk wsJ7_fill_53178 := goodIn_r _ [7] (by decide +kernel) (by decide +kernel)
set_option maxRecDepth 20000 in
theorem gX4_walk_J7_fill_53178 : GoodIn wsX4_walk (va_wsS RX4 23 yJ7_fill_53178 wsJ7_fill_53178) := goodIn_app (goodIn_of _ (by decide +kernel)) ggX4_walk_J7_fill_53178
set_option maxRecDepth 20000 in
theorem ggX4_walk_X4_lastOfBroken : GoodIn wsX4_walk wsX4_lastOfBroken := goodIn_r _ [12, 3, 2, 13, 14, 15, 16, 17, 18, 19, 20, 21, 22, 23, 24, 25, 32, 33, 30, 31] (by decide +kernel) (by decide +kernel)
set_option maxRecDepth 20000 in
theorem gX4_walk_X4_lastOfBroken : GoodIn wsX4_walk (wsV RX4 29 RX4 yX4_lastOfBroken wsX4_lastOfBroken) := goodIn_app (goodIn_of _ (by decide +kernel)) ggX4_walk_X4_lastOfBroken
set_option maxRecDepth 20000 in
theorem ggX4_walk_X4_nextRow : GoodIn wsX4_walk wsX4_nextRow := goodIn_r _ [29, 2, 30, 31] (by decide +kernel) (by decide +kernel)
set_option maxRecDepth 20000 in
theorem gX4_walk_X4_nextRow : GoodIn wsX4_walk (wsV RX4 38 RX4 yX4_nextRow wsX4_nextRow) := goodIn_app (goodIn_of _ (by decide +kernel)) ggX4_walk_X4_nextRow
theorem dX4_walk_0 : decode cX4_walk 0 = .ok (.aload_n 0, 1) := by decide +kernel
theorem dX4_walk_1 : decode cX4_walk 1 = .ok (.iconst 0, 1) := by decide +kernel
theorem dX4_walk_2 : decode cX4_walk 2 = .ok (.putfield 19, 3) := by decide +kernel
theorem dX4_walk_5 : decode cX4_walk 5 = .ok (.aload_n 0, 1) := by decide +kernel
theorem dX4_walk_6 : decode cX4_walk 6 = .ok (.getfield 9, 3) := by decide +kernel
theorem dX4_walk_9 : decode cX4_walk 9 = .ok (.iconst 0, 1) := by decide +kernel
theorem dX4_walk_10 : decode cX4_walk 10 = .ok (.invokestatic 23, 3) := by decide +kernel
theorem dX4_walk_13 : decode cX4_walk 13 = .ok (.aload_n 0, 1) := by decide +kernel
theorem dX4_walk_14 : decode cX4_walk 14 = .ok (.getfield 9, 3) := by decide +kernel
theorem dX4_walk_17 : decode cX4_walk 17 = .ok (.iconst 0, 1) := by decide +kernel
theorem dX4_walk_18 : decode cX4_walk 18 = .ok (.iconst 1, 1) := by decide +kernel
theorem dX4_walk_19 : decode cX4_walk 19 = .ok (.iastore, 1) := by decide +kernel
theorem dX4_walk_20 : decode cX4_walk 20 = .ok (.iload_n 2, 1) := by decide +kernel
theorem dX4_walk_21 : decode cX4_walk 21 = .ok (.ifCond .le 7, 3) := by decide +kernel
theorem dX4_walk_24 : decode cX4_walk 24 = .ok (.iconst 1, 1) := by decide +kernel
theorem dX4_walk_25 : decode cX4_walk 25 = .ok (.goto 4, 3) := by decide +kernel
theorem dX4_walk_28 : decode cX4_walk 28 = .ok (.iconst 0, 1) := by decide +kernel
theorem dX4_walk_29 : decode cX4_walk 29 = .ok (.istore 4, 2) := by decide +kernel
theorem dX4_walk_31 : decode cX4_walk 31 = .ok (.iconst 0, 1) := by decide +kernel
theorem dX4_walk_32 : decode cX4_walk 32 = .ok (.istore 5, 2) := by decide +kernel
theorem dX4_walk_34 : decode cX4_walk 34 = .ok (.iload 5, 2) := by decide +kernel
theorem dX4_walk_36 : decode cX4_walk 36 = .ok (.sipush 28561, 3) := by decide +kernel
theorem dX4_walk_39 : decode cX4_walk 39 = .ok (.if_icmp .ge 69, 3) := by decide +kernel
theorem dX4_walk_42 : decode cX4_walk 42 = .ok (.iload 4, 2) := by decide +kernel
theorem dX4_walk_44 : decode cX4_walk 44 = .ok (.ifCond .eq 64, 3) := by decide +kernel
theorem dX4_walk_47 : decode cX4_walk 47 = .ok (.aload_n 0, 1) := by decide +kernel
theorem dX4_walk_48 : decode cX4_walk 48 = .ok (.aload_n 1, 1) := by decide +kernel
theorem dX4_walk_49 : decode cX4_walk 49 = .ok (.iload_n 2, 1) := by decide +kernel
theorem dX4_walk_50 : decode cX4_walk 50 = .ok (.invokevirtual 29, 3) := by decide +kernel
theorem dX4_walk_53 : decode cX4_walk 53 = .ok (.istore 6, 2) := by decide +kernel
theorem dX4_walk_55 : decode cX4_walk 55 = .ok (.iload 6, 2) := by decide +kernel
theorem dX4_walk_57 : decode cX4_walk 57 = .ok (.iconst (-1), 1) := by decide +kernel
theorem dX4_walk_58 : decode cX4_walk 58 = .ok (.if_icmp .ne 31, 3) := by decide +kernel
theorem dX4_walk_61 : decode cX4_walk 61 = .ok (.aload_n 0, 1) := by decide +kernel
theorem dX4_walk_62 : decode cX4_walk 62 = .ok (.getfield 19, 3) := by decide +kernel
theorem dX4_walk_65 : decode cX4_walk 65 = .ok (.iload_n 3, 1) := by decide +kernel
theorem dX4_walk_66 : decode cX4_walk 66 = .ok (.if_icmp .ne 5, 3) := by decide +kernel
theorem dX4_walk_69 : decode cX4_walk 69 = .ok (.iconst 1, 1) := by decide +kernel
theorem dX4_walk_70 : decode cX4_walk 70 = .ok (.ireturn, 1) := by decide +kernel
theorem dX4_walk_71 : decode cX4_walk 71 = .ok (.aload_n 0, 1) := by decide +kernel
theorem dX4_walk_72 : decode cX4_walk 72 = .ok (.dup, 1) := by decide +kernel
theorem dX4_walk_73 : decode cX4_walk 73 = .ok (.getfield 19, 3) := by decide +kernel
theorem dX4_walk_76 : decode cX4_walk 76 = .ok (.iconst 1, 1) := by decide +kernel
theorem dX4_walk_77 : decode cX4_walk 77 = .ok (.iadd, 1) := by decide +kernel
theorem dX4_walk_78 : decode cX4_walk 78 = .ok (.putfield 19, 3) := by decide +kernel
theorem dX4_walk_81 : decode cX4_walk 81 = .ok (.aload_n 1, 1) := by decide +kernel
theorem dX4_walk_82 : decode cX4_walk 82 = .ok (.getfield 33, 3) := by decide +kernel
theorem dX4_walk_85 : decode cX4_walk 85 = .ok (.iconst 1, 1) := by decide +kernel
theorem dX4_walk_86 : decode cX4_walk 86 = .ok (.isub, 1) := by decide +kernel
theorem dX4_walk_87 : decode cX4_walk 87 = .ok (.istore 6, 2) := by decide +kernel
theorem dX4_walk_89 : decode cX4_walk 89 = .ok (.aload_n 0, 1) := by decide +kernel
theorem dX4_walk_90 : decode cX4_walk 90 = .ok (.aload_n 1, 1) := by decide +kernel
theorem dX4_walk_91 : decode cX4_walk 91 = .ok (.getfield 33, 3) := by decide +kernel
theorem dX4_walk_94 : decode cX4_walk 94 = .ok (.iload_n 2, 1) := by decide +kernel
theorem dX4_walk_95 : decode cX4_walk 95 = .ok (.iload 6, 2) := by decide +kernel
theorem dX4_walk_97 : decode cX4_walk 97 = .ok (.invokevirtual 38, 3) := by decide +kernel
theorem dX4_walk_100 : decode cX4_walk 100 = .ok (.istore 4, 2) := by decide +kernel
theorem dX4_walk_102 : decode cX4_walk 102 = .ok (.iinc 5 1, 3) := by decide +kernel
theorem dX4_walk_105 : decode cX4_walk 105 = .ok (.goto (-71), 3) := by decide +kernel
theorem dX4_walk_108 : decode cX4_walk 108 = .ok (.iconst 0, 1) := by decide +kernel
theorem dX4_walk_109 : decode cX4_walk 109 = .ok (.ireturn, 1) := by decide +kernel
set_option maxRecDepth 20000 in
theorem ggX4_lastOfBroken_X7_number : GoodIn wsX4_lastOfBroken wsX7_number := goodIn_r _ [11, 12, 13, 14, 10, 15, 16, 17] (by decide +kernel) (by decide +kernel)
set_option maxRecDepth 20000 in
theorem gX4_lastOfBroken_X7_number : GoodIn wsX4_lastOfBroken (wsV RX4 42 RX7 yX7_number wsX7_number) := goodIn_app (goodIn_of _ (by decide +kernel)) ggX4_lastOfBroken_X7_number
theorem dX4_lastOfBroken_0 : decode cX4_lastOfBroken 0 = .ok (.iconst 1, 1) := by decide +kernel
theorem dX4_lastOfBroken_1 : decode cX4_lastOfBroken 1 = .ok (.istore_n 3, 1) := by decide +kernel
theorem dX4_lastOfBroken_2 : decode cX4_lastOfBroken 2 = .ok (.iload_n 3, 1) := by decide +kernel
theorem dX4_lastOfBroken_3 : decode cX4_lastOfBroken 3 = .ok (.aload_n 1, 1) := by decide +kernel
theorem dX4_lastOfBroken_4 : decode cX4_lastOfBroken 4 = .ok (.getfield 33, 3) := by decide +kernel
theorem dX4_lastOfBroken_7 : decode cX4_lastOfBroken 7 = .ok (.if_icmp .ge 120, 3) := by decide +kernel
theorem dX4_lastOfBroken_10 : decode cX4_lastOfBroken 10 = .ok (.iconst 1, 1) := by decide +kernel
theorem dX4_lastOfBroken_11 : decode cX4_lastOfBroken 11 = .ok (.istore 4, 2) := by decide +kernel
theorem dX4_lastOfBroken_13 : decode cX4_lastOfBroken 13 = .ok (.iload 4, 2) := by decide +kernel
theorem dX4_lastOfBroken_15 : decode cX4_lastOfBroken 15 = .ok (.iload_n 3, 1) := by decide +kernel
theorem dX4_lastOfBroken_16 : decode cX4_lastOfBroken 16 = .ok (.if_icmp .gt 105, 3) := by decide +kernel
theorem dX4_lastOfBroken_19 : decode cX4_lastOfBroken 19 = .ok (.aload_n 0, 1) := by decide +kernel
theorem dX4_lastOfBroken_20 : decode cX4_lastOfBroken 20 = .ok (.getfield 9, 3) := by decide +kernel
theorem dX4_lastOfBroken_23 : decode cX4_lastOfBroken 23 = .ok (.iload_n 3, 1) := by decide +kernel
theorem dX4_lastOfBroken_24 : decode cX4_lastOfBroken 24 = .ok (.iaload, 1) := by decide +kernel
theorem dX4_lastOfBroken_25 : decode cX4_lastOfBroken 25 = .ok (.aload_n 0, 1) := by decide +kernel
theorem dX4_lastOfBroken_26 : decode cX4_lastOfBroken 26 = .ok (.getfield 9, 3) := by decide +kernel
theorem dX4_lastOfBroken_29 : decode cX4_lastOfBroken 29 = .ok (.iload 4, 2) := by decide +kernel
theorem dX4_lastOfBroken_31 : decode cX4_lastOfBroken 31 = .ok (.iaload, 1) := by decide +kernel
theorem dX4_lastOfBroken_32 : decode cX4_lastOfBroken 32 = .ok (.imul, 1) := by decide +kernel
theorem dX4_lastOfBroken_33 : decode cX4_lastOfBroken 33 = .ok (.istore 5, 2) := by decide +kernel
theorem dX4_lastOfBroken_35 : decode cX4_lastOfBroken 35 = .ok (.iload_n 3, 1) := by decide +kernel
theorem dX4_lastOfBroken_36 : decode cX4_lastOfBroken 36 = .ok (.istore 6, 2) := by decide +kernel
theorem dX4_lastOfBroken_38 : decode cX4_lastOfBroken 38 = .ok (.iconst 0, 1) := by decide +kernel
theorem dX4_lastOfBroken_39 : decode cX4_lastOfBroken 39 = .ok (.istore 7, 2) := by decide +kernel
theorem dX4_lastOfBroken_41 : decode cX4_lastOfBroken 41 = .ok (.iload 7, 2) := by decide +kernel
theorem dX4_lastOfBroken_43 : decode cX4_lastOfBroken 43 = .ok (.aload_n 1, 1) := by decide +kernel
theorem dX4_lastOfBroken_44 : decode cX4_lastOfBroken 44 = .ok (.getfield 33, 3) := by decide +kernel
theorem dX4_lastOfBroken_47 : decode cX4_lastOfBroken 47 = .ok (.if_icmp .ge 54, 3) := by decide +kernel
theorem dX4_lastOfBroken_50 : decode cX4_lastOfBroken 50 = .ok (.aload_n 1, 1) := by decide +kernel
theorem dX4_lastOfBroken_51 : decode cX4_lastOfBroken 51 = .ok (.iload_n 3, 1) := by decide +kernel
theorem dX4_lastOfBroken_52 : decode cX4_lastOfBroken 52 = .ok (.iload 4, 2) := by decide +kernel
theorem dX4_lastOfBroken_54 : decode cX4_lastOfBroken 54 = .ok (.iload 7, 2) := by decide +kernel
theorem dX4_lastOfBroken_56 : decode cX4_lastOfBroken 56 = .ok (.invokevirtual 42, 3) := by decide +kernel
theorem dX4_lastOfBroken_59 : decode cX4_lastOfBroken 59 = .ok (.istore 8, 2) := by decide +kernel
theorem dX4_lastOfBroken_61 : decode cX4_lastOfBroken 61 = .ok (.iload 5, 2) := by decide +kernel
theorem dX4_lastOfBroken_63 : decode cX4_lastOfBroken 63 = .ok (.iload 8, 2) := by decide +kernel
theorem dX4_lastOfBroken_65 : decode cX4_lastOfBroken 65 = .ok (.aload_n 0, 1) := by decide +kernel
theorem dX4_lastOfBroken_66 : decode cX4_lastOfBroken 66 = .ok (.getfield 9, 3) := by decide +kernel
theorem dX4_lastOfBroken_69 : decode cX4_lastOfBroken 69 = .ok (.iload 7, 2) := by decide +kernel
theorem dX4_lastOfBroken_71 : decode cX4_lastOfBroken 71 = .ok (.iaload, 1) := by decide +kernel
theorem dX4_lastOfBroken_72 : decode cX4_lastOfBroken 72 = .ok (.imul, 1) := by decide +kernel
theorem dX4_lastOfBroken_73 : decode cX4_lastOfBroken 73 = .ok (.isub, 1) := by decide +kernel
theorem dX4_lastOfBroken_74 : decode cX4_lastOfBroken 74 = .ok (.istore 5, 2) := by decide +kernel
theorem dX4_lastOfBroken_76 : decode cX4_lastOfBroken 76 = .ok (.iload 8, 2) := by decide +kernel
theorem dX4_lastOfBroken_78 : decode cX4_lastOfBroken 78 = .ok (.ifCond .le 13, 3) := by decide +kernel
theorem dX4_lastOfBroken_81 : decode cX4_lastOfBroken 81 = .ok (.iload 6, 2) := by decide +kernel
theorem dX4_lastOfBroken_83 : decode cX4_lastOfBroken 83 = .ok (.iload 7, 2) := by decide +kernel
theorem dX4_lastOfBroken_85 : decode cX4_lastOfBroken 85 = .ok (.invokestatic 46, 3) := by decide +kernel
theorem dX4_lastOfBroken_88 : decode cX4_lastOfBroken 88 = .ok (.goto 5, 3) := by decide +kernel
theorem dX4_lastOfBroken_91 : decode cX4_lastOfBroken 91 = .ok (.iload 6, 2) := by decide +kernel
theorem dX4_lastOfBroken_93 : decode cX4_lastOfBroken 93 = .ok (.istore 6, 2) := by decide +kernel
theorem dX4_lastOfBroken_95 : decode cX4_lastOfBroken 95 = .ok (.iinc 7 1, 3) := by decide +kernel
theorem dX4_lastOfBroken_98 : decode cX4_lastOfBroken 98 = .ok (.goto (-57), 3) := by decide +kernel
theorem dX4_lastOfBroken_101 : decode cX4_lastOfBroken 101 = .ok (.iload_n 2, 1) := by decide +kernel
theorem dX4_lastOfBroken_102 : decode cX4_lastOfBroken 102 = .ok (.ifCond .le 13, 3) := by decide +kernel
theorem dX4_lastOfBroken_105 : decode cX4_lastOfBroken 105 = .ok (.iload 5, 2) := by decide +kernel
theorem dX4_lastOfBroken_107 : decode cX4_lastOfBroken 107 = .ok (.iload_n 2, 1) := by decide +kernel
theorem dX4_lastOfBroken_108 : decode cX4_lastOfBroken 108 = .ok (.irem, 1) := by decide +kernel
theorem dX4_lastOfBroken_109 : decode cX4_lastOfBroken 109 = .ok (.ifCond .eq 6, 3) := by decide +kernel
theorem dX4_lastOfBroken_112 : decode cX4_lastOfBroken 112 = .ok (.iload 6, 2) := by decide +kernel
theorem dX4_lastOfBroken_114 : decode cX4_lastOfBroken 114 = .ok (.ireturn, 1) := by decide +kernel
theorem dX4_lastOfBroken_115 : decode cX4_lastOfBroken 115 = .ok (.iinc 4 1, 3) := by decide +kernel
theorem dX4_lastOfBroken_118 : decode cX4_lastOfBroken 118 = .ok (.goto (-105), 3) := by decide +kernel
theorem dX4_lastOfBroken_121 : decode cX4_lastOfBroken 121 = .ok (.iinc 3 1, 3) := by decide +kernel
theorem dX4_lastOfBroken_124 : decode cX4_lastOfBroken 124 = .ok (.goto (-122), 3) := by decide +kernel
theorem dX4_lastOfBroken_127 : decode cX4_lastOfBroken 127 = .ok (.iconst (-1), 1) := by decide +kernel
theorem dX4_lastOfBroken_128 : decode cX4_lastOfBroken 128 = .ok (.ireturn, 1) := by decide +kernel
theorem dX4_nextRow_0 : decode cX4_nextRow 0 = .ok (.iload_n 1, 1) := by decide +kernel
theorem dX4_nextRow_1 : decode cX4_nextRow 1 = .ok (.iconst 1, 1) := by decide +kernel
theorem dX4_nextRow_2 : decode cX4_nextRow 2 = .ok (.isub, 1) := by decide +kernel
theorem dX4_nextRow_3 : decode cX4_nextRow 3 = .ok (.istore 4, 2) := by decide +kernel
theorem dX4_nextRow_5 : decode cX4_nextRow 5 = .ok (.iload 4, 2) := by decide +kernel
theorem dX4_nextRow_7 : decode cX4_nextRow 7 = .ok (.iconst 1, 1) := by decide +kernel
theorem dX4_nextRow_8 : decode cX4_nextRow 8 = .ok (.if_icmp .lt 49, 3) := by decide +kernel
theorem dX4_nextRow_11 : decode cX4_nextRow 11 = .ok (.iload 4, 2) := by decide +kernel
theorem dX4_nextRow_13 : decode cX4_nextRow 13 = .ok (.iload_n 3, 1) := by decide +kernel
theorem dX4_nextRow_14 : decode cX4_nextRow 14 = .ok (.if_icmp .gt 29, 3) := by decide +kernel
theorem dX4_nextRow_17 : decode cX4_nextRow 17 = .ok (.aload_n 0, 1) := by decide +kernel
theorem dX4_nextRow_18 : decode cX4_nextRow 18 = .ok (.getfield 9, 3) := by decide +kernel
theorem dX4_nextRow_21 : decode cX4_nextRow 21 = .ok (.iload 4, 2) := by decide +kernel
theorem dX4_nextRow_23 : decode cX4_nextRow 23 = .ok (.iaload, 1) := by decide +kernel
theorem dX4_nextRow_24 : decode cX4_nextRow 24 = .ok (.iload_n 2, 1) := by decide +kernel
theorem dX4_nextRow_25 : decode cX4_nextRow 25 = .ok (.iconst 1, 1) := by decide +kernel
theorem dX4_nextRow_26 : decode cX4_nextRow 26 = .ok (.isub, 1) := by decide +kernel
theorem dX4_nextRow_27 : decode cX4_nextRow 27 = .ok (.if_icmp .ge 16, 3) := by decide +kernel
theorem dX4_nextRow_30 : decode cX4_nextRow 30 = .ok (.aload_n 0, 1) := by decide +kernel
theorem dX4_nextRow_31 : decode cX4_nextRow 31 = .ok (.getfield 9, 3) := by decide +kernel
theorem dX4_nextRow_34 : decode cX4_nextRow 34 = .ok (.iload 4, 2) := by decide +kernel
theorem dX4_nextRow_36 : decode cX4_nextRow 36 = .ok (.dup2, 1) := by decide +kernel
theorem dX4_nextRow_37 : decode cX4_nextRow 37 = .ok (.iaload, 1) := by decide +kernel
theorem dX4_nextRow_38 : decode cX4_nextRow 38 = .ok (.iconst 1, 1) := by decide +kernel
theorem dX4_nextRow_39 : decode cX4_nextRow 39 = .ok (.iadd, 1) := by decide +kernel
theorem dX4_nextRow_40 : decode cX4_nextRow 40 = .ok (.iastore, 1) := by decide +kernel
theorem dX4_nextRow_41 : decode cX4_nextRow 41 = .ok (.iconst 1, 1) := by decide +kernel
theorem dX4_nextRow_42 : decode cX4_nextRow 42 = .ok (.ireturn, 1) := by decide +kernel
theorem dX4_nextRow_43 : decode cX4_nextRow 43 = .ok (.aload_n 0, 1) := by decide +kernel
theorem dX4_nextRow_44 : decode cX4_nextRow 44 = .ok (.getfield 9, 3) := by decide +kernel
theorem dX4_nextRow_47 : decode cX4_nextRow 47 = .ok (.iload 4, 2) := by decide +kernel
theorem dX4_nextRow_49 : decode cX4_nextRow 49 = .ok (.iconst 0, 1) := by decide +kernel
theorem dX4_nextRow_50 : decode cX4_nextRow 50 = .ok (.iastore, 1) := by decide +kernel
theorem dX4_nextRow_51 : decode cX4_nextRow 51 = .ok (.iinc 4 (-1), 3) := by decide +kernel
theorem dX4_nextRow_54 : decode cX4_nextRow 54 = .ok (.goto (-49), 3) := by decide +kernel
theorem dX4_nextRow_57 : decode cX4_nextRow 57 = .ok (.iconst 0, 1) := by decide +kernel
theorem dX4_nextRow_58 : decode cX4_nextRow 58 = .ok (.ireturn, 1) := by decide +kernel
theorem dX5_holds_0 : decode cX5_holds 0 = .ok (.iload_n 0, 1) := by decide +kernel
theorem dX5_holds_1 : decode cX5_holds 1 = .ok (.iload_n 1, 1) := by decide +kernel
theorem dX5_holds_2 : decode cX5_holds 2 = .ok (.ishr, 1) := by decide +kernel
theorem dX5_holds_3 : decode cX5_holds 3 = .ok (.iconst 1, 1) := by decide +kernel
theorem dX5_holds_4 : decode cX5_holds 4 = .ok (.iand, 1) := by decide +kernel
theorem dX5_holds_5 : decode cX5_holds 5 = .ok (.ifCond .eq 7, 3) := by decide +kernel
theorem dX5_holds_8 : decode cX5_holds 8 = .ok (.iconst 1, 1) := by decide +kernel
theorem dX5_holds_9 : decode cX5_holds 9 = .ok (.goto 4, 3) := by decide +kernel
theorem dX5_holds_12 : decode cX5_holds 12 = .ok (.iconst 0, 1) := by decide +kernel
theorem dX5_holds_13 : decode cX5_holds 13 = .ok (.ireturn, 1) := by decide +kernel
set_option maxRecDepth 20000 in
theorem ggX5_firstOf_X5_holds : GoodIn wsX5_firstOf wsX5_holds := goodIn_r _ [4] (by decide +kernel) (by decide +kernel)
set_option maxRecDepth 20000 in
theorem gX5_firstOf_X5_holds : GoodIn wsX5_firstOf (va_wsS RX5 9 yX5_holds wsX5_holds) := goodIn_app (goodIn_of _ (by decide +kernel)) ggX5_firstOf_X5_holds
theorem dX5_firstOf_0 : decode cX5_firstOf 0 = .ok (.iconst 0, 1) := by decide +kernel
theorem dX5_firstOf_1 : decode cX5_firstOf 1 = .ok (.istore_n 1, 1) := by decide +kernel
theorem dX5_firstOf_2 : decode cX5_firstOf 2 = .ok (.iload_n 1, 1) := by decide +kernel
theorem dX5_firstOf_3 : decode cX5_firstOf 3 = .ok (.iconst 5, 1) := by decide +kernel
theorem dX5_firstOf_4 : decode cX5_firstOf 4 = .ok (.if_icmp .ge 19, 3) := by decide +kernel
theorem dX5_firstOf_7 : decode cX5_firstOf 7 = .ok (.iload_n 0, 1) := by decide +kernel
theorem dX5_firstOf_8 : decode cX5_firstOf 8 = .ok (.iload_n 1, 1) := by decide +kernel
theorem dX5_firstOf_9 : decode cX5_firstOf 9 = .ok (.invokestatic 9, 3) := by decide +kernel
theorem dX5_firstOf_12 : decode cX5_firstOf 12 = .ok (.ifCond .eq 5, 3) := by decide +kernel
theorem dX5_firstOf_15 : decode cX5_firstOf 15 = .ok (.iload_n 1, 1) := by decide +kernel
theorem dX5_firstOf_16 : decode cX5_firstOf 16 = .ok (.ireturn, 1) := by decide +kernel
theorem dX5_firstOf_17 : decode cX5_firstOf 17 = .ok (.iinc 1 1, 3) := by decide +kernel
theorem dX5_firstOf_20 : decode cX5_firstOf 20 = .ok (.goto (-18), 3) := by decide +kernel
theorem dX5_firstOf_23 : decode cX5_firstOf 23 = .ok (.iconst (-1), 1) := by decide +kernel
theorem dX5_firstOf_24 : decode cX5_firstOf 24 = .ok (.ireturn, 1) := by decide +kernel
set_option maxRecDepth 20000 in
theorem ggX5_fusedWithAny_X5_holds : GoodIn wsX5_fusedWithAny wsX5_holds := goodIn_r _ [5] (by decide +kernel) (by decide +kernel)
set_option maxRecDepth 20000 in
theorem gX5_fusedWithAny_X5_holds : GoodIn wsX5_fusedWithAny (va_wsS RX5 9 yX5_holds wsX5_holds) := goodIn_app (goodIn_of _ (by decide +kernel)) ggX5_fusedWithAny_X5_holds
set_option maxRecDepth 20000 in
theorem ggX5_fusedWithAny_X7_number : GoodIn wsX5_fusedWithAny wsX7_number := goodIn_r _ [10, 11, 12, 13, 9, 14, 15, 16] (by decide +kernel) (by decide +kernel)
set_option maxRecDepth 20000 in
theorem gX5_fusedWithAny_X7_number : GoodIn wsX5_fusedWithAny (wsV RX5 21 RX7 yX7_number wsX7_number) := goodIn_app (goodIn_of _ (by decide +kernel)) ggX5_fusedWithAny_X7_number
theorem dX5_fusedWithAny_0 : decode cX5_fusedWithAny 0 = .ok (.iconst 0, 1) := by decide +kernel
theorem dX5_fusedWithAny_1 : decode cX5_fusedWithAny 1 = .ok (.istore_n 3, 1) := by decide +kernel
theorem dX5_fusedWithAny_2 : decode cX5_fusedWithAny 2 = .ok (.iconst 0, 1) := by decide +kernel
theorem dX5_fusedWithAny_3 : decode cX5_fusedWithAny 3 = .ok (.istore 4, 2) := by decide +kernel
theorem dX5_fusedWithAny_5 : decode cX5_fusedWithAny 5 = .ok (.iload 4, 2) := by decide +kernel
theorem dX5_fusedWithAny_7 : decode cX5_fusedWithAny 7 = .ok (.aload_n 0, 1) := by decide +kernel
theorem dX5_fusedWithAny_8 : decode cX5_fusedWithAny 8 = .ok (.getfield 15, 3) := by decide +kernel
theorem dX5_fusedWithAny_11 : decode cX5_fusedWithAny 11 = .ok (.if_icmp .ge 55, 3) := by decide +kernel
theorem dX5_fusedWithAny_14 : decode cX5_fusedWithAny 14 = .ok (.iconst 0, 1) := by decide +kernel
theorem dX5_fusedWithAny_15 : decode cX5_fusedWithAny 15 = .ok (.istore 5, 2) := by decide +kernel
theorem dX5_fusedWithAny_17 : decode cX5_fusedWithAny 17 = .ok (.iload 5, 2) := by decide +kernel
theorem dX5_fusedWithAny_19 : decode cX5_fusedWithAny 19 = .ok (.aload_n 0, 1) := by decide +kernel
theorem dX5_fusedWithAny_20 : decode cX5_fusedWithAny 20 = .ok (.getfield 15, 3) := by decide +kernel
theorem dX5_fusedWithAny_23 : decode cX5_fusedWithAny 23 = .ok (.if_icmp .ge 37, 3) := by decide +kernel
theorem dX5_fusedWithAny_26 : decode cX5_fusedWithAny 26 = .ok (.iload_n 2, 1) := by decide +kernel
theorem dX5_fusedWithAny_27 : decode cX5_fusedWithAny 27 = .ok (.iload 4, 2) := by decide +kernel
theorem dX5_fusedWithAny_29 : decode cX5_fusedWithAny 29 = .ok (.invokestatic 9, 3) := by decide +kernel
theorem dX5_fusedWithAny_32 : decode cX5_fusedWithAny 32 = .ok (.ifCond .eq 22, 3) := by decide +kernel
theorem dX5_fusedWithAny_35 : decode cX5_fusedWithAny 35 = .ok (.aload_n 0, 1) := by decide +kernel
theorem dX5_fusedWithAny_36 : decode cX5_fusedWithAny 36 = .ok (.iload_n 1, 1) := by decide +kernel
theorem dX5_fusedWithAny_37 : decode cX5_fusedWithAny 37 = .ok (.iload 4, 2) := by decide +kernel
theorem dX5_fusedWithAny_39 : decode cX5_fusedWithAny 39 = .ok (.iload 5, 2) := by decide +kernel
theorem dX5_fusedWithAny_41 : decode cX5_fusedWithAny 41 = .ok (.invokevirtual 21, 3) := by decide +kernel
theorem dX5_fusedWithAny_44 : decode cX5_fusedWithAny 44 = .ok (.ifCond .le 10, 3) := by decide +kernel
theorem dX5_fusedWithAny_47 : decode cX5_fusedWithAny 47 = .ok (.iload_n 3, 1) := by decide +kernel
theorem dX5_fusedWithAny_48 : decode cX5_fusedWithAny 48 = .ok (.iconst 1, 1) := by decide +kernel
theorem dX5_fusedWithAny_49 : decode cX5_fusedWithAny 49 = .ok (.iload 5, 2) := by decide +kernel
theorem dX5_fusedWithAny_51 : decode cX5_fusedWithAny 51 = .ok (.ishl, 1) := by decide +kernel
theorem dX5_fusedWithAny_52 : decode cX5_fusedWithAny 52 = .ok (.ior, 1) := by decide +kernel
theorem dX5_fusedWithAny_53 : decode cX5_fusedWithAny 53 = .ok (.istore_n 3, 1) := by decide +kernel
theorem dX5_fusedWithAny_54 : decode cX5_fusedWithAny 54 = .ok (.iinc 5 1, 3) := by decide +kernel
theorem dX5_fusedWithAny_57 : decode cX5_fusedWithAny 57 = .ok (.goto (-40), 3) := by decide +kernel
theorem dX5_fusedWithAny_60 : decode cX5_fusedWithAny 60 = .ok (.iinc 4 1, 3) := by decide +kernel
theorem dX5_fusedWithAny_63 : decode cX5_fusedWithAny 63 = .ok (.goto (-58), 3) := by decide +kernel
theorem dX5_fusedWithAny_66 : decode cX5_fusedWithAny 66 = .ok (.iload_n 3, 1) := by decide +kernel
theorem dX5_fusedWithAny_67 : decode cX5_fusedWithAny 67 = .ok (.ireturn, 1) := by decide +kernel
set_option maxRecDepth 20000 in
theorem ggX5_closure_X5_grow : GoodIn wsX5_closure wsX5_grow := goodIn_r _ [5, 1, 6, 7, 4, 8, 9, 10, 11, 12, 13, 14, 15, 16, 17, 18, 19, 20, 21, 22] (by decide +kernel) (by decide +kernel)
set_option maxRecDepth 20000 in
theorem gX5_closure_X5_grow : GoodIn wsX5_closure (va_wsS RX5 25 yX5_grow wsX5_grow) := goodIn_app (goodIn_of _ (by decide +kernel)) ggX5_closure_X5_grow
theorem dX5_closure_0 : decode cX5_closure 0 = .ok (.iload_n 2, 1) := by decide +kernel
theorem dX5_closure_1 : decode cX5_closure 1 = .ok (.iconst 1, 1) := by decide +kernel
theorem dX5_closure_2 : decode cX5_closure 2 = .ok (.ior, 1) := by decide +kernel
theorem dX5_closure_3 : decode cX5_closure 3 = .ok (.istore_n 3, 1) := by decide +kernel
theorem dX5_closure_4 : decode cX5_closure 4 = .ok (.iconst 0, 1) := by decide +kernel
theorem dX5_closure_5 : decode cX5_closure 5 = .ok (.istore 4, 2) := by decide +kernel
theorem dX5_closure_7 : decode cX5_closure 7 = .ok (.iload 4, 2) := by decide +kernel
theorem dX5_closure_9 : decode cX5_closure 9 = .ok (.aload_n 0, 1) := by decide +kernel
theorem dX5_closure_10 : decode cX5_closure 10 = .ok (.getfield 15, 3) := by decide +kernel
theorem dX5_closure_13 : decode cX5_closure 13 = .ok (.if_icmp .ge 16, 3) := by decide +kernel
theorem dX5_closure_16 : decode cX5_closure 16 = .ok (.aload_n 0, 1) := by decide +kernel
theorem dX5_closure_17 : decode cX5_closure 17 = .ok (.aload_n 1, 1) := by decide +kernel
theorem dX5_closure_18 : decode cX5_closure 18 = .ok (.iload_n 3, 1) := by decide +kernel
theorem dX5_closure_19 : decode cX5_closure 19 = .ok (.invokestatic 25, 3) := by decide +kernel
theorem dX5_closure_22 : decode cX5_closure 22 = .ok (.istore_n 3, 1) := by decide +kernel
theorem dX5_closure_23 : decode cX5_closure 23 = .ok (.iinc 4 1, 3) := by decide +kernel
theorem dX5_closure_26 : decode cX5_closure 26 = .ok (.goto (-19), 3) := by decide +kernel
theorem dX5_closure_29 : decode cX5_closure 29 = .ok (.iload_n 3, 1) := by decide +kernel
theorem dX5_closure_30 : decode cX5_closure 30 = .ok (.ireturn, 1) := by decide +kernel
set_option maxRecDepth 20000 in
theorem ggX5_grow_X5_holds : GoodIn wsX5_grow wsX5_holds := goodIn_r _ [5] (by decide +kernel) (by decide +kernel)
set_option maxRecDepth 20000 in
theorem gX5_grow_X5_holds : GoodIn wsX5_grow (va_wsS RX5 9 yX5_holds wsX5_holds) := goodIn_app (goodIn_of _ (by decide +kernel)) ggX5_grow_X5_holds
set_option maxRecDepth 20000 in
theorem ggX5_grow_X5_fusedWithAny : GoodIn wsX5_grow wsX5_fusedWithAny := goodIn_r _ [8, 1, 2, 3, 4, 5, 9, 10, 11, 12, 13, 14, 15, 16, 17, 18, 19] (by decide +kernel) (by decide +kernel)
set_option maxRecDepth 20000 in
theorem gX5_grow_X5_fusedWithAny : GoodIn wsX5_grow (va_wsS RX5 29 yX5_fusedWithAny wsX5_fusedWithAny) := goodIn_app (goodIn_of _ (by decide +kernel)) ggX5_grow_X5_fusedWithAny
theorem dX5_grow_0 : decode cX5_grow 0 = .ok (.iload_n 2, 1) := by decide +kernel
theorem dX5_grow_1 : decode cX5_grow 1 = .ok (.istore_n 3, 1) := by decide +kernel
theorem dX5_grow_2 : decode cX5_grow 2 = .ok (.iconst 0, 1) := by decide +kernel
theorem dX5_grow_3 : decode cX5_grow 3 = .ok (.istore 4, 2) := by decide +kernel
theorem dX5_grow_5 : decode cX5_grow 5 = .ok (.iload 4, 2) := by decide +kernel
theorem dX5_grow_7 : decode cX5_grow 7 = .ok (.aload_n 0, 1) := by decide +kernel
theorem dX5_grow_8 : decode cX5_grow 8 = .ok (.getfield 15, 3) := by decide +kernel
theorem dX5_grow_11 : decode cX5_grow 11 = .ok (.if_icmp .ge 35, 3) := by decide +kernel
theorem dX5_grow_14 : decode cX5_grow 14 = .ok (.iload_n 2, 1) := by decide +kernel
theorem dX5_grow_15 : decode cX5_grow 15 = .ok (.iload 4, 2) := by decide +kernel
theorem dX5_grow_17 : decode cX5_grow 17 = .ok (.invokestatic 9, 3) := by decide +kernel
theorem dX5_grow_20 : decode cX5_grow 20 = .ok (.ifCond .eq 20, 3) := by decide +kernel
theorem dX5_grow_23 : decode cX5_grow 23 = .ok (.iload_n 3, 1) := by decide +kernel
theorem dX5_grow_24 : decode cX5_grow 24 = .ok (.iconst 1, 1) := by decide +kernel
theorem dX5_grow_25 : decode cX5_grow 25 = .ok (.aload_n 1, 1) := by decide +kernel
theorem dX5_grow_26 : decode cX5_grow 26 = .ok (.iload 4, 2) := by decide +kernel
theorem dX5_grow_28 : decode cX5_grow 28 = .ok (.iaload, 1) := by decide +kernel
theorem dX5_grow_29 : decode cX5_grow 29 = .ok (.ishl, 1) := by decide +kernel
theorem dX5_grow_30 : decode cX5_grow 30 = .ok (.aload_n 0, 1) := by decide +kernel
theorem dX5_grow_31 : decode cX5_grow 31 = .ok (.iload 4, 2) := by decide +kernel
theorem dX5_grow_33 : decode cX5_grow 33 = .ok (.iload_n 2, 1) := by decide +kernel
theorem dX5_grow_34 : decode cX5_grow 34 = .ok (.invokestatic 29, 3) := by decide +kernel
theorem dX5_grow_37 : decode cX5_grow 37 = .ok (.ior, 1) := by decide +kernel
theorem dX5_grow_38 : decode cX5_grow 38 = .ok (.ior, 1) := by decide +kernel
theorem dX5_grow_39 : decode cX5_grow 39 = .ok (.istore_n 3, 1) := by decide +kernel
theorem dX5_grow_40 : decode cX5_grow 40 = .ok (.iinc 4 1, 3) := by decide +kernel
theorem dX5_grow_43 : decode cX5_grow 43 = .ok (.goto (-38), 3) := by decide +kernel
theorem dX5_grow_46 : decode cX5_grow 46 = .ok (.iload_n 3, 1) := by decide +kernel
theorem dX5_grow_47 : decode cX5_grow 47 = .ok (.ireturn, 1) := by decide +kernel
set_option maxRecDepth 20000 in
theorem ggX5_innermost_X5_fusedWithAny : GoodIn wsX5_innermost wsX5_fusedWithAny := goodIn_r _ [5, 1, 6, 7, 4, 8, 9, 10, 11, 12, 13, 14, 15, 16, 17, 24, 25] (by decide +kernel) (by decide +kernel)
set_option maxRecDepth 20000 in
theorem gX5_innermost_X5_fusedWithAny : GoodIn wsX5_innermost (va_wsS RX5 29 yX5_fusedWithAny wsX5_fusedWithAny) := goodIn_app (goodIn_of _ (by decide +kernel)) ggX5_innermost_X5_fusedWithAny
set_option maxRecDepth 20000 in
theorem ggX5_innermost_X5_closure : GoodIn wsX5_innermost wsX5_closure := goodIn_r _ [20, 1, 21, 22, 4, 23, 6, 7, 8, 2, 3, 5, 9, 10, 11, 12, 13, 14, 15, 16, 17, 24, 25] (by decide +kernel) (by decide +kernel)
set_option maxRecDepth 20000 in
theorem gX5_innermost_X5_closure : GoodIn wsX5_innermost (va_wsS RX5 33 yX5_closure wsX5_closure) := goodIn_app (goodIn_of _ (by decide +kernel)) ggX5_innermost_X5_closure
theorem dX5_innermost_0 : decode cX5_innermost 0 = .ok (.iconst 0, 1) := by decide +kernel
theorem dX5_innermost_1 : decode cX5_innermost 1 = .ok (.istore_n 2, 1) := by decide +kernel
theorem dX5_innermost_2 : decode cX5_innermost 2 = .ok (.iconst 0, 1) := by decide +kernel
theorem dX5_innermost_3 : decode cX5_innermost 3 = .ok (.istore_n 3, 1) := by decide +kernel
theorem dX5_innermost_4 : decode cX5_innermost 4 = .ok (.iload_n 3, 1) := by decide +kernel
theorem dX5_innermost_5 : decode cX5_innermost 5 = .ok (.aload_n 0, 1) := by decide +kernel
theorem dX5_innermost_6 : decode cX5_innermost 6 = .ok (.getfield 15, 3) := by decide +kernel
theorem dX5_innermost_9 : decode cX5_innermost 9 = .ok (.if_icmp .ge 22, 3) := by decide +kernel
theorem dX5_innermost_12 : decode cX5_innermost 12 = .ok (.iload_n 2, 1) := by decide +kernel
theorem dX5_innermost_13 : decode cX5_innermost 13 = .ok (.aload_n 0, 1) := by decide +kernel
theorem dX5_innermost_14 : decode cX5_innermost 14 = .ok (.iload_n 3, 1) := by decide +kernel
theorem dX5_innermost_15 : decode cX5_innermost 15 = .ok (.iconst 1, 1) := by decide +kernel
theorem dX5_innermost_16 : decode cX5_innermost 16 = .ok (.aload_n 1, 1) := by decide +kernel
theorem dX5_innermost_17 : decode cX5_innermost 17 = .ok (.iload_n 3, 1) := by decide +kernel
theorem dX5_innermost_18 : decode cX5_innermost 18 = .ok (.iaload, 1) := by decide +kernel
theorem dX5_innermost_19 : decode cX5_innermost 19 = .ok (.ishl, 1) := by decide +kernel
theorem dX5_innermost_20 : decode cX5_innermost 20 = .ok (.invokestatic 29, 3) := by decide +kernel
theorem dX5_innermost_23 : decode cX5_innermost 23 = .ok (.ior, 1) := by decide +kernel
theorem dX5_innermost_24 : decode cX5_innermost 24 = .ok (.istore_n 2, 1) := by decide +kernel
theorem dX5_innermost_25 : decode cX5_innermost 25 = .ok (.iinc 3 1, 3) := by decide +kernel
theorem dX5_innermost_28 : decode cX5_innermost 28 = .ok (.goto (-24), 3) := by decide +kernel
theorem dX5_innermost_31 : decode cX5_innermost 31 = .ok (.aload_n 0, 1) := by decide +kernel
theorem dX5_innermost_32 : decode cX5_innermost 32 = .ok (.aload_n 1, 1) := by decide +kernel
theorem dX5_innermost_33 : decode cX5_innermost 33 = .ok (.iload_n 2, 1) := by decide +kernel
theorem dX5_innermost_34 : decode cX5_innermost 34 = .ok (.invokestatic 33, 3) := by decide +kernel
theorem dX5_innermost_37 : decode cX5_innermost 37 = .ok (.ireturn, 1) := by decide +kernel
set_option maxRecDepth 20000 in
theorem ggX5_countClosed_X5_grow : GoodIn wsX5_countClosed wsX5_grow := goodIn_r _ [5, 1, 6, 7, 4, 8, 9, 10, 11, 12, 13, 14, 15, 16, 17, 18, 19, 20, 21, 22] (by decide +kernel) (by decide +kernel)
set_option maxRecDepth 20000 in
theorem gX5_countClosed_X5_grow : GoodIn wsX5_countClosed (va_wsS RX5 25 yX5_grow wsX5_grow) := goodIn_app (goodIn_of _ (by decide +kernel)) ggX5_countClosed_X5_grow
theorem dX5_countClosed_0 : decode cX5_countClosed 0 = .ok (.iconst 0, 1) := by decide +kernel
theorem dX5_countClosed_1 : decode cX5_countClosed 1 = .ok (.istore_n 2, 1) := by decide +kernel
theorem dX5_countClosed_2 : decode cX5_countClosed 2 = .ok (.iconst 1, 1) := by decide +kernel
theorem dX5_countClosed_3 : decode cX5_countClosed 3 = .ok (.istore_n 3, 1) := by decide +kernel
theorem dX5_countClosed_4 : decode cX5_countClosed 4 = .ok (.iload_n 3, 1) := by decide +kernel
theorem dX5_countClosed_5 : decode cX5_countClosed 5 = .ok (.iconst 1, 1) := by decide +kernel
theorem dX5_countClosed_6 : decode cX5_countClosed 6 = .ok (.aload_n 0, 1) := by decide +kernel
theorem dX5_countClosed_7 : decode cX5_countClosed 7 = .ok (.getfield 15, 3) := by decide +kernel
theorem dX5_countClosed_10 : decode cX5_countClosed 10 = .ok (.ishl, 1) := by decide +kernel
theorem dX5_countClosed_11 : decode cX5_countClosed 11 = .ok (.if_icmp .ge 28, 3) := by decide +kernel
theorem dX5_countClosed_14 : decode cX5_countClosed 14 = .ok (.iload_n 3, 1) := by decide +kernel
theorem dX5_countClosed_15 : decode cX5_countClosed 15 = .ok (.iconst 1, 1) := by decide +kernel
theorem dX5_countClosed_16 : decode cX5_countClosed 16 = .ok (.iand, 1) := by decide +kernel
theorem dX5_countClosed_17 : decode cX5_countClosed 17 = .ok (.ifCond .eq 16, 3) := by decide +kernel
theorem dX5_countClosed_20 : decode cX5_countClosed 20 = .ok (.aload_n 0, 1) := by decide +kernel
theorem dX5_countClosed_21 : decode cX5_countClosed 21 = .ok (.aload_n 1, 1) := by decide +kernel
theorem dX5_countClosed_22 : decode cX5_countClosed 22 = .ok (.iload_n 3, 1) := by decide +kernel
theorem dX5_countClosed_23 : decode cX5_countClosed 23 = .ok (.invokestatic 25, 3) := by decide +kernel
theorem dX5_countClosed_26 : decode cX5_countClosed 26 = .ok (.iload_n 3, 1) := by decide +kernel
theorem dX5_countClosed_27 : decode cX5_countClosed 27 = .ok (.if_icmp .ne 6, 3) := by decide +kernel
theorem dX5_countClosed_30 : decode cX5_countClosed 30 = .ok (.iinc 2 1, 3) := by decide +kernel
theorem dX5_countClosed_33 : decode cX5_countClosed 33 = .ok (.iinc 3 1, 3) := by decide +kernel
theorem dX5_countClosed_36 : decode cX5_countClosed 36 = .ok (.goto (-32), 3) := by decide +kernel
theorem dX5_countClosed_39 : decode cX5_countClosed 39 = .ok (.iload_n 2, 1) := by decide +kernel
theorem dX5_countClosed_40 : decode cX5_countClosed 40 = .ok (.ireturn, 1) := by decide +kernel
theorem dX6_init_0 : decode cX6_init 0 = .ok (.aload_n 0, 1) := by decide +kernel
theorem dX6_init_1 : decode cX6_init 1 = .ok (.invokespecial 3, 3) := by decide +kernel
theorem dX6_init_4 : decode cX6_init 4 = .ok (.aload_n 0, 1) := by decide +kernel
theorem dX6_init_5 : decode cX6_init 5 = .ok (.iconst 5, 1) := by decide +kernel
theorem dX6_init_6 : decode cX6_init 6 = .ok (.newarray .long, 2) := by decide +kernel
theorem dX6_init_8 : decode cX6_init 8 = .ok (.putfield 9, 3) := by decide +kernel
theorem dX6_init_11 : decode cX6_init 11 = .ok (.aload_n 0, 1) := by decide +kernel
theorem dX6_init_12 : decode cX6_init 12 = .ok (.iconst 5, 1) := by decide +kernel
theorem dX6_init_13 : decode cX6_init 13 = .ok (.newarray .long, 2) := by decide +kernel
theorem dX6_init_15 : decode cX6_init 15 = .ok (.putfield 15, 3) := by decide +kernel
theorem dX6_init_18 : decode cX6_init 18 = .ok (.return_, 1) := by decide +kernel
set_option maxRecDepth 20000 in
theorem ggX6_begin_J7_fill_d0a16 : GoodIn wsX6_begin wsJ7_fill_d0a16 := goodIn_r _ [5] (by decide +kernel) (by decide +kernel)
set_option maxRecDepth 20000 in
theorem gX6_begin_J7_fill_d0a16 : GoodIn wsX6_begin (va_wsS RX6 18 yJ7_fill_d0a16 wsJ7_fill_d0a16) := goodIn_app (goodIn_of _ (by decide +kernel)) ggX6_begin_J7_fill_d0a16
theorem dX6_begin_0 : decode cX6_begin 0 = .ok (.aload_n 0, 1) := by decide +kernel
theorem dX6_begin_1 : decode cX6_begin 1 = .ok (.getfield 9, 3) := by decide +kernel
theorem dX6_begin_4 : decode cX6_begin 4 = .ok (.lconst 0, 1) := by decide +kernel
theorem dX6_begin_5 : decode cX6_begin 5 = .ok (.invokestatic 18, 3) := by decide +kernel
theorem dX6_begin_8 : decode cX6_begin 8 = .ok (.aload_n 0, 1) := by decide +kernel
theorem dX6_begin_9 : decode cX6_begin 9 = .ok (.getfield 9, 3) := by decide +kernel
theorem dX6_begin_12 : decode cX6_begin 12 = .ok (.iload_n 1, 1) := by decide +kernel
theorem dX6_begin_13 : decode cX6_begin 13 = .ok (.lconst 1, 1) := by decide +kernel
theorem dX6_begin_14 : decode cX6_begin 14 = .ok (.lastore, 1) := by decide +kernel
theorem dX6_begin_15 : decode cX6_begin 15 = .ok (.return_, 1) := by decide +kernel
set_option maxRecDepth 20000 in
theorem ggX6_fuseWith_X7_number : GoodIn wsX6_fuseWith wsX7_number := goodIn_r _ [12, 13, 14, 15, 11, 16, 17, 18] (by decide +kernel) (by decide +kernel)
set_option maxRecDepth 20000 in
theorem gX6_fuseWith_X7_number : GoodIn wsX6_fuseWith (wsV RX6 30 RX7 yX7_number wsX7_number) := goodIn_app (goodIn_of _ (by decide +kernel)) ggX6_fuseWith_X7_number
theorem dX6_fuseWith_0 : decode cX6_fuseWith 0 = .ok (.iconst 0, 1) := by decide +kernel
theorem dX6_fuseWith_1 : decode cX6_fuseWith 1 = .ok (.istore_n 3, 1) := by decide +kernel
theorem dX6_fuseWith_2 : decode cX6_fuseWith 2 = .ok (.iload_n 3, 1) := by decide +kernel
theorem dX6_fuseWith_3 : decode cX6_fuseWith 3 = .ok (.aload_n 1, 1) := by decide +kernel
theorem dX6_fuseWith_4 : decode cX6_fuseWith 4 = .ok (.getfield 24, 3) := by decide +kernel
theorem dX6_fuseWith_7 : decode cX6_fuseWith 7 = .ok (.if_icmp .ge 60, 3) := by decide +kernel
theorem dX6_fuseWith_10 : decode cX6_fuseWith 10 = .ok (.aload_n 0, 1) := by decide +kernel
theorem dX6_fuseWith_11 : decode cX6_fuseWith 11 = .ok (.getfield 15, 3) := by decide +kernel
theorem dX6_fuseWith_14 : decode cX6_fuseWith 14 = .ok (.iload_n 3, 1) := by decide +kernel
theorem dX6_fuseWith_15 : decode cX6_fuseWith 15 = .ok (.lconst 0, 1) := by decide +kernel
theorem dX6_fuseWith_16 : decode cX6_fuseWith 16 = .ok (.lastore, 1) := by decide +kernel
theorem dX6_fuseWith_17 : decode cX6_fuseWith 17 = .ok (.iconst 0, 1) := by decide +kernel
theorem dX6_fuseWith_18 : decode cX6_fuseWith 18 = .ok (.istore 4, 2) := by decide +kernel
theorem dX6_fuseWith_20 : decode cX6_fuseWith 20 = .ok (.iload 4, 2) := by decide +kernel
theorem dX6_fuseWith_22 : decode cX6_fuseWith 22 = .ok (.aload_n 1, 1) := by decide +kernel
theorem dX6_fuseWith_23 : decode cX6_fuseWith 23 = .ok (.getfield 24, 3) := by decide +kernel
theorem dX6_fuseWith_26 : decode cX6_fuseWith 26 = .ok (.if_icmp .ge 35, 3) := by decide +kernel
theorem dX6_fuseWith_29 : decode cX6_fuseWith 29 = .ok (.aload_n 0, 1) := by decide +kernel
theorem dX6_fuseWith_30 : decode cX6_fuseWith 30 = .ok (.getfield 15, 3) := by decide +kernel
theorem dX6_fuseWith_33 : decode cX6_fuseWith 33 = .ok (.iload_n 3, 1) := by decide +kernel
theorem dX6_fuseWith_34 : decode cX6_fuseWith 34 = .ok (.dup2, 1) := by decide +kernel
theorem dX6_fuseWith_35 : decode cX6_fuseWith 35 = .ok (.laload, 1) := by decide +kernel
theorem dX6_fuseWith_36 : decode cX6_fuseWith 36 = .ok (.aload_n 0, 1) := by decide +kernel
theorem dX6_fuseWith_37 : decode cX6_fuseWith 37 = .ok (.getfield 9, 3) := by decide +kernel
theorem dX6_fuseWith_40 : decode cX6_fuseWith 40 = .ok (.iload 4, 2) := by decide +kernel
theorem dX6_fuseWith_42 : decode cX6_fuseWith 42 = .ok (.laload, 1) := by decide +kernel
theorem dX6_fuseWith_43 : decode cX6_fuseWith 43 = .ok (.aload_n 1, 1) := by decide +kernel
theorem dX6_fuseWith_44 : decode cX6_fuseWith 44 = .ok (.iload 4, 2) := by decide +kernel
theorem dX6_fuseWith_46 : decode cX6_fuseWith 46 = .ok (.iload_n 2, 1) := by decide +kernel
theorem dX6_fuseWith_47 : decode cX6_fuseWith 47 = .ok (.iload_n 3, 1) := by decide +kernel
theorem dX6_fuseWith_48 : decode cX6_fuseWith 48 = .ok (.invokevirtual 30, 3) := by decide +kernel
theorem dX6_fuseWith_51 : decode cX6_fuseWith 51 = .ok (.i2l, 1) := by decide +kernel
theorem dX6_fuseWith_52 : decode cX6_fuseWith 52 = .ok (.lmul, 1) := by decide +kernel
theorem dX6_fuseWith_53 : decode cX6_fuseWith 53 = .ok (.ladd, 1) := by decide +kernel
theorem dX6_fuseWith_54 : decode cX6_fuseWith 54 = .ok (.lastore, 1) := by decide +kernel
theorem dX6_fuseWith_55 : decode cX6_fuseWith 55 = .ok (.iinc 4 1, 3) := by decide +kernel
theorem dX6_fuseWith_58 : decode cX6_fuseWith 58 = .ok (.goto (-38), 3) := by decide +kernel
theorem dX6_fuseWith_61 : decode cX6_fuseWith 61 = .ok (.iinc 3 1, 3) := by decide +kernel
theorem dX6_fuseWith_64 : decode cX6_fuseWith 64 = .ok (.goto (-62), 3) := by decide +kernel
theorem dX6_fuseWith_67 : decode cX6_fuseWith 67 = .ok (.aload_n 0, 1) := by decide +kernel
theorem dX6_fuseWith_68 : decode cX6_fuseWith 68 = .ok (.getfield 15, 3) := by decide +kernel
theorem dX6_fuseWith_71 : decode cX6_fuseWith 71 = .ok (.iconst 0, 1) := by decide +kernel
theorem dX6_fuseWith_72 : decode cX6_fuseWith 72 = .ok (.aload_n 0, 1) := by decide +kernel
theorem dX6_fuseWith_73 : decode cX6_fuseWith 73 = .ok (.getfield 9, 3) := by decide +kernel
theorem dX6_fuseWith_76 : decode cX6_fuseWith 76 = .ok (.iconst 0, 1) := by decide +kernel
theorem dX6_fuseWith_77 : decode cX6_fuseWith 77 = .ok (.aload_n 1, 1) := by decide +kernel
theorem dX6_fuseWith_78 : decode cX6_fuseWith 78 = .ok (.getfield 24, 3) := by decide +kernel
theorem dX6_fuseWith_81 : decode cX6_fuseWith 81 = .ok (.invokestatic 34, 3) := by decide +kernel
theorem dX6_fuseWith_84 : decode cX6_fuseWith 84 = .ok (.return_, 1) := by decide +kernel
set_option maxRecDepth 20000 in
theorem ggX7_init_X7_reset : GoodIn wsX7_init wsX7_reset := goodIn_r _ [10, 5, 11, 12, 13, 14, 15, 16, 17, 18, 9, 19, 20, 21, 22, 23, 24] (by decide +kernel) (by decide +kernel)
set_option maxRecDepth 20000 in
theorem gX7_init_X7_reset : GoodIn wsX7_init (wsV RX7 15 RX7 yX7_reset wsX7_reset) := goodIn_app (goodIn_of _ (by decide +kernel)) ggX7_init_X7_reset
theorem dX7_init_0 : decode cX7_init 0 = .ok (.aload_n 0, 1) := by decide +kernel
theorem dX7_init_1 : decode cX7_init 1 = .ok (.invokespecial 3, 3) := by decide +kernel
theorem dX7_init_4 : decode cX7_init 4 = .ok (.aload_n 0, 1) := by decide +kernel
theorem dX7_init_5 : decode cX7_init 5 = .ok (.bipush 125, 2) := by decide +kernel
theorem dX7_init_7 : decode cX7_init 7 = .ok (.newarray .int, 2) := by decide +kernel
theorem dX7_init_9 : decode cX7_init 9 = .ok (.putfield 11, 3) := by decide +kernel
theorem dX7_init_12 : decode cX7_init 12 = .ok (.aload_n 0, 1) := by decide +kernel
theorem dX7_init_13 : decode cX7_init 13 = .ok (.iconst 1, 1) := by decide +kernel
theorem dX7_init_14 : decode cX7_init 14 = .ok (.invokevirtual 15, 3) := by decide +kernel
theorem dX7_init_17 : decode cX7_init 17 = .ok (.return_, 1) := by decide +kernel
theorem dX7_placeOf_0 : decode cX7_placeOf 0 = .ok (.iload_n 0, 1) := by decide +kernel
theorem dX7_placeOf_1 : decode cX7_placeOf 1 = .ok (.iconst 5, 1) := by decide +kernel
theorem dX7_placeOf_2 : decode cX7_placeOf 2 = .ok (.imul, 1) := by decide +kernel
theorem dX7_placeOf_3 : decode cX7_placeOf 3 = .ok (.iload_n 1, 1) := by decide +kernel
theorem dX7_placeOf_4 : decode cX7_placeOf 4 = .ok (.iadd, 1) := by decide +kernel
theorem dX7_placeOf_5 : decode cX7_placeOf 5 = .ok (.iconst 5, 1) := by decide +kernel
theorem dX7_placeOf_6 : decode cX7_placeOf 6 = .ok (.imul, 1) := by decide +kernel
theorem dX7_placeOf_7 : decode cX7_placeOf 7 = .ok (.iload_n 2, 1) := by decide +kernel
theorem dX7_placeOf_8 : decode cX7_placeOf 8 = .ok (.iadd, 1) := by decide +kernel
theorem dX7_placeOf_9 : decode cX7_placeOf 9 = .ok (.ireturn, 1) := by decide +kernel
theorem dX7_has_0 : decode cX7_has 0 = .ok (.iload_n 1, 1) := by decide +kernel
theorem dX7_has_1 : decode cX7_has 1 = .ok (.ifCond .lt 15, 3) := by decide +kernel
theorem dX7_has_4 : decode cX7_has 4 = .ok (.iload_n 1, 1) := by decide +kernel
theorem dX7_has_5 : decode cX7_has 5 = .ok (.aload_n 0, 1) := by decide +kernel
theorem dX7_has_6 : decode cX7_has 6 = .ok (.getfield 19, 3) := by decide +kernel
theorem dX7_has_9 : decode cX7_has 9 = .ok (.if_icmp .ge 7, 3) := by decide +kernel
theorem dX7_has_12 : decode cX7_has 12 = .ok (.iconst 1, 1) := by decide +kernel
theorem dX7_has_13 : decode cX7_has 13 = .ok (.goto 4, 3) := by decide +kernel
theorem dX7_has_16 : decode cX7_has 16 = .ok (.iconst 0, 1) := by decide +kernel
theorem dX7_has_17 : decode cX7_has 17 = .ok (.ireturn, 1) := by decide +kernel
set_option maxRecDepth 20000 in
theorem ggX7_number_X7_placeOf : GoodIn wsX7_number wsX7_placeOf := goodIn_r _ [5] (by decide +kernel) (by decide +kernel)
set_option maxRecDepth 20000 in
theorem gX7_number_X7_placeOf : GoodIn wsX7_number (va_wsS RX7 23 yX7_placeOf wsX7_placeOf) := goodIn_app (goodIn_of _ (by decide +kernel)) ggX7_number_X7_placeOf
theorem dX7_number_0 : decode cX7_number 0 = .ok (.aload_n 0, 1) := by decide +kernel
theorem dX7_number_1 : decode cX7_number 1 = .ok (.getfield 11, 3) := by decide +kernel
theorem dX7_number_4 : decode cX7_number 4 = .ok (.iload_n 1, 1) := by decide +kernel
theorem dX7_number_5 : decode cX7_number 5 = .ok (.iload_n 2, 1) := by decide +kernel
theorem dX7_number_6 : decode cX7_number 6 = .ok (.iload_n 3, 1) := by decide +kernel
theorem dX7_number_7 : decode cX7_number 7 = .ok (.invokestatic 23, 3) := by decide +kernel
theorem dX7_number_10 : decode cX7_number 10 = .ok (.iaload, 1) := by decide +kernel
theorem dX7_number_11 : decode cX7_number 11 = .ok (.ireturn, 1) := by decide +kernel
set_option maxRecDepth 20000 in
theorem ggX7_setNumber_X7_placeOf : GoodIn wsX7_setNumber wsX7_placeOf := goodIn_r _ [5] (by decide +kernel) (by decide +kernel)
set_option maxRecDepth 20000 in
theorem gX7_setNumber_X7_placeOf : GoodIn wsX7_setNumber (va_wsS RX7 23 yX7_placeOf wsX7_placeOf) := goodIn_app (goodIn_of _ (by decide +kernel)) ggX7_setNumber_X7_placeOf
theorem dX7_setNumber_0 : decode cX7_setNumber 0 = .ok (.aload_n 0, 1) := by decide +kernel
theorem dX7_setNumber_1 : decode cX7_setNumber 1 = .ok (.getfield 11, 3) := by decide +kernel
theorem dX7_setNumber_4 : decode cX7_setNumber 4 = .ok (.iload_n 1, 1) := by decide +kernel
theorem dX7_setNumber_5 : decode cX7_setNumber 5 = .ok (.iload_n 2, 1) := by decide +kernel
theorem dX7_setNumber_6 : decode cX7_setNumber 6 = .ok (.iload_n 3, 1) := by decide +kernel
theorem dX7_setNumber_7 : decode cX7_setNumber 7 = .ok (.invokestatic 23, 3) := by decide +kernel
theorem dX7_setNumber_10 : decode cX7_setNumber 10 = .ok (.iload 4, 2) := by decide +kernel
theorem dX7_setNumber_12 : decode cX7_setNumber 12 = .ok (.iastore, 1) := by decide +kernel
theorem dX7_setNumber_13 : decode cX7_setNumber 13 = .ok (.return_, 1) := by decide +kernel
set_option maxRecDepth 20000 in
theorem ggX7_reset_J7_fill_53178 : GoodIn wsX7_reset wsJ7_fill_53178 := goodIn_r _ [6] (by decide +kernel) (by decide +kernel)
set_option maxRecDepth 20000 in
theorem gX7_reset_J7_fill_53178 : GoodIn wsX7_reset (va_wsS RX7 27 yJ7_fill_53178 wsJ7_fill_53178) := goodIn_app (goodIn_of _ (by decide +kernel)) ggX7_reset_J7_fill_53178
set_option maxRecDepth 20000 in
theorem ggX7_reset_X7_setNumber : GoodIn wsX7_reset wsX7_setNumber := goodIn_r _ [11, 1, 12, 13, 10, 14, 15, 16] (by decide +kernel) (by decide +kernel)
set_option maxRecDepth 20000 in
theorem gX7_reset_X7_setNumber : GoodIn wsX7_reset (wsV RX7 33 RX7 yX7_setNumber wsX7_setNumber) := goodIn_app (goodIn_of _ (by decide +kernel)) ggX7_reset_X7_setNumber
theorem dX7_reset_0 : decode cX7_reset 0 = .ok (.aload_n 0, 1) := by decide +kernel
theorem dX7_reset_1 : decode cX7_reset 1 = .ok (.getfield 11, 3) := by decide +kernel
theorem dX7_reset_4 : decode cX7_reset 4 = .ok (.iconst 0, 1) := by decide +kernel
theorem dX7_reset_5 : decode cX7_reset 5 = .ok (.invokestatic 27, 3) := by decide +kernel
theorem dX7_reset_8 : decode cX7_reset 8 = .ok (.aload_n 0, 1) := by decide +kernel
theorem dX7_reset_9 : decode cX7_reset 9 = .ok (.iload_n 1, 1) := by decide +kernel
theorem dX7_reset_10 : decode cX7_reset 10 = .ok (.putfield 19, 3) := by decide +kernel
theorem dX7_reset_13 : decode cX7_reset 13 = .ok (.iconst 0, 1) := by decide +kernel
theorem dX7_reset_14 : decode cX7_reset 14 = .ok (.istore_n 2, 1) := by decide +kernel
theorem dX7_reset_15 : decode cX7_reset 15 = .ok (.iload_n 2, 1) := by decide +kernel
theorem dX7_reset_16 : decode cX7_reset 16 = .ok (.iload_n 1, 1) := by decide +kernel
theorem dX7_reset_17 : decode cX7_reset 17 = .ok (.if_icmp .ge 25, 3) := by decide +kernel
theorem dX7_reset_20 : decode cX7_reset 20 = .ok (.aload_n 0, 1) := by decide +kernel
theorem dX7_reset_21 : decode cX7_reset 21 = .ok (.iconst 0, 1) := by decide +kernel
theorem dX7_reset_22 : decode cX7_reset 22 = .ok (.iload_n 2, 1) := by decide +kernel
theorem dX7_reset_23 : decode cX7_reset 23 = .ok (.iload_n 2, 1) := by decide +kernel
theorem dX7_reset_24 : decode cX7_reset 24 = .ok (.iconst 1, 1) := by decide +kernel
theorem dX7_reset_25 : decode cX7_reset 25 = .ok (.invokevirtual 33, 3) := by decide +kernel
theorem dX7_reset_28 : decode cX7_reset 28 = .ok (.aload_n 0, 1) := by decide +kernel
theorem dX7_reset_29 : decode cX7_reset 29 = .ok (.iload_n 2, 1) := by decide +kernel
theorem dX7_reset_30 : decode cX7_reset 30 = .ok (.iconst 0, 1) := by decide +kernel
theorem dX7_reset_31 : decode cX7_reset 31 = .ok (.iload_n 2, 1) := by decide +kernel
theorem dX7_reset_32 : decode cX7_reset 32 = .ok (.iconst 1, 1) := by decide +kernel
theorem dX7_reset_33 : decode cX7_reset 33 = .ok (.invokevirtual 33, 3) := by decide +kernel
theorem dX7_reset_36 : decode cX7_reset 36 = .ok (.iinc 2 1, 3) := by decide +kernel
theorem dX7_reset_39 : decode cX7_reset 39 = .ok (.goto (-24), 3) := by decide +kernel
theorem dX7_reset_42 : decode cX7_reset 42 = .ok (.return_, 1) := by decide +kernel
theorem dX7_become_0 : decode cX7_become 0 = .ok (.aload_n 0, 1) := by decide +kernel
theorem dX7_become_1 : decode cX7_become 1 = .ok (.aload_n 1, 1) := by decide +kernel
theorem dX7_become_2 : decode cX7_become 2 = .ok (.getfield 19, 3) := by decide +kernel
theorem dX7_become_5 : decode cX7_become 5 = .ok (.putfield 19, 3) := by decide +kernel
theorem dX7_become_8 : decode cX7_become 8 = .ok (.aload_n 1, 1) := by decide +kernel
theorem dX7_become_9 : decode cX7_become 9 = .ok (.getfield 11, 3) := by decide +kernel
theorem dX7_become_12 : decode cX7_become 12 = .ok (.iconst 0, 1) := by decide +kernel
theorem dX7_become_13 : decode cX7_become 13 = .ok (.aload_n 0, 1) := by decide +kernel
theorem dX7_become_14 : decode cX7_become 14 = .ok (.getfield 11, 3) := by decide +kernel
theorem dX7_become_17 : decode cX7_become 17 = .ok (.iconst 0, 1) := by decide +kernel
theorem dX7_become_18 : decode cX7_become 18 = .ok (.bipush 125, 2) := by decide +kernel
theorem dX7_become_20 : decode cX7_become 20 = .ok (.invokestatic 37, 3) := by decide +kernel
theorem dX7_become_23 : decode cX7_become 23 = .ok (.return_, 1) := by decide +kernel
set_option maxRecDepth 20000 in
theorem ggX7_fuseAsGroup_X7_setNumber : GoodIn wsX7_fuseAsGroup wsX7_setNumber := goodIn_r _ [5, 6, 7, 8, 4, 9, 10, 11] (by decide +kernel) (by decide +kernel)
set_option maxRecDepth 20000 in
theorem gX7_fuseAsGroup_X7_setNumber : GoodIn wsX7_fuseAsGroup (wsV RX7 33 RX7 yX7_setNumber wsX7_setNumber) := goodIn_app (goodIn_of _ (by decide +kernel)) ggX7_fuseAsGroup_X7_setNumber
theorem dX7_fuseAsGroup_0 : decode cX7_fuseAsGroup 0 = .ok (.iconst 0, 1) := by decide +kernel
theorem dX7_fuseAsGroup_1 : decode cX7_fuseAsGroup 1 = .ok (.istore_n 2, 1) := by decide +kernel
theorem dX7_fuseAsGroup_2 : decode cX7_fuseAsGroup 2 = .ok (.iload_n 2, 1) := by decide +kernel
theorem dX7_fuseAsGroup_3 : decode cX7_fuseAsGroup 3 = .ok (.iload_n 1, 1) := by decide +kernel
theorem dX7_fuseAsGroup_4 : decode cX7_fuseAsGroup 4 = .ok (.if_icmp .ge 51, 3) := by decide +kernel
theorem dX7_fuseAsGroup_7 : decode cX7_fuseAsGroup 7 = .ok (.iconst 0, 1) := by decide +kernel
theorem dX7_fuseAsGroup_8 : decode cX7_fuseAsGroup 8 = .ok (.istore_n 3, 1) := by decide +kernel
theorem dX7_fuseAsGroup_9 : decode cX7_fuseAsGroup 9 = .ok (.iload_n 3, 1) := by decide +kernel
theorem dX7_fuseAsGroup_10 : decode cX7_fuseAsGroup 10 = .ok (.iload_n 1, 1) := by decide +kernel
theorem dX7_fuseAsGroup_11 : decode cX7_fuseAsGroup 11 = .ok (.if_icmp .ge 38, 3) := by decide +kernel
theorem dX7_fuseAsGroup_14 : decode cX7_fuseAsGroup 14 = .ok (.iload_n 2, 1) := by decide +kernel
theorem dX7_fuseAsGroup_15 : decode cX7_fuseAsGroup 15 = .ok (.iload_n 3, 1) := by decide +kernel
theorem dX7_fuseAsGroup_16 : decode cX7_fuseAsGroup 16 = .ok (.iadd, 1) := by decide +kernel
theorem dX7_fuseAsGroup_17 : decode cX7_fuseAsGroup 17 = .ok (.iload_n 1, 1) := by decide +kernel
theorem dX7_fuseAsGroup_18 : decode cX7_fuseAsGroup 18 = .ok (.if_icmp .lt 11, 3) := by decide +kernel
theorem dX7_fuseAsGroup_21 : decode cX7_fuseAsGroup 21 = .ok (.iload_n 2, 1) := by decide +kernel
theorem dX7_fuseAsGroup_22 : decode cX7_fuseAsGroup 22 = .ok (.iload_n 3, 1) := by decide +kernel
theorem dX7_fuseAsGroup_23 : decode cX7_fuseAsGroup 23 = .ok (.iadd, 1) := by decide +kernel
theorem dX7_fuseAsGroup_24 : decode cX7_fuseAsGroup 24 = .ok (.iload_n 1, 1) := by decide +kernel
theorem dX7_fuseAsGroup_25 : decode cX7_fuseAsGroup 25 = .ok (.isub, 1) := by decide +kernel
theorem dX7_fuseAsGroup_26 : decode cX7_fuseAsGroup 26 = .ok (.goto 6, 3) := by decide +kernel
theorem dX7_fuseAsGroup_29 : decode cX7_fuseAsGroup 29 = .ok (.iload_n 2, 1) := by decide +kernel
theorem dX7_fuseAsGroup_30 : decode cX7_fuseAsGroup 30 = .ok (.iload_n 3, 1) := by decide +kernel
theorem dX7_fuseAsGroup_31 : decode cX7_fuseAsGroup 31 = .ok (.iadd, 1) := by decide +kernel
theorem dX7_fuseAsGroup_32 : decode cX7_fuseAsGroup 32 = .ok (.istore 4, 2) := by decide +kernel
theorem dX7_fuseAsGroup_34 : decode cX7_fuseAsGroup 34 = .ok (.aload_n 0, 1) := by decide +kernel
theorem dX7_fuseAsGroup_35 : decode cX7_fuseAsGroup 35 = .ok (.iload_n 2, 1) := by decide +kernel
theorem dX7_fuseAsGroup_36 : decode cX7_fuseAsGroup 36 = .ok (.iload_n 3, 1) := by decide +kernel
theorem dX7_fuseAsGroup_37 : decode cX7_fuseAsGroup 37 = .ok (.iload 4, 2) := by decide +kernel
theorem dX7_fuseAsGroup_39 : decode cX7_fuseAsGroup 39 = .ok (.iconst 1, 1) := by decide +kernel
theorem dX7_fuseAsGroup_40 : decode cX7_fuseAsGroup 40 = .ok (.invokevirtual 33, 3) := by decide +kernel
theorem dX7_fuseAsGroup_43 : decode cX7_fuseAsGroup 43 = .ok (.iinc 3 1, 3) := by decide +kernel
theorem dX7_fuseAsGroup_46 : decode cX7_fuseAsGroup 46 = .ok (.goto (-37), 3) := by decide +kernel
theorem dX7_fuseAsGroup_49 : decode cX7_fuseAsGroup 49 = .ok (.iinc 2 1, 3) := by decide +kernel
theorem dX7_fuseAsGroup_52 : decode cX7_fuseAsGroup 52 = .ok (.goto (-50), 3) := by decide +kernel
theorem dX7_fuseAsGroup_55 : decode cX7_fuseAsGroup 55 = .ok (.return_, 1) := by decide +kernel
set_option maxRecDepth 20000 in
theorem ggX7_becomeProduct_X7_reset : GoodIn wsX7_becomeProduct wsX7_reset := goodIn_r _ [6, 7, 1, 8, 9, 10, 11, 12, 13, 14, 5, 15, 16, 17, 18, 27, 28] (by decide +kernel) (by decide +kernel)
set_option maxRecDepth 20000 in
theorem gX7_becomeProduct_X7_reset : GoodIn wsX7_becomeProduct (wsV RX7 15 RX7 yX7_reset wsX7_reset) := goodIn_app (goodIn_of _ (by decide +kernel)) ggX7_becomeProduct_X7_reset
set_option maxRecDepth 20000 in
theorem ggX7_becomeProduct_X7_number : GoodIn wsX7_becomeProduct wsX7_number := goodIn_r _ [22, 7, 16, 17, 5, 18, 27, 28] (by decide +kernel) (by decide +kernel)
set_option maxRecDepth 20000 in
theorem gX7_becomeProduct_X7_number : GoodIn wsX7_becomeProduct (wsV RX7 43 RX7 yX7_number wsX7_number) := goodIn_app (goodIn_of _ (by decide +kernel)) ggX7_becomeProduct_X7_number
set_option maxRecDepth 20000 in
theorem ggX7_becomeProduct_X7_placeBlock : GoodIn wsX7_becomeProduct wsX7_placeBlock := goodIn_r _ [26, 1, 19, 20, 21, 5, 22, 7, 16, 17, 18, 12, 13, 14, 15, 27, 28] (by decide +kernel) (by decide +kernel)
set_option maxRecDepth 20000 in
theorem gX7_becomeProduct_X7_placeBlock : GoodIn wsX7_becomeProduct (wsV RX7 46 RX7 yX7_placeBlock wsX7_placeBlock) := goodIn_app (goodIn_of _ (by decide +kernel)) ggX7_becomeProduct_X7_placeBlock
theorem dX7_becomeProduct_0 : decode cX7_becomeProduct 0 = .ok (.aload_n 2, 1) := by decide +kernel
theorem dX7_becomeProduct_1 : decode cX7_becomeProduct 1 = .ok (.getfield 19, 3) := by decide +kernel
theorem dX7_becomeProduct_4 : decode cX7_becomeProduct 4 = .ok (.istore_n 3, 1) := by decide +kernel
theorem dX7_becomeProduct_5 : decode cX7_becomeProduct 5 = .ok (.aload_n 0, 1) := by decide +kernel
theorem dX7_becomeProduct_6 : decode cX7_becomeProduct 6 = .ok (.aload_n 1, 1) := by decide +kernel
theorem dX7_becomeProduct_7 : decode cX7_becomeProduct 7 = .ok (.getfield 19, 3) := by decide +kernel
theorem dX7_becomeProduct_10 : decode cX7_becomeProduct 10 = .ok (.iload_n 3, 1) := by decide +kernel
theorem dX7_becomeProduct_11 : decode cX7_becomeProduct 11 = .ok (.imul, 1) := by decide +kernel
theorem dX7_becomeProduct_12 : decode cX7_becomeProduct 12 = .ok (.invokevirtual 15, 3) := by decide +kernel
theorem dX7_becomeProduct_15 : decode cX7_becomeProduct 15 = .ok (.iconst 0, 1) := by decide +kernel
theorem dX7_becomeProduct_16 : decode cX7_becomeProduct 16 = .ok (.istore 4, 2) := by decide +kernel
theorem dX7_becomeProduct_18 : decode cX7_becomeProduct 18 = .ok (.iload 4, 2) := by decide +kernel
theorem dX7_becomeProduct_20 : decode cX7_becomeProduct 20 = .ok (.aload_n 1, 1) := by decide +kernel
theorem dX7_becomeProduct_21 : decode cX7_becomeProduct 21 = .ok (.getfield 19, 3) := by decide +kernel
theorem dX7_becomeProduct_24 : decode cX7_becomeProduct 24 = .ok (.if_icmp .ge 77, 3) := by decide +kernel
theorem dX7_becomeProduct_27 : decode cX7_becomeProduct 27 = .ok (.iconst 0, 1) := by decide +kernel
theorem dX7_becomeProduct_28 : decode cX7_becomeProduct 28 = .ok (.istore 5, 2) := by decide +kernel
theorem dX7_becomeProduct_30 : decode cX7_becomeProduct 30 = .ok (.iload 5, 2) := by decide +kernel
theorem dX7_becomeProduct_32 : decode cX7_becomeProduct 32 = .ok (.aload_n 1, 1) := by decide +kernel
theorem dX7_becomeProduct_33 : decode cX7_becomeProduct 33 = .ok (.getfield 19, 3) := by decide +kernel
theorem dX7_becomeProduct_36 : decode cX7_becomeProduct 36 = .ok (.if_icmp .ge 59, 3) := by decide +kernel
theorem dX7_becomeProduct_39 : decode cX7_becomeProduct 39 = .ok (.iconst 0, 1) := by decide +kernel
theorem dX7_becomeProduct_40 : decode cX7_becomeProduct 40 = .ok (.istore 6, 2) := by decide +kernel
theorem dX7_becomeProduct_42 : decode cX7_becomeProduct 42 = .ok (.iload 6, 2) := by decide +kernel
theorem dX7_becomeProduct_44 : decode cX7_becomeProduct 44 = .ok (.aload_n 1, 1) := by decide +kernel
theorem dX7_becomeProduct_45 : decode cX7_becomeProduct 45 = .ok (.getfield 19, 3) := by decide +kernel
theorem dX7_becomeProduct_48 : decode cX7_becomeProduct 48 = .ok (.if_icmp .ge 41, 3) := by decide +kernel
theorem dX7_becomeProduct_51 : decode cX7_becomeProduct 51 = .ok (.aload_n 0, 1) := by decide +kernel
theorem dX7_becomeProduct_52 : decode cX7_becomeProduct 52 = .ok (.aload_n 2, 1) := by decide +kernel
theorem dX7_becomeProduct_53 : decode cX7_becomeProduct 53 = .ok (.aload_n 1, 1) := by decide +kernel
theorem dX7_becomeProduct_54 : decode cX7_becomeProduct 54 = .ok (.iload 4, 2) := by decide +kernel
theorem dX7_becomeProduct_56 : decode cX7_becomeProduct 56 = .ok (.iload 5, 2) := by decide +kernel
end
section
theorem dX7_becomeProduct_58 : decode cX7_becomeProduct 58 = .ok (.iload 6, 2) := by decide +kernel
theorem dX7_becomeProduct_60 : decode cX7_becomeProduct 60 = .ok (.invokevirtual 43, 3) := by decide +kernel
theorem dX7_becomeProduct_63 : decode cX7_becomeProduct 63 = .ok (.iload 4, 2) := by decide +kernel
theorem dX7_becomeProduct_65 : decode cX7_becomeProduct 65 = .ok (.iload_n 3, 1) := by decide +kernel
theorem dX7_becomeProduct_66 : decode cX7_becomeProduct 66 = .ok (.imul, 1) := by decide +kernel
theorem dX7_becomeProduct_67 : decode cX7_becomeProduct 67 = .ok (.iload 5, 2) := by decide +kernel
theorem dX7_becomeProduct_69 : decode cX7_becomeProduct 69 = .ok (.iload_n 3, 1) := by decide +kernel
theorem dX7_becomeProduct_70 : decode cX7_becomeProduct 70 = .ok (.imul, 1) := by decide +kernel
theorem dX7_becomeProduct_71 : decode cX7_becomeProduct 71 = .ok (.iload 6, 2) := by decide +kernel
theorem dX7_becomeProduct_73 : decode cX7_becomeProduct 73 = .ok (.iload_n 3, 1) := by decide +kernel
theorem dX7_becomeProduct_74 : decode cX7_becomeProduct 74 = .ok (.imul, 1) := by decide +kernel
theorem dX7_becomeProduct_75 : decode cX7_becomeProduct 75 = .ok (.invokevirtual 46, 3) := by decide +kernel
theorem dX7_becomeProduct_78 : decode cX7_becomeProduct 78 = .ok (.ifCond .ne 5, 3) := by decide +kernel
theorem dX7_becomeProduct_81 : decode cX7_becomeProduct 81 = .ok (.iconst 0, 1) := by decide +kernel
theorem dX7_becomeProduct_82 : decode cX7_becomeProduct 82 = .ok (.ireturn, 1) := by decide +kernel
theorem dX7_becomeProduct_83 : decode cX7_becomeProduct 83 = .ok (.iinc 6 1, 3) := by decide +kernel
theorem dX7_becomeProduct_86 : decode cX7_becomeProduct 86 = .ok (.goto (-44), 3) := by decide +kernel
theorem dX7_becomeProduct_89 : decode cX7_becomeProduct 89 = .ok (.iinc 5 1, 3) := by decide +kernel
theorem dX7_becomeProduct_92 : decode cX7_becomeProduct 92 = .ok (.goto (-62), 3) := by decide +kernel
theorem dX7_becomeProduct_95 : decode cX7_becomeProduct 95 = .ok (.iinc 4 1, 3) := by decide +kernel
theorem dX7_becomeProduct_98 : decode cX7_becomeProduct 98 = .ok (.goto (-80), 3) := by decide +kernel
theorem dX7_becomeProduct_101 : decode cX7_becomeProduct 101 = .ok (.iconst 1, 1) := by decide +kernel
theorem dX7_becomeProduct_102 : decode cX7_becomeProduct 102 = .ok (.ireturn, 1) := by decide +kernel
set_option maxRecDepth 20000 in
theorem ggX7_placeBlock_X7_number : GoodIn wsX7_placeBlock wsX7_number := goodIn_r _ [6, 7, 8, 9, 5, 10, 15, 16] (by decide +kernel) (by decide +kernel)
set_option maxRecDepth 20000 in
theorem gX7_placeBlock_X7_number : GoodIn wsX7_placeBlock (wsV RX7 43 RX7 yX7_number wsX7_number) := goodIn_app (goodIn_of _ (by decide +kernel)) ggX7_placeBlock_X7_number
set_option maxRecDepth 20000 in
theorem ggX7_placeBlock_X7_setNumber : GoodIn wsX7_placeBlock wsX7_setNumber := goodIn_r _ [14, 7, 8, 9, 5, 10, 15, 16] (by decide +kernel) (by decide +kernel)
set_option maxRecDepth 20000 in
theorem gX7_placeBlock_X7_setNumber : GoodIn wsX7_placeBlock (wsV RX7 33 RX7 yX7_setNumber wsX7_setNumber) := goodIn_app (goodIn_of _ (by decide +kernel)) ggX7_placeBlock_X7_setNumber
theorem dX7_placeBlock_0 : decode cX7_placeBlock 0 = .ok (.iconst 0, 1) := by decide +kernel
theorem dX7_placeBlock_1 : decode cX7_placeBlock 1 = .ok (.istore 6, 2) := by decide +kernel
theorem dX7_placeBlock_3 : decode cX7_placeBlock 3 = .ok (.iload 6, 2) := by decide +kernel
theorem dX7_placeBlock_5 : decode cX7_placeBlock 5 = .ok (.aload_n 1, 1) := by decide +kernel
theorem dX7_placeBlock_6 : decode cX7_placeBlock 6 = .ok (.getfield 19, 3) := by decide +kernel
theorem dX7_placeBlock_9 : decode cX7_placeBlock 9 = .ok (.if_icmp .ge 88, 3) := by decide +kernel
theorem dX7_placeBlock_12 : decode cX7_placeBlock 12 = .ok (.iconst 0, 1) := by decide +kernel
theorem dX7_placeBlock_13 : decode cX7_placeBlock 13 = .ok (.istore 7, 2) := by decide +kernel
theorem dX7_placeBlock_15 : decode cX7_placeBlock 15 = .ok (.iload 7, 2) := by decide +kernel
theorem dX7_placeBlock_17 : decode cX7_placeBlock 17 = .ok (.aload_n 1, 1) := by decide +kernel
theorem dX7_placeBlock_18 : decode cX7_placeBlock 18 = .ok (.getfield 19, 3) := by decide +kernel
theorem dX7_placeBlock_21 : decode cX7_placeBlock 21 = .ok (.if_icmp .ge 70, 3) := by decide +kernel
theorem dX7_placeBlock_24 : decode cX7_placeBlock 24 = .ok (.iconst 0, 1) := by decide +kernel
theorem dX7_placeBlock_25 : decode cX7_placeBlock 25 = .ok (.istore 8, 2) := by decide +kernel
theorem dX7_placeBlock_27 : decode cX7_placeBlock 27 = .ok (.iload 8, 2) := by decide +kernel
theorem dX7_placeBlock_29 : decode cX7_placeBlock 29 = .ok (.aload_n 1, 1) := by decide +kernel
theorem dX7_placeBlock_30 : decode cX7_placeBlock 30 = .ok (.getfield 19, 3) := by decide +kernel
theorem dX7_placeBlock_33 : decode cX7_placeBlock 33 = .ok (.if_icmp .ge 52, 3) := by decide +kernel
theorem dX7_placeBlock_36 : decode cX7_placeBlock 36 = .ok (.iload_n 2, 1) := by decide +kernel
theorem dX7_placeBlock_37 : decode cX7_placeBlock 37 = .ok (.aload_n 1, 1) := by decide +kernel
theorem dX7_placeBlock_38 : decode cX7_placeBlock 38 = .ok (.iload 6, 2) := by decide +kernel
theorem dX7_placeBlock_40 : decode cX7_placeBlock 40 = .ok (.iload 7, 2) := by decide +kernel
theorem dX7_placeBlock_42 : decode cX7_placeBlock 42 = .ok (.iload 8, 2) := by decide +kernel
theorem dX7_placeBlock_44 : decode cX7_placeBlock 44 = .ok (.invokevirtual 43, 3) := by decide +kernel
theorem dX7_placeBlock_47 : decode cX7_placeBlock 47 = .ok (.imul, 1) := by decide +kernel
theorem dX7_placeBlock_48 : decode cX7_placeBlock 48 = .ok (.istore 9, 2) := by decide +kernel
theorem dX7_placeBlock_50 : decode cX7_placeBlock 50 = .ok (.iload 9, 2) := by decide +kernel
theorem dX7_placeBlock_52 : decode cX7_placeBlock 52 = .ok (.bipush 9, 2) := by decide +kernel
theorem dX7_placeBlock_54 : decode cX7_placeBlock 54 = .ok (.if_icmp .le 5, 3) := by decide +kernel
theorem dX7_placeBlock_57 : decode cX7_placeBlock 57 = .ok (.iconst 0, 1) := by decide +kernel
theorem dX7_placeBlock_58 : decode cX7_placeBlock 58 = .ok (.ireturn, 1) := by decide +kernel
theorem dX7_placeBlock_59 : decode cX7_placeBlock 59 = .ok (.aload_n 0, 1) := by decide +kernel
theorem dX7_placeBlock_60 : decode cX7_placeBlock 60 = .ok (.iload_n 3, 1) := by decide +kernel
theorem dX7_placeBlock_61 : decode cX7_placeBlock 61 = .ok (.iload 6, 2) := by decide +kernel
theorem dX7_placeBlock_63 : decode cX7_placeBlock 63 = .ok (.iadd, 1) := by decide +kernel
theorem dX7_placeBlock_64 : decode cX7_placeBlock 64 = .ok (.iload 4, 2) := by decide +kernel
theorem dX7_placeBlock_66 : decode cX7_placeBlock 66 = .ok (.iload 7, 2) := by decide +kernel
theorem dX7_placeBlock_68 : decode cX7_placeBlock 68 = .ok (.iadd, 1) := by decide +kernel
theorem dX7_placeBlock_69 : decode cX7_placeBlock 69 = .ok (.iload 5, 2) := by decide +kernel
theorem dX7_placeBlock_71 : decode cX7_placeBlock 71 = .ok (.iload 8, 2) := by decide +kernel
theorem dX7_placeBlock_73 : decode cX7_placeBlock 73 = .ok (.iadd, 1) := by decide +kernel
theorem dX7_placeBlock_74 : decode cX7_placeBlock 74 = .ok (.iload 9, 2) := by decide +kernel
theorem dX7_placeBlock_76 : decode cX7_placeBlock 76 = .ok (.invokevirtual 33, 3) := by decide +kernel
theorem dX7_placeBlock_79 : decode cX7_placeBlock 79 = .ok (.iinc 8 1, 3) := by decide +kernel
theorem dX7_placeBlock_82 : decode cX7_placeBlock 82 = .ok (.goto (-55), 3) := by decide +kernel
theorem dX7_placeBlock_85 : decode cX7_placeBlock 85 = .ok (.iinc 7 1, 3) := by decide +kernel
theorem dX7_placeBlock_88 : decode cX7_placeBlock 88 = .ok (.goto (-73), 3) := by decide +kernel
theorem dX7_placeBlock_91 : decode cX7_placeBlock 91 = .ok (.iinc 6 1, 3) := by decide +kernel
theorem dX7_placeBlock_94 : decode cX7_placeBlock 94 = .ok (.goto (-91), 3) := by decide +kernel
theorem dX7_placeBlock_97 : decode cX7_placeBlock 97 = .ok (.iconst 1, 1) := by decide +kernel
theorem dX7_placeBlock_98 : decode cX7_placeBlock 98 = .ok (.ireturn, 1) := by decide +kernel
set_option maxRecDepth 20000 in
theorem ggX7_mixInto_X7_number : GoodIn wsX7_mixInto wsX7_number := goodIn_r _ [7, 8, 9, 10, 6, 11, 12, 13] (by decide +kernel) (by decide +kernel)
set_option maxRecDepth 20000 in
theorem gX7_mixInto_X7_number : GoodIn wsX7_mixInto (wsV RX7 43 RX7 yX7_number wsX7_number) := goodIn_app (goodIn_of _ (by decide +kernel)) ggX7_mixInto_X7_number
theorem dX7_mixInto_0 : decode cX7_mixInto 0 = .ok (.ldc2_w 50, 3) := by decide +kernel
theorem dX7_mixInto_3 : decode cX7_mixInto 3 = .ok (.lload_n 1, 1) := by decide +kernel
theorem dX7_mixInto_4 : decode cX7_mixInto 4 = .ok (.lmul, 1) := by decide +kernel
theorem dX7_mixInto_5 : decode cX7_mixInto 5 = .ok (.aload_n 0, 1) := by decide +kernel
theorem dX7_mixInto_6 : decode cX7_mixInto 6 = .ok (.getfield 19, 3) := by decide +kernel
theorem dX7_mixInto_9 : decode cX7_mixInto 9 = .ok (.i2l, 1) := by decide +kernel
theorem dX7_mixInto_10 : decode cX7_mixInto 10 = .ok (.ladd, 1) := by decide +kernel
theorem dX7_mixInto_11 : decode cX7_mixInto 11 = .ok (.lstore_n 3, 1) := by decide +kernel
theorem dX7_mixInto_12 : decode cX7_mixInto 12 = .ok (.iconst 0, 1) := by decide +kernel
theorem dX7_mixInto_13 : decode cX7_mixInto 13 = .ok (.istore 5, 2) := by decide +kernel
theorem dX7_mixInto_15 : decode cX7_mixInto 15 = .ok (.iload 5, 2) := by decide +kernel
theorem dX7_mixInto_17 : decode cX7_mixInto 17 = .ok (.aload_n 0, 1) := by decide +kernel
theorem dX7_mixInto_18 : decode cX7_mixInto 18 = .ok (.getfield 19, 3) := by decide +kernel
theorem dX7_mixInto_21 : decode cX7_mixInto 21 = .ok (.if_icmp .ge 63, 3) := by decide +kernel
theorem dX7_mixInto_24 : decode cX7_mixInto 24 = .ok (.iconst 0, 1) := by decide +kernel
theorem dX7_mixInto_25 : decode cX7_mixInto 25 = .ok (.istore 6, 2) := by decide +kernel
theorem dX7_mixInto_27 : decode cX7_mixInto 27 = .ok (.iload 6, 2) := by decide +kernel
theorem dX7_mixInto_29 : decode cX7_mixInto 29 = .ok (.aload_n 0, 1) := by decide +kernel
theorem dX7_mixInto_30 : decode cX7_mixInto 30 = .ok (.getfield 19, 3) := by decide +kernel
theorem dX7_mixInto_33 : decode cX7_mixInto 33 = .ok (.if_icmp .ge 45, 3) := by decide +kernel
theorem dX7_mixInto_36 : decode cX7_mixInto 36 = .ok (.iconst 0, 1) := by decide +kernel
theorem dX7_mixInto_37 : decode cX7_mixInto 37 = .ok (.istore 7, 2) := by decide +kernel
theorem dX7_mixInto_39 : decode cX7_mixInto 39 = .ok (.iload 7, 2) := by decide +kernel
theorem dX7_mixInto_41 : decode cX7_mixInto 41 = .ok (.aload_n 0, 1) := by decide +kernel
theorem dX7_mixInto_42 : decode cX7_mixInto 42 = .ok (.getfield 19, 3) := by decide +kernel
theorem dX7_mixInto_45 : decode cX7_mixInto 45 = .ok (.if_icmp .ge 27, 3) := by decide +kernel
theorem dX7_mixInto_48 : decode cX7_mixInto 48 = .ok (.ldc2_w 50, 3) := by decide +kernel
theorem dX7_mixInto_51 : decode cX7_mixInto 51 = .ok (.lload_n 3, 1) := by decide +kernel
theorem dX7_mixInto_52 : decode cX7_mixInto 52 = .ok (.lmul, 1) := by decide +kernel
theorem dX7_mixInto_53 : decode cX7_mixInto 53 = .ok (.aload_n 0, 1) := by decide +kernel
theorem dX7_mixInto_54 : decode cX7_mixInto 54 = .ok (.iload 5, 2) := by decide +kernel
theorem dX7_mixInto_56 : decode cX7_mixInto 56 = .ok (.iload 6, 2) := by decide +kernel
theorem dX7_mixInto_58 : decode cX7_mixInto 58 = .ok (.iload 7, 2) := by decide +kernel
theorem dX7_mixInto_60 : decode cX7_mixInto 60 = .ok (.invokevirtual 43, 3) := by decide +kernel
theorem dX7_mixInto_63 : decode cX7_mixInto 63 = .ok (.i2l, 1) := by decide +kernel
theorem dX7_mixInto_64 : decode cX7_mixInto 64 = .ok (.ladd, 1) := by decide +kernel
theorem dX7_mixInto_65 : decode cX7_mixInto 65 = .ok (.lstore_n 3, 1) := by decide +kernel
theorem dX7_mixInto_66 : decode cX7_mixInto 66 = .ok (.iinc 7 1, 3) := by decide +kernel
theorem dX7_mixInto_69 : decode cX7_mixInto 69 = .ok (.goto (-30), 3) := by decide +kernel
theorem dX7_mixInto_72 : decode cX7_mixInto 72 = .ok (.iinc 6 1, 3) := by decide +kernel
theorem dX7_mixInto_75 : decode cX7_mixInto 75 = .ok (.goto (-48), 3) := by decide +kernel
theorem dX7_mixInto_78 : decode cX7_mixInto 78 = .ok (.iinc 5 1, 3) := by decide +kernel
theorem dX7_mixInto_81 : decode cX7_mixInto 81 = .ok (.goto (-66), 3) := by decide +kernel
theorem dX7_mixInto_84 : decode cX7_mixInto 84 = .ok (.lload_n 3, 1) := by decide +kernel
theorem dX7_mixInto_85 : decode cX7_mixInto 85 = .ok (.lreturn, 1) := by decide +kernel
set_option maxRecDepth 20000 in
theorem ggX8_init_X7_init : GoodIn wsX8_init wsX7_init := goodIn_r _ [37, 38, 2, 3, 33, 39, 40, 41, 42, 7, 43, 44, 45, 46, 47, 48, 49, 50, 51, 52, 53, 54, 55, 101, 102] (by decide +kernel) (by decide +kernel)
set_option maxRecDepth 20000 in
theorem gX8_init_X7_init : GoodIn wsX8_init (wsX7_init) := ggX8_init_X7_init
set_option maxRecDepth 20000 in
theorem ggX8_init_X1_init : GoodIn wsX8_init wsX1_init := goodIn_r _ [57, 58, 2, 3, 33, 59, 60, 103, 104, 105] (by decide +kernel) (by decide +kernel)
set_option maxRecDepth 20000 in
theorem gX8_init_X1_init_n22 : GoodIn wsX8_init (wsX1_init) := ggX8_init_X1_init
set_option maxRecDepth 20000 in
theorem ggX8_init_X6_init : GoodIn wsX8_init wsX6_init := goodIn_r _ [62, 63, 2, 3, 64, 65, 66, 106, 107] (by decide +kernel) (by decide +kernel)
set_option maxRecDepth 20000 in
theorem gX8_init_X6_init_n29 : GoodIn wsX8_init (wsX6_init) := ggX8_init_X6_init
set_option maxRecDepth 20000 in
theorem ggX8_init_X2_init : GoodIn wsX8_init wsX2_init := goodIn_r _ [68, 69, 2, 3, 33, 70, 71, 72, 73, 6, 7, 74, 75, 10, 11, 76, 77, 36, 37, 38, 39, 40, 41, 42, 43, 44, 45, 46, 47, 48, 49, 50, 51, 52, 53, 54, 55, 56, 57, 58, 59, 60, 108, 109, 110, 111, 112, 113, 114, 115, 116, 117, 101, 102, 103, 104, 105] (by decide +kernel) (by decide +kernel)
set_option maxRecDepth 20000 in
theorem gX8_init_X2_init_n36 : GoodIn wsX8_init (wsX2_init) := ggX8_init_X2_init
set_option maxRecDepth 20000 in
theorem ggX8_init_X3_init : GoodIn wsX8_init wsX3_init := goodIn_r _ [79, 80, 2, 3, 33, 81, 118] (by decide +kernel) (by decide +kernel)
set_option maxRecDepth 20000 in
theorem gX8_init_X3_init_n43 : GoodIn wsX8_init (wsX3_init) := ggX8_init_X3_init
set_option maxRecDepth 20000 in
theorem ggX8_init_X4_init : GoodIn wsX8_init wsX4_init := goodIn_r _ [83, 84, 2, 3, 33, 85, 119, 120] (by decide +kernel) (by decide +kernel)
set_option maxRecDepth 20000 in
theorem gX8_init_X4_init_n50 : GoodIn wsX8_init (wsX4_init) := ggX8_init_X4_init
set_option maxRecDepth 20000 in
theorem ggX8_init_X0_init : GoodIn wsX8_init wsX0_init := goodIn_r _ [87, 88, 2, 3, 33, 89, 64, 90, 121, 122] (by decide +kernel) (by decide +kernel)
set_option maxRecDepth 20000 in
theorem gX8_init_X0_init_n57 : GoodIn wsX8_init (wsX0_init) := ggX8_init_X0_init
theorem dX8_init_0 : decode cX8_init 0 = .ok (.aload_n 0, 1) := by decide +kernel
theorem dX8_init_1 : decode cX8_init 1 = .ok (.invokespecial 1, 3) := by decide +kernel
theorem dX8_init_4 : decode cX8_init 4 = .ok (.aload_n 0, 1) := by decide +kernel
theorem dX8_init_5 : decode cX8_init 5 = .ok (.bipush 6, 2) := by decide +kernel
theorem dX8_init_7 : decode cX8_init 7 = .ok (.anewarray 9, 3) := by decide +kernel
theorem dX8_init_10 : decode cX8_init 10 = .ok (.putfield 11, 3) := by decide +kernel
theorem dX8_init_13 : decode cX8_init 13 = .ok (.aload_n 0, 1) := by decide +kernel
theorem dX8_init_14 : decode cX8_init 14 = .ok (.new 9, 3) := by decide +kernel
theorem dX8_init_17 : decode cX8_init 17 = .ok (.dup, 1) := by decide +kernel
theorem dX8_init_18 : decode cX8_init 18 = .ok (.invokespecial 15, 3) := by decide +kernel
theorem dX8_init_21 : decode cX8_init 21 = .ok (.putfield 16, 3) := by decide +kernel
theorem dX8_init_24 : decode cX8_init 24 = .ok (.aload_n 0, 1) := by decide +kernel
theorem dX8_init_25 : decode cX8_init 25 = .ok (.new 20, 3) := by decide +kernel
theorem dX8_init_28 : decode cX8_init 28 = .ok (.dup, 1) := by decide +kernel
theorem dX8_init_29 : decode cX8_init 29 = .ok (.invokespecial 22, 3) := by decide +kernel
theorem dX8_init_32 : decode cX8_init 32 = .ok (.putfield 23, 3) := by decide +kernel
theorem dX8_init_35 : decode cX8_init 35 = .ok (.aload_n 0, 1) := by decide +kernel
theorem dX8_init_36 : decode cX8_init 36 = .ok (.new 27, 3) := by decide +kernel
theorem dX8_init_39 : decode cX8_init 39 = .ok (.dup, 1) := by decide +kernel
theorem dX8_init_40 : decode cX8_init 40 = .ok (.invokespecial 29, 3) := by decide +kernel
theorem dX8_init_43 : decode cX8_init 43 = .ok (.putfield 30, 3) := by decide +kernel
theorem dX8_init_46 : decode cX8_init 46 = .ok (.aload_n 0, 1) := by decide +kernel
theorem dX8_init_47 : decode cX8_init 47 = .ok (.new 34, 3) := by decide +kernel
theorem dX8_init_50 : decode cX8_init 50 = .ok (.dup, 1) := by decide +kernel
theorem dX8_init_51 : decode cX8_init 51 = .ok (.invokespecial 36, 3) := by decide +kernel
theorem dX8_init_54 : decode cX8_init 54 = .ok (.putfield 37, 3) := by decide +kernel
theorem dX8_init_57 : decode cX8_init 57 = .ok (.aload_n 0, 1) := by decide +kernel
theorem dX8_init_58 : decode cX8_init 58 = .ok (.new 41, 3) := by decide +kernel
theorem dX8_init_61 : decode cX8_init 61 = .ok (.dup, 1) := by decide +kernel
theorem dX8_init_62 : decode cX8_init 62 = .ok (.invokespecial 43, 3) := by decide +kernel
theorem dX8_init_65 : decode cX8_init 65 = .ok (.putfield 44, 3) := by decide +kernel
theorem dX8_init_68 : decode cX8_init 68 = .ok (.aload_n 0, 1) := by decide +kernel
theorem dX8_init_69 : decode cX8_init 69 = .ok (.new 48, 3) := by decide +kernel
theorem dX8_init_72 : decode cX8_init 72 = .ok (.dup, 1) := by decide +kernel
theorem dX8_init_73 : decode cX8_init 73 = .ok (.invokespecial 50, 3) := by decide +kernel
theorem dX8_init_76 : decode cX8_init 76 = .ok (.putfield 51, 3) := by decide +kernel
theorem dX8_init_79 : decode cX8_init 79 = .ok (.aload_n 0, 1) := by decide +kernel
theorem dX8_init_80 : decode cX8_init 80 = .ok (.new 55, 3) := by decide +kernel
theorem dX8_init_83 : decode cX8_init 83 = .ok (.dup, 1) := by decide +kernel
theorem dX8_init_84 : decode cX8_init 84 = .ok (.invokespecial 57, 3) := by decide +kernel
theorem dX8_init_87 : decode cX8_init 87 = .ok (.putfield 58, 3) := by decide +kernel
theorem dX8_init_90 : decode cX8_init 90 = .ok (.aload_n 0, 1) := by decide +kernel
theorem dX8_init_91 : decode cX8_init 91 = .ok (.bipush 14, 2) := by decide +kernel
theorem dX8_init_93 : decode cX8_init 93 = .ok (.newarray .int, 2) := by decide +kernel
theorem dX8_init_95 : decode cX8_init 95 = .ok (.putfield 62, 3) := by decide +kernel
theorem dX8_init_98 : decode cX8_init 98 = .ok (.iconst 0, 1) := by decide +kernel
theorem dX8_init_99 : decode cX8_init 99 = .ok (.istore_n 1, 1) := by decide +kernel
theorem dX8_init_100 : decode cX8_init 100 = .ok (.iload_n 1, 1) := by decide +kernel
theorem dX8_init_101 : decode cX8_init 101 = .ok (.bipush 6, 2) := by decide +kernel
theorem dX8_init_103 : decode cX8_init 103 = .ok (.if_icmp .ge 22, 3) := by decide +kernel
theorem dX8_init_106 : decode cX8_init 106 = .ok (.aload_n 0, 1) := by decide +kernel
theorem dX8_init_107 : decode cX8_init 107 = .ok (.getfield 11, 3) := by decide +kernel
theorem dX8_init_110 : decode cX8_init 110 = .ok (.iload_n 1, 1) := by decide +kernel
theorem dX8_init_111 : decode cX8_init 111 = .ok (.new 9, 3) := by decide +kernel
theorem dX8_init_114 : decode cX8_init 114 = .ok (.dup, 1) := by decide +kernel
theorem dX8_init_115 : decode cX8_init 115 = .ok (.invokespecial 15, 3) := by decide +kernel
theorem dX8_init_118 : decode cX8_init 118 = .ok (.aastore, 1) := by decide +kernel
theorem dX8_init_119 : decode cX8_init 119 = .ok (.iinc 1 1, 3) := by decide +kernel
theorem dX8_init_122 : decode cX8_init 122 = .ok (.goto (-22), 3) := by decide +kernel
theorem dX8_init_125 : decode cX8_init 125 = .ok (.return_, 1) := by decide +kernel
set_option maxRecDepth 20000 in
theorem ggX8_rank_X8_isTable : GoodIn wsX8_rank wsX8_isTable := goodIn_r _ [5] (by decide +kernel) (by decide +kernel)
set_option maxRecDepth 20000 in
theorem gX8_rank_X8_isTable : GoodIn wsX8_rank (va_wsS RX8 66 yX8_isTable wsX8_isTable) := goodIn_app (goodIn_of _ (by decide +kernel)) ggX8_rank_X8_isTable
set_option maxRecDepth 20000 in
theorem ggX8_rank_X7_reset : GoodIn wsX8_rank wsX7_reset := goodIn_r _ [10, 11, 12, 13, 14, 15, 16, 17, 18, 19, 9, 20, 21, 22, 23, 34, 35] (by decide +kernel) (by decide +kernel)
set_option maxRecDepth 20000 in
theorem gX8_rank_X7_reset : GoodIn wsX8_rank (wsV RX8 70 RX7 yX7_reset wsX7_reset) := goodIn_app (goodIn_of _ (by decide +kernel)) ggX8_rank_X7_reset
theorem dX8_rank_0 : decode cX8_rank 0 = .ok (.iload_n 1, 1) := by decide +kernel
theorem dX8_rank_1 : decode cX8_rank 1 = .ok (.invokestatic 66, 3) := by decide +kernel
theorem dX8_rank_4 : decode cX8_rank 4 = .ok (.ifCond .eq 13, 3) := by decide +kernel
theorem dX8_rank_7 : decode cX8_rank 7 = .ok (.iload_n 2, 1) := by decide +kernel
theorem dX8_rank_8 : decode cX8_rank 8 = .ok (.iconst 1, 1) := by decide +kernel
theorem dX8_rank_9 : decode cX8_rank 9 = .ok (.if_icmp .lt 8, 3) := by decide +kernel
theorem dX8_rank_12 : decode cX8_rank 12 = .ok (.iload_n 2, 1) := by decide +kernel
theorem dX8_rank_13 : decode cX8_rank 13 = .ok (.iconst 5, 1) := by decide +kernel
theorem dX8_rank_14 : decode cX8_rank 14 = .ok (.if_icmp .le 6, 3) := by decide +kernel
theorem dX8_rank_17 : decode cX8_rank 17 = .ok (.bipush (-2), 2) := by decide +kernel
theorem dX8_rank_19 : decode cX8_rank 19 = .ok (.ireturn, 1) := by decide +kernel
theorem dX8_rank_20 : decode cX8_rank 20 = .ok (.aload_n 0, 1) := by decide +kernel
theorem dX8_rank_21 : decode cX8_rank 21 = .ok (.getfield 11, 3) := by decide +kernel
theorem dX8_rank_24 : decode cX8_rank 24 = .ok (.iload_n 1, 1) := by decide +kernel
theorem dX8_rank_25 : decode cX8_rank 25 = .ok (.aaload, 1) := by decide +kernel
theorem dX8_rank_26 : decode cX8_rank 26 = .ok (.iload_n 2, 1) := by decide +kernel
theorem dX8_rank_27 : decode cX8_rank 27 = .ok (.invokevirtual 70, 3) := by decide +kernel
theorem dX8_rank_30 : decode cX8_rank 30 = .ok (.iconst 1, 1) := by decide +kernel
theorem dX8_rank_31 : decode cX8_rank 31 = .ok (.ireturn, 1) := by decide +kernel
set_option maxRecDepth 20000 in
theorem ggX8_put_X8_isPlace : GoodIn wsX8_put wsX8_isPlace := goodIn_r _ [6, 1, 7, 8, 9, 5, 10, 11, 12, 13, 14, 15, 16, 17, 18, 19, 32, 33, 34, 35, 36, 37, 38, 39, 40, 41, 42, 43] (by decide +kernel) (by decide +kernel)
set_option maxRecDepth 20000 in
theorem gX8_put_X8_isPlace : GoodIn wsX8_put (wsV RX8 74 RX8 yX8_isPlace wsX8_isPlace) := goodIn_app (goodIn_of _ (by decide +kernel)) ggX8_put_X8_isPlace
set_option maxRecDepth 20000 in
theorem ggX8_put_X7_number : GoodIn wsX8_put wsX7_number := goodIn_r _ [23, 24, 25, 26, 17, 27, 42, 43] (by decide +kernel) (by decide +kernel)
set_option maxRecDepth 20000 in
theorem gX8_put_X7_number : GoodIn wsX8_put (wsV RX8 78 RX7 yX7_number wsX7_number) := goodIn_app (goodIn_of _ (by decide +kernel)) ggX8_put_X7_number
set_option maxRecDepth 20000 in
theorem ggX8_put_X7_setNumber : GoodIn wsX8_put wsX7_setNumber := goodIn_r _ [31, 24, 25, 26, 17, 27, 42, 43] (by decide +kernel) (by decide +kernel)
set_option maxRecDepth 20000 in
theorem gX8_put_X7_setNumber : GoodIn wsX8_put (wsV RX8 82 RX7 yX7_setNumber wsX7_setNumber) := goodIn_app (goodIn_of _ (by decide +kernel)) ggX8_put_X7_setNumber
theorem dX8_put_0 : decode cX8_put 0 = .ok (.aload_n 0, 1) := by decide +kernel
theorem dX8_put_1 : decode cX8_put 1 = .ok (.iload_n 1, 1) := by decide +kernel
theorem dX8_put_2 : decode cX8_put 2 = .ok (.iload_n 2, 1) := by decide +kernel
theorem dX8_put_3 : decode cX8_put 3 = .ok (.iload_n 3, 1) := by decide +kernel
theorem dX8_put_4 : decode cX8_put 4 = .ok (.iload 4, 2) := by decide +kernel
theorem dX8_put_6 : decode cX8_put 6 = .ok (.invokevirtual 74, 3) := by decide +kernel
theorem dX8_put_9 : decode cX8_put 9 = .ok (.ifCond .eq 15, 3) := by decide +kernel
theorem dX8_put_12 : decode cX8_put 12 = .ok (.iload 5, 2) := by decide +kernel
theorem dX8_put_14 : decode cX8_put 14 = .ok (.ifCond .lt 10, 3) := by decide +kernel
theorem dX8_put_17 : decode cX8_put 17 = .ok (.iload 5, 2) := by decide +kernel
theorem dX8_put_19 : decode cX8_put 19 = .ok (.bipush 9, 2) := by decide +kernel
theorem dX8_put_21 : decode cX8_put 21 = .ok (.if_icmp .le 6, 3) := by decide +kernel
theorem dX8_put_24 : decode cX8_put 24 = .ok (.bipush (-2), 2) := by decide +kernel
theorem dX8_put_26 : decode cX8_put 26 = .ok (.ireturn, 1) := by decide +kernel
theorem dX8_put_27 : decode cX8_put 27 = .ok (.aload_n 0, 1) := by decide +kernel
theorem dX8_put_28 : decode cX8_put 28 = .ok (.getfield 11, 3) := by decide +kernel
theorem dX8_put_31 : decode cX8_put 31 = .ok (.iload_n 1, 1) := by decide +kernel
theorem dX8_put_32 : decode cX8_put 32 = .ok (.aaload, 1) := by decide +kernel
theorem dX8_put_33 : decode cX8_put 33 = .ok (.iload_n 2, 1) := by decide +kernel
theorem dX8_put_34 : decode cX8_put 34 = .ok (.iload_n 3, 1) := by decide +kernel
theorem dX8_put_35 : decode cX8_put 35 = .ok (.iload 4, 2) := by decide +kernel
theorem dX8_put_37 : decode cX8_put 37 = .ok (.invokevirtual 78, 3) := by decide +kernel
theorem dX8_put_40 : decode cX8_put 40 = .ok (.istore 6, 2) := by decide +kernel
theorem dX8_put_42 : decode cX8_put 42 = .ok (.aload_n 0, 1) := by decide +kernel
theorem dX8_put_43 : decode cX8_put 43 = .ok (.getfield 11, 3) := by decide +kernel
theorem dX8_put_46 : decode cX8_put 46 = .ok (.iload_n 1, 1) := by decide +kernel
theorem dX8_put_47 : decode cX8_put 47 = .ok (.aaload, 1) := by decide +kernel
theorem dX8_put_48 : decode cX8_put 48 = .ok (.iload_n 2, 1) := by decide +kernel
theorem dX8_put_49 : decode cX8_put 49 = .ok (.iload_n 3, 1) := by decide +kernel
theorem dX8_put_50 : decode cX8_put 50 = .ok (.iload 4, 2) := by decide +kernel
theorem dX8_put_52 : decode cX8_put 52 = .ok (.iload 5, 2) := by decide +kernel
theorem dX8_put_54 : decode cX8_put 54 = .ok (.invokevirtual 82, 3) := by decide +kernel
theorem dX8_put_57 : decode cX8_put 57 = .ok (.iload 6, 2) := by decide +kernel
theorem dX8_put_59 : decode cX8_put 59 = .ok (.ireturn, 1) := by decide +kernel
set_option maxRecDepth 20000 in
theorem ggX8_at_X8_isPlace : GoodIn wsX8_at wsX8_isPlace := goodIn_r _ [6, 1, 7, 8, 9, 5, 10, 11, 12, 13, 14, 15, 16, 17, 18, 19, 28, 29, 30, 31, 32, 33, 34, 35, 36, 37, 38, 39] (by decide +kernel) (by decide +kernel)
set_option maxRecDepth 20000 in
theorem gX8_at_X8_isPlace : GoodIn wsX8_at (wsV RX8 74 RX8 yX8_isPlace wsX8_isPlace) := goodIn_app (goodIn_of _ (by decide +kernel)) ggX8_at_X8_isPlace
set_option maxRecDepth 20000 in
theorem ggX8_at_X7_number : GoodIn wsX8_at wsX7_number := goodIn_r _ [23, 24, 25, 26, 17, 27, 38, 39] (by decide +kernel) (by decide +kernel)
set_option maxRecDepth 20000 in
theorem gX8_at_X7_number : GoodIn wsX8_at (wsV RX8 78 RX7 yX7_number wsX7_number) := goodIn_app (goodIn_of _ (by decide +kernel)) ggX8_at_X7_number
theorem dX8_at_0 : decode cX8_at 0 = .ok (.aload_n 0, 1) := by decide +kernel
theorem dX8_at_1 : decode cX8_at 1 = .ok (.iload_n 1, 1) := by decide +kernel
theorem dX8_at_2 : decode cX8_at 2 = .ok (.iload_n 2, 1) := by decide +kernel
theorem dX8_at_3 : decode cX8_at 3 = .ok (.iload_n 3, 1) := by decide +kernel
theorem dX8_at_4 : decode cX8_at 4 = .ok (.iload 4, 2) := by decide +kernel
theorem dX8_at_6 : decode cX8_at 6 = .ok (.invokevirtual 74, 3) := by decide +kernel
theorem dX8_at_9 : decode cX8_at 9 = .ok (.ifCond .eq 19, 3) := by decide +kernel
theorem dX8_at_12 : decode cX8_at 12 = .ok (.aload_n 0, 1) := by decide +kernel
theorem dX8_at_13 : decode cX8_at 13 = .ok (.getfield 11, 3) := by decide +kernel
theorem dX8_at_16 : decode cX8_at 16 = .ok (.iload_n 1, 1) := by decide +kernel
theorem dX8_at_17 : decode cX8_at 17 = .ok (.aaload, 1) := by decide +kernel
theorem dX8_at_18 : decode cX8_at 18 = .ok (.iload_n 2, 1) := by decide +kernel
theorem dX8_at_19 : decode cX8_at 19 = .ok (.iload_n 3, 1) := by decide +kernel
theorem dX8_at_20 : decode cX8_at 20 = .ok (.iload 4, 2) := by decide +kernel
theorem dX8_at_22 : decode cX8_at 22 = .ok (.invokevirtual 78, 3) := by decide +kernel
theorem dX8_at_25 : decode cX8_at 25 = .ok (.goto 5, 3) := by decide +kernel
theorem dX8_at_28 : decode cX8_at 28 = .ok (.bipush (-2), 2) := by decide +kernel
theorem dX8_at_30 : decode cX8_at 30 = .ok (.ireturn, 1) := by decide +kernel
set_option maxRecDepth 20000 in
theorem ggX8_fault_X8_isTable : GoodIn wsX8_fault wsX8_isTable := goodIn_r _ [8] (by decide +kernel) (by decide +kernel)
set_option maxRecDepth 20000 in
theorem gX8_fault_X8_isTable : GoodIn wsX8_fault (va_wsS RX8 66 yX8_isTable wsX8_isTable) := goodIn_app (goodIn_of _ (by decide +kernel)) ggX8_fault_X8_isTable
set_option maxRecDepth 20000 in
theorem ggX8_fault_X1_allHold : GoodIn wsX8_fault wsX1_allHold := goodIn_r _ [13, 14, 15, 16, 17, 18, 19, 20, 21, 22, 12, 23, 24, 25, 26, 27, 28, 29, 30, 31, 32, 33, 34, 35, 36, 37, 38, 39, 40, 41, 42, 43, 44, 45, 46, 47, 48, 49, 50, 51, 52, 53, 54, 55, 56, 57, 68, 69, 70, 71, 72] (by decide +kernel) (by decide +kernel)
set_option maxRecDepth 20000 in
theorem gX8_fault_X1_allHold : GoodIn wsX8_fault (wsV RX8 86 RX1 yX1_allHold wsX1_allHold) := goodIn_app (goodIn_of _ (by decide +kernel)) ggX8_fault_X1_allHold
theorem dX8_fault_0 : decode cX8_fault 0 = .ok (.iload_n 1, 1) := by decide +kernel
theorem dX8_fault_1 : decode cX8_fault 1 = .ok (.invokestatic 66, 3) := by decide +kernel
theorem dX8_fault_4 : decode cX8_fault 4 = .ok (.ifCond .eq 12, 3) := by decide +kernel
theorem dX8_fault_7 : decode cX8_fault 7 = .ok (.iload_n 2, 1) := by decide +kernel
theorem dX8_fault_8 : decode cX8_fault 8 = .ok (.ifCond .lt 8, 3) := by decide +kernel
theorem dX8_fault_11 : decode cX8_fault 11 = .ok (.iload_n 2, 1) := by decide +kernel
theorem dX8_fault_12 : decode cX8_fault 12 = .ok (.iconst 4, 1) := by decide +kernel
theorem dX8_fault_13 : decode cX8_fault 13 = .ok (.if_icmp .le 6, 3) := by decide +kernel
theorem dX8_fault_16 : decode cX8_fault 16 = .ok (.bipush (-2), 2) := by decide +kernel
theorem dX8_fault_18 : decode cX8_fault 18 = .ok (.ireturn, 1) := by decide +kernel
theorem dX8_fault_19 : decode cX8_fault 19 = .ok (.aload_n 0, 1) := by decide +kernel
theorem dX8_fault_20 : decode cX8_fault 20 = .ok (.getfield 23, 3) := by decide +kernel
theorem dX8_fault_23 : decode cX8_fault 23 = .ok (.aload_n 0, 1) := by decide +kernel
theorem dX8_fault_24 : decode cX8_fault 24 = .ok (.getfield 11, 3) := by decide +kernel
theorem dX8_fault_27 : decode cX8_fault 27 = .ok (.iload_n 1, 1) := by decide +kernel
theorem dX8_fault_28 : decode cX8_fault 28 = .ok (.aaload, 1) := by decide +kernel
theorem dX8_fault_29 : decode cX8_fault 29 = .ok (.invokevirtual 86, 3) := by decide +kernel
theorem dX8_fault_32 : decode cX8_fault 32 = .ok (.pop, 1) := by decide +kernel
theorem dX8_fault_33 : decode cX8_fault 33 = .ok (.iload_n 2, 1) := by decide +kernel
theorem dX8_fault_34 : decode cX8_fault 34 = .ok (.ifCond .ne 13, 3) := by decide +kernel
theorem dX8_fault_37 : decode cX8_fault 37 = .ok (.aload_n 0, 1) := by decide +kernel
theorem dX8_fault_38 : decode cX8_fault 38 = .ok (.getfield 23, 3) := by decide +kernel
theorem dX8_fault_41 : decode cX8_fault 41 = .ok (.getfield 90, 3) := by decide +kernel
theorem dX8_fault_44 : decode cX8_fault 44 = .ok (.goto 14, 3) := by decide +kernel
theorem dX8_fault_47 : decode cX8_fault 47 = .ok (.aload_n 0, 1) := by decide +kernel
theorem dX8_fault_48 : decode cX8_fault 48 = .ok (.getfield 23, 3) := by decide +kernel
theorem dX8_fault_51 : decode cX8_fault 51 = .ok (.getfield 94, 3) := by decide +kernel
theorem dX8_fault_54 : decode cX8_fault 54 = .ok (.iload_n 2, 1) := by decide +kernel
theorem dX8_fault_55 : decode cX8_fault 55 = .ok (.iconst 1, 1) := by decide +kernel
theorem dX8_fault_56 : decode cX8_fault 56 = .ok (.isub, 1) := by decide +kernel
theorem dX8_fault_57 : decode cX8_fault 57 = .ok (.iaload, 1) := by decide +kernel
theorem dX8_fault_58 : decode cX8_fault 58 = .ok (.ireturn, 1) := by decide +kernel
set_option maxRecDepth 20000 in
theorem ggX8_partner_X8_isKind : GoodIn wsX8_partner wsX8_isKind := goodIn_r _ [7, 8, 9, 10, 6, 11, 12, 13, 14, 15, 16, 17, 70, 71, 72, 73, 74, 75, 76, 77, 78, 79, 83, 84] (by decide +kernel) (by decide +kernel)
set_option maxRecDepth 20000 in
theorem gX8_partner_X8_isKind : GoodIn wsX8_partner (wsV RX8 97 RX8 yX8_isKind wsX8_isKind) := goodIn_app (goodIn_of _ (by decide +kernel)) ggX8_partner_X8_isKind
set_option maxRecDepth 20000 in
theorem ggX8_partner_X8_isRight : GoodIn wsX8_partner wsX8_isRight := goodIn_r _ [21, 1, 8, 22, 23, 24, 25, 26, 27, 28, 29, 30, 31, 32, 33, 34, 35, 36, 37, 38, 39, 40, 15, 41, 42, 43, 44, 45, 46, 47, 48, 49, 50, 51, 52, 53, 54, 55, 56, 57, 58, 59, 60, 61, 62, 63, 64, 65, 66, 67, 68, 69, 70, 71, 72, 73, 74, 75, 76, 77, 78, 79, 80, 81, 82, 83, 84] (by decide +kernel) (by decide +kernel)
set_option maxRecDepth 20000 in
theorem gX8_partner_X8_isRight : GoodIn wsX8_partner (wsV RX8 101 RX8 yX8_isRight wsX8_isRight) := goodIn_app (goodIn_of _ (by decide +kernel)) ggX8_partner_X8_isRight
theorem dX8_partner_0 : decode cX8_partner 0 = .ok (.aload_n 0, 1) := by decide +kernel
theorem dX8_partner_1 : decode cX8_partner 1 = .ok (.iload_n 1, 1) := by decide +kernel
theorem dX8_partner_2 : decode cX8_partner 2 = .ok (.iload_n 2, 1) := by decide +kernel
theorem dX8_partner_3 : decode cX8_partner 3 = .ok (.invokevirtual 97, 3) := by decide +kernel
theorem dX8_partner_6 : decode cX8_partner 6 = .ok (.ifCond .ne 6, 3) := by decide +kernel
theorem dX8_partner_9 : decode cX8_partner 9 = .ok (.bipush (-2), 2) := by decide +kernel
theorem dX8_partner_11 : decode cX8_partner 11 = .ok (.ireturn, 1) := by decide +kernel
theorem dX8_partner_12 : decode cX8_partner 12 = .ok (.aload_n 0, 1) := by decide +kernel
theorem dX8_partner_13 : decode cX8_partner 13 = .ok (.iload_n 1, 1) := by decide +kernel
theorem dX8_partner_14 : decode cX8_partner 14 = .ok (.invokevirtual 101, 3) := by decide +kernel
theorem dX8_partner_17 : decode cX8_partner 17 = .ok (.ifCond .eq 15, 3) := by decide +kernel
theorem dX8_partner_20 : decode cX8_partner 20 = .ok (.aload_n 0, 1) := by decide +kernel
theorem dX8_partner_21 : decode cX8_partner 21 = .ok (.getfield 23, 3) := by decide +kernel
theorem dX8_partner_24 : decode cX8_partner 24 = .ok (.getfield 104, 3) := by decide +kernel
theorem dX8_partner_27 : decode cX8_partner 27 = .ok (.iload_n 2, 1) := by decide +kernel
theorem dX8_partner_28 : decode cX8_partner 28 = .ok (.iaload, 1) := by decide +kernel
theorem dX8_partner_29 : decode cX8_partner 29 = .ok (.goto 5, 3) := by decide +kernel
theorem dX8_partner_32 : decode cX8_partner 32 = .ok (.bipush (-3), 2) := by decide +kernel
theorem dX8_partner_34 : decode cX8_partner 34 = .ok (.ireturn, 1) := by decide +kernel
set_option maxRecDepth 20000 in
theorem ggX8_copy_X8_isTable : GoodIn wsX8_copy wsX8_isTable := goodIn_r _ [6] (by decide +kernel) (by decide +kernel)
set_option maxRecDepth 20000 in
theorem gX8_copy_X8_isTable : GoodIn wsX8_copy (va_wsS RX8 66 yX8_isTable wsX8_isTable) := goodIn_app (goodIn_of _ (by decide +kernel)) ggX8_copy_X8_isTable
set_option maxRecDepth 20000 in
theorem ggX8_copy_X7_become : GoodIn wsX8_copy wsX7_become := goodIn_r _ [11, 12, 13, 14, 15, 16, 17, 28, 29] (by decide +kernel) (by decide +kernel)
set_option maxRecDepth 20000 in
theorem gX8_copy_X7_become : GoodIn wsX8_copy (wsV RX8 107 RX7 yX7_become wsX7_become) := goodIn_app (goodIn_of _ (by decide +kernel)) ggX8_copy_X7_become
theorem dX8_copy_0 : decode cX8_copy 0 = .ok (.iload_n 1, 1) := by decide +kernel
theorem dX8_copy_1 : decode cX8_copy 1 = .ok (.invokestatic 66, 3) := by decide +kernel
theorem dX8_copy_4 : decode cX8_copy 4 = .ok (.ifCond .eq 10, 3) := by decide +kernel
theorem dX8_copy_7 : decode cX8_copy 7 = .ok (.iload_n 2, 1) := by decide +kernel
theorem dX8_copy_8 : decode cX8_copy 8 = .ok (.invokestatic 66, 3) := by decide +kernel
theorem dX8_copy_11 : decode cX8_copy 11 = .ok (.ifCond .ne 6, 3) := by decide +kernel
theorem dX8_copy_14 : decode cX8_copy 14 = .ok (.bipush (-2), 2) := by decide +kernel
theorem dX8_copy_16 : decode cX8_copy 16 = .ok (.ireturn, 1) := by decide +kernel
theorem dX8_copy_17 : decode cX8_copy 17 = .ok (.aload_n 0, 1) := by decide +kernel
theorem dX8_copy_18 : decode cX8_copy 18 = .ok (.getfield 11, 3) := by decide +kernel
theorem dX8_copy_21 : decode cX8_copy 21 = .ok (.iload_n 2, 1) := by decide +kernel
theorem dX8_copy_22 : decode cX8_copy 22 = .ok (.aaload, 1) := by decide +kernel
theorem dX8_copy_23 : decode cX8_copy 23 = .ok (.aload_n 0, 1) := by decide +kernel
theorem dX8_copy_24 : decode cX8_copy 24 = .ok (.getfield 11, 3) := by decide +kernel
theorem dX8_copy_27 : decode cX8_copy 27 = .ok (.iload_n 1, 1) := by decide +kernel
theorem dX8_copy_28 : decode cX8_copy 28 = .ok (.aaload, 1) := by decide +kernel
theorem dX8_copy_29 : decode cX8_copy 29 = .ok (.invokevirtual 107, 3) := by decide +kernel
theorem dX8_copy_32 : decode cX8_copy 32 = .ok (.aload_n 0, 1) := by decide +kernel
theorem dX8_copy_33 : decode cX8_copy 33 = .ok (.getfield 11, 3) := by decide +kernel
theorem dX8_copy_36 : decode cX8_copy 36 = .ok (.iload_n 2, 1) := by decide +kernel
theorem dX8_copy_37 : decode cX8_copy 37 = .ok (.aaload, 1) := by decide +kernel
theorem dX8_copy_38 : decode cX8_copy 38 = .ok (.getfield 111, 3) := by decide +kernel
theorem dX8_copy_41 : decode cX8_copy 41 = .ok (.ireturn, 1) := by decide +kernel
set_option maxRecDepth 20000 in
theorem ggX8_group_X8_isTable : GoodIn wsX8_group wsX8_isTable := goodIn_r _ [5] (by decide +kernel) (by decide +kernel)
set_option maxRecDepth 20000 in
theorem gX8_group_X8_isTable : GoodIn wsX8_group (va_wsS RX8 66 yX8_isTable wsX8_isTable) := goodIn_app (goodIn_of _ (by decide +kernel)) ggX8_group_X8_isTable
set_option maxRecDepth 20000 in
theorem ggX8_group_X7_reset : GoodIn wsX8_group wsX7_reset := goodIn_r _ [10, 11, 12, 13, 14, 15, 16, 17, 18, 19, 9, 20, 21, 22, 23, 38, 39] (by decide +kernel) (by decide +kernel)
set_option maxRecDepth 20000 in
theorem gX8_group_X7_reset : GoodIn wsX8_group (wsV RX8 70 RX7 yX7_reset wsX7_reset) := goodIn_app (goodIn_of _ (by decide +kernel)) ggX8_group_X7_reset
set_option maxRecDepth 20000 in
theorem ggX8_group_X7_fuseAsGroup : GoodIn wsX8_group wsX7_fuseAsGroup := goodIn_r _ [27, 17, 18, 19, 9, 20, 11, 21, 22, 23, 38, 39] (by decide +kernel) (by decide +kernel)
set_option maxRecDepth 20000 in
theorem gX8_group_X7_fuseAsGroup : GoodIn wsX8_group (wsV RX8 114 RX7 yX7_fuseAsGroup wsX7_fuseAsGroup) := goodIn_app (goodIn_of _ (by decide +kernel)) ggX8_group_X7_fuseAsGroup
theorem dX8_group_0 : decode cX8_group 0 = .ok (.iload_n 1, 1) := by decide +kernel
theorem dX8_group_1 : decode cX8_group 1 = .ok (.invokestatic 66, 3) := by decide +kernel
theorem dX8_group_4 : decode cX8_group 4 = .ok (.ifCond .eq 13, 3) := by decide +kernel
theorem dX8_group_7 : decode cX8_group 7 = .ok (.iload_n 2, 1) := by decide +kernel
theorem dX8_group_8 : decode cX8_group 8 = .ok (.iconst 1, 1) := by decide +kernel
theorem dX8_group_9 : decode cX8_group 9 = .ok (.if_icmp .lt 8, 3) := by decide +kernel
theorem dX8_group_12 : decode cX8_group 12 = .ok (.iload_n 2, 1) := by decide +kernel
theorem dX8_group_13 : decode cX8_group 13 = .ok (.iconst 5, 1) := by decide +kernel
theorem dX8_group_14 : decode cX8_group 14 = .ok (.if_icmp .le 6, 3) := by decide +kernel
theorem dX8_group_17 : decode cX8_group 17 = .ok (.bipush (-2), 2) := by decide +kernel
theorem dX8_group_19 : decode cX8_group 19 = .ok (.ireturn, 1) := by decide +kernel
theorem dX8_group_20 : decode cX8_group 20 = .ok (.aload_n 0, 1) := by decide +kernel
theorem dX8_group_21 : decode cX8_group 21 = .ok (.getfield 11, 3) := by decide +kernel
theorem dX8_group_24 : decode cX8_group 24 = .ok (.iload_n 1, 1) := by decide +kernel
theorem dX8_group_25 : decode cX8_group 25 = .ok (.aaload, 1) := by decide +kernel
theorem dX8_group_26 : decode cX8_group 26 = .ok (.iload_n 2, 1) := by decide +kernel
theorem dX8_group_27 : decode cX8_group 27 = .ok (.invokevirtual 70, 3) := by decide +kernel
theorem dX8_group_30 : decode cX8_group 30 = .ok (.aload_n 0, 1) := by decide +kernel
theorem dX8_group_31 : decode cX8_group 31 = .ok (.getfield 11, 3) := by decide +kernel
theorem dX8_group_34 : decode cX8_group 34 = .ok (.iload_n 1, 1) := by decide +kernel
theorem dX8_group_35 : decode cX8_group 35 = .ok (.aaload, 1) := by decide +kernel
theorem dX8_group_36 : decode cX8_group 36 = .ok (.iload_n 2, 1) := by decide +kernel
theorem dX8_group_37 : decode cX8_group 37 = .ok (.invokevirtual 114, 3) := by decide +kernel
theorem dX8_group_40 : decode cX8_group 40 = .ok (.iconst 1, 1) := by decide +kernel
theorem dX8_group_41 : decode cX8_group 41 = .ok (.ireturn, 1) := by decide +kernel
set_option maxRecDepth 20000 in
theorem ggX8_near_X8_isTable : GoodIn wsX8_near wsX8_isTable := goodIn_r _ [5] (by decide +kernel) (by decide +kernel)
set_option maxRecDepth 20000 in
theorem gX8_near_X8_isTable : GoodIn wsX8_near (va_wsS RX8 66 yX8_isTable wsX8_isTable) := goodIn_app (goodIn_of _ (by decide +kernel)) ggX8_near_X8_isTable
set_option maxRecDepth 20000 in
theorem ggX8_near_X7_reset : GoodIn wsX8_near wsX7_reset := goodIn_r _ [10, 11, 12, 13, 14, 15, 16, 17, 18, 19, 9, 20, 21, 22, 23, 39, 40] (by decide +kernel) (by decide +kernel)
set_option maxRecDepth 20000 in
theorem gX8_near_X7_reset : GoodIn wsX8_near (wsV RX8 70 RX7 yX7_reset wsX7_reset) := goodIn_app (goodIn_of _ (by decide +kernel)) ggX8_near_X7_reset
set_option maxRecDepth 20000 in
theorem ggX8_near_X7_fuseAsGroup : GoodIn wsX8_near wsX7_fuseAsGroup := goodIn_r _ [27, 17, 18, 19, 9, 20, 11, 21, 22, 23, 39, 40] (by decide +kernel) (by decide +kernel)
set_option maxRecDepth 20000 in
theorem gX8_near_X7_fuseAsGroup : GoodIn wsX8_near (wsV RX8 114 RX7 yX7_fuseAsGroup wsX7_fuseAsGroup) := goodIn_app (goodIn_of _ (by decide +kernel)) ggX8_near_X7_fuseAsGroup
set_option maxRecDepth 20000 in
theorem ggX8_near_X7_setNumber : GoodIn wsX8_near wsX7_setNumber := goodIn_r _ [20, 11, 21, 22, 9, 23, 39, 40] (by decide +kernel) (by decide +kernel)
set_option maxRecDepth 20000 in
theorem gX8_near_X7_setNumber : GoodIn wsX8_near (wsV RX8 82 RX7 yX7_setNumber wsX7_setNumber) := goodIn_app (goodIn_of _ (by decide +kernel)) ggX8_near_X7_setNumber
theorem dX8_near_0 : decode cX8_near 0 = .ok (.iload_n 1, 1) := by decide +kernel
theorem dX8_near_1 : decode cX8_near 1 = .ok (.invokestatic 66, 3) := by decide +kernel
theorem dX8_near_4 : decode cX8_near 4 = .ok (.ifCond .eq 23, 3) := by decide +kernel
theorem dX8_near_7 : decode cX8_near 7 = .ok (.iload_n 2, 1) := by decide +kernel
theorem dX8_near_8 : decode cX8_near 8 = .ok (.iconst 1, 1) := by decide +kernel
theorem dX8_near_9 : decode cX8_near 9 = .ok (.if_icmp .lt 18, 3) := by decide +kernel
theorem dX8_near_12 : decode cX8_near 12 = .ok (.iload_n 2, 1) := by decide +kernel
theorem dX8_near_13 : decode cX8_near 13 = .ok (.iconst 5, 1) := by decide +kernel
theorem dX8_near_14 : decode cX8_near 14 = .ok (.if_icmp .ge 13, 3) := by decide +kernel
theorem dX8_near_17 : decode cX8_near 17 = .ok (.iload_n 3, 1) := by decide +kernel
theorem dX8_near_18 : decode cX8_near 18 = .ok (.ifCond .lt 9, 3) := by decide +kernel
theorem dX8_near_21 : decode cX8_near 21 = .ok (.iload_n 3, 1) := by decide +kernel
theorem dX8_near_22 : decode cX8_near 22 = .ok (.bipush 9, 2) := by decide +kernel
theorem dX8_near_24 : decode cX8_near 24 = .ok (.if_icmp .le 6, 3) := by decide +kernel
theorem dX8_near_27 : decode cX8_near 27 = .ok (.bipush (-2), 2) := by decide +kernel
theorem dX8_near_29 : decode cX8_near 29 = .ok (.ireturn, 1) := by decide +kernel
theorem dX8_near_30 : decode cX8_near 30 = .ok (.aload_n 0, 1) := by decide +kernel
theorem dX8_near_31 : decode cX8_near 31 = .ok (.getfield 11, 3) := by decide +kernel
theorem dX8_near_34 : decode cX8_near 34 = .ok (.iload_n 1, 1) := by decide +kernel
theorem dX8_near_35 : decode cX8_near 35 = .ok (.aaload, 1) := by decide +kernel
theorem dX8_near_36 : decode cX8_near 36 = .ok (.iload_n 2, 1) := by decide +kernel
theorem dX8_near_37 : decode cX8_near 37 = .ok (.iconst 1, 1) := by decide +kernel
theorem dX8_near_38 : decode cX8_near 38 = .ok (.iadd, 1) := by decide +kernel
theorem dX8_near_39 : decode cX8_near 39 = .ok (.invokevirtual 70, 3) := by decide +kernel
theorem dX8_near_42 : decode cX8_near 42 = .ok (.aload_n 0, 1) := by decide +kernel
theorem dX8_near_43 : decode cX8_near 43 = .ok (.getfield 11, 3) := by decide +kernel
theorem dX8_near_46 : decode cX8_near 46 = .ok (.iload_n 1, 1) := by decide +kernel
theorem dX8_near_47 : decode cX8_near 47 = .ok (.aaload, 1) := by decide +kernel
theorem dX8_near_48 : decode cX8_near 48 = .ok (.iload_n 2, 1) := by decide +kernel
theorem dX8_near_49 : decode cX8_near 49 = .ok (.invokevirtual 114, 3) := by decide +kernel
theorem dX8_near_52 : decode cX8_near 52 = .ok (.iconst 0, 1) := by decide +kernel
theorem dX8_near_53 : decode cX8_near 53 = .ok (.istore 4, 2) := by decide +kernel
theorem dX8_near_55 : decode cX8_near 55 = .ok (.iload 4, 2) := by decide +kernel
theorem dX8_near_57 : decode cX8_near 57 = .ok (.iload_n 2, 1) := by decide +kernel
theorem dX8_near_58 : decode cX8_near 58 = .ok (.if_icmp .ge 51, 3) := by decide +kernel
theorem dX8_near_61 : decode cX8_near 61 = .ok (.aload_n 0, 1) := by decide +kernel
theorem dX8_near_62 : decode cX8_near 62 = .ok (.getfield 11, 3) := by decide +kernel
theorem dX8_near_65 : decode cX8_near 65 = .ok (.iload_n 1, 1) := by decide +kernel
theorem dX8_near_66 : decode cX8_near 66 = .ok (.aaload, 1) := by decide +kernel
theorem dX8_near_67 : decode cX8_near 67 = .ok (.iload_n 2, 1) := by decide +kernel
theorem dX8_near_68 : decode cX8_near 68 = .ok (.iload 4, 2) := by decide +kernel
theorem dX8_near_70 : decode cX8_near 70 = .ok (.iload_n 2, 1) := by decide +kernel
theorem dX8_near_71 : decode cX8_near 71 = .ok (.iconst 1, 1) := by decide +kernel
theorem dX8_near_72 : decode cX8_near 72 = .ok (.invokevirtual 82, 3) := by decide +kernel
theorem dX8_near_75 : decode cX8_near 75 = .ok (.aload_n 0, 1) := by decide +kernel
theorem dX8_near_76 : decode cX8_near 76 = .ok (.getfield 11, 3) := by decide +kernel
theorem dX8_near_79 : decode cX8_near 79 = .ok (.iload_n 1, 1) := by decide +kernel
theorem dX8_near_80 : decode cX8_near 80 = .ok (.aaload, 1) := by decide +kernel
theorem dX8_near_81 : decode cX8_near 81 = .ok (.iload 4, 2) := by decide +kernel
theorem dX8_near_83 : decode cX8_near 83 = .ok (.iload_n 2, 1) := by decide +kernel
theorem dX8_near_84 : decode cX8_near 84 = .ok (.iload_n 2, 1) := by decide +kernel
theorem dX8_near_85 : decode cX8_near 85 = .ok (.iconst 1, 1) := by decide +kernel
theorem dX8_near_86 : decode cX8_near 86 = .ok (.invokevirtual 82, 3) := by decide +kernel
theorem dX8_near_89 : decode cX8_near 89 = .ok (.aload_n 0, 1) := by decide +kernel
theorem dX8_near_90 : decode cX8_near 90 = .ok (.getfield 11, 3) := by decide +kernel
theorem dX8_near_93 : decode cX8_near 93 = .ok (.iload_n 1, 1) := by decide +kernel
theorem dX8_near_94 : decode cX8_near 94 = .ok (.aaload, 1) := by decide +kernel
theorem dX8_near_95 : decode cX8_near 95 = .ok (.iload_n 2, 1) := by decide +kernel
theorem dX8_near_96 : decode cX8_near 96 = .ok (.iload_n 2, 1) := by decide +kernel
theorem dX8_near_97 : decode cX8_near 97 = .ok (.iload 4, 2) := by decide +kernel
theorem dX8_near_99 : decode cX8_near 99 = .ok (.iconst 1, 1) := by decide +kernel
theorem dX8_near_100 : decode cX8_near 100 = .ok (.invokevirtual 82, 3) := by decide +kernel
theorem dX8_near_103 : decode cX8_near 103 = .ok (.iinc 4 1, 3) := by decide +kernel
theorem dX8_near_106 : decode cX8_near 106 = .ok (.goto (-51), 3) := by decide +kernel
theorem dX8_near_109 : decode cX8_near 109 = .ok (.aload_n 0, 1) := by decide +kernel
theorem dX8_near_110 : decode cX8_near 110 = .ok (.getfield 11, 3) := by decide +kernel
theorem dX8_near_113 : decode cX8_near 113 = .ok (.iload_n 1, 1) := by decide +kernel
theorem dX8_near_114 : decode cX8_near 114 = .ok (.aaload, 1) := by decide +kernel
theorem dX8_near_115 : decode cX8_near 115 = .ok (.iload_n 2, 1) := by decide +kernel
theorem dX8_near_116 : decode cX8_near 116 = .ok (.iload_n 2, 1) := by decide +kernel
theorem dX8_near_117 : decode cX8_near 117 = .ok (.iload_n 2, 1) := by decide +kernel
theorem dX8_near_118 : decode cX8_near 118 = .ok (.iload_n 3, 1) := by decide +kernel
theorem dX8_near_119 : decode cX8_near 119 = .ok (.invokevirtual 82, 3) := by decide +kernel
theorem dX8_near_122 : decode cX8_near 122 = .ok (.iconst 1, 1) := by decide +kernel
theorem dX8_near_123 : decode cX8_near 123 = .ok (.ireturn, 1) := by decide +kernel
set_option maxRecDepth 20000 in
theorem ggX8_together_X8_isTable : GoodIn wsX8_together wsX8_isTable := goodIn_r _ [7] (by decide +kernel) (by decide +kernel)
set_option maxRecDepth 20000 in
theorem gX8_together_X8_isTable : GoodIn wsX8_together (va_wsS RX8 66 yX8_isTable wsX8_isTable) := goodIn_app (goodIn_of _ (by decide +kernel)) ggX8_together_X8_isTable
set_option maxRecDepth 20000 in
theorem ggX8_together_X7_becomeProduct : GoodIn wsX8_together wsX7_becomeProduct := goodIn_r _ [12, 13, 14, 15, 16, 11, 17, 18, 19, 20, 21, 22, 23, 24, 25, 26, 27, 28, 29, 30, 31, 32, 33, 34, 35, 36, 37, 56, 57] (by decide +kernel) (by decide +kernel)
set_option maxRecDepth 20000 in
theorem gX8_together_X7_becomeProduct : GoodIn wsX8_together (wsV RX8 117 RX7 yX7_becomeProduct wsX7_becomeProduct) := goodIn_app (goodIn_of _ (by decide +kernel)) ggX8_together_X7_becomeProduct
set_option maxRecDepth 20000 in
theorem ggX8_together_X7_become : GoodIn wsX8_together wsX7_become := goodIn_r _ [41, 13, 18, 42, 43, 44, 45, 56, 57] (by decide +kernel) (by decide +kernel)
set_option maxRecDepth 20000 in
theorem gX8_together_X7_become : GoodIn wsX8_together (wsV RX8 107 RX7 yX7_become wsX7_become) := goodIn_app (goodIn_of _ (by decide +kernel)) ggX8_together_X7_become
theorem dX8_together_0 : decode cX8_together 0 = .ok (.iload_n 1, 1) := by decide +kernel
theorem dX8_together_1 : decode cX8_together 1 = .ok (.invokestatic 66, 3) := by decide +kernel
theorem dX8_together_4 : decode cX8_together 4 = .ok (.ifCond .eq 17, 3) := by decide +kernel
theorem dX8_together_7 : decode cX8_together 7 = .ok (.iload_n 2, 1) := by decide +kernel
theorem dX8_together_8 : decode cX8_together 8 = .ok (.invokestatic 66, 3) := by decide +kernel
theorem dX8_together_11 : decode cX8_together 11 = .ok (.ifCond .eq 10, 3) := by decide +kernel
theorem dX8_together_14 : decode cX8_together 14 = .ok (.iload_n 3, 1) := by decide +kernel
theorem dX8_together_15 : decode cX8_together 15 = .ok (.invokestatic 66, 3) := by decide +kernel
theorem dX8_together_18 : decode cX8_together 18 = .ok (.ifCond .ne 6, 3) := by decide +kernel
theorem dX8_together_21 : decode cX8_together 21 = .ok (.bipush (-2), 2) := by decide +kernel
theorem dX8_together_23 : decode cX8_together 23 = .ok (.ireturn, 1) := by decide +kernel
theorem dX8_together_24 : decode cX8_together 24 = .ok (.aload_n 0, 1) := by decide +kernel
theorem dX8_together_25 : decode cX8_together 25 = .ok (.getfield 11, 3) := by decide +kernel
theorem dX8_together_28 : decode cX8_together 28 = .ok (.iload_n 1, 1) := by decide +kernel
theorem dX8_together_29 : decode cX8_together 29 = .ok (.aaload, 1) := by decide +kernel
theorem dX8_together_30 : decode cX8_together 30 = .ok (.getfield 111, 3) := by decide +kernel
theorem dX8_together_33 : decode cX8_together 33 = .ok (.aload_n 0, 1) := by decide +kernel
theorem dX8_together_34 : decode cX8_together 34 = .ok (.getfield 11, 3) := by decide +kernel
theorem dX8_together_37 : decode cX8_together 37 = .ok (.iload_n 2, 1) := by decide +kernel
theorem dX8_together_38 : decode cX8_together 38 = .ok (.aaload, 1) := by decide +kernel
theorem dX8_together_39 : decode cX8_together 39 = .ok (.getfield 111, 3) := by decide +kernel
theorem dX8_together_42 : decode cX8_together 42 = .ok (.imul, 1) := by decide +kernel
theorem dX8_together_43 : decode cX8_together 43 = .ok (.iconst 5, 1) := by decide +kernel
theorem dX8_together_44 : decode cX8_together 44 = .ok (.if_icmp .le 6, 3) := by decide +kernel
theorem dX8_together_47 : decode cX8_together 47 = .ok (.bipush (-3), 2) := by decide +kernel
theorem dX8_together_49 : decode cX8_together 49 = .ok (.ireturn, 1) := by decide +kernel
theorem dX8_together_50 : decode cX8_together 50 = .ok (.aload_n 0, 1) := by decide +kernel
theorem dX8_together_51 : decode cX8_together 51 = .ok (.getfield 16, 3) := by decide +kernel
theorem dX8_together_54 : decode cX8_together 54 = .ok (.aload_n 0, 1) := by decide +kernel
theorem dX8_together_55 : decode cX8_together 55 = .ok (.getfield 11, 3) := by decide +kernel
theorem dX8_together_58 : decode cX8_together 58 = .ok (.iload_n 1, 1) := by decide +kernel
theorem dX8_together_59 : decode cX8_together 59 = .ok (.aaload, 1) := by decide +kernel
theorem dX8_together_60 : decode cX8_together 60 = .ok (.aload_n 0, 1) := by decide +kernel
theorem dX8_together_61 : decode cX8_together 61 = .ok (.getfield 11, 3) := by decide +kernel
theorem dX8_together_64 : decode cX8_together 64 = .ok (.iload_n 2, 1) := by decide +kernel
theorem dX8_together_65 : decode cX8_together 65 = .ok (.aaload, 1) := by decide +kernel
theorem dX8_together_66 : decode cX8_together 66 = .ok (.invokevirtual 117, 3) := by decide +kernel
theorem dX8_together_69 : decode cX8_together 69 = .ok (.ifCond .ne 6, 3) := by decide +kernel
theorem dX8_together_72 : decode cX8_together 72 = .ok (.bipush (-3), 2) := by decide +kernel
theorem dX8_together_74 : decode cX8_together 74 = .ok (.ireturn, 1) := by decide +kernel
theorem dX8_together_75 : decode cX8_together 75 = .ok (.aload_n 0, 1) := by decide +kernel
theorem dX8_together_76 : decode cX8_together 76 = .ok (.getfield 11, 3) := by decide +kernel
theorem dX8_together_79 : decode cX8_together 79 = .ok (.iload_n 3, 1) := by decide +kernel
theorem dX8_together_80 : decode cX8_together 80 = .ok (.aaload, 1) := by decide +kernel
theorem dX8_together_81 : decode cX8_together 81 = .ok (.aload_n 0, 1) := by decide +kernel
theorem dX8_together_82 : decode cX8_together 82 = .ok (.getfield 16, 3) := by decide +kernel
theorem dX8_together_85 : decode cX8_together 85 = .ok (.invokevirtual 107, 3) := by decide +kernel
theorem dX8_together_88 : decode cX8_together 88 = .ok (.aload_n 0, 1) := by decide +kernel
theorem dX8_together_89 : decode cX8_together 89 = .ok (.getfield 16, 3) := by decide +kernel
theorem dX8_together_92 : decode cX8_together 92 = .ok (.getfield 111, 3) := by decide +kernel
theorem dX8_together_95 : decode cX8_together 95 = .ok (.ireturn, 1) := by decide +kernel
set_option maxRecDepth 20000 in
theorem ggX8_list_X8_isListed : GoodIn wsX8_list wsX8_isListed := goodIn_r _ [5] (by decide +kernel) (by decide +kernel)
set_option maxRecDepth 20000 in
theorem gX8_list_X8_isListed : GoodIn wsX8_list (va_wsS RX8 121 yX8_isListed wsX8_isListed) := goodIn_app (goodIn_of _ (by decide +kernel)) ggX8_list_X8_isListed
set_option maxRecDepth 20000 in
theorem ggX8_list_X2_howMany : GoodIn wsX8_list wsX2_howMany := goodIn_r _ [10, 11, 12, 13, 14, 15, 16, 17, 9, 18, 19, 20, 21, 22, 23, 24, 25, 26, 27, 28, 29, 30, 31, 32, 33, 34, 35, 36, 37, 38, 39, 40, 41, 42, 43, 44, 45, 46, 47, 48, 49, 50, 51, 52, 53, 54, 55, 56, 57, 58, 59, 60, 61, 62, 63, 64, 65, 66, 67, 68, 69, 70, 71, 72, 73, 74, 75, 76, 77, 78, 79, 80, 81, 82, 83, 84, 85, 86, 87, 88, 99, 100, 101, 102, 103, 104, 105, 106, 107, 108, 109, 110, 111, 112, 113] (by decide +kernel) (by decide +kernel)
set_option maxRecDepth 20000 in
theorem gX8_list_X2_howMany : GoodIn wsX8_list (wsV RX8 125 RX2 yX2_howMany wsX2_howMany) := goodIn_app (goodIn_of _ (by decide +kernel)) ggX8_list_X2_howMany
theorem dX8_list_0 : decode cX8_list 0 = .ok (.iload_n 1, 1) := by decide +kernel
theorem dX8_list_1 : decode cX8_list 1 = .ok (.iload_n 2, 1) := by decide +kernel
theorem dX8_list_2 : decode cX8_list 2 = .ok (.iload_n 3, 1) := by decide +kernel
theorem dX8_list_3 : decode cX8_list 3 = .ok (.invokestatic 121, 3) := by decide +kernel
theorem dX8_list_6 : decode cX8_list 6 = .ok (.ifCond .eq 16, 3) := by decide +kernel
theorem dX8_list_9 : decode cX8_list 9 = .ok (.aload_n 0, 1) := by decide +kernel
theorem dX8_list_10 : decode cX8_list 10 = .ok (.getfield 37, 3) := by decide +kernel
theorem dX8_list_13 : decode cX8_list 13 = .ok (.iload_n 1, 1) := by decide +kernel
theorem dX8_list_14 : decode cX8_list 14 = .ok (.iload_n 2, 1) := by decide +kernel
theorem dX8_list_15 : decode cX8_list 15 = .ok (.iload_n 3, 1) := by decide +kernel
theorem dX8_list_16 : decode cX8_list 16 = .ok (.invokevirtual 125, 3) := by decide +kernel
theorem dX8_list_19 : decode cX8_list 19 = .ok (.goto 5, 3) := by decide +kernel
theorem dX8_list_22 : decode cX8_list 22 = .ok (.bipush (-2), 2) := by decide +kernel
theorem dX8_list_24 : decode cX8_list 24 = .ok (.ireturn, 1) := by decide +kernel
set_option maxRecDepth 20000 in
theorem ggX8_take_X8_isTable : GoodIn wsX8_take wsX8_isTable := goodIn_r _ [6] (by decide +kernel) (by decide +kernel)
set_option maxRecDepth 20000 in
theorem gX8_take_X8_isTable : GoodIn wsX8_take (va_wsS RX8 66 yX8_isTable wsX8_isTable) := goodIn_app (goodIn_of _ (by decide +kernel)) ggX8_take_X8_isTable
set_option maxRecDepth 20000 in
theorem ggX8_take_X8_isListed : GoodIn wsX8_take wsX8_isListed := goodIn_r _ [9] (by decide +kernel) (by decide +kernel)
set_option maxRecDepth 20000 in
theorem gX8_take_X8_isListed : GoodIn wsX8_take (va_wsS RX8 121 yX8_isListed wsX8_isListed) := goodIn_app (goodIn_of _ (by decide +kernel)) ggX8_take_X8_isListed
set_option maxRecDepth 20000 in
theorem ggX8_take_X2_howMany : GoodIn wsX8_take wsX2_howMany := goodIn_r _ [14, 15, 16, 17, 18, 19, 20, 21, 13, 22, 23, 24, 25, 26, 27, 28, 29, 30, 31, 32, 33, 34, 35, 36, 37, 38, 39, 40, 41, 42, 43, 44, 45, 46, 47, 48, 49, 50, 51, 52, 53, 54, 55, 56, 57, 58, 59, 60, 61, 62, 63, 64, 65, 66, 67, 68, 69, 70, 71, 72, 73, 74, 75, 76, 77, 78, 79, 80, 81, 82, 83, 84, 85, 86, 87, 88, 89, 90, 91, 92, 115, 116, 117, 118, 119, 120, 121, 122, 123, 124, 125, 126, 127, 128, 129] (by decide +kernel) (by decide +kernel)
set_option maxRecDepth 20000 in
theorem gX8_take_X2_howMany : GoodIn wsX8_take (wsV RX8 125 RX2 yX2_howMany wsX2_howMany) := goodIn_app (goodIn_of _ (by decide +kernel)) ggX8_take_X2_howMany
set_option maxRecDepth 20000 in
theorem ggX8_take_X2_write : GoodIn wsX8_take wsX2_write := goodIn_r _ [96, 18, 48, 24, 45, 47, 49, 50, 51, 13, 52, 15, 23, 53, 54, 55, 31, 56, 57, 58, 59, 26, 27, 28, 60, 61, 62, 63, 64, 30, 32, 37, 38, 39, 40, 17, 65, 29, 97, 98, 99, 100, 101, 102, 103, 104, 115, 116, 117, 118, 119, 120, 121, 122, 123, 124, 125, 126] (by decide +kernel) (by decide +kernel)
set_option maxRecDepth 20000 in
theorem gX8_take_X2_write : GoodIn wsX8_take (wsV RX8 128 RX2 yX2_write wsX2_write) := goodIn_app (goodIn_of _ (by decide +kernel)) ggX8_take_X2_write
theorem dX8_take_0 : decode cX8_take 0 = .ok (.iload_n 1, 1) := by decide +kernel
theorem dX8_take_1 : decode cX8_take 1 = .ok (.invokestatic 66, 3) := by decide +kernel
theorem dX8_take_4 : decode cX8_take 4 = .ok (.ifCond .eq 18, 3) := by decide +kernel
theorem dX8_take_7 : decode cX8_take 7 = .ok (.iload_n 2, 1) := by decide +kernel
theorem dX8_take_8 : decode cX8_take 8 = .ok (.iload_n 3, 1) := by decide +kernel
theorem dX8_take_9 : decode cX8_take 9 = .ok (.iload 4, 2) := by decide +kernel
theorem dX8_take_11 : decode cX8_take 11 = .ok (.invokestatic 121, 3) := by decide +kernel
theorem dX8_take_14 : decode cX8_take 14 = .ok (.ifCond .eq 8, 3) := by decide +kernel
theorem dX8_take_17 : decode cX8_take 17 = .ok (.iload 5, 2) := by decide +kernel
theorem dX8_take_19 : decode cX8_take 19 = .ok (.ifCond .ge 6, 3) := by decide +kernel
theorem dX8_take_22 : decode cX8_take 22 = .ok (.bipush (-2), 2) := by decide +kernel
theorem dX8_take_24 : decode cX8_take 24 = .ok (.ireturn, 1) := by decide +kernel
theorem dX8_take_25 : decode cX8_take 25 = .ok (.iload 5, 2) := by decide +kernel
theorem dX8_take_27 : decode cX8_take 27 = .ok (.aload_n 0, 1) := by decide +kernel
theorem dX8_take_28 : decode cX8_take 28 = .ok (.getfield 37, 3) := by decide +kernel
theorem dX8_take_31 : decode cX8_take 31 = .ok (.iload_n 2, 1) := by decide +kernel
theorem dX8_take_32 : decode cX8_take 32 = .ok (.iload_n 3, 1) := by decide +kernel
theorem dX8_take_33 : decode cX8_take 33 = .ok (.iload 4, 2) := by decide +kernel
theorem dX8_take_35 : decode cX8_take 35 = .ok (.invokevirtual 125, 3) := by decide +kernel
theorem dX8_take_38 : decode cX8_take 38 = .ok (.if_icmp .lt 6, 3) := by decide +kernel
theorem dX8_take_41 : decode cX8_take 41 = .ok (.bipush (-3), 2) := by decide +kernel
theorem dX8_take_43 : decode cX8_take 43 = .ok (.ireturn, 1) := by decide +kernel
theorem dX8_take_44 : decode cX8_take 44 = .ok (.aload_n 0, 1) := by decide +kernel
theorem dX8_take_45 : decode cX8_take 45 = .ok (.getfield 37, 3) := by decide +kernel
theorem dX8_take_48 : decode cX8_take 48 = .ok (.aload_n 0, 1) := by decide +kernel
theorem dX8_take_49 : decode cX8_take 49 = .ok (.getfield 11, 3) := by decide +kernel
theorem dX8_take_52 : decode cX8_take 52 = .ok (.iload_n 1, 1) := by decide +kernel
theorem dX8_take_53 : decode cX8_take 53 = .ok (.aaload, 1) := by decide +kernel
theorem dX8_take_54 : decode cX8_take 54 = .ok (.iload 5, 2) := by decide +kernel
theorem dX8_take_56 : decode cX8_take 56 = .ok (.invokevirtual 128, 3) := by decide +kernel
theorem dX8_take_59 : decode cX8_take 59 = .ok (.iconst 1, 1) := by decide +kernel
theorem dX8_take_60 : decode cX8_take 60 = .ok (.ireturn, 1) := by decide +kernel
theorem dX8_letter_0 : decode cX8_letter 0 = .ok (.iload_n 1, 1) := by decide +kernel
theorem dX8_letter_1 : decode cX8_letter 1 = .ok (.ifCond .lt 8, 3) := by decide +kernel
theorem dX8_letter_4 : decode cX8_letter 4 = .ok (.iload_n 1, 1) := by decide +kernel
theorem dX8_letter_5 : decode cX8_letter 5 = .ok (.iconst 5, 1) := by decide +kernel
theorem dX8_letter_6 : decode cX8_letter 6 = .ok (.if_icmp .lt 6, 3) := by decide +kernel
theorem dX8_letter_9 : decode cX8_letter 9 = .ok (.bipush (-2), 2) := by decide +kernel
theorem dX8_letter_11 : decode cX8_letter 11 = .ok (.ireturn, 1) := by decide +kernel
theorem dX8_letter_12 : decode cX8_letter 12 = .ok (.aload_n 0, 1) := by decide +kernel
theorem dX8_letter_13 : decode cX8_letter 13 = .ok (.getfield 132, 3) := by decide +kernel
theorem dX8_letter_16 : decode cX8_letter 16 = .ok (.bipush 14, 2) := by decide +kernel
theorem dX8_letter_18 : decode cX8_letter 18 = .ok (.if_icmp .lt 6, 3) := by decide +kernel
theorem dX8_letter_21 : decode cX8_letter 21 = .ok (.bipush (-3), 2) := by decide +kernel
theorem dX8_letter_23 : decode cX8_letter 23 = .ok (.ireturn, 1) := by decide +kernel
theorem dX8_letter_24 : decode cX8_letter 24 = .ok (.aload_n 0, 1) := by decide +kernel
theorem dX8_letter_25 : decode cX8_letter 25 = .ok (.getfield 62, 3) := by decide +kernel
theorem dX8_letter_28 : decode cX8_letter 28 = .ok (.aload_n 0, 1) := by decide +kernel
theorem dX8_letter_29 : decode cX8_letter 29 = .ok (.getfield 132, 3) := by decide +kernel
theorem dX8_letter_32 : decode cX8_letter 32 = .ok (.iload_n 1, 1) := by decide +kernel
theorem dX8_letter_33 : decode cX8_letter 33 = .ok (.iastore, 1) := by decide +kernel
theorem dX8_letter_34 : decode cX8_letter 34 = .ok (.aload_n 0, 1) := by decide +kernel
theorem dX8_letter_35 : decode cX8_letter 35 = .ok (.dup, 1) := by decide +kernel
theorem dX8_letter_36 : decode cX8_letter 36 = .ok (.getfield 132, 3) := by decide +kernel
theorem dX8_letter_39 : decode cX8_letter 39 = .ok (.iconst 1, 1) := by decide +kernel
theorem dX8_letter_40 : decode cX8_letter 40 = .ok (.iadd, 1) := by decide +kernel
theorem dX8_letter_41 : decode cX8_letter 41 = .ok (.putfield 132, 3) := by decide +kernel
theorem dX8_letter_44 : decode cX8_letter 44 = .ok (.aload_n 0, 1) := by decide +kernel
theorem dX8_letter_45 : decode cX8_letter 45 = .ok (.getfield 132, 3) := by decide +kernel
theorem dX8_letter_48 : decode cX8_letter 48 = .ok (.ireturn, 1) := by decide +kernel
theorem dX8_empty_0 : decode cX8_empty 0 = .ok (.aload_n 0, 1) := by decide +kernel
theorem dX8_empty_1 : decode cX8_empty 1 = .ok (.getfield 132, 3) := by decide +kernel
theorem dX8_empty_4 : decode cX8_empty 4 = .ok (.istore_n 1, 1) := by decide +kernel
theorem dX8_empty_5 : decode cX8_empty 5 = .ok (.aload_n 0, 1) := by decide +kernel
theorem dX8_empty_6 : decode cX8_empty 6 = .ok (.iconst 0, 1) := by decide +kernel
theorem dX8_empty_7 : decode cX8_empty 7 = .ok (.putfield 132, 3) := by decide +kernel
theorem dX8_empty_10 : decode cX8_empty 10 = .ok (.iload_n 1, 1) := by decide +kernel
theorem dX8_empty_11 : decode cX8_empty 11 = .ok (.ireturn, 1) := by decide +kernel
set_option maxRecDepth 20000 in
theorem ggX8_fused_X8_isKind : GoodIn wsX8_fused wsX8_isKind := goodIn_r _ [11, 1, 12, 13, 10, 14, 15, 16, 17, 18, 19, 20, 53, 54, 55, 56, 57, 58, 59, 60, 61, 62, 65, 66] (by decide +kernel) (by decide +kernel)
set_option maxRecDepth 20000 in
theorem gX8_fused_X8_isKind : GoodIn wsX8_fused (wsV RX8 97 RX8 yX8_isKind wsX8_isKind) := goodIn_app (goodIn_of _ (by decide +kernel)) ggX8_fused_X8_isKind
set_option maxRecDepth 20000 in
theorem ggX8_fused_X8_hasWord : GoodIn wsX8_fused wsX8_hasWord := goodIn_r _ [24, 4, 5, 15, 16, 17, 18, 19, 20, 53, 54, 55, 56, 57, 58, 59, 60, 61, 62, 65, 66] (by decide +kernel) (by decide +kernel)
set_option maxRecDepth 20000 in
theorem gX8_fused_X8_hasWord : GoodIn wsX8_fused (wsV RX8 135 RX8 yX8_hasWord wsX8_hasWord) := goodIn_app (goodIn_of _ (by decide +kernel)) ggX8_fused_X8_hasWord
set_option maxRecDepth 20000 in
theorem ggX8_fused_X6_begin : GoodIn wsX8_fused wsX6_begin := goodIn_r _ [29, 30, 31, 32, 33, 34, 63, 64] (by decide +kernel) (by decide +kernel)
set_option maxRecDepth 20000 in
theorem gX8_fused_X6_begin : GoodIn wsX8_fused (wsV RX8 140 RX6 yX6_begin wsX6_begin) := goodIn_app (goodIn_of _ (by decide +kernel)) ggX8_fused_X6_begin
set_option maxRecDepth 20000 in
theorem ggX8_fused_X6_fuseWith : GoodIn wsX8_fused wsX6_fuseWith := goodIn_r _ [38, 39, 40, 30, 41, 42, 43, 44, 45, 46, 47, 18, 48, 49, 50, 51, 52, 65, 66, 63, 64] (by decide +kernel) (by decide +kernel)
set_option maxRecDepth 20000 in
theorem gX8_fused_X6_fuseWith : GoodIn wsX8_fused (wsV RX8 143 RX6 yX6_fuseWith wsX6_fuseWith) := goodIn_app (goodIn_of _ (by decide +kernel)) ggX8_fused_X6_fuseWith
theorem dX8_fused_0 : decode cX8_fused 0 = .ok (.aload_n 0, 1) := by decide +kernel
theorem dX8_fused_1 : decode cX8_fused 1 = .ok (.iload_n 1, 1) := by decide +kernel
theorem dX8_fused_2 : decode cX8_fused 2 = .ok (.iload_n 2, 1) := by decide +kernel
theorem dX8_fused_3 : decode cX8_fused 3 = .ok (.invokevirtual 97, 3) := by decide +kernel
theorem dX8_fused_6 : decode cX8_fused 6 = .ok (.ifCond .eq 16, 3) := by decide +kernel
theorem dX8_fused_9 : decode cX8_fused 9 = .ok (.aload_n 0, 1) := by decide +kernel
theorem dX8_fused_10 : decode cX8_fused 10 = .ok (.aload_n 0, 1) := by decide +kernel
theorem dX8_fused_11 : decode cX8_fused 11 = .ok (.getfield 11, 3) := by decide +kernel
theorem dX8_fused_14 : decode cX8_fused 14 = .ok (.iload_n 1, 1) := by decide +kernel
theorem dX8_fused_15 : decode cX8_fused 15 = .ok (.aaload, 1) := by decide +kernel
theorem dX8_fused_16 : decode cX8_fused 16 = .ok (.invokevirtual 135, 3) := by decide +kernel
theorem dX8_fused_19 : decode cX8_fused 19 = .ok (.ifCond .ne 7, 3) := by decide +kernel
theorem dX8_fused_22 : decode cX8_fused 22 = .ok (.ldc2_w 138, 3) := by decide +kernel
theorem dX8_fused_25 : decode cX8_fused 25 = .ok (.lreturn, 1) := by decide +kernel
theorem dX8_fused_26 : decode cX8_fused 26 = .ok (.aload_n 0, 1) := by decide +kernel
theorem dX8_fused_27 : decode cX8_fused 27 = .ok (.getfield 30, 3) := by decide +kernel
theorem dX8_fused_30 : decode cX8_fused 30 = .ok (.iconst 0, 1) := by decide +kernel
theorem dX8_fused_31 : decode cX8_fused 31 = .ok (.invokevirtual 140, 3) := by decide +kernel
theorem dX8_fused_34 : decode cX8_fused 34 = .ok (.iconst 0, 1) := by decide +kernel
theorem dX8_fused_35 : decode cX8_fused 35 = .ok (.istore_n 3, 1) := by decide +kernel
theorem dX8_fused_36 : decode cX8_fused 36 = .ok (.iload_n 3, 1) := by decide +kernel
theorem dX8_fused_37 : decode cX8_fused 37 = .ok (.aload_n 0, 1) := by decide +kernel
theorem dX8_fused_38 : decode cX8_fused 38 = .ok (.getfield 132, 3) := by decide +kernel
theorem dX8_fused_41 : decode cX8_fused 41 = .ok (.if_icmp .ge 28, 3) := by decide +kernel
theorem dX8_fused_44 : decode cX8_fused 44 = .ok (.aload_n 0, 1) := by decide +kernel
theorem dX8_fused_45 : decode cX8_fused 45 = .ok (.getfield 30, 3) := by decide +kernel
theorem dX8_fused_48 : decode cX8_fused 48 = .ok (.aload_n 0, 1) := by decide +kernel
theorem dX8_fused_49 : decode cX8_fused 49 = .ok (.getfield 11, 3) := by decide +kernel
theorem dX8_fused_52 : decode cX8_fused 52 = .ok (.iload_n 1, 1) := by decide +kernel
theorem dX8_fused_53 : decode cX8_fused 53 = .ok (.aaload, 1) := by decide +kernel
theorem dX8_fused_54 : decode cX8_fused 54 = .ok (.aload_n 0, 1) := by decide +kernel
theorem dX8_fused_55 : decode cX8_fused 55 = .ok (.getfield 62, 3) := by decide +kernel
theorem dX8_fused_58 : decode cX8_fused 58 = .ok (.iload_n 3, 1) := by decide +kernel
theorem dX8_fused_59 : decode cX8_fused 59 = .ok (.iaload, 1) := by decide +kernel
theorem dX8_fused_60 : decode cX8_fused 60 = .ok (.invokevirtual 143, 3) := by decide +kernel
theorem dX8_fused_63 : decode cX8_fused 63 = .ok (.iinc 3 1, 3) := by decide +kernel
theorem dX8_fused_66 : decode cX8_fused 66 = .ok (.goto (-30), 3) := by decide +kernel
theorem dX8_fused_69 : decode cX8_fused 69 = .ok (.aload_n 0, 1) := by decide +kernel
theorem dX8_fused_70 : decode cX8_fused 70 = .ok (.getfield 30, 3) := by decide +kernel
theorem dX8_fused_73 : decode cX8_fused 73 = .ok (.getfield 146, 3) := by decide +kernel
theorem dX8_fused_76 : decode cX8_fused 76 = .ok (.iload_n 2, 1) := by decide +kernel
theorem dX8_fused_77 : decode cX8_fused 77 = .ok (.laload, 1) := by decide +kernel
theorem dX8_fused_78 : decode cX8_fused 78 = .ok (.lreturn, 1) := by decide +kernel
set_option maxRecDepth 20000 in
theorem ggX8_ways_X8_isPlace : GoodIn wsX8_ways wsX8_isPlace := goodIn_r _ [9, 3, 10, 11, 12, 8, 13, 14, 15, 16, 17, 18, 19, 20, 21, 22, 51, 52, 53, 54, 55, 56, 57, 58, 59, 60, 63, 64] (by decide +kernel) (by decide +kernel)
set_option maxRecDepth 20000 in
theorem gX8_ways_X8_isPlace : GoodIn wsX8_ways (wsV RX8 74 RX8 yX8_isPlace wsX8_isPlace) := goodIn_app (goodIn_of _ (by decide +kernel)) ggX8_ways_X8_isPlace
set_option maxRecDepth 20000 in
theorem ggX8_ways_X6_begin : GoodIn wsX8_ways wsX6_begin := goodIn_r _ [27, 28, 29, 30, 31, 32, 61, 62] (by decide +kernel) (by decide +kernel)
set_option maxRecDepth 20000 in
theorem gX8_ways_X6_begin : GoodIn wsX8_ways (wsV RX8 140 RX6 yX6_begin wsX6_begin) := goodIn_app (goodIn_of _ (by decide +kernel)) ggX8_ways_X6_begin
set_option maxRecDepth 20000 in
theorem ggX8_ways_X6_fuseWith : GoodIn wsX8_ways wsX6_fuseWith := goodIn_r _ [36, 37, 38, 28, 39, 40, 41, 42, 43, 44, 45, 20, 46, 47, 48, 49, 50, 63, 64, 61, 62] (by decide +kernel) (by decide +kernel)
set_option maxRecDepth 20000 in
theorem gX8_ways_X6_fuseWith : GoodIn wsX8_ways (wsV RX8 143 RX6 yX6_fuseWith wsX6_fuseWith) := goodIn_app (goodIn_of _ (by decide +kernel)) ggX8_ways_X6_fuseWith
theorem dX8_ways_0 : decode cX8_ways 0 = .ok (.aload_n 0, 1) := by decide +kernel
theorem dX8_ways_1 : decode cX8_ways 1 = .ok (.iload_n 1, 1) := by decide +kernel
theorem dX8_ways_2 : decode cX8_ways 2 = .ok (.iload_n 2, 1) := by decide +kernel
theorem dX8_ways_3 : decode cX8_ways 3 = .ok (.iload_n 3, 1) := by decide +kernel
theorem dX8_ways_4 : decode cX8_ways 4 = .ok (.iload 5, 2) := by decide +kernel
theorem dX8_ways_6 : decode cX8_ways 6 = .ok (.invokevirtual 74, 3) := by decide +kernel
theorem dX8_ways_9 : decode cX8_ways 9 = .ok (.ifCond .eq 15, 3) := by decide +kernel
theorem dX8_ways_12 : decode cX8_ways 12 = .ok (.iload 4, 2) := by decide +kernel
theorem dX8_ways_14 : decode cX8_ways 14 = .ok (.ifCond .lt 10, 3) := by decide +kernel
theorem dX8_ways_17 : decode cX8_ways 17 = .ok (.iload 4, 2) := by decide +kernel
theorem dX8_ways_19 : decode cX8_ways 19 = .ok (.bipush 12, 2) := by decide +kernel
theorem dX8_ways_21 : decode cX8_ways 21 = .ok (.if_icmp .le 7, 3) := by decide +kernel
theorem dX8_ways_24 : decode cX8_ways 24 = .ok (.ldc2_w 138, 3) := by decide +kernel
theorem dX8_ways_27 : decode cX8_ways 27 = .ok (.lreturn, 1) := by decide +kernel
theorem dX8_ways_28 : decode cX8_ways 28 = .ok (.aload_n 0, 1) := by decide +kernel
theorem dX8_ways_29 : decode cX8_ways 29 = .ok (.getfield 30, 3) := by decide +kernel
theorem dX8_ways_32 : decode cX8_ways 32 = .ok (.iload_n 2, 1) := by decide +kernel
theorem dX8_ways_33 : decode cX8_ways 33 = .ok (.invokevirtual 140, 3) := by decide +kernel
theorem dX8_ways_36 : decode cX8_ways 36 = .ok (.iconst 0, 1) := by decide +kernel
theorem dX8_ways_37 : decode cX8_ways 37 = .ok (.istore 6, 2) := by decide +kernel
theorem dX8_ways_39 : decode cX8_ways 39 = .ok (.iload 6, 2) := by decide +kernel
theorem dX8_ways_41 : decode cX8_ways 41 = .ok (.iload 4, 2) := by decide +kernel
theorem dX8_ways_43 : decode cX8_ways 43 = .ok (.if_icmp .ge 23, 3) := by decide +kernel
theorem dX8_ways_46 : decode cX8_ways 46 = .ok (.aload_n 0, 1) := by decide +kernel
theorem dX8_ways_47 : decode cX8_ways 47 = .ok (.getfield 30, 3) := by decide +kernel
theorem dX8_ways_50 : decode cX8_ways 50 = .ok (.aload_n 0, 1) := by decide +kernel
theorem dX8_ways_51 : decode cX8_ways 51 = .ok (.getfield 11, 3) := by decide +kernel
theorem dX8_ways_54 : decode cX8_ways 54 = .ok (.iload_n 1, 1) := by decide +kernel
theorem dX8_ways_55 : decode cX8_ways 55 = .ok (.aaload, 1) := by decide +kernel
theorem dX8_ways_56 : decode cX8_ways 56 = .ok (.iload_n 3, 1) := by decide +kernel
theorem dX8_ways_57 : decode cX8_ways 57 = .ok (.invokevirtual 143, 3) := by decide +kernel
theorem dX8_ways_60 : decode cX8_ways 60 = .ok (.iinc 6 1, 3) := by decide +kernel
theorem dX8_ways_63 : decode cX8_ways 63 = .ok (.goto (-24), 3) := by decide +kernel
theorem dX8_ways_66 : decode cX8_ways 66 = .ok (.aload_n 0, 1) := by decide +kernel
theorem dX8_ways_67 : decode cX8_ways 67 = .ok (.getfield 30, 3) := by decide +kernel
theorem dX8_ways_70 : decode cX8_ways 70 = .ok (.getfield 146, 3) := by decide +kernel
theorem dX8_ways_73 : decode cX8_ways 73 = .ok (.iload 5, 2) := by decide +kernel
theorem dX8_ways_75 : decode cX8_ways 75 = .ok (.laload, 1) := by decide +kernel
theorem dX8_ways_76 : decode cX8_ways 76 = .ok (.lreturn, 1) := by decide +kernel
set_option maxRecDepth 20000 in
theorem ggX8_closed_X8_isSet : GoodIn wsX8_closed wsX8_isSet := goodIn_r _ [8, 1, 9, 10, 11, 7, 12, 81, 82, 83, 84, 85, 86, 87, 88, 89, 90, 94, 95] (by decide +kernel) (by decide +kernel)
set_option maxRecDepth 20000 in
theorem gX8_closed_X8_isSet : GoodIn wsX8_closed (wsV RX8 150 RX8 yX8_isSet wsX8_isSet) := goodIn_app (goodIn_of _ (by decide +kernel)) ggX8_closed_X8_isSet
set_option maxRecDepth 20000 in
theorem ggX8_closed_X8_isRight : GoodIn wsX8_closed wsX8_isRight := goodIn_r _ [16, 2, 1, 17, 18, 19, 20, 21, 22, 23, 24, 25, 26, 27, 28, 29, 30, 31, 32, 33, 34, 35, 36, 37, 38, 39, 40, 41, 42, 43, 44, 45, 46, 47, 48, 49, 50, 51, 52, 53, 54, 55, 56, 57, 58, 59, 60, 61, 62, 63, 64, 65, 81, 82, 83, 84, 85, 86, 87, 88, 89, 90, 91, 92, 93, 94, 95] (by decide +kernel) (by decide +kernel)
set_option maxRecDepth 20000 in
theorem gX8_closed_X8_isRight : GoodIn wsX8_closed (wsV RX8 101 RX8 yX8_isRight wsX8_isRight) := goodIn_app (goodIn_of _ (by decide +kernel)) ggX8_closed_X8_isRight
set_option maxRecDepth 20000 in
theorem ggX8_closed_X5_closure : GoodIn wsX8_closed wsX5_closure := goodIn_r _ [69, 70, 71, 72, 68, 73, 74, 75, 76, 77, 78, 79, 80, 34, 35, 36, 37, 38, 39, 40, 41, 94, 95] (by decide +kernel) (by decide +kernel)
set_option maxRecDepth 20000 in
theorem gX8_closed_X5_closure : GoodIn wsX8_closed (va_wsS RX8 153 yX5_closure wsX5_closure) := goodIn_app (goodIn_of _ (by decide +kernel)) ggX8_closed_X5_closure
theorem dX8_closed_0 : decode cX8_closed 0 = .ok (.aload_n 0, 1) := by decide +kernel
theorem dX8_closed_1 : decode cX8_closed 1 = .ok (.iload_n 1, 1) := by decide +kernel
theorem dX8_closed_2 : decode cX8_closed 2 = .ok (.iload_n 2, 1) := by decide +kernel
theorem dX8_closed_3 : decode cX8_closed 3 = .ok (.invokevirtual 150, 3) := by decide +kernel
theorem dX8_closed_6 : decode cX8_closed 6 = .ok (.ifCond .eq 7, 3) := by decide +kernel
theorem dX8_closed_9 : decode cX8_closed 9 = .ok (.iload_n 2, 1) := by decide +kernel
theorem dX8_closed_10 : decode cX8_closed 10 = .ok (.ifCond .ne 6, 3) := by decide +kernel
theorem dX8_closed_13 : decode cX8_closed 13 = .ok (.bipush (-2), 2) := by decide +kernel
theorem dX8_closed_15 : decode cX8_closed 15 = .ok (.ireturn, 1) := by decide +kernel
theorem dX8_closed_16 : decode cX8_closed 16 = .ok (.aload_n 0, 1) := by decide +kernel
theorem dX8_closed_17 : decode cX8_closed 17 = .ok (.iload_n 1, 1) := by decide +kernel
theorem dX8_closed_18 : decode cX8_closed 18 = .ok (.invokevirtual 101, 3) := by decide +kernel
theorem dX8_closed_21 : decode cX8_closed 21 = .ok (.ifCond .ne 6, 3) := by decide +kernel
theorem dX8_closed_24 : decode cX8_closed 24 = .ok (.bipush (-3), 2) := by decide +kernel
theorem dX8_closed_26 : decode cX8_closed 26 = .ok (.ireturn, 1) := by decide +kernel
theorem dX8_closed_27 : decode cX8_closed 27 = .ok (.aload_n 0, 1) := by decide +kernel
theorem dX8_closed_28 : decode cX8_closed 28 = .ok (.getfield 11, 3) := by decide +kernel
theorem dX8_closed_31 : decode cX8_closed 31 = .ok (.iload_n 1, 1) := by decide +kernel
theorem dX8_closed_32 : decode cX8_closed 32 = .ok (.aaload, 1) := by decide +kernel
theorem dX8_closed_33 : decode cX8_closed 33 = .ok (.aload_n 0, 1) := by decide +kernel
theorem dX8_closed_34 : decode cX8_closed 34 = .ok (.getfield 23, 3) := by decide +kernel
theorem dX8_closed_37 : decode cX8_closed 37 = .ok (.getfield 104, 3) := by decide +kernel
theorem dX8_closed_40 : decode cX8_closed 40 = .ok (.iload_n 2, 1) := by decide +kernel
theorem dX8_closed_41 : decode cX8_closed 41 = .ok (.invokestatic 153, 3) := by decide +kernel
theorem dX8_closed_44 : decode cX8_closed 44 = .ok (.iload_n 2, 1) := by decide +kernel
theorem dX8_closed_45 : decode cX8_closed 45 = .ok (.if_icmp .ne 7, 3) := by decide +kernel
theorem dX8_closed_48 : decode cX8_closed 48 = .ok (.iconst 1, 1) := by decide +kernel
theorem dX8_closed_49 : decode cX8_closed 49 = .ok (.goto 4, 3) := by decide +kernel
theorem dX8_closed_52 : decode cX8_closed 52 = .ok (.iconst 0, 1) := by decide +kernel
theorem dX8_closed_53 : decode cX8_closed 53 = .ok (.ireturn, 1) := by decide +kernel
set_option maxRecDepth 20000 in
theorem ggX8_least_X8_isSet : GoodIn wsX8_least wsX8_isSet := goodIn_r _ [8, 1, 9, 10, 11, 7, 12, 81, 82, 83, 84, 85, 86, 87, 88, 89, 90, 94, 95] (by decide +kernel) (by decide +kernel)
set_option maxRecDepth 20000 in
theorem gX8_least_X8_isSet : GoodIn wsX8_least (wsV RX8 150 RX8 yX8_isSet wsX8_isSet) := goodIn_app (goodIn_of _ (by decide +kernel)) ggX8_least_X8_isSet
set_option maxRecDepth 20000 in
theorem ggX8_least_X8_isRight : GoodIn wsX8_least wsX8_isRight := goodIn_r _ [16, 2, 1, 17, 18, 19, 20, 21, 22, 23, 24, 25, 26, 27, 28, 29, 30, 31, 32, 33, 34, 35, 36, 37, 38, 39, 40, 41, 42, 43, 44, 45, 46, 47, 48, 49, 50, 51, 52, 53, 54, 55, 56, 57, 58, 59, 60, 61, 62, 63, 64, 65, 81, 82, 83, 84, 85, 86, 87, 88, 89, 90, 91, 92, 93, 94, 95] (by decide +kernel) (by decide +kernel)
set_option maxRecDepth 20000 in
theorem gX8_least_X8_isRight : GoodIn wsX8_least (wsV RX8 101 RX8 yX8_isRight wsX8_isRight) := goodIn_app (goodIn_of _ (by decide +kernel)) ggX8_least_X8_isRight
set_option maxRecDepth 20000 in
theorem ggX8_least_X5_closure : GoodIn wsX8_least wsX5_closure := goodIn_r _ [69, 70, 71, 72, 68, 73, 74, 75, 76, 77, 78, 79, 80, 34, 35, 36, 37, 38, 39, 40, 41, 94, 95] (by decide +kernel) (by decide +kernel)
set_option maxRecDepth 20000 in
theorem gX8_least_X5_closure : GoodIn wsX8_least (va_wsS RX8 153 yX5_closure wsX5_closure) := goodIn_app (goodIn_of _ (by decide +kernel)) ggX8_least_X5_closure
theorem dX8_least_0 : decode cX8_least 0 = .ok (.aload_n 0, 1) := by decide +kernel
theorem dX8_least_1 : decode cX8_least 1 = .ok (.iload_n 1, 1) := by decide +kernel
theorem dX8_least_2 : decode cX8_least 2 = .ok (.iload_n 2, 1) := by decide +kernel
theorem dX8_least_3 : decode cX8_least 3 = .ok (.invokevirtual 150, 3) := by decide +kernel
theorem dX8_least_6 : decode cX8_least 6 = .ok (.ifCond .ne 6, 3) := by decide +kernel
theorem dX8_least_9 : decode cX8_least 9 = .ok (.bipush (-2), 2) := by decide +kernel
theorem dX8_least_11 : decode cX8_least 11 = .ok (.ireturn, 1) := by decide +kernel
theorem dX8_least_12 : decode cX8_least 12 = .ok (.aload_n 0, 1) := by decide +kernel
theorem dX8_least_13 : decode cX8_least 13 = .ok (.iload_n 1, 1) := by decide +kernel
theorem dX8_least_14 : decode cX8_least 14 = .ok (.invokevirtual 101, 3) := by decide +kernel
theorem dX8_least_17 : decode cX8_least 17 = .ok (.ifCond .eq 23, 3) := by decide +kernel
theorem dX8_least_20 : decode cX8_least 20 = .ok (.aload_n 0, 1) := by decide +kernel
theorem dX8_least_21 : decode cX8_least 21 = .ok (.getfield 11, 3) := by decide +kernel
theorem dX8_least_24 : decode cX8_least 24 = .ok (.iload_n 1, 1) := by decide +kernel
theorem dX8_least_25 : decode cX8_least 25 = .ok (.aaload, 1) := by decide +kernel
theorem dX8_least_26 : decode cX8_least 26 = .ok (.aload_n 0, 1) := by decide +kernel
theorem dX8_least_27 : decode cX8_least 27 = .ok (.getfield 23, 3) := by decide +kernel
theorem dX8_least_30 : decode cX8_least 30 = .ok (.getfield 104, 3) := by decide +kernel
theorem dX8_least_33 : decode cX8_least 33 = .ok (.iload_n 2, 1) := by decide +kernel
theorem dX8_least_34 : decode cX8_least 34 = .ok (.invokestatic 153, 3) := by decide +kernel
theorem dX8_least_37 : decode cX8_least 37 = .ok (.goto 5, 3) := by decide +kernel
theorem dX8_least_40 : decode cX8_least 40 = .ok (.bipush (-3), 2) := by decide +kernel
theorem dX8_least_42 : decode cX8_least 42 = .ok (.ireturn, 1) := by decide +kernel
set_option maxRecDepth 20000 in
theorem ggX8_core_X8_isTable : GoodIn wsX8_core wsX8_isTable := goodIn_r _ [7] (by decide +kernel) (by decide +kernel)
set_option maxRecDepth 20000 in
theorem gX8_core_X8_isTable : GoodIn wsX8_core (va_wsS RX8 66 yX8_isTable wsX8_isTable) := goodIn_app (goodIn_of _ (by decide +kernel)) ggX8_core_X8_isTable
set_option maxRecDepth 20000 in
theorem ggX8_core_X8_isRight : GoodIn wsX8_core wsX8_isRight := goodIn_r _ [11, 2, 1, 12, 13, 14, 15, 16, 17, 18, 19, 20, 21, 22, 23, 24, 25, 26, 27, 28, 29, 30, 31, 32, 33, 34, 35, 36, 37, 38, 39, 40, 41, 42, 43, 44, 45, 46, 47, 48, 49, 50, 51, 52, 53, 54, 55, 56, 57, 58, 59, 60, 79, 80, 81, 82, 83, 84, 85, 86, 87, 88, 89, 90, 91, 92, 93] (by decide +kernel) (by decide +kernel)
set_option maxRecDepth 20000 in
theorem gX8_core_X8_isRight : GoodIn wsX8_core (wsV RX8 101 RX8 yX8_isRight wsX8_isRight) := goodIn_app (goodIn_of _ (by decide +kernel)) ggX8_core_X8_isRight
set_option maxRecDepth 20000 in
theorem ggX8_core_X5_innermost : GoodIn wsX8_core wsX5_innermost := goodIn_r _ [64, 65, 66, 67, 63, 68, 69, 70, 71, 72, 29, 30, 31, 32, 33, 34, 35, 36, 73, 74, 75, 76, 77, 78, 92, 93] (by decide +kernel) (by decide +kernel)
set_option maxRecDepth 20000 in
theorem gX8_core_X5_innermost : GoodIn wsX8_core (va_wsS RX8 159 yX5_innermost wsX5_innermost) := goodIn_app (goodIn_of _ (by decide +kernel)) ggX8_core_X5_innermost
theorem dX8_core_0 : decode cX8_core 0 = .ok (.iload_n 1, 1) := by decide +kernel
theorem dX8_core_1 : decode cX8_core 1 = .ok (.invokestatic 66, 3) := by decide +kernel
theorem dX8_core_4 : decode cX8_core 4 = .ok (.ifCond .ne 6, 3) := by decide +kernel
theorem dX8_core_7 : decode cX8_core 7 = .ok (.bipush (-2), 2) := by decide +kernel
theorem dX8_core_9 : decode cX8_core 9 = .ok (.ireturn, 1) := by decide +kernel
theorem dX8_core_10 : decode cX8_core 10 = .ok (.aload_n 0, 1) := by decide +kernel
theorem dX8_core_11 : decode cX8_core 11 = .ok (.iload_n 1, 1) := by decide +kernel
theorem dX8_core_12 : decode cX8_core 12 = .ok (.invokevirtual 101, 3) := by decide +kernel
theorem dX8_core_15 : decode cX8_core 15 = .ok (.ifCond .eq 22, 3) := by decide +kernel
theorem dX8_core_18 : decode cX8_core 18 = .ok (.aload_n 0, 1) := by decide +kernel
theorem dX8_core_19 : decode cX8_core 19 = .ok (.getfield 11, 3) := by decide +kernel
theorem dX8_core_22 : decode cX8_core 22 = .ok (.iload_n 1, 1) := by decide +kernel
theorem dX8_core_23 : decode cX8_core 23 = .ok (.aaload, 1) := by decide +kernel
theorem dX8_core_24 : decode cX8_core 24 = .ok (.aload_n 0, 1) := by decide +kernel
theorem dX8_core_25 : decode cX8_core 25 = .ok (.getfield 23, 3) := by decide +kernel
theorem dX8_core_28 : decode cX8_core 28 = .ok (.getfield 104, 3) := by decide +kernel
theorem dX8_core_31 : decode cX8_core 31 = .ok (.invokestatic 159, 3) := by decide +kernel
theorem dX8_core_34 : decode cX8_core 34 = .ok (.goto 5, 3) := by decide +kernel
theorem dX8_core_37 : decode cX8_core 37 = .ok (.bipush (-3), 2) := by decide +kernel
theorem dX8_core_39 : decode cX8_core 39 = .ok (.ireturn, 1) := by decide +kernel
set_option maxRecDepth 20000 in
theorem ggX8_grade_X8_isKind : GoodIn wsX8_grade wsX8_isKind := goodIn_r _ [8, 1, 9, 10, 7, 11, 12, 13, 14, 15, 16, 17, 92, 93, 94, 95, 96, 97, 98, 99, 100, 101, 105, 106] (by decide +kernel) (by decide +kernel)
set_option maxRecDepth 20000 in
theorem gX8_grade_X8_isKind : GoodIn wsX8_grade (wsV RX8 97 RX8 yX8_isKind wsX8_isKind) := goodIn_app (goodIn_of _ (by decide +kernel)) ggX8_grade_X8_isKind
set_option maxRecDepth 20000 in
theorem ggX8_grade_X8_isRight : GoodIn wsX8_grade wsX8_isRight := goodIn_r _ [21, 2, 1, 22, 23, 24, 25, 26, 27, 28, 29, 30, 31, 32, 33, 34, 35, 36, 37, 38, 39, 40, 15, 41, 42, 43, 44, 45, 46, 47, 48, 49, 50, 51, 52, 53, 54, 55, 56, 57, 58, 59, 60, 61, 62, 63, 64, 65, 66, 67, 68, 69, 92, 93, 94, 95, 96, 97, 98, 99, 100, 101, 102, 103, 104, 105, 106] (by decide +kernel) (by decide +kernel)
set_option maxRecDepth 20000 in
theorem gX8_grade_X8_isRight : GoodIn wsX8_grade (wsV RX8 101 RX8 yX8_isRight wsX8_isRight) := goodIn_app (goodIn_of _ (by decide +kernel)) ggX8_grade_X8_isRight
set_option maxRecDepth 20000 in
theorem ggX8_grade_X5_innermost : GoodIn wsX8_grade wsX5_innermost := goodIn_r _ [73, 74, 75, 76, 72, 77, 78, 79, 80, 81, 39, 40, 15, 41, 42, 43, 44, 45, 82, 83, 84, 85, 86, 87, 105, 106] (by decide +kernel) (by decide +kernel)
set_option maxRecDepth 20000 in
theorem gX8_grade_X5_innermost : GoodIn wsX8_grade (va_wsS RX8 159 yX5_innermost wsX5_innermost) := goodIn_app (goodIn_of _ (by decide +kernel)) ggX8_grade_X5_innermost
set_option maxRecDepth 20000 in
theorem ggX8_grade_X5_fusedWithAny : GoodIn wsX8_grade wsX5_fusedWithAny := goodIn_r _ [77, 74, 78, 79, 72, 80, 81, 39, 40, 15, 41, 42, 43, 44, 45, 105, 106] (by decide +kernel) (by decide +kernel)
set_option maxRecDepth 20000 in
theorem gX8_grade_X5_fusedWithAny : GoodIn wsX8_grade (va_wsS RX8 163 yX5_fusedWithAny wsX5_fusedWithAny) := goodIn_app (goodIn_of _ (by decide +kernel)) ggX8_grade_X5_fusedWithAny
set_option maxRecDepth 20000 in
theorem ggX8_grade_X5_firstOf : GoodIn wsX8_grade wsX5_firstOf := goodIn_r _ [91, 78, 79, 72, 80] (by decide +kernel) (by decide +kernel)
set_option maxRecDepth 20000 in
theorem gX8_grade_X5_firstOf : GoodIn wsX8_grade (va_wsS RX8 167 yX5_firstOf wsX5_firstOf) := goodIn_app (goodIn_of _ (by decide +kernel)) ggX8_grade_X5_firstOf
theorem dX8_grade_0 : decode cX8_grade 0 = .ok (.aload_n 0, 1) := by decide +kernel
theorem dX8_grade_1 : decode cX8_grade 1 = .ok (.iload_n 1, 1) := by decide +kernel
theorem dX8_grade_2 : decode cX8_grade 2 = .ok (.iload_n 2, 1) := by decide +kernel
theorem dX8_grade_3 : decode cX8_grade 3 = .ok (.invokevirtual 97, 3) := by decide +kernel
theorem dX8_grade_6 : decode cX8_grade 6 = .ok (.ifCond .ne 6, 3) := by decide +kernel
theorem dX8_grade_9 : decode cX8_grade 9 = .ok (.bipush (-2), 2) := by decide +kernel
theorem dX8_grade_11 : decode cX8_grade 11 = .ok (.ireturn, 1) := by decide +kernel
theorem dX8_grade_12 : decode cX8_grade 12 = .ok (.aload_n 0, 1) := by decide +kernel
theorem dX8_grade_13 : decode cX8_grade 13 = .ok (.iload_n 1, 1) := by decide +kernel
theorem dX8_grade_14 : decode cX8_grade 14 = .ok (.invokevirtual 101, 3) := by decide +kernel
theorem dX8_grade_17 : decode cX8_grade 17 = .ok (.ifCond .ne 6, 3) := by decide +kernel
theorem dX8_grade_20 : decode cX8_grade 20 = .ok (.bipush (-3), 2) := by decide +kernel
theorem dX8_grade_22 : decode cX8_grade 22 = .ok (.ireturn, 1) := by decide +kernel
theorem dX8_grade_23 : decode cX8_grade 23 = .ok (.aload_n 0, 1) := by decide +kernel
theorem dX8_grade_24 : decode cX8_grade 24 = .ok (.getfield 11, 3) := by decide +kernel
theorem dX8_grade_27 : decode cX8_grade 27 = .ok (.iload_n 1, 1) := by decide +kernel
theorem dX8_grade_28 : decode cX8_grade 28 = .ok (.aaload, 1) := by decide +kernel
theorem dX8_grade_29 : decode cX8_grade 29 = .ok (.aload_n 0, 1) := by decide +kernel
theorem dX8_grade_30 : decode cX8_grade 30 = .ok (.getfield 23, 3) := by decide +kernel
theorem dX8_grade_33 : decode cX8_grade 33 = .ok (.getfield 104, 3) := by decide +kernel
theorem dX8_grade_36 : decode cX8_grade 36 = .ok (.invokestatic 159, 3) := by decide +kernel
theorem dX8_grade_39 : decode cX8_grade 39 = .ok (.istore_n 3, 1) := by decide +kernel
theorem dX8_grade_40 : decode cX8_grade 40 = .ok (.aload_n 0, 1) := by decide +kernel
theorem dX8_grade_41 : decode cX8_grade 41 = .ok (.getfield 11, 3) := by decide +kernel
theorem dX8_grade_44 : decode cX8_grade 44 = .ok (.iload_n 1, 1) := by decide +kernel
theorem dX8_grade_45 : decode cX8_grade 45 = .ok (.aaload, 1) := by decide +kernel
theorem dX8_grade_46 : decode cX8_grade 46 = .ok (.iload_n 2, 1) := by decide +kernel
theorem dX8_grade_47 : decode cX8_grade 47 = .ok (.iload_n 3, 1) := by decide +kernel
theorem dX8_grade_48 : decode cX8_grade 48 = .ok (.invokestatic 163, 3) := by decide +kernel
theorem dX8_grade_51 : decode cX8_grade 51 = .ok (.invokestatic 167, 3) := by decide +kernel
theorem dX8_grade_54 : decode cX8_grade 54 = .ok (.ireturn, 1) := by decide +kernel
set_option maxRecDepth 20000 in
theorem ggX8_within_X8_isTable : GoodIn wsX8_within wsX8_isTable := goodIn_r _ [7] (by decide +kernel) (by decide +kernel)
set_option maxRecDepth 20000 in
theorem gX8_within_X8_isTable : GoodIn wsX8_within (va_wsS RX8 66 yX8_isTable wsX8_isTable) := goodIn_app (goodIn_of _ (by decide +kernel)) ggX8_within_X8_isTable
set_option maxRecDepth 20000 in
theorem ggX8_within_X8_isRight : GoodIn wsX8_within wsX8_isRight := goodIn_r _ [11, 2, 1, 12, 13, 14, 15, 16, 17, 18, 19, 20, 21, 22, 23, 24, 25, 26, 27, 28, 29, 30, 31, 32, 33, 34, 35, 36, 37, 38, 39, 40, 41, 42, 43, 44, 45, 46, 47, 48, 49, 50, 51, 52, 53, 54, 55, 56, 57, 58, 59, 60, 76, 77, 78, 79, 80, 81, 82, 83, 84, 85, 86, 87, 88, 89, 90] (by decide +kernel) (by decide +kernel)
set_option maxRecDepth 20000 in
theorem gX8_within_X8_isRight : GoodIn wsX8_within (wsV RX8 101 RX8 yX8_isRight wsX8_isRight) := goodIn_app (goodIn_of _ (by decide +kernel)) ggX8_within_X8_isRight
set_option maxRecDepth 20000 in
theorem ggX8_within_X5_countClosed : GoodIn wsX8_within wsX5_countClosed := goodIn_r _ [64, 65, 66, 67, 63, 68, 69, 70, 71, 72, 73, 74, 75, 29, 30, 31, 32, 33, 34, 35, 36, 89, 90] (by decide +kernel) (by decide +kernel)
set_option maxRecDepth 20000 in
theorem gX8_within_X5_countClosed : GoodIn wsX8_within (va_wsS RX8 171 yX5_countClosed wsX5_countClosed) := goodIn_app (goodIn_of _ (by decide +kernel)) ggX8_within_X5_countClosed
theorem dX8_within_0 : decode cX8_within 0 = .ok (.iload_n 1, 1) := by decide +kernel
theorem dX8_within_1 : decode cX8_within 1 = .ok (.invokestatic 66, 3) := by decide +kernel
theorem dX8_within_4 : decode cX8_within 4 = .ok (.ifCond .ne 6, 3) := by decide +kernel
theorem dX8_within_7 : decode cX8_within 7 = .ok (.bipush (-2), 2) := by decide +kernel
theorem dX8_within_9 : decode cX8_within 9 = .ok (.ireturn, 1) := by decide +kernel
theorem dX8_within_10 : decode cX8_within 10 = .ok (.aload_n 0, 1) := by decide +kernel
theorem dX8_within_11 : decode cX8_within 11 = .ok (.iload_n 1, 1) := by decide +kernel
theorem dX8_within_12 : decode cX8_within 12 = .ok (.invokevirtual 101, 3) := by decide +kernel
theorem dX8_within_15 : decode cX8_within 15 = .ok (.ifCond .eq 22, 3) := by decide +kernel
theorem dX8_within_18 : decode cX8_within 18 = .ok (.aload_n 0, 1) := by decide +kernel
theorem dX8_within_19 : decode cX8_within 19 = .ok (.getfield 11, 3) := by decide +kernel
theorem dX8_within_22 : decode cX8_within 22 = .ok (.iload_n 1, 1) := by decide +kernel
theorem dX8_within_23 : decode cX8_within 23 = .ok (.aaload, 1) := by decide +kernel
theorem dX8_within_24 : decode cX8_within 24 = .ok (.aload_n 0, 1) := by decide +kernel
theorem dX8_within_25 : decode cX8_within 25 = .ok (.getfield 23, 3) := by decide +kernel
theorem dX8_within_28 : decode cX8_within 28 = .ok (.getfield 104, 3) := by decide +kernel
theorem dX8_within_31 : decode cX8_within 31 = .ok (.invokestatic 171, 3) := by decide +kernel
theorem dX8_within_34 : decode cX8_within 34 = .ok (.goto 5, 3) := by decide +kernel
theorem dX8_within_37 : decode cX8_within 37 = .ok (.bipush (-3), 2) := by decide +kernel
theorem dX8_within_39 : decode cX8_within 39 = .ok (.ireturn, 1) := by decide +kernel
set_option maxRecDepth 20000 in
theorem ggX8_like_X8_isTable : GoodIn wsX8_like wsX8_isTable := goodIn_r _ [6] (by decide +kernel) (by decide +kernel)
set_option maxRecDepth 20000 in
theorem gX8_like_X8_isTable : GoodIn wsX8_like (va_wsS RX8 66 yX8_isTable wsX8_isTable) := goodIn_app (goodIn_of _ (by decide +kernel)) ggX8_like_X8_isTable
set_option maxRecDepth 20000 in
theorem ggX8_like_X3_count : GoodIn wsX8_like wsX3_count := goodIn_r _ [11, 12, 13, 14, 15, 10, 16, 17, 18, 19, 20, 21, 22, 23, 24, 25, 26, 27, 28, 39, 40, 41] (by decide +kernel) (by decide +kernel)
set_option maxRecDepth 20000 in
theorem gX8_like_X3_count : GoodIn wsX8_like (wsV RX8 174 RX3 yX3_count wsX3_count) := goodIn_app (goodIn_of _ (by decide +kernel)) ggX8_like_X3_count
theorem dX8_like_0 : decode cX8_like 0 = .ok (.iload_n 1, 1) := by decide +kernel
theorem dX8_like_1 : decode cX8_like 1 = .ok (.invokestatic 66, 3) := by decide +kernel
theorem dX8_like_4 : decode cX8_like 4 = .ok (.ifCond .eq 10, 3) := by decide +kernel
theorem dX8_like_7 : decode cX8_like 7 = .ok (.iload_n 2, 1) := by decide +kernel
theorem dX8_like_8 : decode cX8_like 8 = .ok (.invokestatic 66, 3) := by decide +kernel
theorem dX8_like_11 : decode cX8_like 11 = .ok (.ifCond .ne 6, 3) := by decide +kernel
theorem dX8_like_14 : decode cX8_like 14 = .ok (.bipush (-2), 2) := by decide +kernel
theorem dX8_like_16 : decode cX8_like 16 = .ok (.ireturn, 1) := by decide +kernel
theorem dX8_like_17 : decode cX8_like 17 = .ok (.aload_n 0, 1) := by decide +kernel
theorem dX8_like_18 : decode cX8_like 18 = .ok (.getfield 44, 3) := by decide +kernel
theorem dX8_like_21 : decode cX8_like 21 = .ok (.aload_n 0, 1) := by decide +kernel
theorem dX8_like_22 : decode cX8_like 22 = .ok (.getfield 11, 3) := by decide +kernel
theorem dX8_like_25 : decode cX8_like 25 = .ok (.iload_n 1, 1) := by decide +kernel
theorem dX8_like_26 : decode cX8_like 26 = .ok (.aaload, 1) := by decide +kernel
theorem dX8_like_27 : decode cX8_like 27 = .ok (.aload_n 0, 1) := by decide +kernel
theorem dX8_like_28 : decode cX8_like 28 = .ok (.getfield 11, 3) := by decide +kernel
theorem dX8_like_31 : decode cX8_like 31 = .ok (.iload_n 2, 1) := by decide +kernel
theorem dX8_like_32 : decode cX8_like 32 = .ok (.aaload, 1) := by decide +kernel
theorem dX8_like_33 : decode cX8_like 33 = .ok (.invokevirtual 174, 3) := by decide +kernel
theorem dX8_like_36 : decode cX8_like 36 = .ok (.ireturn, 1) := by decide +kernel
set_option maxRecDepth 20000 in
theorem ggX8_maps_X8_isTable : GoodIn wsX8_maps wsX8_isTable := goodIn_r _ [6] (by decide +kernel) (by decide +kernel)
set_option maxRecDepth 20000 in
theorem gX8_maps_X8_isTable : GoodIn wsX8_maps (va_wsS RX8 66 yX8_isTable wsX8_isTable) := goodIn_app (goodIn_of _ (by decide +kernel)) ggX8_maps_X8_isTable
set_option maxRecDepth 20000 in
theorem ggX8_maps_X8_isPrime : GoodIn wsX8_maps wsX8_isPrime := goodIn_r _ [9, 10] (by decide +kernel) (by decide +kernel)
set_option maxRecDepth 20000 in
theorem gX8_maps_X8_isPrime : GoodIn wsX8_maps (va_wsS RX8 178 yX8_isPrime wsX8_isPrime) := goodIn_app (goodIn_of _ (by decide +kernel)) ggX8_maps_X8_isPrime
set_option maxRecDepth 20000 in
theorem ggX8_maps_X8_isRight : GoodIn wsX8_maps wsX8_isRight := goodIn_r _ [14, 15, 2, 16, 17, 18, 19, 20, 21, 22, 23, 24, 25, 26, 27, 28, 29, 30, 31, 32, 33, 34, 35, 36, 37, 38, 39, 40, 41, 42, 43, 44, 45, 46, 47, 48, 49, 50, 51, 52, 53, 54, 55, 56, 57, 58, 59, 60, 61, 62, 63, 64, 91, 92, 93, 94, 95, 96, 97, 98, 99, 100, 101, 102, 103, 104, 105] (by decide +kernel) (by decide +kernel)
set_option maxRecDepth 20000 in
theorem gX8_maps_X8_isRight : GoodIn wsX8_maps (wsV RX8 101 RX8 yX8_isRight wsX8_isRight) := goodIn_app (goodIn_of _ (by decide +kernel)) ggX8_maps_X8_isRight
set_option maxRecDepth 20000 in
theorem ggX8_maps_X4_count : GoodIn wsX8_maps wsX4_count := goodIn_r _ [69, 70, 71, 72, 73, 68, 74, 75, 76, 77, 24, 25, 26, 78, 79, 80, 81, 82, 83, 84, 85, 86, 33, 34, 35, 36, 37, 38, 39, 40, 87, 88, 89, 90, 106, 107, 104, 105] (by decide +kernel) (by decide +kernel)
set_option maxRecDepth 20000 in
theorem gX8_maps_X4_count : GoodIn wsX8_maps (wsV RX8 181 RX4 yX4_count wsX4_count) := goodIn_app (goodIn_of _ (by decide +kernel)) ggX8_maps_X4_count
theorem dX8_maps_0 : decode cX8_maps 0 = .ok (.iload_n 1, 1) := by decide +kernel
theorem dX8_maps_1 : decode cX8_maps 1 = .ok (.invokestatic 66, 3) := by decide +kernel
theorem dX8_maps_4 : decode cX8_maps 4 = .ok (.ifCond .eq 10, 3) := by decide +kernel
theorem dX8_maps_7 : decode cX8_maps 7 = .ok (.iload_n 2, 1) := by decide +kernel
theorem dX8_maps_8 : decode cX8_maps 8 = .ok (.invokestatic 178, 3) := by decide +kernel
theorem dX8_maps_11 : decode cX8_maps 11 = .ok (.ifCond .ne 6, 3) := by decide +kernel
theorem dX8_maps_14 : decode cX8_maps 14 = .ok (.bipush (-2), 2) := by decide +kernel
theorem dX8_maps_16 : decode cX8_maps 16 = .ok (.ireturn, 1) := by decide +kernel
theorem dX8_maps_17 : decode cX8_maps 17 = .ok (.aload_n 0, 1) := by decide +kernel
theorem dX8_maps_18 : decode cX8_maps 18 = .ok (.iload_n 1, 1) := by decide +kernel
theorem dX8_maps_19 : decode cX8_maps 19 = .ok (.invokevirtual 101, 3) := by decide +kernel
theorem dX8_maps_22 : decode cX8_maps 22 = .ok (.ifCond .eq 20, 3) := by decide +kernel
theorem dX8_maps_25 : decode cX8_maps 25 = .ok (.aload_n 0, 1) := by decide +kernel
theorem dX8_maps_26 : decode cX8_maps 26 = .ok (.getfield 51, 3) := by decide +kernel
theorem dX8_maps_29 : decode cX8_maps 29 = .ok (.aload_n 0, 1) := by decide +kernel
theorem dX8_maps_30 : decode cX8_maps 30 = .ok (.getfield 11, 3) := by decide +kernel
theorem dX8_maps_33 : decode cX8_maps 33 = .ok (.iload_n 1, 1) := by decide +kernel
theorem dX8_maps_34 : decode cX8_maps 34 = .ok (.aaload, 1) := by decide +kernel
theorem dX8_maps_35 : decode cX8_maps 35 = .ok (.iload_n 2, 1) := by decide +kernel
theorem dX8_maps_36 : decode cX8_maps 36 = .ok (.invokevirtual 181, 3) := by decide +kernel
theorem dX8_maps_39 : decode cX8_maps 39 = .ok (.goto 5, 3) := by decide +kernel
theorem dX8_maps_42 : decode cX8_maps 42 = .ok (.bipush (-3), 2) := by decide +kernel
theorem dX8_maps_44 : decode cX8_maps 44 = .ok (.ireturn, 1) := by decide +kernel
set_option maxRecDepth 20000 in
theorem ggX8_map_X8_isKind : GoodIn wsX8_map wsX8_isKind := goodIn_r _ [8, 2, 9, 10, 7, 11, 12, 13, 14, 15, 16, 17, 101, 102, 103, 104, 105, 106, 107, 108, 109, 110, 113, 114] (by decide +kernel) (by decide +kernel)
set_option maxRecDepth 20000 in
theorem gX8_map_X8_isKind : GoodIn wsX8_map (wsV RX8 97 RX8 yX8_isKind wsX8_isKind) := goodIn_app (goodIn_of _ (by decide +kernel)) ggX8_map_X8_isKind
set_option maxRecDepth 20000 in
theorem ggX8_map_X8_isPrime : GoodIn wsX8_map wsX8_isPrime := goodIn_r _ [20, 21] (by decide +kernel) (by decide +kernel)
set_option maxRecDepth 20000 in
theorem gX8_map_X8_isPrime : GoodIn wsX8_map (va_wsS RX8 178 yX8_isPrime wsX8_isPrime) := goodIn_app (goodIn_of _ (by decide +kernel)) ggX8_map_X8_isPrime
set_option maxRecDepth 20000 in
theorem ggX8_map_X8_isRight : GoodIn wsX8_map wsX8_isRight := goodIn_r _ [25, 26, 2, 27, 28, 29, 30, 31, 32, 33, 34, 35, 36, 37, 38, 39, 40, 41, 42, 43, 44, 45, 15, 46, 47, 48, 49, 50, 51, 52, 53, 54, 55, 56, 57, 58, 59, 60, 61, 62, 63, 64, 65, 66, 67, 68, 69, 70, 71, 72, 73, 74, 101, 102, 103, 104, 105, 106, 107, 108, 109, 110, 115, 116, 117, 113, 114] (by decide +kernel) (by decide +kernel)
set_option maxRecDepth 20000 in
theorem gX8_map_X8_isRight : GoodIn wsX8_map (wsV RX8 101 RX8 yX8_isRight wsX8_isRight) := goodIn_app (goodIn_of _ (by decide +kernel)) ggX8_map_X8_isRight
set_option maxRecDepth 20000 in
theorem ggX8_map_X4_find : GoodIn wsX8_map wsX4_find := goodIn_r _ [79, 80, 81, 82, 78, 83, 84, 85, 86, 87, 35, 36, 37, 88, 89, 90, 91, 92, 93, 94, 95, 96, 44, 45, 15, 46, 47, 48, 49, 50, 97, 98, 99, 100, 111, 112, 113, 114] (by decide +kernel) (by decide +kernel)
set_option maxRecDepth 20000 in
theorem gX8_map_X4_find : GoodIn wsX8_map (wsV RX8 184 RX4 yX4_find wsX4_find) := goodIn_app (goodIn_of _ (by decide +kernel)) ggX8_map_X4_find
theorem dX8_map_0 : decode cX8_map 0 = .ok (.aload_n 0, 1) := by decide +kernel
theorem dX8_map_1 : decode cX8_map 1 = .ok (.iload_n 1, 1) := by decide +kernel
theorem dX8_map_2 : decode cX8_map 2 = .ok (.iload 4, 2) := by decide +kernel
theorem dX8_map_4 : decode cX8_map 4 = .ok (.invokevirtual 97, 3) := by decide +kernel
theorem dX8_map_7 : decode cX8_map 7 = .ok (.ifCond .eq 14, 3) := by decide +kernel
theorem dX8_map_10 : decode cX8_map 10 = .ok (.iload_n 2, 1) := by decide +kernel
theorem dX8_map_11 : decode cX8_map 11 = .ok (.invokestatic 178, 3) := by decide +kernel
theorem dX8_map_14 : decode cX8_map 14 = .ok (.ifCond .eq 7, 3) := by decide +kernel
theorem dX8_map_17 : decode cX8_map 17 = .ok (.iload_n 3, 1) := by decide +kernel
theorem dX8_map_18 : decode cX8_map 18 = .ok (.ifCond .ge 6, 3) := by decide +kernel
theorem dX8_map_21 : decode cX8_map 21 = .ok (.bipush (-2), 2) := by decide +kernel
theorem dX8_map_23 : decode cX8_map 23 = .ok (.ireturn, 1) := by decide +kernel
theorem dX8_map_24 : decode cX8_map 24 = .ok (.aload_n 0, 1) := by decide +kernel
theorem dX8_map_25 : decode cX8_map 25 = .ok (.iload_n 1, 1) := by decide +kernel
theorem dX8_map_26 : decode cX8_map 26 = .ok (.invokevirtual 101, 3) := by decide +kernel
theorem dX8_map_29 : decode cX8_map 29 = .ok (.ifCond .ne 6, 3) := by decide +kernel
theorem dX8_map_32 : decode cX8_map 32 = .ok (.bipush (-3), 2) := by decide +kernel
theorem dX8_map_34 : decode cX8_map 34 = .ok (.ireturn, 1) := by decide +kernel
theorem dX8_map_35 : decode cX8_map 35 = .ok (.aload_n 0, 1) := by decide +kernel
theorem dX8_map_36 : decode cX8_map 36 = .ok (.getfield 51, 3) := by decide +kernel
theorem dX8_map_39 : decode cX8_map 39 = .ok (.aload_n 0, 1) := by decide +kernel
theorem dX8_map_40 : decode cX8_map 40 = .ok (.getfield 11, 3) := by decide +kernel
theorem dX8_map_43 : decode cX8_map 43 = .ok (.iload_n 1, 1) := by decide +kernel
theorem dX8_map_44 : decode cX8_map 44 = .ok (.aaload, 1) := by decide +kernel
theorem dX8_map_45 : decode cX8_map 45 = .ok (.iload_n 2, 1) := by decide +kernel
theorem dX8_map_46 : decode cX8_map 46 = .ok (.iload_n 3, 1) := by decide +kernel
theorem dX8_map_47 : decode cX8_map 47 = .ok (.invokevirtual 184, 3) := by decide +kernel
theorem dX8_map_50 : decode cX8_map 50 = .ok (.ifCond .eq 16, 3) := by decide +kernel
theorem dX8_map_53 : decode cX8_map 53 = .ok (.aload_n 0, 1) := by decide +kernel
theorem dX8_map_54 : decode cX8_map 54 = .ok (.getfield 51, 3) := by decide +kernel
theorem dX8_map_57 : decode cX8_map 57 = .ok (.getfield 188, 3) := by decide +kernel
theorem dX8_map_60 : decode cX8_map 60 = .ok (.iload 4, 2) := by decide +kernel
theorem dX8_map_62 : decode cX8_map 62 = .ok (.iaload, 1) := by decide +kernel
theorem dX8_map_63 : decode cX8_map 63 = .ok (.goto 4, 3) := by decide +kernel
theorem dX8_map_66 : decode cX8_map 66 = .ok (.iconst (-1), 1) := by decide +kernel
theorem dX8_map_67 : decode cX8_map 67 = .ok (.ireturn, 1) := by decide +kernel
set_option maxRecDepth 20000 in
theorem ggX8_size_X8_isTable : GoodIn wsX8_size wsX8_isTable := goodIn_r _ [6] (by decide +kernel) (by decide +kernel)
set_option maxRecDepth 20000 in
theorem gX8_size_X8_isTable : GoodIn wsX8_size (va_wsS RX8 66 yX8_isTable wsX8_isTable) := goodIn_app (goodIn_of _ (by decide +kernel)) ggX8_size_X8_isTable
set_option maxRecDepth 20000 in
theorem ggX8_size_X8_isRight : GoodIn wsX8_size wsX8_isRight := goodIn_r _ [10, 11, 2, 12, 13, 14, 15, 16, 17, 18, 19, 20, 21, 22, 23, 24, 25, 26, 27, 28, 29, 30, 31, 32, 33, 34, 35, 36, 37, 38, 39, 40, 41, 42, 43, 44, 45, 46, 47, 48, 49, 50, 51, 52, 53, 54, 55, 56, 57, 58, 59, 60, 94, 95, 96, 97, 98, 99, 100, 101, 102, 103, 104, 105, 106, 107, 108] (by decide +kernel) (by decide +kernel)
set_option maxRecDepth 20000 in
theorem gX8_size_X8_isRight : GoodIn wsX8_size (wsV RX8 101 RX8 yX8_isRight wsX8_isRight) := goodIn_app (goodIn_of _ (by decide +kernel)) ggX8_size_X8_isRight
set_option maxRecDepth 20000 in
theorem ggX8_size_X0_tenths : GoodIn wsX8_size wsX0_tenths := goodIn_r _ [65, 66, 67, 68, 69, 64, 70, 71, 72, 29, 30, 31, 32, 33, 34, 35, 36, 73, 74, 75, 76, 77, 78, 79, 80, 81, 82, 83, 84, 85, 86, 87, 88, 89, 90, 91, 92, 93, 107, 108, 109, 110] (by decide +kernel) (by decide +kernel)
set_option maxRecDepth 20000 in
theorem gX8_size_X0_tenths : GoodIn wsX8_size (wsV RX8 191 RX0 yX0_tenths wsX0_tenths) := goodIn_app (goodIn_of _ (by decide +kernel)) ggX8_size_X0_tenths
theorem dX8_size_0 : decode cX8_size 0 = .ok (.iload_n 1, 1) := by decide +kernel
theorem dX8_size_1 : decode cX8_size 1 = .ok (.invokestatic 66, 3) := by decide +kernel
theorem dX8_size_4 : decode cX8_size 4 = .ok (.ifCond .ne 6, 3) := by decide +kernel
theorem dX8_size_7 : decode cX8_size 7 = .ok (.bipush (-2), 2) := by decide +kernel
theorem dX8_size_9 : decode cX8_size 9 = .ok (.ireturn, 1) := by decide +kernel
theorem dX8_size_10 : decode cX8_size 10 = .ok (.aload_n 0, 1) := by decide +kernel
theorem dX8_size_11 : decode cX8_size 11 = .ok (.iload_n 1, 1) := by decide +kernel
theorem dX8_size_12 : decode cX8_size 12 = .ok (.invokevirtual 101, 3) := by decide +kernel
theorem dX8_size_15 : decode cX8_size 15 = .ok (.ifCond .eq 19, 3) := by decide +kernel
theorem dX8_size_18 : decode cX8_size 18 = .ok (.aload_n 0, 1) := by decide +kernel
theorem dX8_size_19 : decode cX8_size 19 = .ok (.getfield 58, 3) := by decide +kernel
theorem dX8_size_22 : decode cX8_size 22 = .ok (.aload_n 0, 1) := by decide +kernel
theorem dX8_size_23 : decode cX8_size 23 = .ok (.getfield 11, 3) := by decide +kernel
theorem dX8_size_26 : decode cX8_size 26 = .ok (.iload_n 1, 1) := by decide +kernel
theorem dX8_size_27 : decode cX8_size 27 = .ok (.aaload, 1) := by decide +kernel
theorem dX8_size_28 : decode cX8_size 28 = .ok (.invokevirtual 191, 3) := by decide +kernel
theorem dX8_size_31 : decode cX8_size 31 = .ok (.goto 5, 3) := by decide +kernel
theorem dX8_size_34 : decode cX8_size 34 = .ok (.bipush (-3), 2) := by decide +kernel
theorem dX8_size_36 : decode cX8_size 36 = .ok (.ireturn, 1) := by decide +kernel
set_option maxRecDepth 20000 in
theorem ggX8_digest_X7_mixInto : GoodIn wsX8_digest wsX7_mixInto := goodIn_r _ [10, 11, 12, 13, 14, 15, 9, 16, 17, 18, 19, 20, 31, 32] (by decide +kernel) (by decide +kernel)
set_option maxRecDepth 20000 in
theorem gX8_digest_X7_mixInto : GoodIn wsX8_digest (wsV RX8 197 RX7 yX7_mixInto wsX7_mixInto) := goodIn_app (goodIn_of _ (by decide +kernel)) ggX8_digest_X7_mixInto
theorem dX8_digest_0 : decode cX8_digest 0 = .ok (.ldc2_w 195, 3) := by decide +kernel
theorem dX8_digest_3 : decode cX8_digest 3 = .ok (.lstore_n 1, 1) := by decide +kernel
theorem dX8_digest_4 : decode cX8_digest 4 = .ok (.iconst 0, 1) := by decide +kernel
theorem dX8_digest_5 : decode cX8_digest 5 = .ok (.istore_n 3, 1) := by decide +kernel
theorem dX8_digest_6 : decode cX8_digest 6 = .ok (.iload_n 3, 1) := by decide +kernel
theorem dX8_digest_7 : decode cX8_digest 7 = .ok (.bipush 6, 2) := by decide +kernel
theorem dX8_digest_9 : decode cX8_digest 9 = .ok (.if_icmp .ge 20, 3) := by decide +kernel
theorem dX8_digest_12 : decode cX8_digest 12 = .ok (.aload_n 0, 1) := by decide +kernel
theorem dX8_digest_13 : decode cX8_digest 13 = .ok (.getfield 11, 3) := by decide +kernel
theorem dX8_digest_16 : decode cX8_digest 16 = .ok (.iload_n 3, 1) := by decide +kernel
theorem dX8_digest_17 : decode cX8_digest 17 = .ok (.aaload, 1) := by decide +kernel
theorem dX8_digest_18 : decode cX8_digest 18 = .ok (.lload_n 1, 1) := by decide +kernel
theorem dX8_digest_19 : decode cX8_digest 19 = .ok (.invokevirtual 197, 3) := by decide +kernel
theorem dX8_digest_22 : decode cX8_digest 22 = .ok (.lstore_n 1, 1) := by decide +kernel
theorem dX8_digest_23 : decode cX8_digest 23 = .ok (.iinc 3 1, 3) := by decide +kernel
theorem dX8_digest_26 : decode cX8_digest 26 = .ok (.goto (-20), 3) := by decide +kernel
theorem dX8_digest_29 : decode cX8_digest 29 = .ok (.ldc2_w 201, 3) := by decide +kernel
theorem dX8_digest_32 : decode cX8_digest 32 = .ok (.lload_n 1, 1) := by decide +kernel
theorem dX8_digest_33 : decode cX8_digest 33 = .ok (.lmul, 1) := by decide +kernel
theorem dX8_digest_34 : decode cX8_digest 34 = .ok (.aload_n 0, 1) := by decide +kernel
theorem dX8_digest_35 : decode cX8_digest 35 = .ok (.getfield 132, 3) := by decide +kernel
theorem dX8_digest_38 : decode cX8_digest 38 = .ok (.i2l, 1) := by decide +kernel
theorem dX8_digest_39 : decode cX8_digest 39 = .ok (.ladd, 1) := by decide +kernel
theorem dX8_digest_40 : decode cX8_digest 40 = .ok (.lstore_n 1, 1) := by decide +kernel
theorem dX8_digest_41 : decode cX8_digest 41 = .ok (.iconst 0, 1) := by decide +kernel
theorem dX8_digest_42 : decode cX8_digest 42 = .ok (.istore_n 3, 1) := by decide +kernel
theorem dX8_digest_43 : decode cX8_digest 43 = .ok (.iload_n 3, 1) := by decide +kernel
theorem dX8_digest_44 : decode cX8_digest 44 = .ok (.aload_n 0, 1) := by decide +kernel
theorem dX8_digest_45 : decode cX8_digest 45 = .ok (.getfield 132, 3) := by decide +kernel
theorem dX8_digest_48 : decode cX8_digest 48 = .ok (.if_icmp .ge 23, 3) := by decide +kernel
theorem dX8_digest_51 : decode cX8_digest 51 = .ok (.ldc2_w 201, 3) := by decide +kernel
theorem dX8_digest_54 : decode cX8_digest 54 = .ok (.lload_n 1, 1) := by decide +kernel
theorem dX8_digest_55 : decode cX8_digest 55 = .ok (.lmul, 1) := by decide +kernel
theorem dX8_digest_56 : decode cX8_digest 56 = .ok (.aload_n 0, 1) := by decide +kernel
theorem dX8_digest_57 : decode cX8_digest 57 = .ok (.getfield 62, 3) := by decide +kernel
theorem dX8_digest_60 : decode cX8_digest 60 = .ok (.iload_n 3, 1) := by decide +kernel
theorem dX8_digest_61 : decode cX8_digest 61 = .ok (.iaload, 1) := by decide +kernel
theorem dX8_digest_62 : decode cX8_digest 62 = .ok (.i2l, 1) := by decide +kernel
theorem dX8_digest_63 : decode cX8_digest 63 = .ok (.ladd, 1) := by decide +kernel
theorem dX8_digest_64 : decode cX8_digest 64 = .ok (.lstore_n 1, 1) := by decide +kernel
theorem dX8_digest_65 : decode cX8_digest 65 = .ok (.iinc 3 1, 3) := by decide +kernel
theorem dX8_digest_68 : decode cX8_digest 68 = .ok (.goto (-25), 3) := by decide +kernel
theorem dX8_digest_71 : decode cX8_digest 71 = .ok (.lload_n 1, 1) := by decide +kernel
theorem dX8_digest_72 : decode cX8_digest 72 = .ok (.lreturn, 1) := by decide +kernel
theorem dX8_isTable_0 : decode cX8_isTable 0 = .ok (.iload_n 0, 1) := by decide +kernel
theorem dX8_isTable_1 : decode cX8_isTable 1 = .ok (.ifCond .lt 13, 3) := by decide +kernel
theorem dX8_isTable_4 : decode cX8_isTable 4 = .ok (.iload_n 0, 1) := by decide +kernel
theorem dX8_isTable_5 : decode cX8_isTable 5 = .ok (.bipush 6, 2) := by decide +kernel
theorem dX8_isTable_7 : decode cX8_isTable 7 = .ok (.if_icmp .ge 7, 3) := by decide +kernel
theorem dX8_isTable_10 : decode cX8_isTable 10 = .ok (.iconst 1, 1) := by decide +kernel
theorem dX8_isTable_11 : decode cX8_isTable 11 = .ok (.goto 4, 3) := by decide +kernel
theorem dX8_isTable_14 : decode cX8_isTable 14 = .ok (.iconst 0, 1) := by decide +kernel
theorem dX8_isTable_15 : decode cX8_isTable 15 = .ok (.ireturn, 1) := by decide +kernel
set_option maxRecDepth 20000 in
theorem ggX8_isKind_X8_isTable : GoodIn wsX8_isKind wsX8_isTable := goodIn_r _ [5] (by decide +kernel) (by decide +kernel)
set_option maxRecDepth 20000 in
theorem gX8_isKind_X8_isTable : GoodIn wsX8_isKind (va_wsS RX8 66 yX8_isTable wsX8_isTable) := goodIn_app (goodIn_of _ (by decide +kernel)) ggX8_isKind_X8_isTable
set_option maxRecDepth 20000 in
theorem ggX8_isKind_X7_has : GoodIn wsX8_isKind wsX7_has := goodIn_r _ [10, 11, 22, 23] (by decide +kernel) (by decide +kernel)
set_option maxRecDepth 20000 in
theorem gX8_isKind_X7_has : GoodIn wsX8_isKind (wsV RX8 203 RX7 yX7_has wsX7_has) := goodIn_app (goodIn_of _ (by decide +kernel)) ggX8_isKind_X7_has
theorem dX8_isKind_0 : decode cX8_isKind 0 = .ok (.iload_n 1, 1) := by decide +kernel
theorem dX8_isKind_1 : decode cX8_isKind 1 = .ok (.invokestatic 66, 3) := by decide +kernel
theorem dX8_isKind_4 : decode cX8_isKind 4 = .ok (.ifCond .eq 20, 3) := by decide +kernel
theorem dX8_isKind_7 : decode cX8_isKind 7 = .ok (.aload_n 0, 1) := by decide +kernel
theorem dX8_isKind_8 : decode cX8_isKind 8 = .ok (.getfield 11, 3) := by decide +kernel
theorem dX8_isKind_11 : decode cX8_isKind 11 = .ok (.iload_n 1, 1) := by decide +kernel
theorem dX8_isKind_12 : decode cX8_isKind 12 = .ok (.aaload, 1) := by decide +kernel
theorem dX8_isKind_13 : decode cX8_isKind 13 = .ok (.iload_n 2, 1) := by decide +kernel
theorem dX8_isKind_14 : decode cX8_isKind 14 = .ok (.invokevirtual 203, 3) := by decide +kernel
theorem dX8_isKind_17 : decode cX8_isKind 17 = .ok (.ifCond .eq 7, 3) := by decide +kernel
theorem dX8_isKind_20 : decode cX8_isKind 20 = .ok (.iconst 1, 1) := by decide +kernel
theorem dX8_isKind_21 : decode cX8_isKind 21 = .ok (.goto 4, 3) := by decide +kernel
theorem dX8_isKind_24 : decode cX8_isKind 24 = .ok (.iconst 0, 1) := by decide +kernel
theorem dX8_isKind_25 : decode cX8_isKind 25 = .ok (.ireturn, 1) := by decide +kernel
set_option maxRecDepth 20000 in
theorem ggX8_isPlace_X8_isKind : GoodIn wsX8_isPlace wsX8_isKind := goodIn_r _ [6, 1, 7, 8, 5, 9, 10, 11, 12, 13, 14, 15, 16, 17, 18, 19, 20, 21, 22, 23, 24, 25, 26, 27] (by decide +kernel) (by decide +kernel)
set_option maxRecDepth 20000 in
theorem gX8_isPlace_X8_isKind : GoodIn wsX8_isPlace (wsV RX8 97 RX8 yX8_isKind wsX8_isKind) := goodIn_app (goodIn_of _ (by decide +kernel)) ggX8_isPlace_X8_isKind
set_option maxRecDepth 20000 in
theorem ggX8_isPlace_X7_has : GoodIn wsX8_isPlace wsX7_has := goodIn_r _ [14, 15, 26, 27] (by decide +kernel) (by decide +kernel)
set_option maxRecDepth 20000 in
theorem gX8_isPlace_X7_has : GoodIn wsX8_isPlace (wsV RX8 203 RX7 yX7_has wsX7_has) := goodIn_app (goodIn_of _ (by decide +kernel)) ggX8_isPlace_X7_has
theorem dX8_isPlace_0 : decode cX8_isPlace 0 = .ok (.aload_n 0, 1) := by decide +kernel
theorem dX8_isPlace_1 : decode cX8_isPlace 1 = .ok (.iload_n 1, 1) := by decide +kernel
theorem dX8_isPlace_2 : decode cX8_isPlace 2 = .ok (.iload_n 2, 1) := by decide +kernel
theorem dX8_isPlace_3 : decode cX8_isPlace 3 = .ok (.invokevirtual 97, 3) := by decide +kernel
theorem dX8_isPlace_6 : decode cX8_isPlace 6 = .ok (.ifCond .eq 34, 3) := by decide +kernel
theorem dX8_isPlace_9 : decode cX8_isPlace 9 = .ok (.aload_n 0, 1) := by decide +kernel
theorem dX8_isPlace_10 : decode cX8_isPlace 10 = .ok (.getfield 11, 3) := by decide +kernel
theorem dX8_isPlace_13 : decode cX8_isPlace 13 = .ok (.iload_n 1, 1) := by decide +kernel
theorem dX8_isPlace_14 : decode cX8_isPlace 14 = .ok (.aaload, 1) := by decide +kernel
theorem dX8_isPlace_15 : decode cX8_isPlace 15 = .ok (.iload_n 3, 1) := by decide +kernel
theorem dX8_isPlace_16 : decode cX8_isPlace 16 = .ok (.invokevirtual 203, 3) := by decide +kernel
theorem dX8_isPlace_19 : decode cX8_isPlace 19 = .ok (.ifCond .eq 21, 3) := by decide +kernel
theorem dX8_isPlace_22 : decode cX8_isPlace 22 = .ok (.aload_n 0, 1) := by decide +kernel
theorem dX8_isPlace_23 : decode cX8_isPlace 23 = .ok (.getfield 11, 3) := by decide +kernel
theorem dX8_isPlace_26 : decode cX8_isPlace 26 = .ok (.iload_n 1, 1) := by decide +kernel
theorem dX8_isPlace_27 : decode cX8_isPlace 27 = .ok (.aaload, 1) := by decide +kernel
theorem dX8_isPlace_28 : decode cX8_isPlace 28 = .ok (.iload 4, 2) := by decide +kernel
theorem dX8_isPlace_30 : decode cX8_isPlace 30 = .ok (.invokevirtual 203, 3) := by decide +kernel
theorem dX8_isPlace_33 : decode cX8_isPlace 33 = .ok (.ifCond .eq 7, 3) := by decide +kernel
theorem dX8_isPlace_36 : decode cX8_isPlace 36 = .ok (.iconst 1, 1) := by decide +kernel
theorem dX8_isPlace_37 : decode cX8_isPlace 37 = .ok (.goto 4, 3) := by decide +kernel
theorem dX8_isPlace_40 : decode cX8_isPlace 40 = .ok (.iconst 0, 1) := by decide +kernel
theorem dX8_isPlace_41 : decode cX8_isPlace 41 = .ok (.ireturn, 1) := by decide +kernel
set_option maxRecDepth 20000 in
theorem ggX8_isSet_X8_isTable : GoodIn wsX8_isSet wsX8_isTable := goodIn_r _ [6] (by decide +kernel) (by decide +kernel)
set_option maxRecDepth 20000 in
theorem gX8_isSet_X8_isTable : GoodIn wsX8_isSet (va_wsS RX8 66 yX8_isTable wsX8_isTable) := goodIn_app (goodIn_of _ (by decide +kernel)) ggX8_isSet_X8_isTable
theorem dX8_isSet_0 : decode cX8_isSet 0 = .ok (.iload_n 1, 1) := by decide +kernel
theorem dX8_isSet_1 : decode cX8_isSet 1 = .ok (.invokestatic 66, 3) := by decide +kernel
theorem dX8_isSet_4 : decode cX8_isSet 4 = .ok (.ifCond .eq 26, 3) := by decide +kernel
theorem dX8_isSet_7 : decode cX8_isSet 7 = .ok (.iload_n 2, 1) := by decide +kernel
theorem dX8_isSet_8 : decode cX8_isSet 8 = .ok (.ifCond .lt 22, 3) := by decide +kernel
theorem dX8_isSet_11 : decode cX8_isSet 11 = .ok (.iload_n 2, 1) := by decide +kernel
theorem dX8_isSet_12 : decode cX8_isSet 12 = .ok (.iconst 1, 1) := by decide +kernel
theorem dX8_isSet_13 : decode cX8_isSet 13 = .ok (.aload_n 0, 1) := by decide +kernel
theorem dX8_isSet_14 : decode cX8_isSet 14 = .ok (.getfield 11, 3) := by decide +kernel
theorem dX8_isSet_17 : decode cX8_isSet 17 = .ok (.iload_n 1, 1) := by decide +kernel
theorem dX8_isSet_18 : decode cX8_isSet 18 = .ok (.aaload, 1) := by decide +kernel
theorem dX8_isSet_19 : decode cX8_isSet 19 = .ok (.getfield 111, 3) := by decide +kernel
theorem dX8_isSet_22 : decode cX8_isSet 22 = .ok (.ishl, 1) := by decide +kernel
theorem dX8_isSet_23 : decode cX8_isSet 23 = .ok (.if_icmp .ge 7, 3) := by decide +kernel
theorem dX8_isSet_26 : decode cX8_isSet 26 = .ok (.iconst 1, 1) := by decide +kernel
theorem dX8_isSet_27 : decode cX8_isSet 27 = .ok (.goto 4, 3) := by decide +kernel
theorem dX8_isSet_30 : decode cX8_isSet 30 = .ok (.iconst 0, 1) := by decide +kernel
theorem dX8_isSet_31 : decode cX8_isSet 31 = .ok (.ireturn, 1) := by decide +kernel
theorem dX8_isListed_0 : decode cX8_isListed 0 = .ok (.iload_n 0, 1) := by decide +kernel
theorem dX8_isListed_1 : decode cX8_isListed 1 = .ok (.iconst 4, 1) := by decide +kernel
theorem dX8_isListed_2 : decode cX8_isListed 2 = .ok (.if_icmp .ne 7, 3) := by decide +kernel
theorem dX8_isListed_5 : decode cX8_isListed 5 = .ok (.iconst 1, 1) := by decide +kernel
theorem dX8_isListed_6 : decode cX8_isListed 6 = .ok (.goto 4, 3) := by decide +kernel
theorem dX8_isListed_9 : decode cX8_isListed 9 = .ok (.iconst 3, 1) := by decide +kernel
theorem dX8_isListed_10 : decode cX8_isListed 10 = .ok (.istore_n 3, 1) := by decide +kernel
theorem dX8_isListed_11 : decode cX8_isListed 11 = .ok (.iload_n 0, 1) := by decide +kernel
theorem dX8_isListed_12 : decode cX8_isListed 12 = .ok (.iconst 2, 1) := by decide +kernel
theorem dX8_isListed_13 : decode cX8_isListed 13 = .ok (.if_icmp .ne 7, 3) := by decide +kernel
theorem dX8_isListed_16 : decode cX8_isListed 16 = .ok (.iconst 0, 1) := by decide +kernel
theorem dX8_isListed_17 : decode cX8_isListed 17 = .ok (.goto 4, 3) := by decide +kernel
theorem dX8_isListed_20 : decode cX8_isListed 20 = .ok (.iconst 1, 1) := by decide +kernel
theorem dX8_isListed_21 : decode cX8_isListed 21 = .ok (.istore 4, 2) := by decide +kernel
theorem dX8_isListed_23 : decode cX8_isListed 23 = .ok (.iload_n 0, 1) := by decide +kernel
theorem dX8_isListed_24 : decode cX8_isListed 24 = .ok (.iconst 2, 1) := by decide +kernel
theorem dX8_isListed_25 : decode cX8_isListed 25 = .ok (.if_icmp .lt 32, 3) := by decide +kernel
theorem dX8_isListed_28 : decode cX8_isListed 28 = .ok (.iload_n 0, 1) := by decide +kernel
theorem dX8_isListed_29 : decode cX8_isListed 29 = .ok (.iconst 4, 1) := by decide +kernel
theorem dX8_isListed_30 : decode cX8_isListed 30 = .ok (.if_icmp .gt 27, 3) := by decide +kernel
theorem dX8_isListed_33 : decode cX8_isListed 33 = .ok (.iload_n 1, 1) := by decide +kernel
theorem dX8_isListed_34 : decode cX8_isListed 34 = .ok (.iconst 1, 1) := by decide +kernel
theorem dX8_isListed_35 : decode cX8_isListed 35 = .ok (.if_icmp .lt 22, 3) := by decide +kernel
theorem dX8_isListed_38 : decode cX8_isListed 38 = .ok (.iload_n 1, 1) := by decide +kernel
theorem dX8_isListed_39 : decode cX8_isListed 39 = .ok (.iload_n 3, 1) := by decide +kernel
theorem dX8_isListed_40 : decode cX8_isListed 40 = .ok (.if_icmp .gt 17, 3) := by decide +kernel
theorem dX8_isListed_43 : decode cX8_isListed 43 = .ok (.iload_n 2, 1) := by decide +kernel
theorem dX8_isListed_44 : decode cX8_isListed 44 = .ok (.ifCond .lt 13, 3) := by decide +kernel
theorem dX8_isListed_47 : decode cX8_isListed 47 = .ok (.iload_n 2, 1) := by decide +kernel
theorem dX8_isListed_48 : decode cX8_isListed 48 = .ok (.iload 4, 2) := by decide +kernel
theorem dX8_isListed_50 : decode cX8_isListed 50 = .ok (.if_icmp .gt 7, 3) := by decide +kernel
theorem dX8_isListed_53 : decode cX8_isListed 53 = .ok (.iconst 1, 1) := by decide +kernel
theorem dX8_isListed_54 : decode cX8_isListed 54 = .ok (.goto 4, 3) := by decide +kernel
theorem dX8_isListed_57 : decode cX8_isListed 57 = .ok (.iconst 0, 1) := by decide +kernel
theorem dX8_isListed_58 : decode cX8_isListed 58 = .ok (.ireturn, 1) := by decide +kernel
theorem dX8_isPrime_0 : decode cX8_isPrime 0 = .ok (.getstatic 206, 3) := by decide +kernel
theorem dX8_isPrime_3 : decode cX8_isPrime 3 = .ok (.astore_n 1, 1) := by decide +kernel
theorem dX8_isPrime_4 : decode cX8_isPrime 4 = .ok (.aload_n 1, 1) := by decide +kernel
theorem dX8_isPrime_5 : decode cX8_isPrime 5 = .ok (.arraylength, 1) := by decide +kernel
theorem dX8_isPrime_6 : decode cX8_isPrime 6 = .ok (.istore_n 2, 1) := by decide +kernel
theorem dX8_isPrime_7 : decode cX8_isPrime 7 = .ok (.iconst 0, 1) := by decide +kernel
theorem dX8_isPrime_8 : decode cX8_isPrime 8 = .ok (.istore_n 3, 1) := by decide +kernel
theorem dX8_isPrime_9 : decode cX8_isPrime 9 = .ok (.iload_n 3, 1) := by decide +kernel
theorem dX8_isPrime_10 : decode cX8_isPrime 10 = .ok (.iload_n 2, 1) := by decide +kernel
theorem dX8_isPrime_11 : decode cX8_isPrime 11 = .ok (.if_icmp .ge 22, 3) := by decide +kernel
theorem dX8_isPrime_14 : decode cX8_isPrime 14 = .ok (.aload_n 1, 1) := by decide +kernel
theorem dX8_isPrime_15 : decode cX8_isPrime 15 = .ok (.iload_n 3, 1) := by decide +kernel
theorem dX8_isPrime_16 : decode cX8_isPrime 16 = .ok (.iaload, 1) := by decide +kernel
theorem dX8_isPrime_17 : decode cX8_isPrime 17 = .ok (.istore 4, 2) := by decide +kernel
theorem dX8_isPrime_19 : decode cX8_isPrime 19 = .ok (.iload 4, 2) := by decide +kernel
theorem dX8_isPrime_21 : decode cX8_isPrime 21 = .ok (.iload_n 0, 1) := by decide +kernel
theorem dX8_isPrime_22 : decode cX8_isPrime 22 = .ok (.if_icmp .ne 5, 3) := by decide +kernel
theorem dX8_isPrime_25 : decode cX8_isPrime 25 = .ok (.iconst 1, 1) := by decide +kernel
theorem dX8_isPrime_26 : decode cX8_isPrime 26 = .ok (.ireturn, 1) := by decide +kernel
theorem dX8_isPrime_27 : decode cX8_isPrime 27 = .ok (.iinc 3 1, 3) := by decide +kernel
theorem dX8_isPrime_30 : decode cX8_isPrime 30 = .ok (.goto (-21), 3) := by decide +kernel
theorem dX8_isPrime_33 : decode cX8_isPrime 33 = .ok (.iconst 0, 1) := by decide +kernel
theorem dX8_isPrime_34 : decode cX8_isPrime 34 = .ok (.ireturn, 1) := by decide +kernel
set_option maxRecDepth 20000 in
theorem ggX8_isRight_X1_allHold : GoodIn wsX8_isRight wsX1_allHold := goodIn_r _ [7, 8, 9, 10, 11, 12, 13, 14, 15, 16, 6, 17, 18, 19, 20, 21, 22, 23, 24, 25, 26, 27, 28, 29, 30, 31, 32, 33, 34, 35, 36, 37, 38, 39, 40, 41, 42, 43, 44, 45, 46, 47, 48, 49, 50, 51, 62, 63, 64, 65, 66] (by decide +kernel) (by decide +kernel)
set_option maxRecDepth 20000 in
theorem gX8_isRight_X1_allHold : GoodIn wsX8_isRight (wsV RX8 86 RX1 yX1_allHold wsX1_allHold) := goodIn_app (goodIn_of _ (by decide +kernel)) ggX8_isRight_X1_allHold
theorem dX8_isRight_0 : decode cX8_isRight 0 = .ok (.aload_n 0, 1) := by decide +kernel
theorem dX8_isRight_1 : decode cX8_isRight 1 = .ok (.getfield 23, 3) := by decide +kernel
theorem dX8_isRight_4 : decode cX8_isRight 4 = .ok (.aload_n 0, 1) := by decide +kernel
theorem dX8_isRight_5 : decode cX8_isRight 5 = .ok (.getfield 11, 3) := by decide +kernel
theorem dX8_isRight_8 : decode cX8_isRight 8 = .ok (.iload_n 1, 1) := by decide +kernel
theorem dX8_isRight_9 : decode cX8_isRight 9 = .ok (.aaload, 1) := by decide +kernel
theorem dX8_isRight_10 : decode cX8_isRight 10 = .ok (.invokevirtual 86, 3) := by decide +kernel
theorem dX8_isRight_13 : decode cX8_isRight 13 = .ok (.ireturn, 1) := by decide +kernel
set_option maxRecDepth 20000 in
theorem ggX8_hasWord_X7_has : GoodIn wsX8_hasWord wsX7_has := goodIn_r _ [7, 8, 19, 20] (by decide +kernel) (by decide +kernel)
set_option maxRecDepth 20000 in
theorem gX8_hasWord_X7_has : GoodIn wsX8_hasWord (wsV RX8 203 RX7 yX7_has wsX7_has) := goodIn_app (goodIn_of _ (by decide +kernel)) ggX8_hasWord_X7_has
theorem dX8_hasWord_0 : decode cX8_hasWord 0 = .ok (.iconst 0, 1) := by decide +kernel
theorem dX8_hasWord_1 : decode cX8_hasWord 1 = .ok (.istore_n 2, 1) := by decide +kernel
theorem dX8_hasWord_2 : decode cX8_hasWord 2 = .ok (.iload_n 2, 1) := by decide +kernel
theorem dX8_hasWord_3 : decode cX8_hasWord 3 = .ok (.aload_n 0, 1) := by decide +kernel
theorem dX8_hasWord_4 : decode cX8_hasWord 4 = .ok (.getfield 132, 3) := by decide +kernel
theorem dX8_hasWord_7 : decode cX8_hasWord 7 = .ok (.if_icmp .ge 24, 3) := by decide +kernel
theorem dX8_hasWord_10 : decode cX8_hasWord 10 = .ok (.aload_n 1, 1) := by decide +kernel
theorem dX8_hasWord_11 : decode cX8_hasWord 11 = .ok (.aload_n 0, 1) := by decide +kernel
theorem dX8_hasWord_12 : decode cX8_hasWord 12 = .ok (.getfield 62, 3) := by decide +kernel
theorem dX8_hasWord_15 : decode cX8_hasWord 15 = .ok (.iload_n 2, 1) := by decide +kernel
theorem dX8_hasWord_16 : decode cX8_hasWord 16 = .ok (.iaload, 1) := by decide +kernel
theorem dX8_hasWord_17 : decode cX8_hasWord 17 = .ok (.invokevirtual 203, 3) := by decide +kernel
theorem dX8_hasWord_20 : decode cX8_hasWord 20 = .ok (.ifCond .ne 5, 3) := by decide +kernel
theorem dX8_hasWord_23 : decode cX8_hasWord 23 = .ok (.iconst 0, 1) := by decide +kernel
theorem dX8_hasWord_24 : decode cX8_hasWord 24 = .ok (.ireturn, 1) := by decide +kernel
theorem dX8_hasWord_25 : decode cX8_hasWord 25 = .ok (.iinc 2 1, 3) := by decide +kernel
theorem dX8_hasWord_28 : decode cX8_hasWord 28 = .ok (.goto (-26), 3) := by decide +kernel
theorem dX8_hasWord_31 : decode cX8_hasWord 31 = .ok (.iconst 1, 1) := by decide +kernel
theorem dX8_hasWord_32 : decode cX8_hasWord 32 = .ok (.ireturn, 1) := by decide +kernel
set_option maxRecDepth 20000 in
theorem ggX9_init_X9_begin : GoodIn wsX9_init wsX9_begin := goodIn_r _ [23, 5, 6, 24, 25, 26, 22, 27, 28, 29, 30, 31, 32, 33, 34, 35, 36, 37, 38, 39, 40, 41, 42] (by decide +kernel) (by decide +kernel)
set_option maxRecDepth 20000 in
theorem gX9_init_X9_begin : GoodIn wsX9_init (wsV RX9 50 RX9 yX9_begin wsX9_begin) := goodIn_app (goodIn_of _ (by decide +kernel)) ggX9_init_X9_begin
theorem dX9_init_0 : decode cX9_init 0 = .ok (.aload_n 0, 1) := by decide +kernel
theorem dX9_init_1 : decode cX9_init 1 = .ok (.invokespecial 1, 3) := by decide +kernel
theorem dX9_init_4 : decode cX9_init 4 = .ok (.aload_n 0, 1) := by decide +kernel
theorem dX9_init_5 : decode cX9_init 5 = .ok (.bipush 7, 2) := by decide +kernel
theorem dX9_init_7 : decode cX9_init 7 = .ok (.newarray .int, 2) := by decide +kernel
theorem dX9_init_9 : decode cX9_init 9 = .ok (.putfield 7, 3) := by decide +kernel
theorem dX9_init_12 : decode cX9_init 12 = .ok (.aload_n 0, 1) := by decide +kernel
theorem dX9_init_13 : decode cX9_init 13 = .ok (.sipush 875, 3) := by decide +kernel
theorem dX9_init_16 : decode cX9_init 16 = .ok (.newarray .int, 2) := by decide +kernel
theorem dX9_init_18 : decode cX9_init 18 = .ok (.putfield 13, 3) := by decide +kernel
theorem dX9_init_21 : decode cX9_init 21 = .ok (.aload_n 0, 1) := by decide +kernel
theorem dX9_init_22 : decode cX9_init 22 = .ok (.iconst 5, 1) := by decide +kernel
theorem dX9_init_23 : decode cX9_init 23 = .ok (.newarray .int, 2) := by decide +kernel
theorem dX9_init_25 : decode cX9_init 25 = .ok (.putfield 16, 3) := by decide +kernel
theorem dX9_init_28 : decode cX9_init 28 = .ok (.aload_n 0, 1) := by decide +kernel
theorem dX9_init_29 : decode cX9_init 29 = .ok (.iconst 5, 1) := by decide +kernel
theorem dX9_init_30 : decode cX9_init 30 = .ok (.newarray .int, 2) := by decide +kernel
theorem dX9_init_32 : decode cX9_init 32 = .ok (.putfield 19, 3) := by decide +kernel
theorem dX9_init_35 : decode cX9_init 35 = .ok (.aload_n 0, 1) := by decide +kernel
theorem dX9_init_36 : decode cX9_init 36 = .ok (.bipush 125, 2) := by decide +kernel
theorem dX9_init_38 : decode cX9_init 38 = .ok (.newarray .int, 2) := by decide +kernel
theorem dX9_init_40 : decode cX9_init 40 = .ok (.putfield 22, 3) := by decide +kernel
theorem dX9_init_43 : decode cX9_init 43 = .ok (.aload_n 0, 1) := by decide +kernel
theorem dX9_init_44 : decode cX9_init 44 = .ok (.bipush 125, 2) := by decide +kernel
theorem dX9_init_46 : decode cX9_init 46 = .ok (.newarray .int, 2) := by decide +kernel
theorem dX9_init_48 : decode cX9_init 48 = .ok (.putfield 25, 3) := by decide +kernel
theorem dX9_init_51 : decode cX9_init 51 = .ok (.aload_n 0, 1) := by decide +kernel
theorem dX9_init_52 : decode cX9_init 52 = .ok (.bipush 14, 2) := by decide +kernel
theorem dX9_init_54 : decode cX9_init 54 = .ok (.newarray .int, 2) := by decide +kernel
theorem dX9_init_56 : decode cX9_init 56 = .ok (.putfield 28, 3) := by decide +kernel
theorem dX9_init_59 : decode cX9_init 59 = .ok (.aload_n 0, 1) := by decide +kernel
theorem dX9_init_60 : decode cX9_init 60 = .ok (.iconst 5, 1) := by decide +kernel
theorem dX9_init_61 : decode cX9_init 61 = .ok (.newarray .long, 2) := by decide +kernel
theorem dX9_init_63 : decode cX9_init 63 = .ok (.putfield 31, 3) := by decide +kernel
theorem dX9_init_66 : decode cX9_init 66 = .ok (.aload_n 0, 1) := by decide +kernel
theorem dX9_init_67 : decode cX9_init 67 = .ok (.iconst 5, 1) := by decide +kernel
theorem dX9_init_68 : decode cX9_init 68 = .ok (.newarray .long, 2) := by decide +kernel
theorem dX9_init_70 : decode cX9_init 70 = .ok (.putfield 35, 3) := by decide +kernel
theorem dX9_init_73 : decode cX9_init 73 = .ok (.aload_n 0, 1) := by decide +kernel
theorem dX9_init_74 : decode cX9_init 74 = .ok (.iconst 5, 1) := by decide +kernel
theorem dX9_init_75 : decode cX9_init 75 = .ok (.newarray .int, 2) := by decide +kernel
theorem dX9_init_77 : decode cX9_init 77 = .ok (.putfield 38, 3) := by decide +kernel
theorem dX9_init_80 : decode cX9_init 80 = .ok (.aload_n 0, 1) := by decide +kernel
theorem dX9_init_81 : decode cX9_init 81 = .ok (.iconst 5, 1) := by decide +kernel
theorem dX9_init_82 : decode cX9_init 82 = .ok (.newarray .int, 2) := by decide +kernel
theorem dX9_init_84 : decode cX9_init 84 = .ok (.putfield 41, 3) := by decide +kernel
theorem dX9_init_87 : decode cX9_init 87 = .ok (.aload_n 0, 1) := by decide +kernel
theorem dX9_init_88 : decode cX9_init 88 = .ok (.bipush 25, 2) := by decide +kernel
theorem dX9_init_90 : decode cX9_init 90 = .ok (.newarray .int, 2) := by decide +kernel
theorem dX9_init_92 : decode cX9_init 92 = .ok (.putfield 44, 3) := by decide +kernel
theorem dX9_init_95 : decode cX9_init 95 = .ok (.aload_n 0, 1) := by decide +kernel
theorem dX9_init_96 : decode cX9_init 96 = .ok (.iconst 5, 1) := by decide +kernel
theorem dX9_init_97 : decode cX9_init 97 = .ok (.newarray .int, 2) := by decide +kernel
theorem dX9_init_99 : decode cX9_init 99 = .ok (.putfield 47, 3) := by decide +kernel
theorem dX9_init_102 : decode cX9_init 102 = .ok (.iconst 0, 1) := by decide +kernel
theorem dX9_init_103 : decode cX9_init 103 = .ok (.istore_n 1, 1) := by decide +kernel
theorem dX9_init_104 : decode cX9_init 104 = .ok (.iload_n 1, 1) := by decide +kernel
theorem dX9_init_105 : decode cX9_init 105 = .ok (.bipush 6, 2) := by decide +kernel
theorem dX9_init_107 : decode cX9_init 107 = .ok (.if_icmp .gt 15, 3) := by decide +kernel
theorem dX9_init_110 : decode cX9_init 110 = .ok (.aload_n 0, 1) := by decide +kernel
theorem dX9_init_111 : decode cX9_init 111 = .ok (.iload_n 1, 1) := by decide +kernel
theorem dX9_init_112 : decode cX9_init 112 = .ok (.iconst 1, 1) := by decide +kernel
theorem dX9_init_113 : decode cX9_init 113 = .ok (.invokevirtual 50, 3) := by decide +kernel
theorem dX9_init_116 : decode cX9_init 116 = .ok (.iinc 1 1, 3) := by decide +kernel
theorem dX9_init_119 : decode cX9_init 119 = .ok (.goto (-15), 3) := by decide +kernel
theorem dX9_init_122 : decode cX9_init 122 = .ok (.return_, 1) := by decide +kernel
theorem dX9_in_0 : decode cX9_in 0 = .ok (.lload_n 0, 1) := by decide +kernel
theorem dX9_in_1 : decode cX9_in 1 = .ok (.lload_n 2, 1) := by decide +kernel
theorem dX9_in_2 : decode cX9_in 2 = .ok (.lcmp, 1) := by decide +kernel
theorem dX9_in_3 : decode cX9_in 3 = .ok (.ifCond .lt 14, 3) := by decide +kernel
theorem dX9_in_6 : decode cX9_in 6 = .ok (.lload_n 0, 1) := by decide +kernel
theorem dX9_in_7 : decode cX9_in 7 = .ok (.lload 4, 2) := by decide +kernel
theorem dX9_in_9 : decode cX9_in 9 = .ok (.lcmp, 1) := by decide +kernel
theorem dX9_in_10 : decode cX9_in 10 = .ok (.ifCond .gt 7, 3) := by decide +kernel
theorem dX9_in_13 : decode cX9_in 13 = .ok (.iconst 1, 1) := by decide +kernel
theorem dX9_in_14 : decode cX9_in 14 = .ok (.goto 4, 3) := by decide +kernel
theorem dX9_in_17 : decode cX9_in 17 = .ok (.iconst 0, 1) := by decide +kernel
theorem dX9_in_18 : decode cX9_in 18 = .ok (.ireturn, 1) := by decide +kernel
theorem dX9_n_0 : decode cX9_n 0 = .ok (.aload_n 0, 1) := by decide +kernel
theorem dX9_n_1 : decode cX9_n 1 = .ok (.getfield 13, 3) := by decide +kernel
theorem dX9_n_4 : decode cX9_n 4 = .ok (.bipush 125, 2) := by decide +kernel
theorem dX9_n_6 : decode cX9_n 6 = .ok (.iload_n 1, 1) := by decide +kernel
theorem dX9_n_7 : decode cX9_n 7 = .ok (.imul, 1) := by decide +kernel
theorem dX9_n_8 : decode cX9_n 8 = .ok (.bipush 25, 2) := by decide +kernel
theorem dX9_n_10 : decode cX9_n 10 = .ok (.iload_n 2, 1) := by decide +kernel
theorem dX9_n_11 : decode cX9_n 11 = .ok (.imul, 1) := by decide +kernel
theorem dX9_n_12 : decode cX9_n 12 = .ok (.iadd, 1) := by decide +kernel
theorem dX9_n_13 : decode cX9_n 13 = .ok (.iconst 5, 1) := by decide +kernel
theorem dX9_n_14 : decode cX9_n 14 = .ok (.iload_n 3, 1) := by decide +kernel
theorem dX9_n_15 : decode cX9_n 15 = .ok (.imul, 1) := by decide +kernel
theorem dX9_n_16 : decode cX9_n 16 = .ok (.iadd, 1) := by decide +kernel
theorem dX9_n_17 : decode cX9_n 17 = .ok (.iload 4, 2) := by decide +kernel
theorem dX9_n_19 : decode cX9_n 19 = .ok (.iadd, 1) := by decide +kernel
theorem dX9_n_20 : decode cX9_n 20 = .ok (.iaload, 1) := by decide +kernel
theorem dX9_n_21 : decode cX9_n 21 = .ok (.ireturn, 1) := by decide +kernel
theorem dX9_lay_0 : decode cX9_lay 0 = .ok (.aload_n 0, 1) := by decide +kernel
theorem dX9_lay_1 : decode cX9_lay 1 = .ok (.getfield 13, 3) := by decide +kernel
theorem dX9_lay_4 : decode cX9_lay 4 = .ok (.bipush 125, 2) := by decide +kernel
theorem dX9_lay_6 : decode cX9_lay 6 = .ok (.iload_n 1, 1) := by decide +kernel
theorem dX9_lay_7 : decode cX9_lay 7 = .ok (.imul, 1) := by decide +kernel
theorem dX9_lay_8 : decode cX9_lay 8 = .ok (.bipush 25, 2) := by decide +kernel
theorem dX9_lay_10 : decode cX9_lay 10 = .ok (.iload_n 2, 1) := by decide +kernel
theorem dX9_lay_11 : decode cX9_lay 11 = .ok (.imul, 1) := by decide +kernel
theorem dX9_lay_12 : decode cX9_lay 12 = .ok (.iadd, 1) := by decide +kernel
theorem dX9_lay_13 : decode cX9_lay 13 = .ok (.iconst 5, 1) := by decide +kernel
theorem dX9_lay_14 : decode cX9_lay 14 = .ok (.iload_n 3, 1) := by decide +kernel
theorem dX9_lay_15 : decode cX9_lay 15 = .ok (.imul, 1) := by decide +kernel
theorem dX9_lay_16 : decode cX9_lay 16 = .ok (.iadd, 1) := by decide +kernel
theorem dX9_lay_17 : decode cX9_lay 17 = .ok (.iload 4, 2) := by decide +kernel
theorem dX9_lay_19 : decode cX9_lay 19 = .ok (.iadd, 1) := by decide +kernel
theorem dX9_lay_20 : decode cX9_lay 20 = .ok (.iload 5, 2) := by decide +kernel
theorem dX9_lay_22 : decode cX9_lay 22 = .ok (.iastore, 1) := by decide +kernel
theorem dX9_lay_23 : decode cX9_lay 23 = .ok (.return_, 1) := by decide +kernel
set_option maxRecDepth 20000 in
theorem ggX9_begin_X9_lay : GoodIn wsX9_begin wsX9_lay := goodIn_r _ [7, 2, 8, 9, 10, 11, 12, 13, 14, 15, 16, 17, 18, 19, 20, 21, 22] (by decide +kernel) (by decide +kernel)
set_option maxRecDepth 20000 in
theorem gX9_begin_X9_lay : GoodIn wsX9_begin (wsV RX9 54 RX9 yX9_lay wsX9_lay) := goodIn_app (goodIn_of _ (by decide +kernel)) ggX9_begin_X9_lay
theorem dX9_begin_0 : decode cX9_begin 0 = .ok (.aload_n 0, 1) := by decide +kernel
theorem dX9_begin_1 : decode cX9_begin 1 = .ok (.getfield 7, 3) := by decide +kernel
theorem dX9_begin_4 : decode cX9_begin 4 = .ok (.iload_n 1, 1) := by decide +kernel
theorem dX9_begin_5 : decode cX9_begin 5 = .ok (.iload_n 2, 1) := by decide +kernel
theorem dX9_begin_6 : decode cX9_begin 6 = .ok (.iastore, 1) := by decide +kernel
theorem dX9_begin_7 : decode cX9_begin 7 = .ok (.iconst 0, 1) := by decide +kernel
theorem dX9_begin_8 : decode cX9_begin 8 = .ok (.istore_n 3, 1) := by decide +kernel
theorem dX9_begin_9 : decode cX9_begin 9 = .ok (.iload_n 3, 1) := by decide +kernel
theorem dX9_begin_10 : decode cX9_begin 10 = .ok (.bipush 125, 2) := by decide +kernel
theorem dX9_begin_12 : decode cX9_begin 12 = .ok (.if_icmp .ge 21, 3) := by decide +kernel
theorem dX9_begin_15 : decode cX9_begin 15 = .ok (.aload_n 0, 1) := by decide +kernel
theorem dX9_begin_16 : decode cX9_begin 16 = .ok (.getfield 13, 3) := by decide +kernel
theorem dX9_begin_19 : decode cX9_begin 19 = .ok (.bipush 125, 2) := by decide +kernel
theorem dX9_begin_21 : decode cX9_begin 21 = .ok (.iload_n 1, 1) := by decide +kernel
theorem dX9_begin_22 : decode cX9_begin 22 = .ok (.imul, 1) := by decide +kernel
theorem dX9_begin_23 : decode cX9_begin 23 = .ok (.iload_n 3, 1) := by decide +kernel
theorem dX9_begin_24 : decode cX9_begin 24 = .ok (.iadd, 1) := by decide +kernel
theorem dX9_begin_25 : decode cX9_begin 25 = .ok (.iconst 0, 1) := by decide +kernel
theorem dX9_begin_26 : decode cX9_begin 26 = .ok (.iastore, 1) := by decide +kernel
theorem dX9_begin_27 : decode cX9_begin 27 = .ok (.iinc 3 1, 3) := by decide +kernel
theorem dX9_begin_30 : decode cX9_begin 30 = .ok (.goto (-21), 3) := by decide +kernel
theorem dX9_begin_33 : decode cX9_begin 33 = .ok (.iconst 0, 1) := by decide +kernel
theorem dX9_begin_34 : decode cX9_begin 34 = .ok (.istore_n 3, 1) := by decide +kernel
theorem dX9_begin_35 : decode cX9_begin 35 = .ok (.iload_n 3, 1) := by decide +kernel
theorem dX9_begin_36 : decode cX9_begin 36 = .ok (.iload_n 2, 1) := by decide +kernel
theorem dX9_begin_37 : decode cX9_begin 37 = .ok (.if_icmp .ge 27, 3) := by decide +kernel
theorem dX9_begin_40 : decode cX9_begin 40 = .ok (.aload_n 0, 1) := by decide +kernel
theorem dX9_begin_41 : decode cX9_begin 41 = .ok (.iload_n 1, 1) := by decide +kernel
theorem dX9_begin_42 : decode cX9_begin 42 = .ok (.iconst 0, 1) := by decide +kernel
theorem dX9_begin_43 : decode cX9_begin 43 = .ok (.iload_n 3, 1) := by decide +kernel
theorem dX9_begin_44 : decode cX9_begin 44 = .ok (.iload_n 3, 1) := by decide +kernel
theorem dX9_begin_45 : decode cX9_begin 45 = .ok (.iconst 1, 1) := by decide +kernel
theorem dX9_begin_46 : decode cX9_begin 46 = .ok (.invokevirtual 54, 3) := by decide +kernel
theorem dX9_begin_49 : decode cX9_begin 49 = .ok (.aload_n 0, 1) := by decide +kernel
theorem dX9_begin_50 : decode cX9_begin 50 = .ok (.iload_n 1, 1) := by decide +kernel
theorem dX9_begin_51 : decode cX9_begin 51 = .ok (.iload_n 3, 1) := by decide +kernel
theorem dX9_begin_52 : decode cX9_begin 52 = .ok (.iconst 0, 1) := by decide +kernel
theorem dX9_begin_53 : decode cX9_begin 53 = .ok (.iload_n 3, 1) := by decide +kernel
theorem dX9_begin_54 : decode cX9_begin 54 = .ok (.iconst 1, 1) := by decide +kernel
theorem dX9_begin_55 : decode cX9_begin 55 = .ok (.invokevirtual 54, 3) := by decide +kernel
theorem dX9_begin_58 : decode cX9_begin 58 = .ok (.iinc 3 1, 3) := by decide +kernel
theorem dX9_begin_61 : decode cX9_begin 61 = .ok (.goto (-26), 3) := by decide +kernel
theorem dX9_begin_64 : decode cX9_begin 64 = .ok (.return_, 1) := by decide +kernel
theorem dX9_carry_0 : decode cX9_carry 0 = .ok (.aload_n 0, 1) := by decide +kernel
theorem dX9_carry_1 : decode cX9_carry 1 = .ok (.getfield 7, 3) := by decide +kernel
theorem dX9_carry_4 : decode cX9_carry 4 = .ok (.iload_n 2, 1) := by decide +kernel
theorem dX9_carry_5 : decode cX9_carry 5 = .ok (.aload_n 0, 1) := by decide +kernel
theorem dX9_carry_6 : decode cX9_carry 6 = .ok (.getfield 7, 3) := by decide +kernel
theorem dX9_carry_9 : decode cX9_carry 9 = .ok (.iload_n 1, 1) := by decide +kernel
theorem dX9_carry_10 : decode cX9_carry 10 = .ok (.iaload, 1) := by decide +kernel
theorem dX9_carry_11 : decode cX9_carry 11 = .ok (.iastore, 1) := by decide +kernel
theorem dX9_carry_12 : decode cX9_carry 12 = .ok (.iconst 0, 1) := by decide +kernel
theorem dX9_carry_13 : decode cX9_carry 13 = .ok (.istore_n 3, 1) := by decide +kernel
theorem dX9_carry_14 : decode cX9_carry 14 = .ok (.iload_n 3, 1) := by decide +kernel
theorem dX9_carry_15 : decode cX9_carry 15 = .ok (.bipush 125, 2) := by decide +kernel
theorem dX9_carry_17 : decode cX9_carry 17 = .ok (.if_icmp .ge 31, 3) := by decide +kernel
theorem dX9_carry_20 : decode cX9_carry 20 = .ok (.aload_n 0, 1) := by decide +kernel
theorem dX9_carry_21 : decode cX9_carry 21 = .ok (.getfield 13, 3) := by decide +kernel
theorem dX9_carry_24 : decode cX9_carry 24 = .ok (.bipush 125, 2) := by decide +kernel
theorem dX9_carry_26 : decode cX9_carry 26 = .ok (.iload_n 2, 1) := by decide +kernel
theorem dX9_carry_27 : decode cX9_carry 27 = .ok (.imul, 1) := by decide +kernel
theorem dX9_carry_28 : decode cX9_carry 28 = .ok (.iload_n 3, 1) := by decide +kernel
theorem dX9_carry_29 : decode cX9_carry 29 = .ok (.iadd, 1) := by decide +kernel
theorem dX9_carry_30 : decode cX9_carry 30 = .ok (.aload_n 0, 1) := by decide +kernel
theorem dX9_carry_31 : decode cX9_carry 31 = .ok (.getfield 13, 3) := by decide +kernel
theorem dX9_carry_34 : decode cX9_carry 34 = .ok (.bipush 125, 2) := by decide +kernel
theorem dX9_carry_36 : decode cX9_carry 36 = .ok (.iload_n 1, 1) := by decide +kernel
theorem dX9_carry_37 : decode cX9_carry 37 = .ok (.imul, 1) := by decide +kernel
theorem dX9_carry_38 : decode cX9_carry 38 = .ok (.iload_n 3, 1) := by decide +kernel
theorem dX9_carry_39 : decode cX9_carry 39 = .ok (.iadd, 1) := by decide +kernel
theorem dX9_carry_40 : decode cX9_carry 40 = .ok (.iaload, 1) := by decide +kernel
theorem dX9_carry_41 : decode cX9_carry 41 = .ok (.iastore, 1) := by decide +kernel
theorem dX9_carry_42 : decode cX9_carry 42 = .ok (.iinc 3 1, 3) := by decide +kernel
theorem dX9_carry_45 : decode cX9_carry 45 = .ok (.goto (-31), 3) := by decide +kernel
theorem dX9_carry_48 : decode cX9_carry 48 = .ok (.return_, 1) := by decide +kernel
set_option maxRecDepth 20000 in
theorem ggX9_noTable_X9_in : GoodIn wsX9_noTable wsX9_in := goodIn_r _ [5] (by decide +kernel) (by decide +kernel)
set_option maxRecDepth 20000 in
theorem gX9_noTable_X9_in : GoodIn wsX9_noTable (va_wsS RX9 60 yX9_in wsX9_in) := goodIn_app (goodIn_of _ (by decide +kernel)) ggX9_noTable_X9_in
theorem dX9_noTable_0 : decode cX9_noTable 0 = .ok (.iload_n 0, 1) := by decide +kernel
theorem dX9_noTable_1 : decode cX9_noTable 1 = .ok (.i2l, 1) := by decide +kernel
theorem dX9_noTable_2 : decode cX9_noTable 2 = .ok (.lconst 0, 1) := by decide +kernel
theorem dX9_noTable_3 : decode cX9_noTable 3 = .ok (.ldc2_w 58, 3) := by decide +kernel
theorem dX9_noTable_6 : decode cX9_noTable 6 = .ok (.invokestatic 60, 3) := by decide +kernel
theorem dX9_noTable_9 : decode cX9_noTable 9 = .ok (.ifCond .ne 7, 3) := by decide +kernel
theorem dX9_noTable_12 : decode cX9_noTable 12 = .ok (.iconst 1, 1) := by decide +kernel
theorem dX9_noTable_13 : decode cX9_noTable 13 = .ok (.goto 4, 3) := by decide +kernel
theorem dX9_noTable_16 : decode cX9_noTable 16 = .ok (.iconst 0, 1) := by decide +kernel
theorem dX9_noTable_17 : decode cX9_noTable 17 = .ok (.ireturn, 1) := by decide +kernel
set_option maxRecDepth 20000 in
theorem ggX9_isKind_X9_in : GoodIn wsX9_isKind wsX9_in := goodIn_r _ [5] (by decide +kernel) (by decide +kernel)
set_option maxRecDepth 20000 in
theorem gX9_isKind_X9_in : GoodIn wsX9_isKind (va_wsS RX9 60 yX9_in wsX9_in) := goodIn_app (goodIn_of _ (by decide +kernel)) ggX9_isKind_X9_in
theorem dX9_isKind_0 : decode cX9_isKind 0 = .ok (.iload_n 2, 1) := by decide +kernel
theorem dX9_isKind_1 : decode cX9_isKind 1 = .ok (.i2l, 1) := by decide +kernel
theorem dX9_isKind_2 : decode cX9_isKind 2 = .ok (.lconst 0, 1) := by decide +kernel
theorem dX9_isKind_3 : decode cX9_isKind 3 = .ok (.aload_n 0, 1) := by decide +kernel
theorem dX9_isKind_4 : decode cX9_isKind 4 = .ok (.getfield 7, 3) := by decide +kernel
theorem dX9_isKind_7 : decode cX9_isKind 7 = .ok (.iload_n 1, 1) := by decide +kernel
theorem dX9_isKind_8 : decode cX9_isKind 8 = .ok (.iaload, 1) := by decide +kernel
theorem dX9_isKind_9 : decode cX9_isKind 9 = .ok (.iconst 1, 1) := by decide +kernel
theorem dX9_isKind_10 : decode cX9_isKind 10 = .ok (.isub, 1) := by decide +kernel
theorem dX9_isKind_11 : decode cX9_isKind 11 = .ok (.i2l, 1) := by decide +kernel
theorem dX9_isKind_12 : decode cX9_isKind 12 = .ok (.invokestatic 60, 3) := by decide +kernel
theorem dX9_isKind_15 : decode cX9_isKind 15 = .ok (.ireturn, 1) := by decide +kernel
set_option maxRecDepth 20000 in
theorem ggX9_rank_X9_noTable : GoodIn wsX9_rank wsX9_noTable := goodIn_r _ [5, 1, 6, 7, 4, 8] (by decide +kernel) (by decide +kernel)
set_option maxRecDepth 20000 in
theorem gX9_rank_X9_noTable : GoodIn wsX9_rank (va_wsS RX9 64 yX9_noTable wsX9_noTable) := goodIn_app (goodIn_of _ (by decide +kernel)) ggX9_rank_X9_noTable
set_option maxRecDepth 20000 in
theorem ggX9_rank_X9_in : GoodIn wsX9_rank wsX9_in := goodIn_r _ [8] (by decide +kernel) (by decide +kernel)
set_option maxRecDepth 20000 in
theorem gX9_rank_X9_in : GoodIn wsX9_rank (va_wsS RX9 60 yX9_in wsX9_in) := goodIn_app (goodIn_of _ (by decide +kernel)) ggX9_rank_X9_in
set_option maxRecDepth 20000 in
theorem ggX9_rank_X9_begin : GoodIn wsX9_rank wsX9_begin := goodIn_r _ [12, 13, 14, 15, 16, 17, 4, 18, 19, 20, 21, 22, 23, 24, 25, 26, 27, 28, 29, 30, 31, 32, 33] (by decide +kernel) (by decide +kernel)
set_option maxRecDepth 20000 in
theorem gX9_rank_X9_begin : GoodIn wsX9_rank (wsV RX9 50 RX9 yX9_begin wsX9_begin) := goodIn_app (goodIn_of _ (by decide +kernel)) ggX9_rank_X9_begin
theorem dX9_rank_0 : decode cX9_rank 0 = .ok (.iload_n 1, 1) := by decide +kernel
theorem dX9_rank_1 : decode cX9_rank 1 = .ok (.invokestatic 64, 3) := by decide +kernel
theorem dX9_rank_4 : decode cX9_rank 4 = .ok (.ifCond .ne 15, 3) := by decide +kernel
theorem dX9_rank_7 : decode cX9_rank 7 = .ok (.iload_n 2, 1) := by decide +kernel
theorem dX9_rank_8 : decode cX9_rank 8 = .ok (.i2l, 1) := by decide +kernel
theorem dX9_rank_9 : decode cX9_rank 9 = .ok (.lconst 1, 1) := by decide +kernel
theorem dX9_rank_10 : decode cX9_rank 10 = .ok (.ldc2_w 58, 3) := by decide +kernel
theorem dX9_rank_13 : decode cX9_rank 13 = .ok (.invokestatic 60, 3) := by decide +kernel
theorem dX9_rank_16 : decode cX9_rank 16 = .ok (.ifCond .ne 6, 3) := by decide +kernel
theorem dX9_rank_19 : decode cX9_rank 19 = .ok (.bipush (-2), 2) := by decide +kernel
theorem dX9_rank_21 : decode cX9_rank 21 = .ok (.ireturn, 1) := by decide +kernel
theorem dX9_rank_22 : decode cX9_rank 22 = .ok (.aload_n 0, 1) := by decide +kernel
theorem dX9_rank_23 : decode cX9_rank 23 = .ok (.iload_n 1, 1) := by decide +kernel
theorem dX9_rank_24 : decode cX9_rank 24 = .ok (.iload_n 2, 1) := by decide +kernel
theorem dX9_rank_25 : decode cX9_rank 25 = .ok (.invokevirtual 50, 3) := by decide +kernel
theorem dX9_rank_28 : decode cX9_rank 28 = .ok (.iconst 1, 1) := by decide +kernel
theorem dX9_rank_29 : decode cX9_rank 29 = .ok (.ireturn, 1) := by decide +kernel
set_option maxRecDepth 20000 in
theorem ggX9_put_X9_noTable : GoodIn wsX9_put wsX9_noTable := goodIn_r _ [5, 6, 7, 8, 4, 9] (by decide +kernel) (by decide +kernel)
set_option maxRecDepth 20000 in
theorem gX9_put_X9_noTable : GoodIn wsX9_put (va_wsS RX9 64 yX9_noTable wsX9_noTable) := goodIn_app (goodIn_of _ (by decide +kernel)) ggX9_put_X9_noTable
set_option maxRecDepth 20000 in
theorem ggX9_put_X9_isKind : GoodIn wsX9_put wsX9_isKind := goodIn_r _ [13, 14, 7, 8, 4, 9, 24, 25, 26, 27, 28, 29, 30, 31, 32, 33, 34, 35, 36, 37, 38] (by decide +kernel) (by decide +kernel)
set_option maxRecDepth 20000 in
theorem gX9_put_X9_isKind : GoodIn wsX9_put (wsV RX9 68 RX9 yX9_isKind wsX9_isKind) := goodIn_app (goodIn_of _ (by decide +kernel)) ggX9_put_X9_isKind
set_option maxRecDepth 20000 in
theorem ggX9_put_X9_in : GoodIn wsX9_put wsX9_in := goodIn_r _ [9] (by decide +kernel) (by decide +kernel)
set_option maxRecDepth 20000 in
theorem gX9_put_X9_in : GoodIn wsX9_put (va_wsS RX9 60 yX9_in wsX9_in) := goodIn_app (goodIn_of _ (by decide +kernel)) ggX9_put_X9_in
set_option maxRecDepth 20000 in
theorem ggX9_put_X9_n : GoodIn wsX9_put wsX9_n := goodIn_r _ [18, 19, 24, 25, 26, 27, 28, 29, 30, 31, 32, 33, 34, 35, 36, 37, 38] (by decide +kernel) (by decide +kernel)
set_option maxRecDepth 20000 in
theorem gX9_put_X9_n : GoodIn wsX9_put (wsV RX9 74 RX9 yX9_n wsX9_n) := goodIn_app (goodIn_of _ (by decide +kernel)) ggX9_put_X9_n
set_option maxRecDepth 20000 in
theorem ggX9_put_X9_lay : GoodIn wsX9_put wsX9_lay := goodIn_r _ [23, 19, 24, 25, 26, 27, 28, 29, 30, 31, 32, 33, 34, 35, 36, 37, 38] (by decide +kernel) (by decide +kernel)
set_option maxRecDepth 20000 in
theorem gX9_put_X9_lay : GoodIn wsX9_put (wsV RX9 54 RX9 yX9_lay wsX9_lay) := goodIn_app (goodIn_of _ (by decide +kernel)) ggX9_put_X9_lay
theorem dX9_put_0 : decode cX9_put 0 = .ok (.iload_n 1, 1) := by decide +kernel
theorem dX9_put_1 : decode cX9_put 1 = .ok (.invokestatic 64, 3) := by decide +kernel
theorem dX9_put_4 : decode cX9_put 4 = .ok (.ifCond .ne 44, 3) := by decide +kernel
theorem dX9_put_7 : decode cX9_put 7 = .ok (.aload_n 0, 1) := by decide +kernel
theorem dX9_put_8 : decode cX9_put 8 = .ok (.iload_n 1, 1) := by decide +kernel
theorem dX9_put_9 : decode cX9_put 9 = .ok (.iload_n 2, 1) := by decide +kernel
theorem dX9_put_10 : decode cX9_put 10 = .ok (.invokevirtual 68, 3) := by decide +kernel
theorem dX9_put_13 : decode cX9_put 13 = .ok (.ifCond .eq 35, 3) := by decide +kernel
theorem dX9_put_16 : decode cX9_put 16 = .ok (.aload_n 0, 1) := by decide +kernel
theorem dX9_put_17 : decode cX9_put 17 = .ok (.iload_n 1, 1) := by decide +kernel
theorem dX9_put_18 : decode cX9_put 18 = .ok (.iload_n 3, 1) := by decide +kernel
theorem dX9_put_19 : decode cX9_put 19 = .ok (.invokevirtual 68, 3) := by decide +kernel
theorem dX9_put_22 : decode cX9_put 22 = .ok (.ifCond .eq 26, 3) := by decide +kernel
theorem dX9_put_25 : decode cX9_put 25 = .ok (.aload_n 0, 1) := by decide +kernel
theorem dX9_put_26 : decode cX9_put 26 = .ok (.iload_n 1, 1) := by decide +kernel
theorem dX9_put_27 : decode cX9_put 27 = .ok (.iload 4, 2) := by decide +kernel
theorem dX9_put_29 : decode cX9_put 29 = .ok (.invokevirtual 68, 3) := by decide +kernel
theorem dX9_put_32 : decode cX9_put 32 = .ok (.ifCond .eq 16, 3) := by decide +kernel
theorem dX9_put_35 : decode cX9_put 35 = .ok (.iload 5, 2) := by decide +kernel
theorem dX9_put_37 : decode cX9_put 37 = .ok (.i2l, 1) := by decide +kernel
theorem dX9_put_38 : decode cX9_put 38 = .ok (.lconst 0, 1) := by decide +kernel
theorem dX9_put_39 : decode cX9_put 39 = .ok (.ldc2_w 72, 3) := by decide +kernel
theorem dX9_put_42 : decode cX9_put 42 = .ok (.invokestatic 60, 3) := by decide +kernel
theorem dX9_put_45 : decode cX9_put 45 = .ok (.ifCond .ne 6, 3) := by decide +kernel
theorem dX9_put_48 : decode cX9_put 48 = .ok (.bipush (-2), 2) := by decide +kernel
theorem dX9_put_50 : decode cX9_put 50 = .ok (.ireturn, 1) := by decide +kernel
theorem dX9_put_51 : decode cX9_put 51 = .ok (.aload_n 0, 1) := by decide +kernel
theorem dX9_put_52 : decode cX9_put 52 = .ok (.iload_n 1, 1) := by decide +kernel
theorem dX9_put_53 : decode cX9_put 53 = .ok (.iload_n 2, 1) := by decide +kernel
theorem dX9_put_54 : decode cX9_put 54 = .ok (.iload_n 3, 1) := by decide +kernel
theorem dX9_put_55 : decode cX9_put 55 = .ok (.iload 4, 2) := by decide +kernel
theorem dX9_put_57 : decode cX9_put 57 = .ok (.invokevirtual 74, 3) := by decide +kernel
theorem dX9_put_60 : decode cX9_put 60 = .ok (.istore 6, 2) := by decide +kernel
theorem dX9_put_62 : decode cX9_put 62 = .ok (.aload_n 0, 1) := by decide +kernel
theorem dX9_put_63 : decode cX9_put 63 = .ok (.iload_n 1, 1) := by decide +kernel
theorem dX9_put_64 : decode cX9_put 64 = .ok (.iload_n 2, 1) := by decide +kernel
theorem dX9_put_65 : decode cX9_put 65 = .ok (.iload_n 3, 1) := by decide +kernel
theorem dX9_put_66 : decode cX9_put 66 = .ok (.iload 4, 2) := by decide +kernel
theorem dX9_put_68 : decode cX9_put 68 = .ok (.iload 5, 2) := by decide +kernel
theorem dX9_put_70 : decode cX9_put 70 = .ok (.invokevirtual 54, 3) := by decide +kernel
theorem dX9_put_73 : decode cX9_put 73 = .ok (.iload 6, 2) := by decide +kernel
theorem dX9_put_75 : decode cX9_put 75 = .ok (.ireturn, 1) := by decide +kernel
set_option maxRecDepth 20000 in
theorem ggX9_at_X9_noTable : GoodIn wsX9_at wsX9_noTable := goodIn_r _ [4, 5, 6, 7, 3, 8] (by decide +kernel) (by decide +kernel)
set_option maxRecDepth 20000 in
theorem gX9_at_X9_noTable : GoodIn wsX9_at (va_wsS RX9 64 yX9_noTable wsX9_noTable) := goodIn_app (goodIn_of _ (by decide +kernel)) ggX9_at_X9_noTable
set_option maxRecDepth 20000 in
theorem ggX9_at_X9_isKind : GoodIn wsX9_at wsX9_isKind := goodIn_r _ [12, 13, 6, 7, 3, 8, 19, 20, 21, 22, 23, 24, 25, 26, 27, 28, 29, 30, 31, 32, 33] (by decide +kernel) (by decide +kernel)
set_option maxRecDepth 20000 in
theorem gX9_at_X9_isKind : GoodIn wsX9_at (wsV RX9 68 RX9 yX9_isKind wsX9_isKind) := goodIn_app (goodIn_of _ (by decide +kernel)) ggX9_at_X9_isKind
set_option maxRecDepth 20000 in
theorem ggX9_at_X9_n : GoodIn wsX9_at wsX9_n := goodIn_r _ [17, 18, 19, 20, 21, 22, 23, 24, 25, 26, 27, 28, 29, 30, 31, 32, 33] (by decide +kernel) (by decide +kernel)
set_option maxRecDepth 20000 in
theorem gX9_at_X9_n : GoodIn wsX9_at (wsV RX9 74 RX9 yX9_n wsX9_n) := goodIn_app (goodIn_of _ (by decide +kernel)) ggX9_at_X9_n
theorem dX9_at_0 : decode cX9_at 0 = .ok (.iload_n 1, 1) := by decide +kernel
theorem dX9_at_1 : decode cX9_at 1 = .ok (.invokestatic 64, 3) := by decide +kernel
theorem dX9_at_4 : decode cX9_at 4 = .ok (.ifCond .ne 31, 3) := by decide +kernel
theorem dX9_at_7 : decode cX9_at 7 = .ok (.aload_n 0, 1) := by decide +kernel
theorem dX9_at_8 : decode cX9_at 8 = .ok (.iload_n 1, 1) := by decide +kernel
theorem dX9_at_9 : decode cX9_at 9 = .ok (.iload_n 2, 1) := by decide +kernel
theorem dX9_at_10 : decode cX9_at 10 = .ok (.invokevirtual 68, 3) := by decide +kernel
theorem dX9_at_13 : decode cX9_at 13 = .ok (.ifCond .eq 22, 3) := by decide +kernel
theorem dX9_at_16 : decode cX9_at 16 = .ok (.aload_n 0, 1) := by decide +kernel
theorem dX9_at_17 : decode cX9_at 17 = .ok (.iload_n 1, 1) := by decide +kernel
theorem dX9_at_18 : decode cX9_at 18 = .ok (.iload_n 3, 1) := by decide +kernel
theorem dX9_at_19 : decode cX9_at 19 = .ok (.invokevirtual 68, 3) := by decide +kernel
theorem dX9_at_22 : decode cX9_at 22 = .ok (.ifCond .eq 13, 3) := by decide +kernel
theorem dX9_at_25 : decode cX9_at 25 = .ok (.aload_n 0, 1) := by decide +kernel
theorem dX9_at_26 : decode cX9_at 26 = .ok (.iload_n 1, 1) := by decide +kernel
theorem dX9_at_27 : decode cX9_at 27 = .ok (.iload 4, 2) := by decide +kernel
theorem dX9_at_29 : decode cX9_at 29 = .ok (.invokevirtual 68, 3) := by decide +kernel
theorem dX9_at_32 : decode cX9_at 32 = .ok (.ifCond .ne 8, 3) := by decide +kernel
theorem dX9_at_35 : decode cX9_at 35 = .ok (.bipush (-2), 2) := by decide +kernel
theorem dX9_at_37 : decode cX9_at 37 = .ok (.goto 12, 3) := by decide +kernel
theorem dX9_at_40 : decode cX9_at 40 = .ok (.aload_n 0, 1) := by decide +kernel
theorem dX9_at_41 : decode cX9_at 41 = .ok (.iload_n 1, 1) := by decide +kernel
theorem dX9_at_42 : decode cX9_at 42 = .ok (.iload_n 2, 1) := by decide +kernel
theorem dX9_at_43 : decode cX9_at 43 = .ok (.iload_n 3, 1) := by decide +kernel
theorem dX9_at_44 : decode cX9_at 44 = .ok (.iload 4, 2) := by decide +kernel
theorem dX9_at_46 : decode cX9_at 46 = .ok (.invokevirtual 74, 3) := by decide +kernel
theorem dX9_at_49 : decode cX9_at 49 = .ok (.ireturn, 1) := by decide +kernel
theorem dX9_tell_0 : decode cX9_tell 0 = .ok (.aload_n 0, 1) := by decide +kernel
theorem dX9_tell_1 : decode cX9_tell 1 = .ok (.getfield 16, 3) := by decide +kernel
theorem dX9_tell_4 : decode cX9_tell 4 = .ok (.iconst 0, 1) := by decide +kernel
theorem dX9_tell_5 : decode cX9_tell 5 = .ok (.iload_n 1, 1) := by decide +kernel
theorem dX9_tell_6 : decode cX9_tell 6 = .ok (.iastore, 1) := by decide +kernel
theorem dX9_tell_7 : decode cX9_tell 7 = .ok (.aload_n 0, 1) := by decide +kernel
theorem dX9_tell_8 : decode cX9_tell 8 = .ok (.getfield 16, 3) := by decide +kernel
theorem dX9_tell_11 : decode cX9_tell 11 = .ok (.iconst 1, 1) := by decide +kernel
theorem dX9_tell_12 : decode cX9_tell 12 = .ok (.iload_n 2, 1) := by decide +kernel
theorem dX9_tell_13 : decode cX9_tell 13 = .ok (.iastore, 1) := by decide +kernel
theorem dX9_tell_14 : decode cX9_tell 14 = .ok (.aload_n 0, 1) := by decide +kernel
theorem dX9_tell_15 : decode cX9_tell 15 = .ok (.getfield 16, 3) := by decide +kernel
theorem dX9_tell_18 : decode cX9_tell 18 = .ok (.iconst 2, 1) := by decide +kernel
theorem dX9_tell_19 : decode cX9_tell 19 = .ok (.iload_n 3, 1) := by decide +kernel
theorem dX9_tell_20 : decode cX9_tell 20 = .ok (.iastore, 1) := by decide +kernel
theorem dX9_tell_21 : decode cX9_tell 21 = .ok (.aload_n 0, 1) := by decide +kernel
theorem dX9_tell_22 : decode cX9_tell 22 = .ok (.getfield 16, 3) := by decide +kernel
theorem dX9_tell_25 : decode cX9_tell 25 = .ok (.iconst 3, 1) := by decide +kernel
theorem dX9_tell_26 : decode cX9_tell 26 = .ok (.iload 4, 2) := by decide +kernel
theorem dX9_tell_28 : decode cX9_tell 28 = .ok (.iastore, 1) := by decide +kernel
theorem dX9_tell_29 : decode cX9_tell 29 = .ok (.aload_n 0, 1) := by decide +kernel
theorem dX9_tell_30 : decode cX9_tell 30 = .ok (.getfield 16, 3) := by decide +kernel
theorem dX9_tell_33 : decode cX9_tell 33 = .ok (.iconst 4, 1) := by decide +kernel
theorem dX9_tell_34 : decode cX9_tell 34 = .ok (.iload 5, 2) := by decide +kernel
theorem dX9_tell_36 : decode cX9_tell 36 = .ok (.iastore, 1) := by decide +kernel
theorem dX9_tell_37 : decode cX9_tell 37 = .ok (.iconst 1, 1) := by decide +kernel
theorem dX9_tell_38 : decode cX9_tell 38 = .ok (.ireturn, 1) := by decide +kernel
set_option maxRecDepth 20000 in
theorem ggX9_breaksUnit_X9_n : GoodIn wsX9_breaksUnit wsX9_n := goodIn_r _ [6, 7, 13, 14, 15, 16, 17, 18, 19, 20, 21, 22, 23, 24, 25, 26, 27] (by decide +kernel) (by decide +kernel)
set_option maxRecDepth 20000 in
theorem gX9_breaksUnit_X9_n : GoodIn wsX9_breaksUnit (wsV RX9 74 RX9 yX9_n wsX9_n) := goodIn_app (goodIn_of _ (by decide +kernel)) ggX9_breaksUnit_X9_n
set_option maxRecDepth 20000 in
theorem ggX9_breaksUnit_X9_tell : GoodIn wsX9_breaksUnit wsX9_tell := goodIn_r _ [11, 12, 13, 14, 15, 16, 17, 18, 19, 20, 21, 22, 23, 24, 25, 26, 27] (by decide +kernel) (by decide +kernel)
set_option maxRecDepth 20000 in
theorem gX9_breaksUnit_X9_tell : GoodIn wsX9_breaksUnit (wsV RX9 78 RX9 yX9_tell wsX9_tell) := goodIn_app (goodIn_of _ (by decide +kernel)) ggX9_breaksUnit_X9_tell
theorem dX9_breaksUnit_0 : decode cX9_breaksUnit 0 = .ok (.iconst 0, 1) := by decide +kernel
theorem dX9_breaksUnit_1 : decode cX9_breaksUnit 1 = .ok (.istore_n 2, 1) := by decide +kernel
theorem dX9_breaksUnit_2 : decode cX9_breaksUnit 2 = .ok (.iload_n 2, 1) := by decide +kernel
theorem dX9_breaksUnit_3 : decode cX9_breaksUnit 3 = .ok (.aload_n 0, 1) := by decide +kernel
theorem dX9_breaksUnit_4 : decode cX9_breaksUnit 4 = .ok (.getfield 7, 3) := by decide +kernel
theorem dX9_breaksUnit_7 : decode cX9_breaksUnit 7 = .ok (.iload_n 1, 1) := by decide +kernel
theorem dX9_breaksUnit_8 : decode cX9_breaksUnit 8 = .ok (.iaload, 1) := by decide +kernel
theorem dX9_breaksUnit_9 : decode cX9_breaksUnit 9 = .ok (.if_icmp .ge 75, 3) := by decide +kernel
theorem dX9_breaksUnit_12 : decode cX9_breaksUnit 12 = .ok (.iconst 0, 1) := by decide +kernel
theorem dX9_breaksUnit_13 : decode cX9_breaksUnit 13 = .ok (.istore_n 3, 1) := by decide +kernel
theorem dX9_breaksUnit_14 : decode cX9_breaksUnit 14 = .ok (.iload_n 3, 1) := by decide +kernel
theorem dX9_breaksUnit_15 : decode cX9_breaksUnit 15 = .ok (.aload_n 0, 1) := by decide +kernel
theorem dX9_breaksUnit_16 : decode cX9_breaksUnit 16 = .ok (.getfield 7, 3) := by decide +kernel
theorem dX9_breaksUnit_19 : decode cX9_breaksUnit 19 = .ok (.iload_n 1, 1) := by decide +kernel
theorem dX9_breaksUnit_20 : decode cX9_breaksUnit 20 = .ok (.iaload, 1) := by decide +kernel
theorem dX9_breaksUnit_21 : decode cX9_breaksUnit 21 = .ok (.if_icmp .ge 57, 3) := by decide +kernel
theorem dX9_breaksUnit_24 : decode cX9_breaksUnit 24 = .ok (.iload_n 2, 1) := by decide +kernel
theorem dX9_breaksUnit_25 : decode cX9_breaksUnit 25 = .ok (.iload_n 3, 1) := by decide +kernel
theorem dX9_breaksUnit_26 : decode cX9_breaksUnit 26 = .ok (.if_icmp .ne 7, 3) := by decide +kernel
theorem dX9_breaksUnit_29 : decode cX9_breaksUnit 29 = .ok (.iconst 1, 1) := by decide +kernel
theorem dX9_breaksUnit_30 : decode cX9_breaksUnit 30 = .ok (.goto 4, 3) := by decide +kernel
theorem dX9_breaksUnit_33 : decode cX9_breaksUnit 33 = .ok (.iconst 0, 1) := by decide +kernel
theorem dX9_breaksUnit_34 : decode cX9_breaksUnit 34 = .ok (.istore 4, 2) := by decide +kernel
theorem dX9_breaksUnit_36 : decode cX9_breaksUnit 36 = .ok (.aload_n 0, 1) := by decide +kernel
theorem dX9_breaksUnit_37 : decode cX9_breaksUnit 37 = .ok (.iload_n 1, 1) := by decide +kernel
theorem dX9_breaksUnit_38 : decode cX9_breaksUnit 38 = .ok (.iconst 0, 1) := by decide +kernel
theorem dX9_breaksUnit_39 : decode cX9_breaksUnit 39 = .ok (.iload_n 2, 1) := by decide +kernel
theorem dX9_breaksUnit_40 : decode cX9_breaksUnit 40 = .ok (.iload_n 3, 1) := by decide +kernel
theorem dX9_breaksUnit_41 : decode cX9_breaksUnit 41 = .ok (.invokevirtual 74, 3) := by decide +kernel
theorem dX9_breaksUnit_44 : decode cX9_breaksUnit 44 = .ok (.iload 4, 2) := by decide +kernel
theorem dX9_breaksUnit_46 : decode cX9_breaksUnit 46 = .ok (.if_icmp .ne 16, 3) := by decide +kernel
theorem dX9_breaksUnit_49 : decode cX9_breaksUnit 49 = .ok (.aload_n 0, 1) := by decide +kernel
theorem dX9_breaksUnit_50 : decode cX9_breaksUnit 50 = .ok (.iload_n 1, 1) := by decide +kernel
theorem dX9_breaksUnit_51 : decode cX9_breaksUnit 51 = .ok (.iload_n 2, 1) := by decide +kernel
theorem dX9_breaksUnit_52 : decode cX9_breaksUnit 52 = .ok (.iconst 0, 1) := by decide +kernel
theorem dX9_breaksUnit_53 : decode cX9_breaksUnit 53 = .ok (.iload_n 3, 1) := by decide +kernel
theorem dX9_breaksUnit_54 : decode cX9_breaksUnit 54 = .ok (.invokevirtual 74, 3) := by decide +kernel
theorem dX9_breaksUnit_57 : decode cX9_breaksUnit 57 = .ok (.iload 4, 2) := by decide +kernel
theorem dX9_breaksUnit_59 : decode cX9_breaksUnit 59 = .ok (.if_icmp .eq 13, 3) := by decide +kernel
theorem dX9_breaksUnit_62 : decode cX9_breaksUnit 62 = .ok (.aload_n 0, 1) := by decide +kernel
theorem dX9_breaksUnit_63 : decode cX9_breaksUnit 63 = .ok (.iconst 1, 1) := by decide +kernel
theorem dX9_breaksUnit_64 : decode cX9_breaksUnit 64 = .ok (.iload_n 2, 1) := by decide +kernel
theorem dX9_breaksUnit_65 : decode cX9_breaksUnit 65 = .ok (.iload_n 3, 1) := by decide +kernel
theorem dX9_breaksUnit_66 : decode cX9_breaksUnit 66 = .ok (.iconst (-1), 1) := by decide +kernel
theorem dX9_breaksUnit_67 : decode cX9_breaksUnit 67 = .ok (.iconst (-1), 1) := by decide +kernel
theorem dX9_breaksUnit_68 : decode cX9_breaksUnit 68 = .ok (.invokevirtual 78, 3) := by decide +kernel
theorem dX9_breaksUnit_71 : decode cX9_breaksUnit 71 = .ok (.ireturn, 1) := by decide +kernel
theorem dX9_breaksUnit_72 : decode cX9_breaksUnit 72 = .ok (.iinc 3 1, 3) := by decide +kernel
theorem dX9_breaksUnit_75 : decode cX9_breaksUnit 75 = .ok (.goto (-61), 3) := by decide +kernel
theorem dX9_breaksUnit_78 : decode cX9_breaksUnit 78 = .ok (.iinc 2 1, 3) := by decide +kernel
theorem dX9_breaksUnit_81 : decode cX9_breaksUnit 81 = .ok (.goto (-79), 3) := by decide +kernel
theorem dX9_breaksUnit_84 : decode cX9_breaksUnit 84 = .ok (.iconst 0, 1) := by decide +kernel
theorem dX9_breaksUnit_85 : decode cX9_breaksUnit 85 = .ok (.ireturn, 1) := by decide +kernel
set_option maxRecDepth 20000 in
theorem ggX9_breaksPartners_X9_n : GoodIn wsX9_breaksPartners wsX9_n := goodIn_r _ [7, 8, 14, 15, 16, 17, 18, 19, 20, 21, 22, 23, 24, 25, 26, 27, 28] (by decide +kernel) (by decide +kernel)
set_option maxRecDepth 20000 in
theorem gX9_breaksPartners_X9_n : GoodIn wsX9_breaksPartners (wsV RX9 74 RX9 yX9_n wsX9_n) := goodIn_app (goodIn_of _ (by decide +kernel)) ggX9_breaksPartners_X9_n
set_option maxRecDepth 20000 in
theorem ggX9_breaksPartners_X9_tell : GoodIn wsX9_breaksPartners wsX9_tell := goodIn_r _ [12, 13, 14, 15, 16, 17, 18, 19, 20, 21, 22, 23, 24, 25, 26, 27, 28] (by decide +kernel) (by decide +kernel)
set_option maxRecDepth 20000 in
theorem gX9_breaksPartners_X9_tell : GoodIn wsX9_breaksPartners (wsV RX9 78 RX9 yX9_tell wsX9_tell) := goodIn_app (goodIn_of _ (by decide +kernel)) ggX9_breaksPartners_X9_tell
theorem dX9_breaksPartners_0 : decode cX9_breaksPartners 0 = .ok (.iconst 0, 1) := by decide +kernel
theorem dX9_breaksPartners_1 : decode cX9_breaksPartners 1 = .ok (.istore_n 2, 1) := by decide +kernel
theorem dX9_breaksPartners_2 : decode cX9_breaksPartners 2 = .ok (.iload_n 2, 1) := by decide +kernel
theorem dX9_breaksPartners_3 : decode cX9_breaksPartners 3 = .ok (.aload_n 0, 1) := by decide +kernel
theorem dX9_breaksPartners_4 : decode cX9_breaksPartners 4 = .ok (.getfield 7, 3) := by decide +kernel
theorem dX9_breaksPartners_7 : decode cX9_breaksPartners 7 = .ok (.iload_n 1, 1) := by decide +kernel
theorem dX9_breaksPartners_8 : decode cX9_breaksPartners 8 = .ok (.iaload, 1) := by decide +kernel
theorem dX9_breaksPartners_9 : decode cX9_breaksPartners 9 = .ok (.if_icmp .ge 103, 3) := by decide +kernel
theorem dX9_breaksPartners_12 : decode cX9_breaksPartners 12 = .ok (.iconst 0, 1) := by decide +kernel
theorem dX9_breaksPartners_13 : decode cX9_breaksPartners 13 = .ok (.istore_n 3, 1) := by decide +kernel
theorem dX9_breaksPartners_14 : decode cX9_breaksPartners 14 = .ok (.iconst 0, 1) := by decide +kernel
theorem dX9_breaksPartners_15 : decode cX9_breaksPartners 15 = .ok (.istore 4, 2) := by decide +kernel
theorem dX9_breaksPartners_17 : decode cX9_breaksPartners 17 = .ok (.iload 4, 2) := by decide +kernel
theorem dX9_breaksPartners_19 : decode cX9_breaksPartners 19 = .ok (.aload_n 0, 1) := by decide +kernel
theorem dX9_breaksPartners_20 : decode cX9_breaksPartners 20 = .ok (.getfield 7, 3) := by decide +kernel
theorem dX9_breaksPartners_23 : decode cX9_breaksPartners 23 = .ok (.iload_n 1, 1) := by decide +kernel
theorem dX9_breaksPartners_24 : decode cX9_breaksPartners 24 = .ok (.iaload, 1) := by decide +kernel
theorem dX9_breaksPartners_25 : decode cX9_breaksPartners 25 = .ok (.if_icmp .ge 66, 3) := by decide +kernel
theorem dX9_breaksPartners_28 : decode cX9_breaksPartners 28 = .ok (.aload_n 0, 1) := by decide +kernel
theorem dX9_breaksPartners_29 : decode cX9_breaksPartners 29 = .ok (.iload_n 1, 1) := by decide +kernel
theorem dX9_breaksPartners_30 : decode cX9_breaksPartners 30 = .ok (.iload_n 2, 1) := by decide +kernel
theorem dX9_breaksPartners_31 : decode cX9_breaksPartners 31 = .ok (.iload 4, 2) := by decide +kernel
theorem dX9_breaksPartners_33 : decode cX9_breaksPartners 33 = .ok (.iconst 0, 1) := by decide +kernel
theorem dX9_breaksPartners_34 : decode cX9_breaksPartners 34 = .ok (.invokevirtual 74, 3) := by decide +kernel
theorem dX9_breaksPartners_37 : decode cX9_breaksPartners 37 = .ok (.istore 5, 2) := by decide +kernel
theorem dX9_breaksPartners_39 : decode cX9_breaksPartners 39 = .ok (.iload_n 3, 1) := by decide +kernel
theorem dX9_breaksPartners_40 : decode cX9_breaksPartners 40 = .ok (.iload 5, 2) := by decide +kernel
theorem dX9_breaksPartners_42 : decode cX9_breaksPartners 42 = .ok (.ifCond .ne 7, 3) := by decide +kernel
theorem dX9_breaksPartners_45 : decode cX9_breaksPartners 45 = .ok (.iconst 0, 1) := by decide +kernel
theorem dX9_breaksPartners_46 : decode cX9_breaksPartners 46 = .ok (.goto 15, 3) := by decide +kernel
theorem dX9_breaksPartners_49 : decode cX9_breaksPartners 49 = .ok (.iload 5, 2) := by decide +kernel
theorem dX9_breaksPartners_51 : decode cX9_breaksPartners 51 = .ok (.iconst 1, 1) := by decide +kernel
theorem dX9_breaksPartners_52 : decode cX9_breaksPartners 52 = .ok (.if_icmp .ne 7, 3) := by decide +kernel
theorem dX9_breaksPartners_55 : decode cX9_breaksPartners 55 = .ok (.iconst 1, 1) := by decide +kernel
theorem dX9_breaksPartners_56 : decode cX9_breaksPartners 56 = .ok (.goto 5, 3) := by decide +kernel
theorem dX9_breaksPartners_59 : decode cX9_breaksPartners 59 = .ok (.bipush 9, 2) := by decide +kernel
theorem dX9_breaksPartners_61 : decode cX9_breaksPartners 61 = .ok (.iadd, 1) := by decide +kernel
theorem dX9_breaksPartners_62 : decode cX9_breaksPartners 62 = .ok (.istore_n 3, 1) := by decide +kernel
theorem dX9_breaksPartners_63 : decode cX9_breaksPartners 63 = .ok (.aload_n 0, 1) := by decide +kernel
theorem dX9_breaksPartners_64 : decode cX9_breaksPartners 64 = .ok (.getfield 19, 3) := by decide +kernel
theorem dX9_breaksPartners_67 : decode cX9_breaksPartners 67 = .ok (.iload_n 2, 1) := by decide +kernel
theorem dX9_breaksPartners_68 : decode cX9_breaksPartners 68 = .ok (.iload 5, 2) := by decide +kernel
theorem dX9_breaksPartners_70 : decode cX9_breaksPartners 70 = .ok (.ifCond .le 8, 3) := by decide +kernel
theorem dX9_breaksPartners_73 : decode cX9_breaksPartners 73 = .ok (.iload 4, 2) := by decide +kernel
theorem dX9_breaksPartners_75 : decode cX9_breaksPartners 75 = .ok (.goto 9, 3) := by decide +kernel
theorem dX9_breaksPartners_78 : decode cX9_breaksPartners 78 = .ok (.aload_n 0, 1) := by decide +kernel
theorem dX9_breaksPartners_79 : decode cX9_breaksPartners 79 = .ok (.getfield 19, 3) := by decide +kernel
theorem dX9_breaksPartners_82 : decode cX9_breaksPartners 82 = .ok (.iload_n 2, 1) := by decide +kernel
theorem dX9_breaksPartners_83 : decode cX9_breaksPartners 83 = .ok (.iaload, 1) := by decide +kernel
theorem dX9_breaksPartners_84 : decode cX9_breaksPartners 84 = .ok (.iastore, 1) := by decide +kernel
theorem dX9_breaksPartners_85 : decode cX9_breaksPartners 85 = .ok (.iinc 4 1, 3) := by decide +kernel
theorem dX9_breaksPartners_88 : decode cX9_breaksPartners 88 = .ok (.goto (-71), 3) := by decide +kernel
theorem dX9_breaksPartners_91 : decode cX9_breaksPartners 91 = .ok (.iload_n 3, 1) := by decide +kernel
theorem dX9_breaksPartners_92 : decode cX9_breaksPartners 92 = .ok (.iconst 1, 1) := by decide +kernel
theorem dX9_breaksPartners_93 : decode cX9_breaksPartners 93 = .ok (.if_icmp .eq 13, 3) := by decide +kernel
theorem dX9_breaksPartners_96 : decode cX9_breaksPartners 96 = .ok (.aload_n 0, 1) := by decide +kernel
theorem dX9_breaksPartners_97 : decode cX9_breaksPartners 97 = .ok (.iconst 3, 1) := by decide +kernel
theorem dX9_breaksPartners_98 : decode cX9_breaksPartners 98 = .ok (.iload_n 2, 1) := by decide +kernel
end
section
theorem dX9_breaksPartners_99 : decode cX9_breaksPartners 99 = .ok (.iconst (-1), 1) := by decide +kernel
theorem dX9_breaksPartners_100 : decode cX9_breaksPartners 100 = .ok (.iconst (-1), 1) := by decide +kernel
theorem dX9_breaksPartners_101 : decode cX9_breaksPartners 101 = .ok (.iconst (-1), 1) := by decide +kernel
theorem dX9_breaksPartners_102 : decode cX9_breaksPartners 102 = .ok (.invokevirtual 78, 3) := by decide +kernel
theorem dX9_breaksPartners_105 : decode cX9_breaksPartners 105 = .ok (.ireturn, 1) := by decide +kernel
theorem dX9_breaksPartners_106 : decode cX9_breaksPartners 106 = .ok (.iinc 2 1, 3) := by decide +kernel
theorem dX9_breaksPartners_109 : decode cX9_breaksPartners 109 = .ok (.goto (-107), 3) := by decide +kernel
theorem dX9_breaksPartners_112 : decode cX9_breaksPartners 112 = .ok (.iconst 0, 1) := by decide +kernel
theorem dX9_breaksPartners_113 : decode cX9_breaksPartners 113 = .ok (.ireturn, 1) := by decide +kernel
set_option maxRecDepth 20000 in
theorem ggX9_breaksThree_X9_n : GoodIn wsX9_breaksThree wsX9_n := goodIn_r _ [7, 8, 14, 15, 16, 17, 18, 19, 20, 21, 22, 23, 24, 25, 26, 27, 28] (by decide +kernel) (by decide +kernel)
set_option maxRecDepth 20000 in
theorem gX9_breaksThree_X9_n : GoodIn wsX9_breaksThree (wsV RX9 74 RX9 yX9_n wsX9_n) := goodIn_app (goodIn_of _ (by decide +kernel)) ggX9_breaksThree_X9_n
set_option maxRecDepth 20000 in
theorem ggX9_breaksThree_X9_tell : GoodIn wsX9_breaksThree wsX9_tell := goodIn_r _ [12, 13, 14, 15, 16, 17, 18, 19, 20, 21, 22, 23, 24, 25, 26, 27, 28] (by decide +kernel) (by decide +kernel)
set_option maxRecDepth 20000 in
theorem gX9_breaksThree_X9_tell : GoodIn wsX9_breaksThree (wsV RX9 78 RX9 yX9_tell wsX9_tell) := goodIn_app (goodIn_of _ (by decide +kernel)) ggX9_breaksThree_X9_tell
theorem dX9_breaksThree_0 : decode cX9_breaksThree 0 = .ok (.aload_n 0, 1) := by decide +kernel
theorem dX9_breaksThree_1 : decode cX9_breaksThree 1 = .ok (.getfield 7, 3) := by decide +kernel
theorem dX9_breaksThree_4 : decode cX9_breaksThree 4 = .ok (.iload_n 1, 1) := by decide +kernel
theorem dX9_breaksThree_5 : decode cX9_breaksThree 5 = .ok (.iaload, 1) := by decide +kernel
theorem dX9_breaksThree_6 : decode cX9_breaksThree 6 = .ok (.istore_n 3, 1) := by decide +kernel
theorem dX9_breaksThree_7 : decode cX9_breaksThree 7 = .ok (.iconst 0, 1) := by decide +kernel
theorem dX9_breaksThree_8 : decode cX9_breaksThree 8 = .ok (.istore 4, 2) := by decide +kernel
theorem dX9_breaksThree_10 : decode cX9_breaksThree 10 = .ok (.iload 4, 2) := by decide +kernel
theorem dX9_breaksThree_12 : decode cX9_breaksThree 12 = .ok (.iload_n 3, 1) := by decide +kernel
theorem dX9_breaksThree_13 : decode cX9_breaksThree 13 = .ok (.iload_n 3, 1) := by decide +kernel
theorem dX9_breaksThree_14 : decode cX9_breaksThree 14 = .ok (.imul, 1) := by decide +kernel
theorem dX9_breaksThree_15 : decode cX9_breaksThree 15 = .ok (.iload_n 3, 1) := by decide +kernel
theorem dX9_breaksThree_16 : decode cX9_breaksThree 16 = .ok (.imul, 1) := by decide +kernel
theorem dX9_breaksThree_17 : decode cX9_breaksThree 17 = .ok (.if_icmp .ge 97, 3) := by decide +kernel
theorem dX9_breaksThree_20 : decode cX9_breaksThree 20 = .ok (.iload 4, 2) := by decide +kernel
theorem dX9_breaksThree_22 : decode cX9_breaksThree 22 = .ok (.iload_n 3, 1) := by decide +kernel
theorem dX9_breaksThree_23 : decode cX9_breaksThree 23 = .ok (.iload_n 3, 1) := by decide +kernel
theorem dX9_breaksThree_24 : decode cX9_breaksThree 24 = .ok (.imul, 1) := by decide +kernel
theorem dX9_breaksThree_25 : decode cX9_breaksThree 25 = .ok (.idiv, 1) := by decide +kernel
theorem dX9_breaksThree_26 : decode cX9_breaksThree 26 = .ok (.istore 5, 2) := by decide +kernel
theorem dX9_breaksThree_28 : decode cX9_breaksThree 28 = .ok (.iload 4, 2) := by decide +kernel
theorem dX9_breaksThree_30 : decode cX9_breaksThree 30 = .ok (.iload_n 3, 1) := by decide +kernel
theorem dX9_breaksThree_31 : decode cX9_breaksThree 31 = .ok (.idiv, 1) := by decide +kernel
theorem dX9_breaksThree_32 : decode cX9_breaksThree 32 = .ok (.iload_n 3, 1) := by decide +kernel
theorem dX9_breaksThree_33 : decode cX9_breaksThree 33 = .ok (.irem, 1) := by decide +kernel
theorem dX9_breaksThree_34 : decode cX9_breaksThree 34 = .ok (.istore 6, 2) := by decide +kernel
theorem dX9_breaksThree_36 : decode cX9_breaksThree 36 = .ok (.iload 4, 2) := by decide +kernel
theorem dX9_breaksThree_38 : decode cX9_breaksThree 38 = .ok (.iload_n 3, 1) := by decide +kernel
theorem dX9_breaksThree_39 : decode cX9_breaksThree 39 = .ok (.irem, 1) := by decide +kernel
theorem dX9_breaksThree_40 : decode cX9_breaksThree 40 = .ok (.istore 7, 2) := by decide +kernel
theorem dX9_breaksThree_42 : decode cX9_breaksThree 42 = .ok (.iload_n 2, 1) := by decide +kernel
theorem dX9_breaksThree_43 : decode cX9_breaksThree 43 = .ok (.iconst 2, 1) := by decide +kernel
theorem dX9_breaksThree_44 : decode cX9_breaksThree 44 = .ok (.if_icmp .ne 17, 3) := by decide +kernel
theorem dX9_breaksThree_47 : decode cX9_breaksThree 47 = .ok (.aload_n 0, 1) := by decide +kernel
theorem dX9_breaksThree_48 : decode cX9_breaksThree 48 = .ok (.iload_n 1, 1) := by decide +kernel
theorem dX9_breaksThree_49 : decode cX9_breaksThree 49 = .ok (.iload 6, 2) := by decide +kernel
theorem dX9_breaksThree_51 : decode cX9_breaksThree 51 = .ok (.iload 5, 2) := by decide +kernel
theorem dX9_breaksThree_53 : decode cX9_breaksThree 53 = .ok (.iload 7, 2) := by decide +kernel
theorem dX9_breaksThree_55 : decode cX9_breaksThree 55 = .ok (.invokevirtual 74, 3) := by decide +kernel
theorem dX9_breaksThree_58 : decode cX9_breaksThree 58 = .ok (.goto 19, 3) := by decide +kernel
theorem dX9_breaksThree_61 : decode cX9_breaksThree 61 = .ok (.aload_n 0, 1) := by decide +kernel
theorem dX9_breaksThree_62 : decode cX9_breaksThree 62 = .ok (.iload_n 1, 1) := by decide +kernel
theorem dX9_breaksThree_63 : decode cX9_breaksThree 63 = .ok (.aload_n 0, 1) := by decide +kernel
theorem dX9_breaksThree_64 : decode cX9_breaksThree 64 = .ok (.getfield 19, 3) := by decide +kernel
theorem dX9_breaksThree_67 : decode cX9_breaksThree 67 = .ok (.iload 5, 2) := by decide +kernel
theorem dX9_breaksThree_69 : decode cX9_breaksThree 69 = .ok (.iaload, 1) := by decide +kernel
theorem dX9_breaksThree_70 : decode cX9_breaksThree 70 = .ok (.iload 7, 2) := by decide +kernel
theorem dX9_breaksThree_72 : decode cX9_breaksThree 72 = .ok (.iload 6, 2) := by decide +kernel
theorem dX9_breaksThree_74 : decode cX9_breaksThree 74 = .ok (.invokevirtual 74, 3) := by decide +kernel
theorem dX9_breaksThree_77 : decode cX9_breaksThree 77 = .ok (.istore 8, 2) := by decide +kernel
theorem dX9_breaksThree_79 : decode cX9_breaksThree 79 = .ok (.aload_n 0, 1) := by decide +kernel
theorem dX9_breaksThree_80 : decode cX9_breaksThree 80 = .ok (.iload_n 1, 1) := by decide +kernel
theorem dX9_breaksThree_81 : decode cX9_breaksThree 81 = .ok (.iload 5, 2) := by decide +kernel
theorem dX9_breaksThree_83 : decode cX9_breaksThree 83 = .ok (.iload 6, 2) := by decide +kernel
theorem dX9_breaksThree_85 : decode cX9_breaksThree 85 = .ok (.iload 7, 2) := by decide +kernel
theorem dX9_breaksThree_87 : decode cX9_breaksThree 87 = .ok (.invokevirtual 74, 3) := by decide +kernel
theorem dX9_breaksThree_90 : decode cX9_breaksThree 90 = .ok (.iload 8, 2) := by decide +kernel
theorem dX9_breaksThree_92 : decode cX9_breaksThree 92 = .ok (.if_icmp .eq 16, 3) := by decide +kernel
theorem dX9_breaksThree_95 : decode cX9_breaksThree 95 = .ok (.aload_n 0, 1) := by decide +kernel
theorem dX9_breaksThree_96 : decode cX9_breaksThree 96 = .ok (.iload_n 2, 1) := by decide +kernel
theorem dX9_breaksThree_97 : decode cX9_breaksThree 97 = .ok (.iload 5, 2) := by decide +kernel
theorem dX9_breaksThree_99 : decode cX9_breaksThree 99 = .ok (.iload 6, 2) := by decide +kernel
theorem dX9_breaksThree_101 : decode cX9_breaksThree 101 = .ok (.iload 7, 2) := by decide +kernel
theorem dX9_breaksThree_103 : decode cX9_breaksThree 103 = .ok (.iconst (-1), 1) := by decide +kernel
theorem dX9_breaksThree_104 : decode cX9_breaksThree 104 = .ok (.invokevirtual 78, 3) := by decide +kernel
theorem dX9_breaksThree_107 : decode cX9_breaksThree 107 = .ok (.ireturn, 1) := by decide +kernel
theorem dX9_breaksThree_108 : decode cX9_breaksThree 108 = .ok (.iinc 4 1, 3) := by decide +kernel
theorem dX9_breaksThree_111 : decode cX9_breaksThree 111 = .ok (.goto (-101), 3) := by decide +kernel
theorem dX9_breaksThree_114 : decode cX9_breaksThree 114 = .ok (.iconst 0, 1) := by decide +kernel
theorem dX9_breaksThree_115 : decode cX9_breaksThree 115 = .ok (.ireturn, 1) := by decide +kernel
set_option maxRecDepth 20000 in
theorem ggX9_breaksSums_X9_n : GoodIn wsX9_breaksSums wsX9_n := goodIn_r _ [6, 7, 13, 14, 15, 16, 17, 18, 19, 20, 21, 22, 23, 24, 25, 26, 27] (by decide +kernel) (by decide +kernel)
set_option maxRecDepth 20000 in
theorem gX9_breaksSums_X9_n : GoodIn wsX9_breaksSums (wsV RX9 74 RX9 yX9_n wsX9_n) := goodIn_app (goodIn_of _ (by decide +kernel)) ggX9_breaksSums_X9_n
set_option maxRecDepth 20000 in
theorem ggX9_breaksSums_X9_tell : GoodIn wsX9_breaksSums wsX9_tell := goodIn_r _ [11, 12, 13, 14, 15, 16, 17, 18, 19, 20, 21, 22, 23, 24, 25, 26, 27] (by decide +kernel) (by decide +kernel)
set_option maxRecDepth 20000 in
theorem gX9_breaksSums_X9_tell : GoodIn wsX9_breaksSums (wsV RX9 78 RX9 yX9_tell wsX9_tell) := goodIn_app (goodIn_of _ (by decide +kernel)) ggX9_breaksSums_X9_tell
theorem dX9_breaksSums_0 : decode cX9_breaksSums 0 = .ok (.aload_n 0, 1) := by decide +kernel
theorem dX9_breaksSums_1 : decode cX9_breaksSums 1 = .ok (.getfield 7, 3) := by decide +kernel
theorem dX9_breaksSums_4 : decode cX9_breaksSums 4 = .ok (.iload_n 1, 1) := by decide +kernel
theorem dX9_breaksSums_5 : decode cX9_breaksSums 5 = .ok (.iaload, 1) := by decide +kernel
theorem dX9_breaksSums_6 : decode cX9_breaksSums 6 = .ok (.istore_n 2, 1) := by decide +kernel
theorem dX9_breaksSums_7 : decode cX9_breaksSums 7 = .ok (.iconst 0, 1) := by decide +kernel
theorem dX9_breaksSums_8 : decode cX9_breaksSums 8 = .ok (.istore_n 3, 1) := by decide +kernel
theorem dX9_breaksSums_9 : decode cX9_breaksSums 9 = .ok (.iload_n 3, 1) := by decide +kernel
theorem dX9_breaksSums_10 : decode cX9_breaksSums 10 = .ok (.iload_n 2, 1) := by decide +kernel
theorem dX9_breaksSums_11 : decode cX9_breaksSums 11 = .ok (.iload_n 2, 1) := by decide +kernel
theorem dX9_breaksSums_12 : decode cX9_breaksSums 12 = .ok (.imul, 1) := by decide +kernel
theorem dX9_breaksSums_13 : decode cX9_breaksSums 13 = .ok (.iload_n 2, 1) := by decide +kernel
theorem dX9_breaksSums_14 : decode cX9_breaksSums 14 = .ok (.imul, 1) := by decide +kernel
theorem dX9_breaksSums_15 : decode cX9_breaksSums 15 = .ok (.iload_n 2, 1) := by decide +kernel
theorem dX9_breaksSums_16 : decode cX9_breaksSums 16 = .ok (.imul, 1) := by decide +kernel
theorem dX9_breaksSums_17 : decode cX9_breaksSums 17 = .ok (.if_icmp .ge 128, 3) := by decide +kernel
theorem dX9_breaksSums_20 : decode cX9_breaksSums 20 = .ok (.iload_n 3, 1) := by decide +kernel
theorem dX9_breaksSums_21 : decode cX9_breaksSums 21 = .ok (.iload_n 2, 1) := by decide +kernel
theorem dX9_breaksSums_22 : decode cX9_breaksSums 22 = .ok (.iload_n 2, 1) := by decide +kernel
theorem dX9_breaksSums_23 : decode cX9_breaksSums 23 = .ok (.imul, 1) := by decide +kernel
theorem dX9_breaksSums_24 : decode cX9_breaksSums 24 = .ok (.iload_n 2, 1) := by decide +kernel
theorem dX9_breaksSums_25 : decode cX9_breaksSums 25 = .ok (.imul, 1) := by decide +kernel
theorem dX9_breaksSums_26 : decode cX9_breaksSums 26 = .ok (.idiv, 1) := by decide +kernel
theorem dX9_breaksSums_27 : decode cX9_breaksSums 27 = .ok (.istore 4, 2) := by decide +kernel
theorem dX9_breaksSums_29 : decode cX9_breaksSums 29 = .ok (.iload_n 3, 1) := by decide +kernel
theorem dX9_breaksSums_30 : decode cX9_breaksSums 30 = .ok (.iload_n 2, 1) := by decide +kernel
theorem dX9_breaksSums_31 : decode cX9_breaksSums 31 = .ok (.iload_n 2, 1) := by decide +kernel
theorem dX9_breaksSums_32 : decode cX9_breaksSums 32 = .ok (.imul, 1) := by decide +kernel
theorem dX9_breaksSums_33 : decode cX9_breaksSums 33 = .ok (.idiv, 1) := by decide +kernel
theorem dX9_breaksSums_34 : decode cX9_breaksSums 34 = .ok (.iload_n 2, 1) := by decide +kernel
theorem dX9_breaksSums_35 : decode cX9_breaksSums 35 = .ok (.irem, 1) := by decide +kernel
theorem dX9_breaksSums_36 : decode cX9_breaksSums 36 = .ok (.istore 5, 2) := by decide +kernel
theorem dX9_breaksSums_38 : decode cX9_breaksSums 38 = .ok (.iload_n 3, 1) := by decide +kernel
theorem dX9_breaksSums_39 : decode cX9_breaksSums 39 = .ok (.iload_n 2, 1) := by decide +kernel
theorem dX9_breaksSums_40 : decode cX9_breaksSums 40 = .ok (.idiv, 1) := by decide +kernel
theorem dX9_breaksSums_41 : decode cX9_breaksSums 41 = .ok (.iload_n 2, 1) := by decide +kernel
theorem dX9_breaksSums_42 : decode cX9_breaksSums 42 = .ok (.irem, 1) := by decide +kernel
theorem dX9_breaksSums_43 : decode cX9_breaksSums 43 = .ok (.istore 6, 2) := by decide +kernel
theorem dX9_breaksSums_45 : decode cX9_breaksSums 45 = .ok (.iload_n 3, 1) := by decide +kernel
theorem dX9_breaksSums_46 : decode cX9_breaksSums 46 = .ok (.iload_n 2, 1) := by decide +kernel
theorem dX9_breaksSums_47 : decode cX9_breaksSums 47 = .ok (.irem, 1) := by decide +kernel
theorem dX9_breaksSums_48 : decode cX9_breaksSums 48 = .ok (.istore 7, 2) := by decide +kernel
theorem dX9_breaksSums_50 : decode cX9_breaksSums 50 = .ok (.iconst 0, 1) := by decide +kernel
theorem dX9_breaksSums_51 : decode cX9_breaksSums 51 = .ok (.istore 8, 2) := by decide +kernel
theorem dX9_breaksSums_53 : decode cX9_breaksSums 53 = .ok (.iconst 0, 1) := by decide +kernel
theorem dX9_breaksSums_54 : decode cX9_breaksSums 54 = .ok (.istore 9, 2) := by decide +kernel
theorem dX9_breaksSums_56 : decode cX9_breaksSums 56 = .ok (.iload 9, 2) := by decide +kernel
theorem dX9_breaksSums_58 : decode cX9_breaksSums 58 = .ok (.iload_n 2, 1) := by decide +kernel
theorem dX9_breaksSums_59 : decode cX9_breaksSums 59 = .ok (.if_icmp .ge 61, 3) := by decide +kernel
theorem dX9_breaksSums_62 : decode cX9_breaksSums 62 = .ok (.iload 8, 2) := by decide +kernel
theorem dX9_breaksSums_64 : decode cX9_breaksSums 64 = .ok (.aload_n 0, 1) := by decide +kernel
theorem dX9_breaksSums_65 : decode cX9_breaksSums 65 = .ok (.iload_n 1, 1) := by decide +kernel
theorem dX9_breaksSums_66 : decode cX9_breaksSums 66 = .ok (.iload 4, 2) := by decide +kernel
theorem dX9_breaksSums_68 : decode cX9_breaksSums 68 = .ok (.iload 5, 2) := by decide +kernel
theorem dX9_breaksSums_70 : decode cX9_breaksSums 70 = .ok (.iload 9, 2) := by decide +kernel
theorem dX9_breaksSums_72 : decode cX9_breaksSums 72 = .ok (.invokevirtual 74, 3) := by decide +kernel
theorem dX9_breaksSums_75 : decode cX9_breaksSums 75 = .ok (.aload_n 0, 1) := by decide +kernel
theorem dX9_breaksSums_76 : decode cX9_breaksSums 76 = .ok (.iload_n 1, 1) := by decide +kernel
theorem dX9_breaksSums_77 : decode cX9_breaksSums 77 = .ok (.iload 9, 2) := by decide +kernel
theorem dX9_breaksSums_79 : decode cX9_breaksSums 79 = .ok (.iload 6, 2) := by decide +kernel
theorem dX9_breaksSums_81 : decode cX9_breaksSums 81 = .ok (.iload 7, 2) := by decide +kernel
theorem dX9_breaksSums_83 : decode cX9_breaksSums 83 = .ok (.invokevirtual 74, 3) := by decide +kernel
theorem dX9_breaksSums_86 : decode cX9_breaksSums 86 = .ok (.imul, 1) := by decide +kernel
theorem dX9_breaksSums_87 : decode cX9_breaksSums 87 = .ok (.aload_n 0, 1) := by decide +kernel
theorem dX9_breaksSums_88 : decode cX9_breaksSums 88 = .ok (.iload_n 1, 1) := by decide +kernel
theorem dX9_breaksSums_89 : decode cX9_breaksSums 89 = .ok (.iload 5, 2) := by decide +kernel
theorem dX9_breaksSums_91 : decode cX9_breaksSums 91 = .ok (.iload 6, 2) := by decide +kernel
theorem dX9_breaksSums_93 : decode cX9_breaksSums 93 = .ok (.iload 9, 2) := by decide +kernel
theorem dX9_breaksSums_95 : decode cX9_breaksSums 95 = .ok (.invokevirtual 74, 3) := by decide +kernel
theorem dX9_breaksSums_98 : decode cX9_breaksSums 98 = .ok (.aload_n 0, 1) := by decide +kernel
theorem dX9_breaksSums_99 : decode cX9_breaksSums 99 = .ok (.iload_n 1, 1) := by decide +kernel
theorem dX9_breaksSums_100 : decode cX9_breaksSums 100 = .ok (.iload 4, 2) := by decide +kernel
theorem dX9_breaksSums_102 : decode cX9_breaksSums 102 = .ok (.iload 9, 2) := by decide +kernel
theorem dX9_breaksSums_104 : decode cX9_breaksSums 104 = .ok (.iload 7, 2) := by decide +kernel
theorem dX9_breaksSums_106 : decode cX9_breaksSums 106 = .ok (.invokevirtual 74, 3) := by decide +kernel
theorem dX9_breaksSums_109 : decode cX9_breaksSums 109 = .ok (.imul, 1) := by decide +kernel
theorem dX9_breaksSums_110 : decode cX9_breaksSums 110 = .ok (.isub, 1) := by decide +kernel
theorem dX9_breaksSums_111 : decode cX9_breaksSums 111 = .ok (.iadd, 1) := by decide +kernel
theorem dX9_breaksSums_112 : decode cX9_breaksSums 112 = .ok (.istore 8, 2) := by decide +kernel
theorem dX9_breaksSums_114 : decode cX9_breaksSums 114 = .ok (.iinc 9 1, 3) := by decide +kernel
theorem dX9_breaksSums_117 : decode cX9_breaksSums 117 = .ok (.goto (-61), 3) := by decide +kernel
theorem dX9_breaksSums_120 : decode cX9_breaksSums 120 = .ok (.iload 8, 2) := by decide +kernel
theorem dX9_breaksSums_122 : decode cX9_breaksSums 122 = .ok (.ifCond .eq 17, 3) := by decide +kernel
theorem dX9_breaksSums_125 : decode cX9_breaksSums 125 = .ok (.aload_n 0, 1) := by decide +kernel
theorem dX9_breaksSums_126 : decode cX9_breaksSums 126 = .ok (.iconst 5, 1) := by decide +kernel
theorem dX9_breaksSums_127 : decode cX9_breaksSums 127 = .ok (.iload 4, 2) := by decide +kernel
theorem dX9_breaksSums_129 : decode cX9_breaksSums 129 = .ok (.iload 5, 2) := by decide +kernel
theorem dX9_breaksSums_131 : decode cX9_breaksSums 131 = .ok (.iload 6, 2) := by decide +kernel
theorem dX9_breaksSums_133 : decode cX9_breaksSums 133 = .ok (.iload 7, 2) := by decide +kernel
theorem dX9_breaksSums_135 : decode cX9_breaksSums 135 = .ok (.invokevirtual 78, 3) := by decide +kernel
theorem dX9_breaksSums_138 : decode cX9_breaksSums 138 = .ok (.ireturn, 1) := by decide +kernel
theorem dX9_breaksSums_139 : decode cX9_breaksSums 139 = .ok (.iinc 3 1, 3) := by decide +kernel
theorem dX9_breaksSums_142 : decode cX9_breaksSums 142 = .ok (.goto (-133), 3) := by decide +kernel
theorem dX9_breaksSums_145 : decode cX9_breaksSums 145 = .ok (.iconst 0, 1) := by decide +kernel
theorem dX9_breaksSums_146 : decode cX9_breaksSums 146 = .ok (.ireturn, 1) := by decide +kernel
set_option maxRecDepth 20000 in
theorem ggX9_isRight_X9_breaksUnit : GoodIn wsX9_isRight wsX9_breaksUnit := goodIn_r _ [5, 6, 7, 8, 9, 4, 10, 11, 12, 13, 14, 15, 16, 30, 31, 32, 33, 34, 35, 36, 37, 38, 39, 40, 41, 42, 43, 44] (by decide +kernel) (by decide +kernel)
set_option maxRecDepth 20000 in
theorem gX9_isRight_X9_breaksUnit : GoodIn wsX9_isRight (wsV RX9 82 RX9 yX9_breaksUnit wsX9_breaksUnit) := goodIn_app (goodIn_of _ (by decide +kernel)) ggX9_isRight_X9_breaksUnit
set_option maxRecDepth 20000 in
theorem ggX9_isRight_X9_breaksThree : GoodIn wsX9_isRight wsX9_breaksThree := goodIn_r _ [20, 6, 21, 7, 8, 9, 4, 10, 11, 12, 13, 14, 15, 16, 30, 31, 32, 33, 34, 35, 36, 37, 38, 39, 40, 41, 42, 43, 44] (by decide +kernel) (by decide +kernel)
set_option maxRecDepth 20000 in
theorem gX9_isRight_X9_breaksThree : GoodIn wsX9_isRight (wsV RX9 85 RX9 yX9_breaksThree wsX9_breaksThree) := goodIn_app (goodIn_of _ (by decide +kernel)) ggX9_isRight_X9_breaksThree
set_option maxRecDepth 20000 in
theorem ggX9_isRight_X9_breaksPartners : GoodIn wsX9_isRight wsX9_breaksPartners := goodIn_r _ [25, 6, 21, 7, 8, 9, 4, 10, 11, 12, 13, 14, 15, 16, 30, 31, 32, 33, 34, 35, 36, 37, 38, 39, 40, 41, 42, 43, 44] (by decide +kernel) (by decide +kernel)
set_option maxRecDepth 20000 in
theorem gX9_isRight_X9_breaksPartners : GoodIn wsX9_isRight (wsV RX9 88 RX9 yX9_breaksPartners wsX9_breaksPartners) := goodIn_app (goodIn_of _ (by decide +kernel)) ggX9_isRight_X9_breaksPartners
set_option maxRecDepth 20000 in
theorem ggX9_isRight_X9_breaksSums : GoodIn wsX9_isRight wsX9_breaksSums := goodIn_r _ [29, 6, 7, 8, 9, 4, 10, 11, 12, 13, 14, 15, 16, 30, 31, 32, 33, 34, 35, 36, 37, 38, 39, 40, 41, 42, 43, 44] (by decide +kernel) (by decide +kernel)
set_option maxRecDepth 20000 in
theorem gX9_isRight_X9_breaksSums : GoodIn wsX9_isRight (wsV RX9 91 RX9 yX9_breaksSums wsX9_breaksSums) := goodIn_app (goodIn_of _ (by decide +kernel)) ggX9_isRight_X9_breaksSums
set_option maxRecDepth 20000 in
theorem ggX9_isRight_X9_tell : GoodIn wsX9_isRight wsX9_tell := goodIn_r _ [15, 16, 30, 31, 32, 33, 34, 35, 36, 37, 38, 39, 40, 41, 42, 43, 44] (by decide +kernel) (by decide +kernel)
set_option maxRecDepth 20000 in
theorem gX9_isRight_X9_tell : GoodIn wsX9_isRight (wsV RX9 78 RX9 yX9_tell wsX9_tell) := goodIn_app (goodIn_of _ (by decide +kernel)) ggX9_isRight_X9_tell
theorem dX9_isRight_0 : decode cX9_isRight 0 = .ok (.aload_n 0, 1) := by decide +kernel
theorem dX9_isRight_1 : decode cX9_isRight 1 = .ok (.iload_n 1, 1) := by decide +kernel
theorem dX9_isRight_2 : decode cX9_isRight 2 = .ok (.invokevirtual 82, 3) := by decide +kernel
theorem dX9_isRight_5 : decode cX9_isRight 5 = .ok (.ifCond .ne 37, 3) := by decide +kernel
theorem dX9_isRight_8 : decode cX9_isRight 8 = .ok (.aload_n 0, 1) := by decide +kernel
theorem dX9_isRight_9 : decode cX9_isRight 9 = .ok (.iload_n 1, 1) := by decide +kernel
theorem dX9_isRight_10 : decode cX9_isRight 10 = .ok (.iconst 2, 1) := by decide +kernel
theorem dX9_isRight_11 : decode cX9_isRight 11 = .ok (.invokevirtual 85, 3) := by decide +kernel
theorem dX9_isRight_14 : decode cX9_isRight 14 = .ok (.ifCond .ne 28, 3) := by decide +kernel
theorem dX9_isRight_17 : decode cX9_isRight 17 = .ok (.aload_n 0, 1) := by decide +kernel
theorem dX9_isRight_18 : decode cX9_isRight 18 = .ok (.iload_n 1, 1) := by decide +kernel
theorem dX9_isRight_19 : decode cX9_isRight 19 = .ok (.invokevirtual 88, 3) := by decide +kernel
theorem dX9_isRight_22 : decode cX9_isRight 22 = .ok (.ifCond .ne 20, 3) := by decide +kernel
theorem dX9_isRight_25 : decode cX9_isRight 25 = .ok (.aload_n 0, 1) := by decide +kernel
theorem dX9_isRight_26 : decode cX9_isRight 26 = .ok (.iload_n 1, 1) := by decide +kernel
theorem dX9_isRight_27 : decode cX9_isRight 27 = .ok (.iconst 4, 1) := by decide +kernel
theorem dX9_isRight_28 : decode cX9_isRight 28 = .ok (.invokevirtual 85, 3) := by decide +kernel
theorem dX9_isRight_31 : decode cX9_isRight 31 = .ok (.ifCond .ne 11, 3) := by decide +kernel
theorem dX9_isRight_34 : decode cX9_isRight 34 = .ok (.aload_n 0, 1) := by decide +kernel
theorem dX9_isRight_35 : decode cX9_isRight 35 = .ok (.iload_n 1, 1) := by decide +kernel
theorem dX9_isRight_36 : decode cX9_isRight 36 = .ok (.invokevirtual 91, 3) := by decide +kernel
theorem dX9_isRight_39 : decode cX9_isRight 39 = .ok (.ifCond .eq 7, 3) := by decide +kernel
theorem dX9_isRight_42 : decode cX9_isRight 42 = .ok (.iconst 1, 1) := by decide +kernel
theorem dX9_isRight_43 : decode cX9_isRight 43 = .ok (.goto 4, 3) := by decide +kernel
theorem dX9_isRight_46 : decode cX9_isRight 46 = .ok (.iconst 0, 1) := by decide +kernel
theorem dX9_isRight_47 : decode cX9_isRight 47 = .ok (.istore_n 2, 1) := by decide +kernel
theorem dX9_isRight_48 : decode cX9_isRight 48 = .ok (.iload_n 2, 1) := by decide +kernel
theorem dX9_isRight_49 : decode cX9_isRight 49 = .ok (.ifCond .ne 13, 3) := by decide +kernel
theorem dX9_isRight_52 : decode cX9_isRight 52 = .ok (.aload_n 0, 1) := by decide +kernel
theorem dX9_isRight_53 : decode cX9_isRight 53 = .ok (.iconst 0, 1) := by decide +kernel
theorem dX9_isRight_54 : decode cX9_isRight 54 = .ok (.iconst (-1), 1) := by decide +kernel
theorem dX9_isRight_55 : decode cX9_isRight 55 = .ok (.iconst (-1), 1) := by decide +kernel
theorem dX9_isRight_56 : decode cX9_isRight 56 = .ok (.iconst (-1), 1) := by decide +kernel
theorem dX9_isRight_57 : decode cX9_isRight 57 = .ok (.iconst (-1), 1) := by decide +kernel
theorem dX9_isRight_58 : decode cX9_isRight 58 = .ok (.invokevirtual 78, 3) := by decide +kernel
theorem dX9_isRight_61 : decode cX9_isRight 61 = .ok (.istore_n 3, 1) := by decide +kernel
theorem dX9_isRight_62 : decode cX9_isRight 62 = .ok (.iload_n 2, 1) := by decide +kernel
theorem dX9_isRight_63 : decode cX9_isRight 63 = .ok (.ifCond .ne 7, 3) := by decide +kernel
theorem dX9_isRight_66 : decode cX9_isRight 66 = .ok (.iconst 1, 1) := by decide +kernel
theorem dX9_isRight_67 : decode cX9_isRight 67 = .ok (.goto 4, 3) := by decide +kernel
theorem dX9_isRight_70 : decode cX9_isRight 70 = .ok (.iconst 0, 1) := by decide +kernel
theorem dX9_isRight_71 : decode cX9_isRight 71 = .ok (.ireturn, 1) := by decide +kernel
set_option maxRecDepth 20000 in
theorem ggX9_fault_X9_noTable : GoodIn wsX9_fault wsX9_noTable := goodIn_r _ [6, 7, 8, 9, 5, 10] (by decide +kernel) (by decide +kernel)
set_option maxRecDepth 20000 in
theorem gX9_fault_X9_noTable : GoodIn wsX9_fault (va_wsS RX9 64 yX9_noTable wsX9_noTable) := goodIn_app (goodIn_of _ (by decide +kernel)) ggX9_fault_X9_noTable
set_option maxRecDepth 20000 in
theorem ggX9_fault_X9_in : GoodIn wsX9_fault wsX9_in := goodIn_r _ [10] (by decide +kernel) (by decide +kernel)
set_option maxRecDepth 20000 in
theorem gX9_fault_X9_in : GoodIn wsX9_fault (va_wsS RX9 60 yX9_in wsX9_in) := goodIn_app (goodIn_of _ (by decide +kernel)) ggX9_fault_X9_in
set_option maxRecDepth 20000 in
theorem ggX9_fault_X9_isRight : GoodIn wsX9_fault wsX9_isRight := goodIn_r _ [14, 15, 16, 17, 5, 18, 19, 20, 21, 22, 23, 24, 25, 26, 27, 28, 2, 29, 30, 31, 32, 33, 34, 35, 36, 37, 38, 39, 40, 41, 42, 43, 44, 45, 46, 47, 48, 49, 50, 51, 52, 53, 54, 55, 56] (by decide +kernel) (by decide +kernel)
set_option maxRecDepth 20000 in
theorem gX9_fault_X9_isRight : GoodIn wsX9_fault (wsV RX9 96 RX9 yX9_isRight wsX9_isRight) := goodIn_app (goodIn_of _ (by decide +kernel)) ggX9_fault_X9_isRight
theorem dX9_fault_0 : decode cX9_fault 0 = .ok (.iload_n 1, 1) := by decide +kernel
theorem dX9_fault_1 : decode cX9_fault 1 = .ok (.invokestatic 64, 3) := by decide +kernel
theorem dX9_fault_4 : decode cX9_fault 4 = .ok (.ifCond .ne 15, 3) := by decide +kernel
theorem dX9_fault_7 : decode cX9_fault 7 = .ok (.iload_n 2, 1) := by decide +kernel
theorem dX9_fault_8 : decode cX9_fault 8 = .ok (.i2l, 1) := by decide +kernel
theorem dX9_fault_9 : decode cX9_fault 9 = .ok (.lconst 0, 1) := by decide +kernel
theorem dX9_fault_10 : decode cX9_fault 10 = .ok (.ldc2_w 94, 3) := by decide +kernel
theorem dX9_fault_13 : decode cX9_fault 13 = .ok (.invokestatic 60, 3) := by decide +kernel
theorem dX9_fault_16 : decode cX9_fault 16 = .ok (.ifCond .ne 6, 3) := by decide +kernel
theorem dX9_fault_19 : decode cX9_fault 19 = .ok (.bipush (-2), 2) := by decide +kernel
theorem dX9_fault_21 : decode cX9_fault 21 = .ok (.ireturn, 1) := by decide +kernel
theorem dX9_fault_22 : decode cX9_fault 22 = .ok (.aload_n 0, 1) := by decide +kernel
theorem dX9_fault_23 : decode cX9_fault 23 = .ok (.iload_n 1, 1) := by decide +kernel
theorem dX9_fault_24 : decode cX9_fault 24 = .ok (.invokevirtual 96, 3) := by decide +kernel
theorem dX9_fault_27 : decode cX9_fault 27 = .ok (.istore_n 3, 1) := by decide +kernel
theorem dX9_fault_28 : decode cX9_fault 28 = .ok (.aload_n 0, 1) := by decide +kernel
theorem dX9_fault_29 : decode cX9_fault 29 = .ok (.getfield 16, 3) := by decide +kernel
theorem dX9_fault_32 : decode cX9_fault 32 = .ok (.iload_n 2, 1) := by decide +kernel
theorem dX9_fault_33 : decode cX9_fault 33 = .ok (.iaload, 1) := by decide +kernel
theorem dX9_fault_34 : decode cX9_fault 34 = .ok (.ireturn, 1) := by decide +kernel
set_option maxRecDepth 20000 in
theorem ggX9_partner_X9_noTable : GoodIn wsX9_partner wsX9_noTable := goodIn_r _ [5, 6, 7, 8, 4, 9] (by decide +kernel) (by decide +kernel)
set_option maxRecDepth 20000 in
theorem gX9_partner_X9_noTable : GoodIn wsX9_partner (va_wsS RX9 64 yX9_noTable wsX9_noTable) := goodIn_app (goodIn_of _ (by decide +kernel)) ggX9_partner_X9_noTable
set_option maxRecDepth 20000 in
theorem ggX9_partner_X9_isKind : GoodIn wsX9_partner wsX9_isKind := goodIn_r _ [13, 14, 7, 8, 4, 9, 45, 46, 47, 48, 49, 50, 51, 52, 53, 54, 55, 56, 57, 58, 59] (by decide +kernel) (by decide +kernel)
set_option maxRecDepth 20000 in
theorem gX9_partner_X9_isKind : GoodIn wsX9_partner (wsV RX9 68 RX9 yX9_isKind wsX9_isKind) := goodIn_app (goodIn_of _ (by decide +kernel)) ggX9_partner_X9_isKind
set_option maxRecDepth 20000 in
theorem ggX9_partner_X9_isRight : GoodIn wsX9_partner wsX9_isRight := goodIn_r _ [18, 19, 20, 21, 4, 22, 14, 23, 24, 25, 26, 27, 28, 29, 30, 31, 32, 33, 34, 35, 36, 1, 37, 38, 39, 40, 41, 42, 43, 44, 45, 46, 47, 48, 49, 50, 51, 52, 53, 54, 55, 56, 57, 58, 59] (by decide +kernel) (by decide +kernel)
set_option maxRecDepth 20000 in
theorem gX9_partner_X9_isRight : GoodIn wsX9_partner (wsV RX9 96 RX9 yX9_isRight wsX9_isRight) := goodIn_app (goodIn_of _ (by decide +kernel)) ggX9_partner_X9_isRight
theorem dX9_partner_0 : decode cX9_partner 0 = .ok (.iload_n 1, 1) := by decide +kernel
theorem dX9_partner_1 : decode cX9_partner 1 = .ok (.invokestatic 64, 3) := by decide +kernel
theorem dX9_partner_4 : decode cX9_partner 4 = .ok (.ifCond .ne 12, 3) := by decide +kernel
theorem dX9_partner_7 : decode cX9_partner 7 = .ok (.aload_n 0, 1) := by decide +kernel
theorem dX9_partner_8 : decode cX9_partner 8 = .ok (.iload_n 1, 1) := by decide +kernel
theorem dX9_partner_9 : decode cX9_partner 9 = .ok (.iload_n 2, 1) := by decide +kernel
theorem dX9_partner_10 : decode cX9_partner 10 = .ok (.invokevirtual 68, 3) := by decide +kernel
theorem dX9_partner_13 : decode cX9_partner 13 = .ok (.ifCond .ne 6, 3) := by decide +kernel
theorem dX9_partner_16 : decode cX9_partner 16 = .ok (.bipush (-2), 2) := by decide +kernel
theorem dX9_partner_18 : decode cX9_partner 18 = .ok (.ireturn, 1) := by decide +kernel
theorem dX9_partner_19 : decode cX9_partner 19 = .ok (.aload_n 0, 1) := by decide +kernel
theorem dX9_partner_20 : decode cX9_partner 20 = .ok (.iload_n 1, 1) := by decide +kernel
theorem dX9_partner_21 : decode cX9_partner 21 = .ok (.invokevirtual 96, 3) := by decide +kernel
theorem dX9_partner_24 : decode cX9_partner 24 = .ok (.ifCond .eq 12, 3) := by decide +kernel
theorem dX9_partner_27 : decode cX9_partner 27 = .ok (.aload_n 0, 1) := by decide +kernel
theorem dX9_partner_28 : decode cX9_partner 28 = .ok (.getfield 19, 3) := by decide +kernel
theorem dX9_partner_31 : decode cX9_partner 31 = .ok (.iload_n 2, 1) := by decide +kernel
theorem dX9_partner_32 : decode cX9_partner 32 = .ok (.iaload, 1) := by decide +kernel
theorem dX9_partner_33 : decode cX9_partner 33 = .ok (.goto 5, 3) := by decide +kernel
theorem dX9_partner_36 : decode cX9_partner 36 = .ok (.bipush (-3), 2) := by decide +kernel
theorem dX9_partner_38 : decode cX9_partner 38 = .ok (.ireturn, 1) := by decide +kernel
set_option maxRecDepth 20000 in
theorem ggX9_copy_X9_noTable : GoodIn wsX9_copy wsX9_noTable := goodIn_r _ [5, 6, 7, 8, 4, 9] (by decide +kernel) (by decide +kernel)
set_option maxRecDepth 20000 in
theorem gX9_copy_X9_noTable : GoodIn wsX9_copy (va_wsS RX9 64 yX9_noTable wsX9_noTable) := goodIn_app (goodIn_of _ (by decide +kernel)) ggX9_copy_X9_noTable
set_option maxRecDepth 20000 in
theorem ggX9_copy_X9_carry : GoodIn wsX9_copy wsX9_carry := goodIn_r _ [13, 1, 14, 15, 16, 17, 18, 19, 20, 21, 22, 23, 24, 25, 26, 27, 28, 29] (by decide +kernel) (by decide +kernel)
set_option maxRecDepth 20000 in
theorem gX9_copy_X9_carry : GoodIn wsX9_copy (wsV RX9 99 RX9 yX9_carry wsX9_carry) := goodIn_app (goodIn_of _ (by decide +kernel)) ggX9_copy_X9_carry
theorem dX9_copy_0 : decode cX9_copy 0 = .ok (.iload_n 1, 1) := by decide +kernel
theorem dX9_copy_1 : decode cX9_copy 1 = .ok (.invokestatic 64, 3) := by decide +kernel
theorem dX9_copy_4 : decode cX9_copy 4 = .ok (.ifCond .ne 10, 3) := by decide +kernel
theorem dX9_copy_7 : decode cX9_copy 7 = .ok (.iload_n 2, 1) := by decide +kernel
theorem dX9_copy_8 : decode cX9_copy 8 = .ok (.invokestatic 64, 3) := by decide +kernel
theorem dX9_copy_11 : decode cX9_copy 11 = .ok (.ifCond .eq 6, 3) := by decide +kernel
theorem dX9_copy_14 : decode cX9_copy 14 = .ok (.bipush (-2), 2) := by decide +kernel
theorem dX9_copy_16 : decode cX9_copy 16 = .ok (.ireturn, 1) := by decide +kernel
theorem dX9_copy_17 : decode cX9_copy 17 = .ok (.aload_n 0, 1) := by decide +kernel
theorem dX9_copy_18 : decode cX9_copy 18 = .ok (.iload_n 1, 1) := by decide +kernel
theorem dX9_copy_19 : decode cX9_copy 19 = .ok (.iload_n 2, 1) := by decide +kernel
theorem dX9_copy_20 : decode cX9_copy 20 = .ok (.invokevirtual 99, 3) := by decide +kernel
theorem dX9_copy_23 : decode cX9_copy 23 = .ok (.aload_n 0, 1) := by decide +kernel
theorem dX9_copy_24 : decode cX9_copy 24 = .ok (.getfield 7, 3) := by decide +kernel
theorem dX9_copy_27 : decode cX9_copy 27 = .ok (.iload_n 2, 1) := by decide +kernel
theorem dX9_copy_28 : decode cX9_copy 28 = .ok (.iaload, 1) := by decide +kernel
theorem dX9_copy_29 : decode cX9_copy 29 = .ok (.ireturn, 1) := by decide +kernel
set_option maxRecDepth 20000 in
theorem ggX9_layGroup_X9_lay : GoodIn wsX9_layGroup wsX9_lay := goodIn_r _ [5, 6, 7, 8, 9, 10, 11, 12, 13, 14, 15, 16, 17, 18, 19, 20, 21] (by decide +kernel) (by decide +kernel)
set_option maxRecDepth 20000 in
theorem gX9_layGroup_X9_lay : GoodIn wsX9_layGroup (wsV RX9 54 RX9 yX9_lay wsX9_lay) := goodIn_app (goodIn_of _ (by decide +kernel)) ggX9_layGroup_X9_lay
theorem dX9_layGroup_0 : decode cX9_layGroup 0 = .ok (.iconst 0, 1) := by decide +kernel
theorem dX9_layGroup_1 : decode cX9_layGroup 1 = .ok (.istore_n 3, 1) := by decide +kernel
theorem dX9_layGroup_2 : decode cX9_layGroup 2 = .ok (.iload_n 3, 1) := by decide +kernel
theorem dX9_layGroup_3 : decode cX9_layGroup 3 = .ok (.iload_n 2, 1) := by decide +kernel
theorem dX9_layGroup_4 : decode cX9_layGroup 4 = .ok (.if_icmp .ge 54, 3) := by decide +kernel
theorem dX9_layGroup_7 : decode cX9_layGroup 7 = .ok (.iconst 0, 1) := by decide +kernel
theorem dX9_layGroup_8 : decode cX9_layGroup 8 = .ok (.istore 4, 2) := by decide +kernel
theorem dX9_layGroup_10 : decode cX9_layGroup 10 = .ok (.iload 4, 2) := by decide +kernel
theorem dX9_layGroup_12 : decode cX9_layGroup 12 = .ok (.iload_n 2, 1) := by decide +kernel
theorem dX9_layGroup_13 : decode cX9_layGroup 13 = .ok (.if_icmp .ge 39, 3) := by decide +kernel
theorem dX9_layGroup_16 : decode cX9_layGroup 16 = .ok (.aload_n 0, 1) := by decide +kernel
theorem dX9_layGroup_17 : decode cX9_layGroup 17 = .ok (.iload_n 1, 1) := by decide +kernel
theorem dX9_layGroup_18 : decode cX9_layGroup 18 = .ok (.iload_n 3, 1) := by decide +kernel
theorem dX9_layGroup_19 : decode cX9_layGroup 19 = .ok (.iload 4, 2) := by decide +kernel
theorem dX9_layGroup_21 : decode cX9_layGroup 21 = .ok (.iload_n 3, 1) := by decide +kernel
theorem dX9_layGroup_22 : decode cX9_layGroup 22 = .ok (.iload 4, 2) := by decide +kernel
theorem dX9_layGroup_24 : decode cX9_layGroup 24 = .ok (.iadd, 1) := by decide +kernel
theorem dX9_layGroup_25 : decode cX9_layGroup 25 = .ok (.iload_n 2, 1) := by decide +kernel
theorem dX9_layGroup_26 : decode cX9_layGroup 26 = .ok (.if_icmp .lt 12, 3) := by decide +kernel
theorem dX9_layGroup_29 : decode cX9_layGroup 29 = .ok (.iload_n 3, 1) := by decide +kernel
theorem dX9_layGroup_30 : decode cX9_layGroup 30 = .ok (.iload 4, 2) := by decide +kernel
theorem dX9_layGroup_32 : decode cX9_layGroup 32 = .ok (.iadd, 1) := by decide +kernel
theorem dX9_layGroup_33 : decode cX9_layGroup 33 = .ok (.iload_n 2, 1) := by decide +kernel
theorem dX9_layGroup_34 : decode cX9_layGroup 34 = .ok (.isub, 1) := by decide +kernel
theorem dX9_layGroup_35 : decode cX9_layGroup 35 = .ok (.goto 7, 3) := by decide +kernel
theorem dX9_layGroup_38 : decode cX9_layGroup 38 = .ok (.iload_n 3, 1) := by decide +kernel
theorem dX9_layGroup_39 : decode cX9_layGroup 39 = .ok (.iload 4, 2) := by decide +kernel
theorem dX9_layGroup_41 : decode cX9_layGroup 41 = .ok (.iadd, 1) := by decide +kernel
theorem dX9_layGroup_42 : decode cX9_layGroup 42 = .ok (.iconst 1, 1) := by decide +kernel
theorem dX9_layGroup_43 : decode cX9_layGroup 43 = .ok (.invokevirtual 54, 3) := by decide +kernel
theorem dX9_layGroup_46 : decode cX9_layGroup 46 = .ok (.iinc 4 1, 3) := by decide +kernel
theorem dX9_layGroup_49 : decode cX9_layGroup 49 = .ok (.goto (-39), 3) := by decide +kernel
theorem dX9_layGroup_52 : decode cX9_layGroup 52 = .ok (.iinc 3 1, 3) := by decide +kernel
theorem dX9_layGroup_55 : decode cX9_layGroup 55 = .ok (.goto (-53), 3) := by decide +kernel
theorem dX9_layGroup_58 : decode cX9_layGroup 58 = .ok (.return_, 1) := by decide +kernel
set_option maxRecDepth 20000 in
theorem ggX9_group_X9_noTable : GoodIn wsX9_group wsX9_noTable := goodIn_r _ [5, 1, 6, 7, 4, 8] (by decide +kernel) (by decide +kernel)
set_option maxRecDepth 20000 in
theorem gX9_group_X9_noTable : GoodIn wsX9_group (va_wsS RX9 64 yX9_noTable wsX9_noTable) := goodIn_app (goodIn_of _ (by decide +kernel)) ggX9_group_X9_noTable
set_option maxRecDepth 20000 in
theorem ggX9_group_X9_in : GoodIn wsX9_group wsX9_in := goodIn_r _ [8] (by decide +kernel) (by decide +kernel)
set_option maxRecDepth 20000 in
theorem gX9_group_X9_in : GoodIn wsX9_group (va_wsS RX9 60 yX9_in wsX9_in) := goodIn_app (goodIn_of _ (by decide +kernel)) ggX9_group_X9_in
set_option maxRecDepth 20000 in
theorem ggX9_group_X9_begin : GoodIn wsX9_group wsX9_begin := goodIn_r _ [12, 13, 14, 15, 16, 17, 4, 18, 23, 24, 25, 26, 27, 28, 29, 30, 31, 32, 33, 34, 35, 36, 37] (by decide +kernel) (by decide +kernel)
set_option maxRecDepth 20000 in
theorem gX9_group_X9_begin : GoodIn wsX9_group (wsV RX9 50 RX9 yX9_begin wsX9_begin) := goodIn_app (goodIn_of _ (by decide +kernel)) ggX9_group_X9_begin
set_option maxRecDepth 20000 in
theorem ggX9_group_X9_layGroup : GoodIn wsX9_group wsX9_layGroup := goodIn_r _ [22, 15, 16, 17, 4, 18, 14, 23, 24, 25, 26, 27, 28, 29, 30, 31, 32, 33, 34, 35, 36, 37] (by decide +kernel) (by decide +kernel)
set_option maxRecDepth 20000 in
theorem gX9_group_X9_layGroup : GoodIn wsX9_group (wsV RX9 102 RX9 yX9_layGroup wsX9_layGroup) := goodIn_app (goodIn_of _ (by decide +kernel)) ggX9_group_X9_layGroup
theorem dX9_group_0 : decode cX9_group 0 = .ok (.iload_n 1, 1) := by decide +kernel
theorem dX9_group_1 : decode cX9_group 1 = .ok (.invokestatic 64, 3) := by decide +kernel
theorem dX9_group_4 : decode cX9_group 4 = .ok (.ifCond .ne 15, 3) := by decide +kernel
theorem dX9_group_7 : decode cX9_group 7 = .ok (.iload_n 2, 1) := by decide +kernel
theorem dX9_group_8 : decode cX9_group 8 = .ok (.i2l, 1) := by decide +kernel
theorem dX9_group_9 : decode cX9_group 9 = .ok (.lconst 1, 1) := by decide +kernel
theorem dX9_group_10 : decode cX9_group 10 = .ok (.ldc2_w 58, 3) := by decide +kernel
theorem dX9_group_13 : decode cX9_group 13 = .ok (.invokestatic 60, 3) := by decide +kernel
theorem dX9_group_16 : decode cX9_group 16 = .ok (.ifCond .ne 6, 3) := by decide +kernel
theorem dX9_group_19 : decode cX9_group 19 = .ok (.bipush (-2), 2) := by decide +kernel
theorem dX9_group_21 : decode cX9_group 21 = .ok (.ireturn, 1) := by decide +kernel
theorem dX9_group_22 : decode cX9_group 22 = .ok (.aload_n 0, 1) := by decide +kernel
theorem dX9_group_23 : decode cX9_group 23 = .ok (.iload_n 1, 1) := by decide +kernel
theorem dX9_group_24 : decode cX9_group 24 = .ok (.iload_n 2, 1) := by decide +kernel
theorem dX9_group_25 : decode cX9_group 25 = .ok (.invokevirtual 50, 3) := by decide +kernel
theorem dX9_group_28 : decode cX9_group 28 = .ok (.aload_n 0, 1) := by decide +kernel
theorem dX9_group_29 : decode cX9_group 29 = .ok (.iload_n 1, 1) := by decide +kernel
theorem dX9_group_30 : decode cX9_group 30 = .ok (.iload_n 2, 1) := by decide +kernel
theorem dX9_group_31 : decode cX9_group 31 = .ok (.invokevirtual 102, 3) := by decide +kernel
theorem dX9_group_34 : decode cX9_group 34 = .ok (.iconst 1, 1) := by decide +kernel
theorem dX9_group_35 : decode cX9_group 35 = .ok (.ireturn, 1) := by decide +kernel
set_option maxRecDepth 20000 in
theorem ggX9_near_X9_noTable : GoodIn wsX9_near wsX9_noTable := goodIn_r _ [6, 7, 8, 9, 5, 10] (by decide +kernel) (by decide +kernel)
set_option maxRecDepth 20000 in
theorem gX9_near_X9_noTable : GoodIn wsX9_near (va_wsS RX9 64 yX9_noTable wsX9_noTable) := goodIn_app (goodIn_of _ (by decide +kernel)) ggX9_near_X9_noTable
set_option maxRecDepth 20000 in
theorem ggX9_near_X9_in : GoodIn wsX9_near wsX9_in := goodIn_r _ [10] (by decide +kernel) (by decide +kernel)
set_option maxRecDepth 20000 in
theorem gX9_near_X9_in : GoodIn wsX9_near (va_wsS RX9 60 yX9_in wsX9_in) := goodIn_app (goodIn_of _ (by decide +kernel)) ggX9_near_X9_in
set_option maxRecDepth 20000 in
theorem ggX9_near_X9_begin : GoodIn wsX9_near wsX9_begin := goodIn_r _ [14, 15, 16, 17, 18, 19, 5, 20, 25, 26, 27, 28, 29, 30, 31, 32, 33, 34, 35, 36, 37, 38, 39] (by decide +kernel) (by decide +kernel)
set_option maxRecDepth 20000 in
theorem gX9_near_X9_begin : GoodIn wsX9_near (wsV RX9 50 RX9 yX9_begin wsX9_begin) := goodIn_app (goodIn_of _ (by decide +kernel)) ggX9_near_X9_begin
set_option maxRecDepth 20000 in
theorem ggX9_near_X9_layGroup : GoodIn wsX9_near wsX9_layGroup := goodIn_r _ [24, 17, 18, 19, 5, 20, 16, 25, 26, 27, 28, 29, 30, 31, 32, 33, 34, 35, 36, 37, 38, 39] (by decide +kernel) (by decide +kernel)
set_option maxRecDepth 20000 in
theorem gX9_near_X9_layGroup : GoodIn wsX9_near (wsV RX9 102 RX9 yX9_layGroup wsX9_layGroup) := goodIn_app (goodIn_of _ (by decide +kernel)) ggX9_near_X9_layGroup
set_option maxRecDepth 20000 in
theorem ggX9_near_X9_lay : GoodIn wsX9_near wsX9_lay := goodIn_r _ [20, 16, 25, 26, 27, 28, 29, 30, 31, 32, 33, 34, 35, 36, 37, 38, 39] (by decide +kernel) (by decide +kernel)
set_option maxRecDepth 20000 in
theorem gX9_near_X9_lay : GoodIn wsX9_near (wsV RX9 54 RX9 yX9_lay wsX9_lay) := goodIn_app (goodIn_of _ (by decide +kernel)) ggX9_near_X9_lay
theorem dX9_near_0 : decode cX9_near 0 = .ok (.iload_n 1, 1) := by decide +kernel
theorem dX9_near_1 : decode cX9_near 1 = .ok (.invokestatic 64, 3) := by decide +kernel
theorem dX9_near_4 : decode cX9_near 4 = .ok (.ifCond .ne 27, 3) := by decide +kernel
theorem dX9_near_7 : decode cX9_near 7 = .ok (.iload_n 2, 1) := by decide +kernel
theorem dX9_near_8 : decode cX9_near 8 = .ok (.i2l, 1) := by decide +kernel
theorem dX9_near_9 : decode cX9_near 9 = .ok (.lconst 1, 1) := by decide +kernel
theorem dX9_near_10 : decode cX9_near 10 = .ok (.ldc2_w 94, 3) := by decide +kernel
theorem dX9_near_13 : decode cX9_near 13 = .ok (.invokestatic 60, 3) := by decide +kernel
theorem dX9_near_16 : decode cX9_near 16 = .ok (.ifCond .eq 15, 3) := by decide +kernel
theorem dX9_near_19 : decode cX9_near 19 = .ok (.iload_n 3, 1) := by decide +kernel
theorem dX9_near_20 : decode cX9_near 20 = .ok (.i2l, 1) := by decide +kernel
theorem dX9_near_21 : decode cX9_near 21 = .ok (.lconst 0, 1) := by decide +kernel
theorem dX9_near_22 : decode cX9_near 22 = .ok (.ldc2_w 72, 3) := by decide +kernel
theorem dX9_near_25 : decode cX9_near 25 = .ok (.invokestatic 60, 3) := by decide +kernel
theorem dX9_near_28 : decode cX9_near 28 = .ok (.ifCond .ne 6, 3) := by decide +kernel
theorem dX9_near_31 : decode cX9_near 31 = .ok (.bipush (-2), 2) := by decide +kernel
theorem dX9_near_33 : decode cX9_near 33 = .ok (.ireturn, 1) := by decide +kernel
theorem dX9_near_34 : decode cX9_near 34 = .ok (.aload_n 0, 1) := by decide +kernel
theorem dX9_near_35 : decode cX9_near 35 = .ok (.iload_n 1, 1) := by decide +kernel
theorem dX9_near_36 : decode cX9_near 36 = .ok (.iload_n 2, 1) := by decide +kernel
theorem dX9_near_37 : decode cX9_near 37 = .ok (.iconst 1, 1) := by decide +kernel
theorem dX9_near_38 : decode cX9_near 38 = .ok (.iadd, 1) := by decide +kernel
theorem dX9_near_39 : decode cX9_near 39 = .ok (.invokevirtual 50, 3) := by decide +kernel
theorem dX9_near_42 : decode cX9_near 42 = .ok (.aload_n 0, 1) := by decide +kernel
theorem dX9_near_43 : decode cX9_near 43 = .ok (.iload_n 1, 1) := by decide +kernel
theorem dX9_near_44 : decode cX9_near 44 = .ok (.iload_n 2, 1) := by decide +kernel
theorem dX9_near_45 : decode cX9_near 45 = .ok (.invokevirtual 102, 3) := by decide +kernel
theorem dX9_near_48 : decode cX9_near 48 = .ok (.iconst 0, 1) := by decide +kernel
theorem dX9_near_49 : decode cX9_near 49 = .ok (.istore 4, 2) := by decide +kernel
theorem dX9_near_51 : decode cX9_near 51 = .ok (.iload 4, 2) := by decide +kernel
theorem dX9_near_53 : decode cX9_near 53 = .ok (.iload_n 2, 1) := by decide +kernel
theorem dX9_near_54 : decode cX9_near 54 = .ok (.if_icmp .ge 39, 3) := by decide +kernel
theorem dX9_near_57 : decode cX9_near 57 = .ok (.aload_n 0, 1) := by decide +kernel
theorem dX9_near_58 : decode cX9_near 58 = .ok (.iload_n 1, 1) := by decide +kernel
theorem dX9_near_59 : decode cX9_near 59 = .ok (.iload 4, 2) := by decide +kernel
theorem dX9_near_61 : decode cX9_near 61 = .ok (.iload_n 2, 1) := by decide +kernel
theorem dX9_near_62 : decode cX9_near 62 = .ok (.iload_n 2, 1) := by decide +kernel
theorem dX9_near_63 : decode cX9_near 63 = .ok (.iconst 1, 1) := by decide +kernel
theorem dX9_near_64 : decode cX9_near 64 = .ok (.invokevirtual 54, 3) := by decide +kernel
theorem dX9_near_67 : decode cX9_near 67 = .ok (.aload_n 0, 1) := by decide +kernel
theorem dX9_near_68 : decode cX9_near 68 = .ok (.iload_n 1, 1) := by decide +kernel
theorem dX9_near_69 : decode cX9_near 69 = .ok (.iload_n 2, 1) := by decide +kernel
theorem dX9_near_70 : decode cX9_near 70 = .ok (.iload 4, 2) := by decide +kernel
theorem dX9_near_72 : decode cX9_near 72 = .ok (.iload_n 2, 1) := by decide +kernel
theorem dX9_near_73 : decode cX9_near 73 = .ok (.iconst 1, 1) := by decide +kernel
theorem dX9_near_74 : decode cX9_near 74 = .ok (.invokevirtual 54, 3) := by decide +kernel
theorem dX9_near_77 : decode cX9_near 77 = .ok (.aload_n 0, 1) := by decide +kernel
theorem dX9_near_78 : decode cX9_near 78 = .ok (.iload_n 1, 1) := by decide +kernel
theorem dX9_near_79 : decode cX9_near 79 = .ok (.iload_n 2, 1) := by decide +kernel
theorem dX9_near_80 : decode cX9_near 80 = .ok (.iload_n 2, 1) := by decide +kernel
theorem dX9_near_81 : decode cX9_near 81 = .ok (.iload 4, 2) := by decide +kernel
theorem dX9_near_83 : decode cX9_near 83 = .ok (.iconst 1, 1) := by decide +kernel
theorem dX9_near_84 : decode cX9_near 84 = .ok (.invokevirtual 54, 3) := by decide +kernel
theorem dX9_near_87 : decode cX9_near 87 = .ok (.iinc 4 1, 3) := by decide +kernel
theorem dX9_near_90 : decode cX9_near 90 = .ok (.goto (-39), 3) := by decide +kernel
theorem dX9_near_93 : decode cX9_near 93 = .ok (.aload_n 0, 1) := by decide +kernel
theorem dX9_near_94 : decode cX9_near 94 = .ok (.iload_n 1, 1) := by decide +kernel
theorem dX9_near_95 : decode cX9_near 95 = .ok (.iload_n 2, 1) := by decide +kernel
theorem dX9_near_96 : decode cX9_near 96 = .ok (.iload_n 2, 1) := by decide +kernel
theorem dX9_near_97 : decode cX9_near 97 = .ok (.iload_n 2, 1) := by decide +kernel
theorem dX9_near_98 : decode cX9_near 98 = .ok (.iload_n 3, 1) := by decide +kernel
theorem dX9_near_99 : decode cX9_near 99 = .ok (.invokevirtual 54, 3) := by decide +kernel
theorem dX9_near_102 : decode cX9_near 102 = .ok (.iconst 1, 1) := by decide +kernel
theorem dX9_near_103 : decode cX9_near 103 = .ok (.ireturn, 1) := by decide +kernel
set_option maxRecDepth 20000 in
theorem ggX9_together_X9_noTable : GoodIn wsX9_together wsX9_noTable := goodIn_r _ [5, 6, 7, 8, 4, 9] (by decide +kernel) (by decide +kernel)
set_option maxRecDepth 20000 in
theorem gX9_together_X9_noTable : GoodIn wsX9_together (va_wsS RX9 64 yX9_noTable wsX9_noTable) := goodIn_app (goodIn_of _ (by decide +kernel)) ggX9_together_X9_noTable
set_option maxRecDepth 20000 in
theorem ggX9_together_X9_begin : GoodIn wsX9_together wsX9_begin := goodIn_r _ [13, 1, 14, 15, 16, 17, 4, 18, 27, 28, 29, 30, 31, 32, 33, 34, 35, 36, 37, 38, 39, 40, 41] (by decide +kernel) (by decide +kernel)
set_option maxRecDepth 20000 in
theorem gX9_together_X9_begin : GoodIn wsX9_together (wsV RX9 50 RX9 yX9_begin wsX9_begin) := goodIn_app (goodIn_of _ (by decide +kernel)) ggX9_together_X9_begin
set_option maxRecDepth 20000 in
theorem ggX9_together_X9_n : GoodIn wsX9_together wsX9_n := goodIn_r _ [22, 14, 27, 28, 29, 30, 31, 32, 33, 34, 35, 36, 37, 38, 39, 40, 41] (by decide +kernel) (by decide +kernel)
set_option maxRecDepth 20000 in
theorem gX9_together_X9_n : GoodIn wsX9_together (wsV RX9 74 RX9 yX9_n wsX9_n) := goodIn_app (goodIn_of _ (by decide +kernel)) ggX9_together_X9_n
set_option maxRecDepth 20000 in
theorem ggX9_together_X9_lay : GoodIn wsX9_together wsX9_lay := goodIn_r _ [18, 14, 27, 28, 29, 30, 31, 32, 33, 34, 35, 36, 37, 38, 39, 40, 41] (by decide +kernel) (by decide +kernel)
set_option maxRecDepth 20000 in
theorem gX9_together_X9_lay : GoodIn wsX9_together (wsV RX9 54 RX9 yX9_lay wsX9_lay) := goodIn_app (goodIn_of _ (by decide +kernel)) ggX9_together_X9_lay
set_option maxRecDepth 20000 in
theorem ggX9_together_X9_carry : GoodIn wsX9_together wsX9_carry := goodIn_r _ [26, 1, 14, 27, 28, 29, 30, 31, 32, 33, 34, 35, 36, 37, 38, 39, 40, 41] (by decide +kernel) (by decide +kernel)
set_option maxRecDepth 20000 in
theorem gX9_together_X9_carry : GoodIn wsX9_together (wsV RX9 99 RX9 yX9_carry wsX9_carry) := goodIn_app (goodIn_of _ (by decide +kernel)) ggX9_together_X9_carry
theorem dX9_together_0 : decode cX9_together 0 = .ok (.iload_n 1, 1) := by decide +kernel
theorem dX9_together_1 : decode cX9_together 1 = .ok (.invokestatic 64, 3) := by decide +kernel
theorem dX9_together_4 : decode cX9_together 4 = .ok (.ifCond .ne 17, 3) := by decide +kernel
theorem dX9_together_7 : decode cX9_together 7 = .ok (.iload_n 2, 1) := by decide +kernel
theorem dX9_together_8 : decode cX9_together 8 = .ok (.invokestatic 64, 3) := by decide +kernel
theorem dX9_together_11 : decode cX9_together 11 = .ok (.ifCond .ne 10, 3) := by decide +kernel
theorem dX9_together_14 : decode cX9_together 14 = .ok (.iload_n 3, 1) := by decide +kernel
theorem dX9_together_15 : decode cX9_together 15 = .ok (.invokestatic 64, 3) := by decide +kernel
theorem dX9_together_18 : decode cX9_together 18 = .ok (.ifCond .eq 6, 3) := by decide +kernel
theorem dX9_together_21 : decode cX9_together 21 = .ok (.bipush (-2), 2) := by decide +kernel
theorem dX9_together_23 : decode cX9_together 23 = .ok (.ireturn, 1) := by decide +kernel
theorem dX9_together_24 : decode cX9_together 24 = .ok (.aload_n 0, 1) := by decide +kernel
theorem dX9_together_25 : decode cX9_together 25 = .ok (.getfield 7, 3) := by decide +kernel
theorem dX9_together_28 : decode cX9_together 28 = .ok (.iload_n 1, 1) := by decide +kernel
theorem dX9_together_29 : decode cX9_together 29 = .ok (.iaload, 1) := by decide +kernel
theorem dX9_together_30 : decode cX9_together 30 = .ok (.istore 4, 2) := by decide +kernel
theorem dX9_together_32 : decode cX9_together 32 = .ok (.aload_n 0, 1) := by decide +kernel
theorem dX9_together_33 : decode cX9_together 33 = .ok (.getfield 7, 3) := by decide +kernel
theorem dX9_together_36 : decode cX9_together 36 = .ok (.iload_n 2, 1) := by decide +kernel
theorem dX9_together_37 : decode cX9_together 37 = .ok (.iaload, 1) := by decide +kernel
theorem dX9_together_38 : decode cX9_together 38 = .ok (.istore 5, 2) := by decide +kernel
theorem dX9_together_40 : decode cX9_together 40 = .ok (.iload 4, 2) := by decide +kernel
theorem dX9_together_42 : decode cX9_together 42 = .ok (.iload 5, 2) := by decide +kernel
theorem dX9_together_44 : decode cX9_together 44 = .ok (.imul, 1) := by decide +kernel
theorem dX9_together_45 : decode cX9_together 45 = .ok (.iconst 5, 1) := by decide +kernel
theorem dX9_together_46 : decode cX9_together 46 = .ok (.if_icmp .le 6, 3) := by decide +kernel
theorem dX9_together_49 : decode cX9_together 49 = .ok (.bipush (-3), 2) := by decide +kernel
theorem dX9_together_51 : decode cX9_together 51 = .ok (.ireturn, 1) := by decide +kernel
theorem dX9_together_52 : decode cX9_together 52 = .ok (.aload_n 0, 1) := by decide +kernel
theorem dX9_together_53 : decode cX9_together 53 = .ok (.bipush 6, 2) := by decide +kernel
theorem dX9_together_55 : decode cX9_together 55 = .ok (.iload 4, 2) := by decide +kernel
theorem dX9_together_57 : decode cX9_together 57 = .ok (.iload 5, 2) := by decide +kernel
theorem dX9_together_59 : decode cX9_together 59 = .ok (.imul, 1) := by decide +kernel
theorem dX9_together_60 : decode cX9_together 60 = .ok (.invokevirtual 50, 3) := by decide +kernel
theorem dX9_together_63 : decode cX9_together 63 = .ok (.iconst 0, 1) := by decide +kernel
theorem dX9_together_64 : decode cX9_together 64 = .ok (.istore 6, 2) := by decide +kernel
theorem dX9_together_66 : decode cX9_together 66 = .ok (.iload 6, 2) := by decide +kernel
theorem dX9_together_68 : decode cX9_together 68 = .ok (.iload 4, 2) := by decide +kernel
theorem dX9_together_70 : decode cX9_together 70 = .ok (.iload 5, 2) := by decide +kernel
theorem dX9_together_72 : decode cX9_together 72 = .ok (.imul, 1) := by decide +kernel
theorem dX9_together_73 : decode cX9_together 73 = .ok (.if_icmp .ge 114, 3) := by decide +kernel
theorem dX9_together_76 : decode cX9_together 76 = .ok (.iconst 0, 1) := by decide +kernel
theorem dX9_together_77 : decode cX9_together 77 = .ok (.istore 7, 2) := by decide +kernel
theorem dX9_together_79 : decode cX9_together 79 = .ok (.iload 7, 2) := by decide +kernel
theorem dX9_together_81 : decode cX9_together 81 = .ok (.iload 4, 2) := by decide +kernel
theorem dX9_together_83 : decode cX9_together 83 = .ok (.iload 5, 2) := by decide +kernel
theorem dX9_together_85 : decode cX9_together 85 = .ok (.imul, 1) := by decide +kernel
theorem dX9_together_86 : decode cX9_together 86 = .ok (.if_icmp .ge 95, 3) := by decide +kernel
theorem dX9_together_89 : decode cX9_together 89 = .ok (.iconst 0, 1) := by decide +kernel
theorem dX9_together_90 : decode cX9_together 90 = .ok (.istore 8, 2) := by decide +kernel
theorem dX9_together_92 : decode cX9_together 92 = .ok (.iload 8, 2) := by decide +kernel
theorem dX9_together_94 : decode cX9_together 94 = .ok (.iload 4, 2) := by decide +kernel
theorem dX9_together_96 : decode cX9_together 96 = .ok (.iload 5, 2) := by decide +kernel
theorem dX9_together_98 : decode cX9_together 98 = .ok (.imul, 1) := by decide +kernel
theorem dX9_together_99 : decode cX9_together 99 = .ok (.if_icmp .ge 76, 3) := by decide +kernel
theorem dX9_together_102 : decode cX9_together 102 = .ok (.aload_n 0, 1) := by decide +kernel
theorem dX9_together_103 : decode cX9_together 103 = .ok (.iload_n 1, 1) := by decide +kernel
theorem dX9_together_104 : decode cX9_together 104 = .ok (.iload 6, 2) := by decide +kernel
theorem dX9_together_106 : decode cX9_together 106 = .ok (.iload 5, 2) := by decide +kernel
theorem dX9_together_108 : decode cX9_together 108 = .ok (.idiv, 1) := by decide +kernel
theorem dX9_together_109 : decode cX9_together 109 = .ok (.iload 7, 2) := by decide +kernel
theorem dX9_together_111 : decode cX9_together 111 = .ok (.iload 5, 2) := by decide +kernel
theorem dX9_together_113 : decode cX9_together 113 = .ok (.idiv, 1) := by decide +kernel
theorem dX9_together_114 : decode cX9_together 114 = .ok (.iload 8, 2) := by decide +kernel
theorem dX9_together_116 : decode cX9_together 116 = .ok (.iload 5, 2) := by decide +kernel
theorem dX9_together_118 : decode cX9_together 118 = .ok (.idiv, 1) := by decide +kernel
theorem dX9_together_119 : decode cX9_together 119 = .ok (.invokevirtual 74, 3) := by decide +kernel
theorem dX9_together_122 : decode cX9_together 122 = .ok (.aload_n 0, 1) := by decide +kernel
theorem dX9_together_123 : decode cX9_together 123 = .ok (.iload_n 2, 1) := by decide +kernel
theorem dX9_together_124 : decode cX9_together 124 = .ok (.iload 6, 2) := by decide +kernel
theorem dX9_together_126 : decode cX9_together 126 = .ok (.iload 5, 2) := by decide +kernel
theorem dX9_together_128 : decode cX9_together 128 = .ok (.irem, 1) := by decide +kernel
theorem dX9_together_129 : decode cX9_together 129 = .ok (.iload 7, 2) := by decide +kernel
theorem dX9_together_131 : decode cX9_together 131 = .ok (.iload 5, 2) := by decide +kernel
theorem dX9_together_133 : decode cX9_together 133 = .ok (.irem, 1) := by decide +kernel
theorem dX9_together_134 : decode cX9_together 134 = .ok (.iload 8, 2) := by decide +kernel
theorem dX9_together_136 : decode cX9_together 136 = .ok (.iload 5, 2) := by decide +kernel
theorem dX9_together_138 : decode cX9_together 138 = .ok (.irem, 1) := by decide +kernel
theorem dX9_together_139 : decode cX9_together 139 = .ok (.invokevirtual 74, 3) := by decide +kernel
theorem dX9_together_142 : decode cX9_together 142 = .ok (.imul, 1) := by decide +kernel
theorem dX9_together_143 : decode cX9_together 143 = .ok (.istore 9, 2) := by decide +kernel
theorem dX9_together_145 : decode cX9_together 145 = .ok (.iload 9, 2) := by decide +kernel
theorem dX9_together_147 : decode cX9_together 147 = .ok (.bipush 9, 2) := by decide +kernel
theorem dX9_together_149 : decode cX9_together 149 = .ok (.if_icmp .le 6, 3) := by decide +kernel
theorem dX9_together_152 : decode cX9_together 152 = .ok (.bipush (-3), 2) := by decide +kernel
theorem dX9_together_154 : decode cX9_together 154 = .ok (.ireturn, 1) := by decide +kernel
theorem dX9_together_155 : decode cX9_together 155 = .ok (.aload_n 0, 1) := by decide +kernel
theorem dX9_together_156 : decode cX9_together 156 = .ok (.bipush 6, 2) := by decide +kernel
theorem dX9_together_158 : decode cX9_together 158 = .ok (.iload 6, 2) := by decide +kernel
theorem dX9_together_160 : decode cX9_together 160 = .ok (.iload 7, 2) := by decide +kernel
theorem dX9_together_162 : decode cX9_together 162 = .ok (.iload 8, 2) := by decide +kernel
theorem dX9_together_164 : decode cX9_together 164 = .ok (.iload 9, 2) := by decide +kernel
theorem dX9_together_166 : decode cX9_together 166 = .ok (.invokevirtual 54, 3) := by decide +kernel
theorem dX9_together_169 : decode cX9_together 169 = .ok (.iinc 8 1, 3) := by decide +kernel
theorem dX9_together_172 : decode cX9_together 172 = .ok (.goto (-80), 3) := by decide +kernel
theorem dX9_together_175 : decode cX9_together 175 = .ok (.iinc 7 1, 3) := by decide +kernel
theorem dX9_together_178 : decode cX9_together 178 = .ok (.goto (-99), 3) := by decide +kernel
theorem dX9_together_181 : decode cX9_together 181 = .ok (.iinc 6 1, 3) := by decide +kernel
theorem dX9_together_184 : decode cX9_together 184 = .ok (.goto (-118), 3) := by decide +kernel
theorem dX9_together_187 : decode cX9_together 187 = .ok (.aload_n 0, 1) := by decide +kernel
theorem dX9_together_188 : decode cX9_together 188 = .ok (.bipush 6, 2) := by decide +kernel
theorem dX9_together_190 : decode cX9_together 190 = .ok (.iload_n 3, 1) := by decide +kernel
theorem dX9_together_191 : decode cX9_together 191 = .ok (.invokevirtual 99, 3) := by decide +kernel
theorem dX9_together_194 : decode cX9_together 194 = .ok (.iload 4, 2) := by decide +kernel
theorem dX9_together_196 : decode cX9_together 196 = .ok (.iload 5, 2) := by decide +kernel
theorem dX9_together_198 : decode cX9_together 198 = .ok (.imul, 1) := by decide +kernel
theorem dX9_together_199 : decode cX9_together 199 = .ok (.ireturn, 1) := by decide +kernel
theorem dX9_mate_0 : decode cX9_mate 0 = .ok (.iload_n 1, 1) := by decide +kernel
theorem dX9_mate_1 : decode cX9_mate 1 = .ok (.iconst 1, 1) := by decide +kernel
theorem dX9_mate_2 : decode cX9_mate 2 = .ok (.if_icmp .ne 19, 3) := by decide +kernel
theorem dX9_mate_5 : decode cX9_mate 5 = .ok (.iload_n 0, 1) := by decide +kernel
theorem dX9_mate_6 : decode cX9_mate 6 = .ok (.iconst 1, 1) := by decide +kernel
theorem dX9_mate_7 : decode cX9_mate 7 = .ok (.if_icmp .eq 8, 3) := by decide +kernel
theorem dX9_mate_10 : decode cX9_mate 10 = .ok (.iload_n 0, 1) := by decide +kernel
theorem dX9_mate_11 : decode cX9_mate 11 = .ok (.iconst 2, 1) := by decide +kernel
theorem dX9_mate_12 : decode cX9_mate 12 = .ok (.if_icmp .ne 9, 3) := by decide +kernel
theorem dX9_mate_15 : decode cX9_mate 15 = .ok (.iconst 3, 1) := by decide +kernel
theorem dX9_mate_16 : decode cX9_mate 16 = .ok (.iload_n 0, 1) := by decide +kernel
theorem dX9_mate_17 : decode cX9_mate 17 = .ok (.isub, 1) := by decide +kernel
theorem dX9_mate_18 : decode cX9_mate 18 = .ok (.goto 4, 3) := by decide +kernel
theorem dX9_mate_21 : decode cX9_mate 21 = .ok (.iload_n 0, 1) := by decide +kernel
theorem dX9_mate_22 : decode cX9_mate 22 = .ok (.ireturn, 1) := by decide +kernel
theorem dX9_placeOf_0 : decode cX9_placeOf 0 = .ok (.bipush 25, 2) := by decide +kernel
theorem dX9_placeOf_2 : decode cX9_placeOf 2 = .ok (.iload_n 0, 1) := by decide +kernel
theorem dX9_placeOf_3 : decode cX9_placeOf 3 = .ok (.imul, 1) := by decide +kernel
theorem dX9_placeOf_4 : decode cX9_placeOf 4 = .ok (.iconst 5, 1) := by decide +kernel
theorem dX9_placeOf_5 : decode cX9_placeOf 5 = .ok (.iload_n 1, 1) := by decide +kernel
theorem dX9_placeOf_6 : decode cX9_placeOf 6 = .ok (.imul, 1) := by decide +kernel
theorem dX9_placeOf_7 : decode cX9_placeOf 7 = .ok (.iadd, 1) := by decide +kernel
theorem dX9_placeOf_8 : decode cX9_placeOf 8 = .ok (.iload_n 2, 1) := by decide +kernel
theorem dX9_placeOf_9 : decode cX9_placeOf 9 = .ok (.iadd, 1) := by decide +kernel
theorem dX9_placeOf_10 : decode cX9_placeOf 10 = .ok (.ireturn, 1) := by decide +kernel
theorem dX9_join_0 : decode cX9_join 0 = .ok (.aload_n 0, 1) := by decide +kernel
theorem dX9_join_1 : decode cX9_join 1 = .ok (.getfield 22, 3) := by decide +kernel
theorem dX9_join_4 : decode cX9_join 4 = .ok (.iload_n 1, 1) := by decide +kernel
theorem dX9_join_5 : decode cX9_join 5 = .ok (.iaload, 1) := by decide +kernel
theorem dX9_join_6 : decode cX9_join 6 = .ok (.aload_n 0, 1) := by decide +kernel
theorem dX9_join_7 : decode cX9_join 7 = .ok (.getfield 22, 3) := by decide +kernel
theorem dX9_join_10 : decode cX9_join 10 = .ok (.iload_n 2, 1) := by decide +kernel
theorem dX9_join_11 : decode cX9_join 11 = .ok (.iaload, 1) := by decide +kernel
theorem dX9_join_12 : decode cX9_join 12 = .ok (.if_icmp .ge 12, 3) := by decide +kernel
theorem dX9_join_15 : decode cX9_join 15 = .ok (.aload_n 0, 1) := by decide +kernel
theorem dX9_join_16 : decode cX9_join 16 = .ok (.getfield 22, 3) := by decide +kernel
theorem dX9_join_19 : decode cX9_join 19 = .ok (.iload_n 1, 1) := by decide +kernel
theorem dX9_join_20 : decode cX9_join 20 = .ok (.iaload, 1) := by decide +kernel
theorem dX9_join_21 : decode cX9_join 21 = .ok (.goto 9, 3) := by decide +kernel
theorem dX9_join_24 : decode cX9_join 24 = .ok (.aload_n 0, 1) := by decide +kernel
theorem dX9_join_25 : decode cX9_join 25 = .ok (.getfield 22, 3) := by decide +kernel
theorem dX9_join_28 : decode cX9_join 28 = .ok (.iload_n 2, 1) := by decide +kernel
theorem dX9_join_29 : decode cX9_join 29 = .ok (.iaload, 1) := by decide +kernel
theorem dX9_join_30 : decode cX9_join 30 = .ok (.istore_n 3, 1) := by decide +kernel
theorem dX9_join_31 : decode cX9_join 31 = .ok (.aload_n 0, 1) := by decide +kernel
theorem dX9_join_32 : decode cX9_join 32 = .ok (.getfield 22, 3) := by decide +kernel
theorem dX9_join_35 : decode cX9_join 35 = .ok (.iload_n 1, 1) := by decide +kernel
theorem dX9_join_36 : decode cX9_join 36 = .ok (.iaload, 1) := by decide +kernel
theorem dX9_join_37 : decode cX9_join 37 = .ok (.aload_n 0, 1) := by decide +kernel
theorem dX9_join_38 : decode cX9_join 38 = .ok (.getfield 22, 3) := by decide +kernel
theorem dX9_join_41 : decode cX9_join 41 = .ok (.iload_n 2, 1) := by decide +kernel
theorem dX9_join_42 : decode cX9_join 42 = .ok (.iaload, 1) := by decide +kernel
theorem dX9_join_43 : decode cX9_join 43 = .ok (.if_icmp .eq 7, 3) := by decide +kernel
theorem dX9_join_46 : decode cX9_join 46 = .ok (.iconst 1, 1) := by decide +kernel
theorem dX9_join_47 : decode cX9_join 47 = .ok (.goto 4, 3) := by decide +kernel
theorem dX9_join_50 : decode cX9_join 50 = .ok (.iconst 0, 1) := by decide +kernel
theorem dX9_join_51 : decode cX9_join 51 = .ok (.istore 4, 2) := by decide +kernel
theorem dX9_join_53 : decode cX9_join 53 = .ok (.aload_n 0, 1) := by decide +kernel
theorem dX9_join_54 : decode cX9_join 54 = .ok (.getfield 22, 3) := by decide +kernel
theorem dX9_join_57 : decode cX9_join 57 = .ok (.iload_n 1, 1) := by decide +kernel
theorem dX9_join_58 : decode cX9_join 58 = .ok (.iload_n 3, 1) := by decide +kernel
theorem dX9_join_59 : decode cX9_join 59 = .ok (.iastore, 1) := by decide +kernel
theorem dX9_join_60 : decode cX9_join 60 = .ok (.aload_n 0, 1) := by decide +kernel
theorem dX9_join_61 : decode cX9_join 61 = .ok (.getfield 22, 3) := by decide +kernel
theorem dX9_join_64 : decode cX9_join 64 = .ok (.iload_n 2, 1) := by decide +kernel
theorem dX9_join_65 : decode cX9_join 65 = .ok (.iload_n 3, 1) := by decide +kernel
theorem dX9_join_66 : decode cX9_join 66 = .ok (.iastore, 1) := by decide +kernel
theorem dX9_join_67 : decode cX9_join 67 = .ok (.iload 4, 2) := by decide +kernel
theorem dX9_join_69 : decode cX9_join 69 = .ok (.ireturn, 1) := by decide +kernel
set_option maxRecDepth 20000 in
theorem ggX9_findLike_X9_placeOf : GoodIn wsX9_findLike wsX9_placeOf := goodIn_r _ [7] (by decide +kernel) (by decide +kernel)
set_option maxRecDepth 20000 in
theorem gX9_findLike_X9_placeOf : GoodIn wsX9_findLike (va_wsS RX9 105 yX9_placeOf wsX9_placeOf) := goodIn_app (goodIn_of _ (by decide +kernel)) ggX9_findLike_X9_placeOf
set_option maxRecDepth 20000 in
theorem ggX9_findLike_X9_join : GoodIn wsX9_findLike wsX9_join := goodIn_r _ [11, 1, 15, 16, 17, 18, 19, 20, 21, 22, 23, 24, 25, 26, 27, 28, 29] (by decide +kernel) (by decide +kernel)
set_option maxRecDepth 20000 in
theorem gX9_findLike_X9_join : GoodIn wsX9_findLike (wsV RX9 109 RX9 yX9_join wsX9_join) := goodIn_app (goodIn_of _ (by decide +kernel)) ggX9_findLike_X9_join
set_option maxRecDepth 20000 in
theorem ggX9_findLike_X9_mate : GoodIn wsX9_findLike wsX9_mate := goodIn_r _ [14] (by decide +kernel) (by decide +kernel)
set_option maxRecDepth 20000 in
theorem gX9_findLike_X9_mate : GoodIn wsX9_findLike (va_wsS RX9 112 yX9_mate wsX9_mate) := goodIn_app (goodIn_of _ (by decide +kernel)) ggX9_findLike_X9_mate
theorem dX9_findLike_0 : decode cX9_findLike 0 = .ok (.iconst 0, 1) := by decide +kernel
theorem dX9_findLike_1 : decode cX9_findLike 1 = .ok (.istore_n 3, 1) := by decide +kernel
theorem dX9_findLike_2 : decode cX9_findLike 2 = .ok (.iload_n 3, 1) := by decide +kernel
theorem dX9_findLike_3 : decode cX9_findLike 3 = .ok (.bipush 125, 2) := by decide +kernel
theorem dX9_findLike_5 : decode cX9_findLike 5 = .ok (.if_icmp .ge 16, 3) := by decide +kernel
theorem dX9_findLike_8 : decode cX9_findLike 8 = .ok (.aload_n 0, 1) := by decide +kernel
theorem dX9_findLike_9 : decode cX9_findLike 9 = .ok (.getfield 22, 3) := by decide +kernel
theorem dX9_findLike_12 : decode cX9_findLike 12 = .ok (.iload_n 3, 1) := by decide +kernel
theorem dX9_findLike_13 : decode cX9_findLike 13 = .ok (.iload_n 3, 1) := by decide +kernel
theorem dX9_findLike_14 : decode cX9_findLike 14 = .ok (.iastore, 1) := by decide +kernel
theorem dX9_findLike_15 : decode cX9_findLike 15 = .ok (.iinc 3 1, 3) := by decide +kernel
theorem dX9_findLike_18 : decode cX9_findLike 18 = .ok (.goto (-16), 3) := by decide +kernel
theorem dX9_findLike_21 : decode cX9_findLike 21 = .ok (.iconst 1, 1) := by decide +kernel
theorem dX9_findLike_22 : decode cX9_findLike 22 = .ok (.istore_n 3, 1) := by decide +kernel
theorem dX9_findLike_23 : decode cX9_findLike 23 = .ok (.iload_n 3, 1) := by decide +kernel
theorem dX9_findLike_24 : decode cX9_findLike 24 = .ok (.ifCond .eq 125, 3) := by decide +kernel
theorem dX9_findLike_27 : decode cX9_findLike 27 = .ok (.iconst 0, 1) := by decide +kernel
theorem dX9_findLike_28 : decode cX9_findLike 28 = .ok (.istore_n 3, 1) := by decide +kernel
theorem dX9_findLike_29 : decode cX9_findLike 29 = .ok (.iconst 1, 1) := by decide +kernel
theorem dX9_findLike_30 : decode cX9_findLike 30 = .ok (.istore 4, 2) := by decide +kernel
theorem dX9_findLike_32 : decode cX9_findLike 32 = .ok (.iload 4, 2) := by decide +kernel
theorem dX9_findLike_34 : decode cX9_findLike 34 = .ok (.iload_n 1, 1) := by decide +kernel
theorem dX9_findLike_35 : decode cX9_findLike 35 = .ok (.if_icmp .ge 111, 3) := by decide +kernel
theorem dX9_findLike_38 : decode cX9_findLike 38 = .ok (.iconst 1, 1) := by decide +kernel
theorem dX9_findLike_39 : decode cX9_findLike 39 = .ok (.istore 5, 2) := by decide +kernel
theorem dX9_findLike_41 : decode cX9_findLike 41 = .ok (.iload 5, 2) := by decide +kernel
theorem dX9_findLike_43 : decode cX9_findLike 43 = .ok (.iload_n 1, 1) := by decide +kernel
theorem dX9_findLike_44 : decode cX9_findLike 44 = .ok (.if_icmp .ge 96, 3) := by decide +kernel
theorem dX9_findLike_47 : decode cX9_findLike 47 = .ok (.iconst 1, 1) := by decide +kernel
theorem dX9_findLike_48 : decode cX9_findLike 48 = .ok (.istore 6, 2) := by decide +kernel
theorem dX9_findLike_50 : decode cX9_findLike 50 = .ok (.iload 6, 2) := by decide +kernel
theorem dX9_findLike_52 : decode cX9_findLike 52 = .ok (.iload_n 1, 1) := by decide +kernel
theorem dX9_findLike_53 : decode cX9_findLike 53 = .ok (.if_icmp .ge 81, 3) := by decide +kernel
theorem dX9_findLike_56 : decode cX9_findLike 56 = .ok (.aload_n 0, 1) := by decide +kernel
theorem dX9_findLike_57 : decode cX9_findLike 57 = .ok (.iload 4, 2) := by decide +kernel
theorem dX9_findLike_59 : decode cX9_findLike 59 = .ok (.iload 5, 2) := by decide +kernel
theorem dX9_findLike_61 : decode cX9_findLike 61 = .ok (.iload 6, 2) := by decide +kernel
theorem dX9_findLike_63 : decode cX9_findLike 63 = .ok (.invokestatic 105, 3) := by decide +kernel
theorem dX9_findLike_66 : decode cX9_findLike 66 = .ok (.iload 5, 2) := by decide +kernel
theorem dX9_findLike_68 : decode cX9_findLike 68 = .ok (.iload 4, 2) := by decide +kernel
theorem dX9_findLike_70 : decode cX9_findLike 70 = .ok (.iload 6, 2) := by decide +kernel
theorem dX9_findLike_72 : decode cX9_findLike 72 = .ok (.invokestatic 105, 3) := by decide +kernel
theorem dX9_findLike_75 : decode cX9_findLike 75 = .ok (.invokevirtual 109, 3) := by decide +kernel
theorem dX9_findLike_78 : decode cX9_findLike 78 = .ok (.istore 7, 2) := by decide +kernel
theorem dX9_findLike_80 : decode cX9_findLike 80 = .ok (.aload_n 0, 1) := by decide +kernel
theorem dX9_findLike_81 : decode cX9_findLike 81 = .ok (.iload 4, 2) := by decide +kernel
theorem dX9_findLike_83 : decode cX9_findLike 83 = .ok (.iload 5, 2) := by decide +kernel
theorem dX9_findLike_85 : decode cX9_findLike 85 = .ok (.iload 6, 2) := by decide +kernel
theorem dX9_findLike_87 : decode cX9_findLike 87 = .ok (.invokestatic 105, 3) := by decide +kernel
theorem dX9_findLike_90 : decode cX9_findLike 90 = .ok (.iload 4, 2) := by decide +kernel
theorem dX9_findLike_92 : decode cX9_findLike 92 = .ok (.iload_n 2, 1) := by decide +kernel
theorem dX9_findLike_93 : decode cX9_findLike 93 = .ok (.invokestatic 112, 3) := by decide +kernel
theorem dX9_findLike_96 : decode cX9_findLike 96 = .ok (.iload 6, 2) := by decide +kernel
theorem dX9_findLike_98 : decode cX9_findLike 98 = .ok (.iload 5, 2) := by decide +kernel
theorem dX9_findLike_100 : decode cX9_findLike 100 = .ok (.invokestatic 105, 3) := by decide +kernel
theorem dX9_findLike_103 : decode cX9_findLike 103 = .ok (.invokevirtual 109, 3) := by decide +kernel
theorem dX9_findLike_106 : decode cX9_findLike 106 = .ok (.istore 8, 2) := by decide +kernel
theorem dX9_findLike_108 : decode cX9_findLike 108 = .ok (.iload_n 3, 1) := by decide +kernel
theorem dX9_findLike_109 : decode cX9_findLike 109 = .ok (.ifCond .ne 13, 3) := by decide +kernel
theorem dX9_findLike_112 : decode cX9_findLike 112 = .ok (.iload 7, 2) := by decide +kernel
theorem dX9_findLike_114 : decode cX9_findLike 114 = .ok (.ifCond .ne 8, 3) := by decide +kernel
theorem dX9_findLike_117 : decode cX9_findLike 117 = .ok (.iload 8, 2) := by decide +kernel
theorem dX9_findLike_119 : decode cX9_findLike 119 = .ok (.ifCond .eq 7, 3) := by decide +kernel
theorem dX9_findLike_122 : decode cX9_findLike 122 = .ok (.iconst 1, 1) := by decide +kernel
theorem dX9_findLike_123 : decode cX9_findLike 123 = .ok (.goto 4, 3) := by decide +kernel
theorem dX9_findLike_126 : decode cX9_findLike 126 = .ok (.iconst 0, 1) := by decide +kernel
theorem dX9_findLike_127 : decode cX9_findLike 127 = .ok (.istore_n 3, 1) := by decide +kernel
theorem dX9_findLike_128 : decode cX9_findLike 128 = .ok (.iinc 6 1, 3) := by decide +kernel
theorem dX9_findLike_131 : decode cX9_findLike 131 = .ok (.goto (-81), 3) := by decide +kernel
theorem dX9_findLike_134 : decode cX9_findLike 134 = .ok (.iinc 5 1, 3) := by decide +kernel
theorem dX9_findLike_137 : decode cX9_findLike 137 = .ok (.goto (-96), 3) := by decide +kernel
theorem dX9_findLike_140 : decode cX9_findLike 140 = .ok (.iinc 4 1, 3) := by decide +kernel
theorem dX9_findLike_143 : decode cX9_findLike 143 = .ok (.goto (-111), 3) := by decide +kernel
theorem dX9_findLike_146 : decode cX9_findLike 146 = .ok (.goto (-123), 3) := by decide +kernel
theorem dX9_findLike_149 : decode cX9_findLike 149 = .ok (.aload_n 0, 1) := by decide +kernel
theorem dX9_findLike_150 : decode cX9_findLike 150 = .ok (.iconst 0, 1) := by decide +kernel
theorem dX9_findLike_151 : decode cX9_findLike 151 = .ok (.putfield 116, 3) := by decide +kernel
theorem dX9_findLike_154 : decode cX9_findLike 154 = .ok (.iconst 1, 1) := by decide +kernel
theorem dX9_findLike_155 : decode cX9_findLike 155 = .ok (.istore 4, 2) := by decide +kernel
theorem dX9_findLike_157 : decode cX9_findLike 157 = .ok (.iload 4, 2) := by decide +kernel
theorem dX9_findLike_159 : decode cX9_findLike 159 = .ok (.iload_n 1, 1) := by decide +kernel
theorem dX9_findLike_160 : decode cX9_findLike 160 = .ok (.if_icmp .ge 93, 3) := by decide +kernel
theorem dX9_findLike_163 : decode cX9_findLike 163 = .ok (.iconst 1, 1) := by decide +kernel
theorem dX9_findLike_164 : decode cX9_findLike 164 = .ok (.istore 5, 2) := by decide +kernel
theorem dX9_findLike_166 : decode cX9_findLike 166 = .ok (.iload 5, 2) := by decide +kernel
theorem dX9_findLike_168 : decode cX9_findLike 168 = .ok (.iload_n 1, 1) := by decide +kernel
theorem dX9_findLike_169 : decode cX9_findLike 169 = .ok (.if_icmp .ge 78, 3) := by decide +kernel
theorem dX9_findLike_172 : decode cX9_findLike 172 = .ok (.iconst 1, 1) := by decide +kernel
theorem dX9_findLike_173 : decode cX9_findLike 173 = .ok (.istore 6, 2) := by decide +kernel
theorem dX9_findLike_175 : decode cX9_findLike 175 = .ok (.iload 6, 2) := by decide +kernel
theorem dX9_findLike_177 : decode cX9_findLike 177 = .ok (.iload_n 1, 1) := by decide +kernel
theorem dX9_findLike_178 : decode cX9_findLike 178 = .ok (.if_icmp .ge 63, 3) := by decide +kernel
theorem dX9_findLike_181 : decode cX9_findLike 181 = .ok (.aload_n 0, 1) := by decide +kernel
theorem dX9_findLike_182 : decode cX9_findLike 182 = .ok (.getfield 22, 3) := by decide +kernel
theorem dX9_findLike_185 : decode cX9_findLike 185 = .ok (.iload 4, 2) := by decide +kernel
theorem dX9_findLike_187 : decode cX9_findLike 187 = .ok (.iload 5, 2) := by decide +kernel
theorem dX9_findLike_189 : decode cX9_findLike 189 = .ok (.iload 6, 2) := by decide +kernel
theorem dX9_findLike_191 : decode cX9_findLike 191 = .ok (.invokestatic 105, 3) := by decide +kernel
theorem dX9_findLike_194 : decode cX9_findLike 194 = .ok (.iaload, 1) := by decide +kernel
theorem dX9_findLike_195 : decode cX9_findLike 195 = .ok (.iload 4, 2) := by decide +kernel
theorem dX9_findLike_197 : decode cX9_findLike 197 = .ok (.iload 5, 2) := by decide +kernel
theorem dX9_findLike_199 : decode cX9_findLike 199 = .ok (.iload 6, 2) := by decide +kernel
theorem dX9_findLike_201 : decode cX9_findLike 201 = .ok (.invokestatic 105, 3) := by decide +kernel
theorem dX9_findLike_204 : decode cX9_findLike 204 = .ok (.if_icmp .ne 31, 3) := by decide +kernel
theorem dX9_findLike_207 : decode cX9_findLike 207 = .ok (.aload_n 0, 1) := by decide +kernel
theorem dX9_findLike_208 : decode cX9_findLike 208 = .ok (.getfield 25, 3) := by decide +kernel
theorem dX9_findLike_211 : decode cX9_findLike 211 = .ok (.aload_n 0, 1) := by decide +kernel
theorem dX9_findLike_212 : decode cX9_findLike 212 = .ok (.getfield 116, 3) := by decide +kernel
theorem dX9_findLike_215 : decode cX9_findLike 215 = .ok (.iload 4, 2) := by decide +kernel
theorem dX9_findLike_217 : decode cX9_findLike 217 = .ok (.iload 5, 2) := by decide +kernel
theorem dX9_findLike_219 : decode cX9_findLike 219 = .ok (.iload 6, 2) := by decide +kernel
theorem dX9_findLike_221 : decode cX9_findLike 221 = .ok (.invokestatic 105, 3) := by decide +kernel
theorem dX9_findLike_224 : decode cX9_findLike 224 = .ok (.iastore, 1) := by decide +kernel
theorem dX9_findLike_225 : decode cX9_findLike 225 = .ok (.aload_n 0, 1) := by decide +kernel
theorem dX9_findLike_226 : decode cX9_findLike 226 = .ok (.dup, 1) := by decide +kernel
theorem dX9_findLike_227 : decode cX9_findLike 227 = .ok (.getfield 116, 3) := by decide +kernel
theorem dX9_findLike_230 : decode cX9_findLike 230 = .ok (.iconst 1, 1) := by decide +kernel
theorem dX9_findLike_231 : decode cX9_findLike 231 = .ok (.iadd, 1) := by decide +kernel
theorem dX9_findLike_232 : decode cX9_findLike 232 = .ok (.putfield 116, 3) := by decide +kernel
theorem dX9_findLike_235 : decode cX9_findLike 235 = .ok (.iinc 6 1, 3) := by decide +kernel
theorem dX9_findLike_238 : decode cX9_findLike 238 = .ok (.goto (-63), 3) := by decide +kernel
theorem dX9_findLike_241 : decode cX9_findLike 241 = .ok (.iinc 5 1, 3) := by decide +kernel
theorem dX9_findLike_244 : decode cX9_findLike 244 = .ok (.goto (-78), 3) := by decide +kernel
theorem dX9_findLike_247 : decode cX9_findLike 247 = .ok (.iinc 4 1, 3) := by decide +kernel
theorem dX9_findLike_250 : decode cX9_findLike 250 = .ok (.goto (-93), 3) := by decide +kernel
theorem dX9_findLike_253 : decode cX9_findLike 253 = .ok (.return_, 1) := by decide +kernel
set_option maxRecDepth 20000 in
theorem ggX9_layOut_X9_begin : GoodIn wsX9_layOut wsX9_begin := goodIn_r _ [9, 10, 2, 11, 12, 13, 8, 14, 21, 22, 23, 24, 25, 26, 27, 28, 29, 30, 31, 32, 33, 34, 35] (by decide +kernel) (by decide +kernel)
set_option maxRecDepth 20000 in
theorem gX9_layOut_X9_begin : GoodIn wsX9_layOut (wsV RX9 50 RX9 yX9_begin wsX9_begin) := goodIn_app (goodIn_of _ (by decide +kernel)) ggX9_layOut_X9_begin
set_option maxRecDepth 20000 in
theorem ggX9_layOut_X9_mate : GoodIn wsX9_layOut wsX9_mate := goodIn_r _ [17] (by decide +kernel) (by decide +kernel)
set_option maxRecDepth 20000 in
theorem gX9_layOut_X9_mate : GoodIn wsX9_layOut (va_wsS RX9 112 yX9_mate wsX9_mate) := goodIn_app (goodIn_of _ (by decide +kernel)) ggX9_layOut_X9_mate
set_option maxRecDepth 20000 in
theorem ggX9_layOut_X9_lay : GoodIn wsX9_layOut wsX9_lay := goodIn_r _ [14, 2, 21, 22, 23, 24, 25, 26, 27, 28, 29, 30, 31, 32, 33, 34, 35] (by decide +kernel) (by decide +kernel)
set_option maxRecDepth 20000 in
theorem gX9_layOut_X9_lay : GoodIn wsX9_layOut (wsV RX9 54 RX9 yX9_lay wsX9_lay) := goodIn_app (goodIn_of _ (by decide +kernel)) ggX9_layOut_X9_lay
set_option maxRecDepth 20000 in
theorem ggX9_layOut_X9_placeOf : GoodIn wsX9_layOut wsX9_placeOf := goodIn_r _ [20] (by decide +kernel) (by decide +kernel)
set_option maxRecDepth 20000 in
theorem gX9_layOut_X9_placeOf : GoodIn wsX9_layOut (va_wsS RX9 105 yX9_placeOf wsX9_placeOf) := goodIn_app (goodIn_of _ (by decide +kernel)) ggX9_layOut_X9_placeOf
theorem dX9_layOut_0 : decode cX9_layOut 0 = .ok (.aload_n 0, 1) := by decide +kernel
theorem dX9_layOut_1 : decode cX9_layOut 1 = .ok (.bipush 6, 2) := by decide +kernel
theorem dX9_layOut_3 : decode cX9_layOut 3 = .ok (.iload_n 1, 1) := by decide +kernel
theorem dX9_layOut_4 : decode cX9_layOut 4 = .ok (.invokevirtual 50, 3) := by decide +kernel
theorem dX9_layOut_7 : decode cX9_layOut 7 = .ok (.iload 4, 2) := by decide +kernel
theorem dX9_layOut_9 : decode cX9_layOut 9 = .ok (.istore 5, 2) := by decide +kernel
theorem dX9_layOut_11 : decode cX9_layOut 11 = .ok (.aload_n 0, 1) := by decide +kernel
theorem dX9_layOut_12 : decode cX9_layOut 12 = .ok (.getfield 116, 3) := by decide +kernel
theorem dX9_layOut_15 : decode cX9_layOut 15 = .ok (.iconst 1, 1) := by decide +kernel
theorem dX9_layOut_16 : decode cX9_layOut 16 = .ok (.isub, 1) := by decide +kernel
theorem dX9_layOut_17 : decode cX9_layOut 17 = .ok (.istore 6, 2) := by decide +kernel
theorem dX9_layOut_19 : decode cX9_layOut 19 = .ok (.iload 6, 2) := by decide +kernel
theorem dX9_layOut_21 : decode cX9_layOut 21 = .ok (.ifCond .lt 39, 3) := by decide +kernel
theorem dX9_layOut_24 : decode cX9_layOut 24 = .ok (.aload_n 0, 1) := by decide +kernel
theorem dX9_layOut_25 : decode cX9_layOut 25 = .ok (.getfield 13, 3) := by decide +kernel
theorem dX9_layOut_28 : decode cX9_layOut 28 = .ok (.sipush 750, 3) := by decide +kernel
theorem dX9_layOut_31 : decode cX9_layOut 31 = .ok (.aload_n 0, 1) := by decide +kernel
theorem dX9_layOut_32 : decode cX9_layOut 32 = .ok (.getfield 25, 3) := by decide +kernel
theorem dX9_layOut_35 : decode cX9_layOut 35 = .ok (.iload 6, 2) := by decide +kernel
theorem dX9_layOut_37 : decode cX9_layOut 37 = .ok (.iaload, 1) := by decide +kernel
theorem dX9_layOut_38 : decode cX9_layOut 38 = .ok (.iadd, 1) := by decide +kernel
theorem dX9_layOut_39 : decode cX9_layOut 39 = .ok (.iload 5, 2) := by decide +kernel
theorem dX9_layOut_41 : decode cX9_layOut 41 = .ok (.iload_n 2, 1) := by decide +kernel
theorem dX9_layOut_42 : decode cX9_layOut 42 = .ok (.iconst 1, 1) := by decide +kernel
theorem dX9_layOut_43 : decode cX9_layOut 43 = .ok (.iadd, 1) := by decide +kernel
theorem dX9_layOut_44 : decode cX9_layOut 44 = .ok (.irem, 1) := by decide +kernel
theorem dX9_layOut_45 : decode cX9_layOut 45 = .ok (.iastore, 1) := by decide +kernel
theorem dX9_layOut_46 : decode cX9_layOut 46 = .ok (.iload 5, 2) := by decide +kernel
theorem dX9_layOut_48 : decode cX9_layOut 48 = .ok (.iload_n 2, 1) := by decide +kernel
theorem dX9_layOut_49 : decode cX9_layOut 49 = .ok (.iconst 1, 1) := by decide +kernel
theorem dX9_layOut_50 : decode cX9_layOut 50 = .ok (.iadd, 1) := by decide +kernel
theorem dX9_layOut_51 : decode cX9_layOut 51 = .ok (.idiv, 1) := by decide +kernel
theorem dX9_layOut_52 : decode cX9_layOut 52 = .ok (.istore 5, 2) := by decide +kernel
theorem dX9_layOut_54 : decode cX9_layOut 54 = .ok (.iinc 6 (-1), 3) := by decide +kernel
theorem dX9_layOut_57 : decode cX9_layOut 57 = .ok (.goto (-38), 3) := by decide +kernel
theorem dX9_layOut_60 : decode cX9_layOut 60 = .ok (.iconst 1, 1) := by decide +kernel
theorem dX9_layOut_61 : decode cX9_layOut 61 = .ok (.istore 6, 2) := by decide +kernel
theorem dX9_layOut_63 : decode cX9_layOut 63 = .ok (.iload 6, 2) := by decide +kernel
theorem dX9_layOut_65 : decode cX9_layOut 65 = .ok (.iload_n 1, 1) := by decide +kernel
theorem dX9_layOut_66 : decode cX9_layOut 66 = .ok (.if_icmp .ge 90, 3) := by decide +kernel
theorem dX9_layOut_69 : decode cX9_layOut 69 = .ok (.aload_n 0, 1) := by decide +kernel
theorem dX9_layOut_70 : decode cX9_layOut 70 = .ok (.bipush 6, 2) := by decide +kernel
theorem dX9_layOut_72 : decode cX9_layOut 72 = .ok (.iload 6, 2) := by decide +kernel
theorem dX9_layOut_74 : decode cX9_layOut 74 = .ok (.iload 6, 2) := by decide +kernel
theorem dX9_layOut_76 : decode cX9_layOut 76 = .ok (.iload_n 3, 1) := by decide +kernel
theorem dX9_layOut_77 : decode cX9_layOut 77 = .ok (.invokestatic 112, 3) := by decide +kernel
theorem dX9_layOut_80 : decode cX9_layOut 80 = .ok (.iconst 0, 1) := by decide +kernel
theorem dX9_layOut_81 : decode cX9_layOut 81 = .ok (.iconst 1, 1) := by decide +kernel
theorem dX9_layOut_82 : decode cX9_layOut 82 = .ok (.invokevirtual 54, 3) := by decide +kernel
theorem dX9_layOut_85 : decode cX9_layOut 85 = .ok (.iconst 1, 1) := by decide +kernel
theorem dX9_layOut_86 : decode cX9_layOut 86 = .ok (.istore 7, 2) := by decide +kernel
theorem dX9_layOut_88 : decode cX9_layOut 88 = .ok (.iload 7, 2) := by decide +kernel
theorem dX9_layOut_90 : decode cX9_layOut 90 = .ok (.iload_n 1, 1) := by decide +kernel
theorem dX9_layOut_91 : decode cX9_layOut 91 = .ok (.if_icmp .ge 59, 3) := by decide +kernel
theorem dX9_layOut_94 : decode cX9_layOut 94 = .ok (.iconst 1, 1) := by decide +kernel
theorem dX9_layOut_95 : decode cX9_layOut 95 = .ok (.istore 8, 2) := by decide +kernel
theorem dX9_layOut_97 : decode cX9_layOut 97 = .ok (.iload 8, 2) := by decide +kernel
theorem dX9_layOut_99 : decode cX9_layOut 99 = .ok (.iload_n 1, 1) := by decide +kernel
theorem dX9_layOut_100 : decode cX9_layOut 100 = .ok (.if_icmp .ge 44, 3) := by decide +kernel
theorem dX9_layOut_103 : decode cX9_layOut 103 = .ok (.aload_n 0, 1) := by decide +kernel
theorem dX9_layOut_104 : decode cX9_layOut 104 = .ok (.bipush 6, 2) := by decide +kernel
theorem dX9_layOut_106 : decode cX9_layOut 106 = .ok (.iload 6, 2) := by decide +kernel
theorem dX9_layOut_108 : decode cX9_layOut 108 = .ok (.iload 7, 2) := by decide +kernel
theorem dX9_layOut_110 : decode cX9_layOut 110 = .ok (.iload 8, 2) := by decide +kernel
theorem dX9_layOut_112 : decode cX9_layOut 112 = .ok (.aload_n 0, 1) := by decide +kernel
theorem dX9_layOut_113 : decode cX9_layOut 113 = .ok (.getfield 13, 3) := by decide +kernel
theorem dX9_layOut_116 : decode cX9_layOut 116 = .ok (.sipush 750, 3) := by decide +kernel
theorem dX9_layOut_119 : decode cX9_layOut 119 = .ok (.aload_n 0, 1) := by decide +kernel
theorem dX9_layOut_120 : decode cX9_layOut 120 = .ok (.getfield 22, 3) := by decide +kernel
theorem dX9_layOut_123 : decode cX9_layOut 123 = .ok (.iload 6, 2) := by decide +kernel
theorem dX9_layOut_125 : decode cX9_layOut 125 = .ok (.iload 7, 2) := by decide +kernel
theorem dX9_layOut_127 : decode cX9_layOut 127 = .ok (.iload 8, 2) := by decide +kernel
theorem dX9_layOut_129 : decode cX9_layOut 129 = .ok (.invokestatic 105, 3) := by decide +kernel
theorem dX9_layOut_132 : decode cX9_layOut 132 = .ok (.iaload, 1) := by decide +kernel
theorem dX9_layOut_133 : decode cX9_layOut 133 = .ok (.iadd, 1) := by decide +kernel
theorem dX9_layOut_134 : decode cX9_layOut 134 = .ok (.iaload, 1) := by decide +kernel
theorem dX9_layOut_135 : decode cX9_layOut 135 = .ok (.invokevirtual 54, 3) := by decide +kernel
theorem dX9_layOut_138 : decode cX9_layOut 138 = .ok (.iinc 8 1, 3) := by decide +kernel
theorem dX9_layOut_141 : decode cX9_layOut 141 = .ok (.goto (-44), 3) := by decide +kernel
theorem dX9_layOut_144 : decode cX9_layOut 144 = .ok (.iinc 7 1, 3) := by decide +kernel
theorem dX9_layOut_147 : decode cX9_layOut 147 = .ok (.goto (-59), 3) := by decide +kernel
theorem dX9_layOut_150 : decode cX9_layOut 150 = .ok (.iinc 6 1, 3) := by decide +kernel
theorem dX9_layOut_153 : decode cX9_layOut 153 = .ok (.goto (-90), 3) := by decide +kernel
theorem dX9_layOut_156 : decode cX9_layOut 156 = .ok (.return_, 1) := by decide +kernel
set_option maxRecDepth 20000 in
theorem ggX9_isListed_X9_in : GoodIn wsX9_isListed wsX9_in := goodIn_r _ [7] (by decide +kernel) (by decide +kernel)
set_option maxRecDepth 20000 in
theorem gX9_isListed_X9_in : GoodIn wsX9_isListed (va_wsS RX9 60 yX9_in wsX9_in) := goodIn_app (goodIn_of _ (by decide +kernel)) ggX9_isListed_X9_in
theorem dX9_isListed_0 : decode cX9_isListed 0 = .ok (.iload_n 0, 1) := by decide +kernel
theorem dX9_isListed_1 : decode cX9_isListed 1 = .ok (.i2l, 1) := by decide +kernel
theorem dX9_isListed_2 : decode cX9_isListed 2 = .ok (.ldc2_w 120, 3) := by decide +kernel
theorem dX9_isListed_5 : decode cX9_isListed 5 = .ok (.ldc2_w 94, 3) := by decide +kernel
theorem dX9_isListed_8 : decode cX9_isListed 8 = .ok (.invokestatic 60, 3) := by decide +kernel
theorem dX9_isListed_11 : decode cX9_isListed 11 = .ok (.ifCond .eq 47, 3) := by decide +kernel
theorem dX9_isListed_14 : decode cX9_isListed 14 = .ok (.iload_n 1, 1) := by decide +kernel
theorem dX9_isListed_15 : decode cX9_isListed 15 = .ok (.i2l, 1) := by decide +kernel
theorem dX9_isListed_16 : decode cX9_isListed 16 = .ok (.lconst 1, 1) := by decide +kernel
theorem dX9_isListed_17 : decode cX9_isListed 17 = .ok (.iload_n 0, 1) := by decide +kernel
theorem dX9_isListed_18 : decode cX9_isListed 18 = .ok (.iconst 4, 1) := by decide +kernel
theorem dX9_isListed_19 : decode cX9_isListed 19 = .ok (.if_icmp .ne 7, 3) := by decide +kernel
theorem dX9_isListed_22 : decode cX9_isListed 22 = .ok (.lconst 1, 1) := by decide +kernel
theorem dX9_isListed_23 : decode cX9_isListed 23 = .ok (.goto 6, 3) := by decide +kernel
theorem dX9_isListed_26 : decode cX9_isListed 26 = .ok (.ldc2_w 122, 3) := by decide +kernel
theorem dX9_isListed_29 : decode cX9_isListed 29 = .ok (.invokestatic 60, 3) := by decide +kernel
theorem dX9_isListed_32 : decode cX9_isListed 32 = .ok (.ifCond .eq 26, 3) := by decide +kernel
theorem dX9_isListed_35 : decode cX9_isListed 35 = .ok (.iload_n 2, 1) := by decide +kernel
theorem dX9_isListed_36 : decode cX9_isListed 36 = .ok (.i2l, 1) := by decide +kernel
theorem dX9_isListed_37 : decode cX9_isListed 37 = .ok (.lconst 0, 1) := by decide +kernel
theorem dX9_isListed_38 : decode cX9_isListed 38 = .ok (.iload_n 0, 1) := by decide +kernel
theorem dX9_isListed_39 : decode cX9_isListed 39 = .ok (.iconst 2, 1) := by decide +kernel
theorem dX9_isListed_40 : decode cX9_isListed 40 = .ok (.if_icmp .ne 7, 3) := by decide +kernel
theorem dX9_isListed_43 : decode cX9_isListed 43 = .ok (.lconst 0, 1) := by decide +kernel
theorem dX9_isListed_44 : decode cX9_isListed 44 = .ok (.goto 4, 3) := by decide +kernel
theorem dX9_isListed_47 : decode cX9_isListed 47 = .ok (.lconst 1, 1) := by decide +kernel
theorem dX9_isListed_48 : decode cX9_isListed 48 = .ok (.invokestatic 60, 3) := by decide +kernel
theorem dX9_isListed_51 : decode cX9_isListed 51 = .ok (.ifCond .eq 7, 3) := by decide +kernel
theorem dX9_isListed_54 : decode cX9_isListed 54 = .ok (.iconst 1, 1) := by decide +kernel
theorem dX9_isListed_55 : decode cX9_isListed 55 = .ok (.goto 4, 3) := by decide +kernel
theorem dX9_isListed_58 : decode cX9_isListed 58 = .ok (.iconst 0, 1) := by decide +kernel
theorem dX9_isListed_59 : decode cX9_isListed 59 = .ok (.ireturn, 1) := by decide +kernel
set_option maxRecDepth 20000 in
theorem ggX9_goThrough_X9_findLike : GoodIn wsX9_goThrough wsX9_findLike := goodIn_r _ [6, 7, 1, 8, 9, 10, 5, 11, 12, 13, 14, 15, 16, 17, 18, 63, 64, 65, 66, 67, 68, 69, 70, 71, 72, 73, 74, 75, 76, 77] (by decide +kernel) (by decide +kernel)
set_option maxRecDepth 20000 in
theorem gX9_goThrough_X9_findLike : GoodIn wsX9_goThrough (wsV RX9 124 RX9 yX9_findLike wsX9_findLike) := goodIn_app (goodIn_of _ (by decide +kernel)) ggX9_goThrough_X9_findLike
set_option maxRecDepth 20000 in
theorem ggX9_goThrough_X9_layOut : GoodIn wsX9_goThrough wsX9_layOut := goodIn_r _ [22, 1, 23, 8, 7, 24, 25, 26, 5, 27, 28, 29, 30, 31, 32, 16, 17, 18, 9, 10, 11, 63, 64, 65, 66, 67, 68, 69, 70, 71, 72, 73, 74, 75, 76, 77] (by decide +kernel) (by decide +kernel)
set_option maxRecDepth 20000 in
theorem gX9_goThrough_X9_layOut : GoodIn wsX9_goThrough (wsV RX9 127 RX9 yX9_layOut wsX9_layOut) := goodIn_app (goodIn_of _ (by decide +kernel)) ggX9_goThrough_X9_layOut
set_option maxRecDepth 20000 in
theorem ggX9_goThrough_X9_isRight : GoodIn wsX9_goThrough wsX9_isRight := goodIn_r _ [36, 37, 38, 39, 5, 40, 28, 41, 42, 43, 44, 23, 45, 46, 47, 48, 49, 50, 51, 52, 53, 54, 55, 56, 57, 58, 59, 60, 61, 62, 63, 64, 65, 66, 67, 68, 69, 70, 71, 72, 73, 74, 75, 76, 77] (by decide +kernel) (by decide +kernel)
set_option maxRecDepth 20000 in
theorem gX9_goThrough_X9_isRight : GoodIn wsX9_goThrough (wsV RX9 96 RX9 yX9_isRight wsX9_isRight) := goodIn_app (goodIn_of _ (by decide +kernel)) ggX9_goThrough_X9_isRight
theorem dX9_goThrough_0 : decode cX9_goThrough 0 = .ok (.aload_n 0, 1) := by decide +kernel
theorem dX9_goThrough_1 : decode cX9_goThrough 1 = .ok (.iload_n 1, 1) := by decide +kernel
theorem dX9_goThrough_2 : decode cX9_goThrough 2 = .ok (.iload_n 3, 1) := by decide +kernel
theorem dX9_goThrough_3 : decode cX9_goThrough 3 = .ok (.invokevirtual 124, 3) := by decide +kernel
theorem dX9_goThrough_6 : decode cX9_goThrough 6 = .ok (.iconst 1, 1) := by decide +kernel
theorem dX9_goThrough_7 : decode cX9_goThrough 7 = .ok (.istore 5, 2) := by decide +kernel
theorem dX9_goThrough_9 : decode cX9_goThrough 9 = .ok (.iconst 0, 1) := by decide +kernel
theorem dX9_goThrough_10 : decode cX9_goThrough 10 = .ok (.istore 6, 2) := by decide +kernel
theorem dX9_goThrough_12 : decode cX9_goThrough 12 = .ok (.iload 6, 2) := by decide +kernel
theorem dX9_goThrough_14 : decode cX9_goThrough 14 = .ok (.aload_n 0, 1) := by decide +kernel
theorem dX9_goThrough_15 : decode cX9_goThrough 15 = .ok (.getfield 116, 3) := by decide +kernel
theorem dX9_goThrough_18 : decode cX9_goThrough 18 = .ok (.if_icmp .ge 17, 3) := by decide +kernel
theorem dX9_goThrough_21 : decode cX9_goThrough 21 = .ok (.iload 5, 2) := by decide +kernel
theorem dX9_goThrough_23 : decode cX9_goThrough 23 = .ok (.iload_n 2, 1) := by decide +kernel
theorem dX9_goThrough_24 : decode cX9_goThrough 24 = .ok (.iconst 1, 1) := by decide +kernel
theorem dX9_goThrough_25 : decode cX9_goThrough 25 = .ok (.iadd, 1) := by decide +kernel
theorem dX9_goThrough_26 : decode cX9_goThrough 26 = .ok (.imul, 1) := by decide +kernel
theorem dX9_goThrough_27 : decode cX9_goThrough 27 = .ok (.istore 5, 2) := by decide +kernel
theorem dX9_goThrough_29 : decode cX9_goThrough 29 = .ok (.iinc 6 1, 3) := by decide +kernel
theorem dX9_goThrough_32 : decode cX9_goThrough 32 = .ok (.goto (-20), 3) := by decide +kernel
theorem dX9_goThrough_35 : decode cX9_goThrough 35 = .ok (.iconst 0, 1) := by decide +kernel
theorem dX9_goThrough_36 : decode cX9_goThrough 36 = .ok (.istore 6, 2) := by decide +kernel
theorem dX9_goThrough_38 : decode cX9_goThrough 38 = .ok (.iconst 0, 1) := by decide +kernel
theorem dX9_goThrough_39 : decode cX9_goThrough 39 = .ok (.istore 7, 2) := by decide +kernel
theorem dX9_goThrough_41 : decode cX9_goThrough 41 = .ok (.iload 7, 2) := by decide +kernel
theorem dX9_goThrough_43 : decode cX9_goThrough 43 = .ok (.iload 5, 2) := by decide +kernel
theorem dX9_goThrough_45 : decode cX9_goThrough 45 = .ok (.if_icmp .ge 46, 3) := by decide +kernel
theorem dX9_goThrough_48 : decode cX9_goThrough 48 = .ok (.iload 6, 2) := by decide +kernel
theorem dX9_goThrough_50 : decode cX9_goThrough 50 = .ok (.iload 4, 2) := by decide +kernel
theorem dX9_goThrough_52 : decode cX9_goThrough 52 = .ok (.iconst 1, 1) := by decide +kernel
theorem dX9_goThrough_53 : decode cX9_goThrough 53 = .ok (.iadd, 1) := by decide +kernel
theorem dX9_goThrough_54 : decode cX9_goThrough 54 = .ok (.if_icmp .eq 37, 3) := by decide +kernel
theorem dX9_goThrough_57 : decode cX9_goThrough 57 = .ok (.aload_n 0, 1) := by decide +kernel
theorem dX9_goThrough_58 : decode cX9_goThrough 58 = .ok (.iload_n 1, 1) := by decide +kernel
theorem dX9_goThrough_59 : decode cX9_goThrough 59 = .ok (.iload_n 2, 1) := by decide +kernel
theorem dX9_goThrough_60 : decode cX9_goThrough 60 = .ok (.iload_n 3, 1) := by decide +kernel
theorem dX9_goThrough_61 : decode cX9_goThrough 61 = .ok (.iload 7, 2) := by decide +kernel
theorem dX9_goThrough_63 : decode cX9_goThrough 63 = .ok (.invokevirtual 127, 3) := by decide +kernel
theorem dX9_goThrough_66 : decode cX9_goThrough 66 = .ok (.iload 6, 2) := by decide +kernel
theorem dX9_goThrough_68 : decode cX9_goThrough 68 = .ok (.aload_n 0, 1) := by decide +kernel
theorem dX9_goThrough_69 : decode cX9_goThrough 69 = .ok (.bipush 6, 2) := by decide +kernel
theorem dX9_goThrough_71 : decode cX9_goThrough 71 = .ok (.invokevirtual 96, 3) := by decide +kernel
theorem dX9_goThrough_74 : decode cX9_goThrough 74 = .ok (.ifCond .eq 7, 3) := by decide +kernel
theorem dX9_goThrough_77 : decode cX9_goThrough 77 = .ok (.iconst 1, 1) := by decide +kernel
theorem dX9_goThrough_78 : decode cX9_goThrough 78 = .ok (.goto 4, 3) := by decide +kernel
theorem dX9_goThrough_81 : decode cX9_goThrough 81 = .ok (.iconst 0, 1) := by decide +kernel
theorem dX9_goThrough_82 : decode cX9_goThrough 82 = .ok (.iadd, 1) := by decide +kernel
theorem dX9_goThrough_83 : decode cX9_goThrough 83 = .ok (.istore 6, 2) := by decide +kernel
theorem dX9_goThrough_85 : decode cX9_goThrough 85 = .ok (.iinc 7 1, 3) := by decide +kernel
theorem dX9_goThrough_88 : decode cX9_goThrough 88 = .ok (.goto (-47), 3) := by decide +kernel
theorem dX9_goThrough_91 : decode cX9_goThrough 91 = .ok (.iload 6, 2) := by decide +kernel
theorem dX9_goThrough_93 : decode cX9_goThrough 93 = .ok (.ireturn, 1) := by decide +kernel
set_option maxRecDepth 20000 in
theorem ggX9_list_X9_isListed : GoodIn wsX9_list wsX9_isListed := goodIn_r _ [4, 5, 6, 7, 8, 9, 3, 10] (by decide +kernel) (by decide +kernel)
set_option maxRecDepth 20000 in
theorem gX9_list_X9_isListed : GoodIn wsX9_list (va_wsS RX9 131 yX9_isListed wsX9_isListed) := goodIn_app (goodIn_of _ (by decide +kernel)) ggX9_list_X9_isListed
set_option maxRecDepth 20000 in
theorem ggX9_list_X9_goThrough : GoodIn wsX9_list wsX9_goThrough := goodIn_r _ [14, 15, 16, 17, 18, 3, 19, 20, 21, 22, 23, 24, 25, 26, 27, 28, 29, 30, 31, 32, 33, 34, 35, 36, 37, 38, 39, 40, 41, 42, 43, 44, 45, 46, 47, 48, 49, 50, 51, 52, 53, 54, 55, 56, 57, 58, 59, 60, 61, 62, 63, 64, 65, 66, 67, 68, 69, 70, 71, 72, 73, 74, 75, 76, 77, 78, 79, 80, 81, 82, 83, 84, 85, 86, 87, 88, 89, 90] (by decide +kernel) (by decide +kernel)
set_option maxRecDepth 20000 in
theorem gX9_list_X9_goThrough : GoodIn wsX9_list (wsV RX9 135 RX9 yX9_goThrough wsX9_goThrough) := goodIn_app (goodIn_of _ (by decide +kernel)) ggX9_list_X9_goThrough
theorem dX9_list_0 : decode cX9_list 0 = .ok (.iload_n 1, 1) := by decide +kernel
theorem dX9_list_1 : decode cX9_list 1 = .ok (.iload_n 2, 1) := by decide +kernel
theorem dX9_list_2 : decode cX9_list 2 = .ok (.iload_n 3, 1) := by decide +kernel
theorem dX9_list_3 : decode cX9_list 3 = .ok (.invokestatic 131, 3) := by decide +kernel
theorem dX9_list_6 : decode cX9_list 6 = .ok (.ifCond .eq 15, 3) := by decide +kernel
theorem dX9_list_9 : decode cX9_list 9 = .ok (.aload_n 0, 1) := by decide +kernel
theorem dX9_list_10 : decode cX9_list 10 = .ok (.iload_n 1, 1) := by decide +kernel
theorem dX9_list_11 : decode cX9_list 11 = .ok (.iload_n 2, 1) := by decide +kernel
theorem dX9_list_12 : decode cX9_list 12 = .ok (.iload_n 3, 1) := by decide +kernel
theorem dX9_list_13 : decode cX9_list 13 = .ok (.bipush (-2), 2) := by decide +kernel
theorem dX9_list_15 : decode cX9_list 15 = .ok (.invokevirtual 135, 3) := by decide +kernel
theorem dX9_list_18 : decode cX9_list 18 = .ok (.goto 5, 3) := by decide +kernel
theorem dX9_list_21 : decode cX9_list 21 = .ok (.bipush (-2), 2) := by decide +kernel
theorem dX9_list_23 : decode cX9_list 23 = .ok (.ireturn, 1) := by decide +kernel
set_option maxRecDepth 20000 in
theorem ggX9_take_X9_noTable : GoodIn wsX9_take wsX9_noTable := goodIn_r _ [5, 6, 7, 8, 4, 9] (by decide +kernel) (by decide +kernel)
set_option maxRecDepth 20000 in
theorem gX9_take_X9_noTable : GoodIn wsX9_take (va_wsS RX9 64 yX9_noTable wsX9_noTable) := goodIn_app (goodIn_of _ (by decide +kernel)) ggX9_take_X9_noTable
set_option maxRecDepth 20000 in
theorem ggX9_take_X9_isListed : GoodIn wsX9_take wsX9_isListed := goodIn_r _ [12, 13, 14, 15, 7, 8, 4, 9] (by decide +kernel) (by decide +kernel)
set_option maxRecDepth 20000 in
theorem gX9_take_X9_isListed : GoodIn wsX9_take (va_wsS RX9 131 yX9_isListed wsX9_isListed) := goodIn_app (goodIn_of _ (by decide +kernel)) ggX9_take_X9_isListed
set_option maxRecDepth 20000 in
theorem ggX9_take_X9_goThrough : GoodIn wsX9_take wsX9_goThrough := goodIn_r _ [19, 20, 21, 22, 23, 4, 24, 25, 26, 27, 28, 29, 30, 31, 32, 33, 34, 35, 36, 37, 38, 39, 40, 41, 42, 43, 44, 45, 46, 47, 48, 49, 50, 51, 52, 53, 54, 55, 56, 57, 58, 59, 60, 61, 62, 63, 64, 65, 66, 67, 68, 69, 70, 71, 72, 73, 74, 75, 76, 77, 78, 79, 80, 85, 86, 87, 88, 89, 90, 91, 92, 93, 94, 95, 96, 97, 98, 99] (by decide +kernel) (by decide +kernel)
set_option maxRecDepth 20000 in
theorem gX9_take_X9_goThrough : GoodIn wsX9_take (wsV RX9 135 RX9 yX9_goThrough wsX9_goThrough) := goodIn_app (goodIn_of _ (by decide +kernel)) ggX9_take_X9_goThrough
set_option maxRecDepth 20000 in
theorem ggX9_take_X9_carry : GoodIn wsX9_take wsX9_carry := goodIn_r _ [84, 46, 41, 85, 86, 87, 88, 89, 90, 91, 92, 93, 94, 95, 96, 97, 98, 99] (by decide +kernel) (by decide +kernel)
set_option maxRecDepth 20000 in
theorem gX9_take_X9_carry : GoodIn wsX9_take (wsV RX9 99 RX9 yX9_carry wsX9_carry) := goodIn_app (goodIn_of _ (by decide +kernel)) ggX9_take_X9_carry
theorem dX9_take_0 : decode cX9_take 0 = .ok (.iload_n 1, 1) := by decide +kernel
theorem dX9_take_1 : decode cX9_take 1 = .ok (.invokestatic 64, 3) := by decide +kernel
theorem dX9_take_4 : decode cX9_take 4 = .ok (.ifCond .ne 18, 3) := by decide +kernel
theorem dX9_take_7 : decode cX9_take 7 = .ok (.iload_n 2, 1) := by decide +kernel
theorem dX9_take_8 : decode cX9_take 8 = .ok (.iload_n 3, 1) := by decide +kernel
theorem dX9_take_9 : decode cX9_take 9 = .ok (.iload 4, 2) := by decide +kernel
theorem dX9_take_11 : decode cX9_take 11 = .ok (.invokestatic 131, 3) := by decide +kernel
theorem dX9_take_14 : decode cX9_take 14 = .ok (.ifCond .eq 8, 3) := by decide +kernel
theorem dX9_take_17 : decode cX9_take 17 = .ok (.iload 5, 2) := by decide +kernel
theorem dX9_take_19 : decode cX9_take 19 = .ok (.ifCond .ge 6, 3) := by decide +kernel
theorem dX9_take_22 : decode cX9_take 22 = .ok (.bipush (-2), 2) := by decide +kernel
theorem dX9_take_24 : decode cX9_take 24 = .ok (.ireturn, 1) := by decide +kernel
theorem dX9_take_25 : decode cX9_take 25 = .ok (.iload 5, 2) := by decide +kernel
theorem dX9_take_27 : decode cX9_take 27 = .ok (.ldc 138, 2) := by decide +kernel
theorem dX9_take_29 : decode cX9_take 29 = .ok (.if_icmp .gt 20, 3) := by decide +kernel
theorem dX9_take_32 : decode cX9_take 32 = .ok (.aload_n 0, 1) := by decide +kernel
theorem dX9_take_33 : decode cX9_take 33 = .ok (.iload_n 2, 1) := by decide +kernel
theorem dX9_take_34 : decode cX9_take 34 = .ok (.iload_n 3, 1) := by decide +kernel
theorem dX9_take_35 : decode cX9_take 35 = .ok (.iload 4, 2) := by decide +kernel
theorem dX9_take_37 : decode cX9_take 37 = .ok (.iload 5, 2) := by decide +kernel
theorem dX9_take_39 : decode cX9_take 39 = .ok (.invokevirtual 135, 3) := by decide +kernel
theorem dX9_take_42 : decode cX9_take 42 = .ok (.iload 5, 2) := by decide +kernel
theorem dX9_take_44 : decode cX9_take 44 = .ok (.iconst 1, 1) := by decide +kernel
theorem dX9_take_45 : decode cX9_take 45 = .ok (.iadd, 1) := by decide +kernel
theorem dX9_take_46 : decode cX9_take 46 = .ok (.if_icmp .eq 6, 3) := by decide +kernel
theorem dX9_take_49 : decode cX9_take 49 = .ok (.bipush (-3), 2) := by decide +kernel
theorem dX9_take_51 : decode cX9_take 51 = .ok (.ireturn, 1) := by decide +kernel
theorem dX9_take_52 : decode cX9_take 52 = .ok (.aload_n 0, 1) := by decide +kernel
theorem dX9_take_53 : decode cX9_take 53 = .ok (.bipush 6, 2) := by decide +kernel
theorem dX9_take_55 : decode cX9_take 55 = .ok (.iload_n 1, 1) := by decide +kernel
theorem dX9_take_56 : decode cX9_take 56 = .ok (.invokevirtual 99, 3) := by decide +kernel
theorem dX9_take_59 : decode cX9_take 59 = .ok (.iconst 1, 1) := by decide +kernel
theorem dX9_take_60 : decode cX9_take 60 = .ok (.ireturn, 1) := by decide +kernel
set_option maxRecDepth 20000 in
theorem ggX9_letter_X9_in : GoodIn wsX9_letter wsX9_in := goodIn_r _ [7] (by decide +kernel) (by decide +kernel)
set_option maxRecDepth 20000 in
theorem gX9_letter_X9_in : GoodIn wsX9_letter (va_wsS RX9 60 yX9_in wsX9_in) := goodIn_app (goodIn_of _ (by decide +kernel)) ggX9_letter_X9_in
theorem dX9_letter_0 : decode cX9_letter 0 = .ok (.iload_n 1, 1) := by decide +kernel
theorem dX9_letter_1 : decode cX9_letter 1 = .ok (.i2l, 1) := by decide +kernel
theorem dX9_letter_2 : decode cX9_letter 2 = .ok (.lconst 0, 1) := by decide +kernel
theorem dX9_letter_3 : decode cX9_letter 3 = .ok (.ldc2_w 94, 3) := by decide +kernel
theorem dX9_letter_6 : decode cX9_letter 6 = .ok (.invokestatic 60, 3) := by decide +kernel
theorem dX9_letter_9 : decode cX9_letter 9 = .ok (.ifCond .ne 6, 3) := by decide +kernel
theorem dX9_letter_12 : decode cX9_letter 12 = .ok (.bipush (-2), 2) := by decide +kernel
theorem dX9_letter_14 : decode cX9_letter 14 = .ok (.ireturn, 1) := by decide +kernel
theorem dX9_letter_15 : decode cX9_letter 15 = .ok (.aload_n 0, 1) := by decide +kernel
theorem dX9_letter_16 : decode cX9_letter 16 = .ok (.getfield 139, 3) := by decide +kernel
theorem dX9_letter_19 : decode cX9_letter 19 = .ok (.bipush 14, 2) := by decide +kernel
theorem dX9_letter_21 : decode cX9_letter 21 = .ok (.if_icmp .ne 6, 3) := by decide +kernel
theorem dX9_letter_24 : decode cX9_letter 24 = .ok (.bipush (-3), 2) := by decide +kernel
theorem dX9_letter_26 : decode cX9_letter 26 = .ok (.ireturn, 1) := by decide +kernel
theorem dX9_letter_27 : decode cX9_letter 27 = .ok (.aload_n 0, 1) := by decide +kernel
theorem dX9_letter_28 : decode cX9_letter 28 = .ok (.getfield 28, 3) := by decide +kernel
theorem dX9_letter_31 : decode cX9_letter 31 = .ok (.aload_n 0, 1) := by decide +kernel
theorem dX9_letter_32 : decode cX9_letter 32 = .ok (.getfield 139, 3) := by decide +kernel
theorem dX9_letter_35 : decode cX9_letter 35 = .ok (.iload_n 1, 1) := by decide +kernel
theorem dX9_letter_36 : decode cX9_letter 36 = .ok (.iastore, 1) := by decide +kernel
theorem dX9_letter_37 : decode cX9_letter 37 = .ok (.aload_n 0, 1) := by decide +kernel
theorem dX9_letter_38 : decode cX9_letter 38 = .ok (.dup, 1) := by decide +kernel
theorem dX9_letter_39 : decode cX9_letter 39 = .ok (.getfield 139, 3) := by decide +kernel
theorem dX9_letter_42 : decode cX9_letter 42 = .ok (.iconst 1, 1) := by decide +kernel
theorem dX9_letter_43 : decode cX9_letter 43 = .ok (.iadd, 1) := by decide +kernel
theorem dX9_letter_44 : decode cX9_letter 44 = .ok (.putfield 139, 3) := by decide +kernel
theorem dX9_letter_47 : decode cX9_letter 47 = .ok (.aload_n 0, 1) := by decide +kernel
theorem dX9_letter_48 : decode cX9_letter 48 = .ok (.getfield 139, 3) := by decide +kernel
theorem dX9_letter_51 : decode cX9_letter 51 = .ok (.ireturn, 1) := by decide +kernel
theorem dX9_empty_0 : decode cX9_empty 0 = .ok (.aload_n 0, 1) := by decide +kernel
theorem dX9_empty_1 : decode cX9_empty 1 = .ok (.getfield 139, 3) := by decide +kernel
theorem dX9_empty_4 : decode cX9_empty 4 = .ok (.istore_n 1, 1) := by decide +kernel
theorem dX9_empty_5 : decode cX9_empty 5 = .ok (.aload_n 0, 1) := by decide +kernel
theorem dX9_empty_6 : decode cX9_empty 6 = .ok (.iconst 0, 1) := by decide +kernel
theorem dX9_empty_7 : decode cX9_empty 7 = .ok (.putfield 139, 3) := by decide +kernel
theorem dX9_empty_10 : decode cX9_empty 10 = .ok (.iload_n 1, 1) := by decide +kernel
theorem dX9_empty_11 : decode cX9_empty 11 = .ok (.ireturn, 1) := by decide +kernel
theorem dX9_start_0 : decode cX9_start 0 = .ok (.iconst 0, 1) := by decide +kernel
theorem dX9_start_1 : decode cX9_start 1 = .ok (.istore_n 3, 1) := by decide +kernel
theorem dX9_start_2 : decode cX9_start 2 = .ok (.iload_n 3, 1) := by decide +kernel
theorem dX9_start_3 : decode cX9_start 3 = .ok (.iconst 5, 1) := by decide +kernel
theorem dX9_start_4 : decode cX9_start 4 = .ok (.if_icmp .ge 25, 3) := by decide +kernel
theorem dX9_start_7 : decode cX9_start 7 = .ok (.aload_n 0, 1) := by decide +kernel
theorem dX9_start_8 : decode cX9_start 8 = .ok (.getfield 31, 3) := by decide +kernel
theorem dX9_start_11 : decode cX9_start 11 = .ok (.iload_n 3, 1) := by decide +kernel
theorem dX9_start_12 : decode cX9_start 12 = .ok (.iload_n 3, 1) := by decide +kernel
theorem dX9_start_13 : decode cX9_start 13 = .ok (.iload_n 2, 1) := by decide +kernel
theorem dX9_start_14 : decode cX9_start 14 = .ok (.if_icmp .ne 7, 3) := by decide +kernel
theorem dX9_start_17 : decode cX9_start 17 = .ok (.lconst 1, 1) := by decide +kernel
theorem dX9_start_18 : decode cX9_start 18 = .ok (.goto 4, 3) := by decide +kernel
theorem dX9_start_21 : decode cX9_start 21 = .ok (.lconst 0, 1) := by decide +kernel
theorem dX9_start_22 : decode cX9_start 22 = .ok (.lastore, 1) := by decide +kernel
theorem dX9_start_23 : decode cX9_start 23 = .ok (.iinc 3 1, 3) := by decide +kernel
theorem dX9_start_26 : decode cX9_start 26 = .ok (.goto (-24), 3) := by decide +kernel
theorem dX9_start_29 : decode cX9_start 29 = .ok (.return_, 1) := by decide +kernel
set_option maxRecDepth 20000 in
theorem ggX9_fuse_X9_n : GoodIn wsX9_fuse wsX9_n := goodIn_r _ [8, 9, 10, 11, 12, 13, 14, 15, 16, 17, 18, 19, 20, 21, 22, 23, 24] (by decide +kernel) (by decide +kernel)
set_option maxRecDepth 20000 in
theorem gX9_fuse_X9_n : GoodIn wsX9_fuse (wsV RX9 74 RX9 yX9_n wsX9_n) := goodIn_app (goodIn_of _ (by decide +kernel)) ggX9_fuse_X9_n
theorem dX9_fuse_0 : decode cX9_fuse 0 = .ok (.iconst 0, 1) := by decide +kernel
theorem dX9_fuse_1 : decode cX9_fuse 1 = .ok (.istore_n 3, 1) := by decide +kernel
theorem dX9_fuse_2 : decode cX9_fuse 2 = .ok (.iload_n 3, 1) := by decide +kernel
theorem dX9_fuse_3 : decode cX9_fuse 3 = .ok (.aload_n 0, 1) := by decide +kernel
theorem dX9_fuse_4 : decode cX9_fuse 4 = .ok (.getfield 7, 3) := by decide +kernel
theorem dX9_fuse_7 : decode cX9_fuse 7 = .ok (.iload_n 1, 1) := by decide +kernel
theorem dX9_fuse_8 : decode cX9_fuse 8 = .ok (.iaload, 1) := by decide +kernel
theorem dX9_fuse_9 : decode cX9_fuse 9 = .ok (.if_icmp .ge 63, 3) := by decide +kernel
theorem dX9_fuse_12 : decode cX9_fuse 12 = .ok (.aload_n 0, 1) := by decide +kernel
theorem dX9_fuse_13 : decode cX9_fuse 13 = .ok (.getfield 35, 3) := by decide +kernel
theorem dX9_fuse_16 : decode cX9_fuse 16 = .ok (.iload_n 3, 1) := by decide +kernel
theorem dX9_fuse_17 : decode cX9_fuse 17 = .ok (.lconst 0, 1) := by decide +kernel
theorem dX9_fuse_18 : decode cX9_fuse 18 = .ok (.lastore, 1) := by decide +kernel
theorem dX9_fuse_19 : decode cX9_fuse 19 = .ok (.iconst 0, 1) := by decide +kernel
theorem dX9_fuse_20 : decode cX9_fuse 20 = .ok (.istore 4, 2) := by decide +kernel
theorem dX9_fuse_22 : decode cX9_fuse 22 = .ok (.iload 4, 2) := by decide +kernel
theorem dX9_fuse_24 : decode cX9_fuse 24 = .ok (.aload_n 0, 1) := by decide +kernel
theorem dX9_fuse_25 : decode cX9_fuse 25 = .ok (.getfield 7, 3) := by decide +kernel
theorem dX9_fuse_28 : decode cX9_fuse 28 = .ok (.iload_n 1, 1) := by decide +kernel
theorem dX9_fuse_29 : decode cX9_fuse 29 = .ok (.iaload, 1) := by decide +kernel
theorem dX9_fuse_30 : decode cX9_fuse 30 = .ok (.if_icmp .ge 36, 3) := by decide +kernel
theorem dX9_fuse_33 : decode cX9_fuse 33 = .ok (.aload_n 0, 1) := by decide +kernel
theorem dX9_fuse_34 : decode cX9_fuse 34 = .ok (.getfield 35, 3) := by decide +kernel
theorem dX9_fuse_37 : decode cX9_fuse 37 = .ok (.iload_n 3, 1) := by decide +kernel
theorem dX9_fuse_38 : decode cX9_fuse 38 = .ok (.dup2, 1) := by decide +kernel
theorem dX9_fuse_39 : decode cX9_fuse 39 = .ok (.laload, 1) := by decide +kernel
theorem dX9_fuse_40 : decode cX9_fuse 40 = .ok (.aload_n 0, 1) := by decide +kernel
theorem dX9_fuse_41 : decode cX9_fuse 41 = .ok (.getfield 31, 3) := by decide +kernel
theorem dX9_fuse_44 : decode cX9_fuse 44 = .ok (.iload 4, 2) := by decide +kernel
theorem dX9_fuse_46 : decode cX9_fuse 46 = .ok (.laload, 1) := by decide +kernel
theorem dX9_fuse_47 : decode cX9_fuse 47 = .ok (.aload_n 0, 1) := by decide +kernel
theorem dX9_fuse_48 : decode cX9_fuse 48 = .ok (.iload_n 1, 1) := by decide +kernel
theorem dX9_fuse_49 : decode cX9_fuse 49 = .ok (.iload 4, 2) := by decide +kernel
theorem dX9_fuse_51 : decode cX9_fuse 51 = .ok (.iload_n 2, 1) := by decide +kernel
theorem dX9_fuse_52 : decode cX9_fuse 52 = .ok (.iload_n 3, 1) := by decide +kernel
theorem dX9_fuse_53 : decode cX9_fuse 53 = .ok (.invokevirtual 74, 3) := by decide +kernel
theorem dX9_fuse_56 : decode cX9_fuse 56 = .ok (.i2l, 1) := by decide +kernel
theorem dX9_fuse_57 : decode cX9_fuse 57 = .ok (.lmul, 1) := by decide +kernel
theorem dX9_fuse_58 : decode cX9_fuse 58 = .ok (.ladd, 1) := by decide +kernel
theorem dX9_fuse_59 : decode cX9_fuse 59 = .ok (.lastore, 1) := by decide +kernel
theorem dX9_fuse_60 : decode cX9_fuse 60 = .ok (.iinc 4 1, 3) := by decide +kernel
theorem dX9_fuse_63 : decode cX9_fuse 63 = .ok (.goto (-41), 3) := by decide +kernel
theorem dX9_fuse_66 : decode cX9_fuse 66 = .ok (.iinc 3 1, 3) := by decide +kernel
theorem dX9_fuse_69 : decode cX9_fuse 69 = .ok (.goto (-67), 3) := by decide +kernel
theorem dX9_fuse_72 : decode cX9_fuse 72 = .ok (.iconst 0, 1) := by decide +kernel
theorem dX9_fuse_73 : decode cX9_fuse 73 = .ok (.istore_n 3, 1) := by decide +kernel
theorem dX9_fuse_74 : decode cX9_fuse 74 = .ok (.iload_n 3, 1) := by decide +kernel
theorem dX9_fuse_75 : decode cX9_fuse 75 = .ok (.aload_n 0, 1) := by decide +kernel
theorem dX9_fuse_76 : decode cX9_fuse 76 = .ok (.getfield 7, 3) := by decide +kernel
theorem dX9_fuse_79 : decode cX9_fuse 79 = .ok (.iload_n 1, 1) := by decide +kernel
theorem dX9_fuse_80 : decode cX9_fuse 80 = .ok (.iaload, 1) := by decide +kernel
theorem dX9_fuse_81 : decode cX9_fuse 81 = .ok (.if_icmp .ge 21, 3) := by decide +kernel
theorem dX9_fuse_84 : decode cX9_fuse 84 = .ok (.aload_n 0, 1) := by decide +kernel
theorem dX9_fuse_85 : decode cX9_fuse 85 = .ok (.getfield 31, 3) := by decide +kernel
theorem dX9_fuse_88 : decode cX9_fuse 88 = .ok (.iload_n 3, 1) := by decide +kernel
theorem dX9_fuse_89 : decode cX9_fuse 89 = .ok (.aload_n 0, 1) := by decide +kernel
theorem dX9_fuse_90 : decode cX9_fuse 90 = .ok (.getfield 35, 3) := by decide +kernel
theorem dX9_fuse_93 : decode cX9_fuse 93 = .ok (.iload_n 3, 1) := by decide +kernel
theorem dX9_fuse_94 : decode cX9_fuse 94 = .ok (.laload, 1) := by decide +kernel
theorem dX9_fuse_95 : decode cX9_fuse 95 = .ok (.lastore, 1) := by decide +kernel
theorem dX9_fuse_96 : decode cX9_fuse 96 = .ok (.iinc 3 1, 3) := by decide +kernel
theorem dX9_fuse_99 : decode cX9_fuse 99 = .ok (.goto (-25), 3) := by decide +kernel
theorem dX9_fuse_102 : decode cX9_fuse 102 = .ok (.return_, 1) := by decide +kernel
set_option maxRecDepth 20000 in
theorem ggX9_fused_X9_noTable : GoodIn wsX9_fused wsX9_noTable := goodIn_r _ [8, 9, 10, 11, 7, 12] (by decide +kernel) (by decide +kernel)
set_option maxRecDepth 20000 in
theorem gX9_fused_X9_noTable : GoodIn wsX9_fused (va_wsS RX9 64 yX9_noTable wsX9_noTable) := goodIn_app (goodIn_of _ (by decide +kernel)) ggX9_fused_X9_noTable
set_option maxRecDepth 20000 in
theorem ggX9_fused_X9_isKind : GoodIn wsX9_fused wsX9_isKind := goodIn_r _ [16, 17, 10, 11, 7, 12, 32, 33, 34, 35, 36, 37, 38, 39, 40, 41, 42, 43, 44, 45, 46] (by decide +kernel) (by decide +kernel)
set_option maxRecDepth 20000 in
theorem gX9_fused_X9_isKind : GoodIn wsX9_fused (wsV RX9 68 RX9 yX9_isKind wsX9_isKind) := goodIn_app (goodIn_of _ (by decide +kernel)) ggX9_fused_X9_isKind
set_option maxRecDepth 20000 in
theorem ggX9_fused_X9_start : GoodIn wsX9_fused wsX9_start := goodIn_r _ [21, 4, 32, 33, 34, 35, 36, 37, 38, 39, 40, 41, 42, 43, 44, 45, 46] (by decide +kernel) (by decide +kernel)
set_option maxRecDepth 20000 in
theorem gX9_fused_X9_start : GoodIn wsX9_fused (wsV RX9 144 RX9 yX9_start wsX9_start) := goodIn_app (goodIn_of _ (by decide +kernel)) ggX9_fused_X9_start
set_option maxRecDepth 20000 in
theorem ggX9_fused_X9_fuse : GoodIn wsX9_fused wsX9_fuse := goodIn_r _ [25, 17, 26, 4, 27, 28, 29, 7, 30, 31, 32, 33, 34, 35, 36, 37, 38, 39, 40, 41, 42, 43, 44, 45, 46] (by decide +kernel) (by decide +kernel)
set_option maxRecDepth 20000 in
theorem gX9_fused_X9_fuse : GoodIn wsX9_fused (wsV RX9 147 RX9 yX9_fuse wsX9_fuse) := goodIn_app (goodIn_of _ (by decide +kernel)) ggX9_fused_X9_fuse
theorem dX9_fused_0 : decode cX9_fused 0 = .ok (.iload_n 1, 1) := by decide +kernel
theorem dX9_fused_1 : decode cX9_fused 1 = .ok (.invokestatic 64, 3) := by decide +kernel
theorem dX9_fused_4 : decode cX9_fused 4 = .ok (.ifCond .ne 12, 3) := by decide +kernel
theorem dX9_fused_7 : decode cX9_fused 7 = .ok (.aload_n 0, 1) := by decide +kernel
theorem dX9_fused_8 : decode cX9_fused 8 = .ok (.iload_n 1, 1) := by decide +kernel
theorem dX9_fused_9 : decode cX9_fused 9 = .ok (.iload_n 2, 1) := by decide +kernel
theorem dX9_fused_10 : decode cX9_fused 10 = .ok (.invokevirtual 68, 3) := by decide +kernel
theorem dX9_fused_13 : decode cX9_fused 13 = .ok (.ifCond .ne 7, 3) := by decide +kernel
theorem dX9_fused_16 : decode cX9_fused 16 = .ok (.ldc2_w 142, 3) := by decide +kernel
theorem dX9_fused_19 : decode cX9_fused 19 = .ok (.lreturn, 1) := by decide +kernel
theorem dX9_fused_20 : decode cX9_fused 20 = .ok (.aload_n 0, 1) := by decide +kernel
theorem dX9_fused_21 : decode cX9_fused 21 = .ok (.iload_n 1, 1) := by decide +kernel
theorem dX9_fused_22 : decode cX9_fused 22 = .ok (.iconst 0, 1) := by decide +kernel
theorem dX9_fused_23 : decode cX9_fused 23 = .ok (.invokevirtual 144, 3) := by decide +kernel
theorem dX9_fused_26 : decode cX9_fused 26 = .ok (.iconst 0, 1) := by decide +kernel
theorem dX9_fused_27 : decode cX9_fused 27 = .ok (.istore_n 3, 1) := by decide +kernel
theorem dX9_fused_28 : decode cX9_fused 28 = .ok (.iload_n 3, 1) := by decide +kernel
theorem dX9_fused_29 : decode cX9_fused 29 = .ok (.aload_n 0, 1) := by decide +kernel
theorem dX9_fused_30 : decode cX9_fused 30 = .ok (.getfield 139, 3) := by decide +kernel
theorem dX9_fused_33 : decode cX9_fused 33 = .ok (.if_icmp .ge 38, 3) := by decide +kernel
theorem dX9_fused_36 : decode cX9_fused 36 = .ok (.aload_n 0, 1) := by decide +kernel
theorem dX9_fused_37 : decode cX9_fused 37 = .ok (.iload_n 1, 1) := by decide +kernel
theorem dX9_fused_38 : decode cX9_fused 38 = .ok (.aload_n 0, 1) := by decide +kernel
theorem dX9_fused_39 : decode cX9_fused 39 = .ok (.getfield 28, 3) := by decide +kernel
theorem dX9_fused_42 : decode cX9_fused 42 = .ok (.iload_n 3, 1) := by decide +kernel
theorem dX9_fused_43 : decode cX9_fused 43 = .ok (.iaload, 1) := by decide +kernel
theorem dX9_fused_44 : decode cX9_fused 44 = .ok (.invokevirtual 68, 3) := by decide +kernel
theorem dX9_fused_47 : decode cX9_fused 47 = .ok (.ifCond .ne 7, 3) := by decide +kernel
theorem dX9_fused_50 : decode cX9_fused 50 = .ok (.ldc2_w 142, 3) := by decide +kernel
theorem dX9_fused_53 : decode cX9_fused 53 = .ok (.lreturn, 1) := by decide +kernel
theorem dX9_fused_54 : decode cX9_fused 54 = .ok (.aload_n 0, 1) := by decide +kernel
theorem dX9_fused_55 : decode cX9_fused 55 = .ok (.iload_n 1, 1) := by decide +kernel
theorem dX9_fused_56 : decode cX9_fused 56 = .ok (.aload_n 0, 1) := by decide +kernel
theorem dX9_fused_57 : decode cX9_fused 57 = .ok (.getfield 28, 3) := by decide +kernel
theorem dX9_fused_60 : decode cX9_fused 60 = .ok (.iload_n 3, 1) := by decide +kernel
theorem dX9_fused_61 : decode cX9_fused 61 = .ok (.iaload, 1) := by decide +kernel
theorem dX9_fused_62 : decode cX9_fused 62 = .ok (.invokevirtual 147, 3) := by decide +kernel
theorem dX9_fused_65 : decode cX9_fused 65 = .ok (.iinc 3 1, 3) := by decide +kernel
theorem dX9_fused_68 : decode cX9_fused 68 = .ok (.goto (-40), 3) := by decide +kernel
theorem dX9_fused_71 : decode cX9_fused 71 = .ok (.aload_n 0, 1) := by decide +kernel
theorem dX9_fused_72 : decode cX9_fused 72 = .ok (.getfield 31, 3) := by decide +kernel
theorem dX9_fused_75 : decode cX9_fused 75 = .ok (.iload_n 2, 1) := by decide +kernel
theorem dX9_fused_76 : decode cX9_fused 76 = .ok (.laload, 1) := by decide +kernel
theorem dX9_fused_77 : decode cX9_fused 77 = .ok (.lreturn, 1) := by decide +kernel
set_option maxRecDepth 20000 in
theorem ggX9_ways_X9_noTable : GoodIn wsX9_ways wsX9_noTable := goodIn_r _ [7, 8, 9, 10, 6, 11] (by decide +kernel) (by decide +kernel)
set_option maxRecDepth 20000 in
theorem gX9_ways_X9_noTable : GoodIn wsX9_ways (va_wsS RX9 64 yX9_noTable wsX9_noTable) := goodIn_app (goodIn_of _ (by decide +kernel)) ggX9_ways_X9_noTable
set_option maxRecDepth 20000 in
theorem ggX9_ways_X9_isKind : GoodIn wsX9_ways wsX9_isKind := goodIn_r _ [15, 16, 9, 10, 6, 11, 31, 32, 33, 34, 35, 36, 37, 38, 39, 40, 41, 42, 43, 44, 45] (by decide +kernel) (by decide +kernel)
set_option maxRecDepth 20000 in
theorem gX9_ways_X9_isKind : GoodIn wsX9_ways (wsV RX9 68 RX9 yX9_isKind wsX9_isKind) := goodIn_app (goodIn_of _ (by decide +kernel)) ggX9_ways_X9_isKind
set_option maxRecDepth 20000 in
theorem ggX9_ways_X9_in : GoodIn wsX9_ways wsX9_in := goodIn_r _ [11] (by decide +kernel) (by decide +kernel)
set_option maxRecDepth 20000 in
theorem gX9_ways_X9_in : GoodIn wsX9_ways (va_wsS RX9 60 yX9_in wsX9_in) := goodIn_app (goodIn_of _ (by decide +kernel)) ggX9_ways_X9_in
set_option maxRecDepth 20000 in
theorem ggX9_ways_X9_start : GoodIn wsX9_ways wsX9_start := goodIn_r _ [20, 3, 31, 32, 33, 34, 35, 36, 37, 38, 39, 40, 41, 42, 43, 44, 45] (by decide +kernel) (by decide +kernel)
set_option maxRecDepth 20000 in
theorem gX9_ways_X9_start : GoodIn wsX9_ways (wsV RX9 144 RX9 yX9_start wsX9_start) := goodIn_app (goodIn_of _ (by decide +kernel)) ggX9_ways_X9_start
set_option maxRecDepth 20000 in
theorem ggX9_ways_X9_fuse : GoodIn wsX9_ways wsX9_fuse := goodIn_r _ [24, 16, 25, 3, 26, 27, 28, 6, 29, 30, 31, 32, 33, 34, 35, 36, 37, 38, 39, 40, 41, 42, 43, 44, 45] (by decide +kernel) (by decide +kernel)
set_option maxRecDepth 20000 in
theorem gX9_ways_X9_fuse : GoodIn wsX9_ways (wsV RX9 147 RX9 yX9_fuse wsX9_fuse) := goodIn_app (goodIn_of _ (by decide +kernel)) ggX9_ways_X9_fuse
theorem dX9_ways_0 : decode cX9_ways 0 = .ok (.iload_n 1, 1) := by decide +kernel
theorem dX9_ways_1 : decode cX9_ways 1 = .ok (.invokestatic 64, 3) := by decide +kernel
theorem dX9_ways_4 : decode cX9_ways 4 = .ok (.ifCond .ne 44, 3) := by decide +kernel
theorem dX9_ways_7 : decode cX9_ways 7 = .ok (.aload_n 0, 1) := by decide +kernel
theorem dX9_ways_8 : decode cX9_ways 8 = .ok (.iload_n 1, 1) := by decide +kernel
theorem dX9_ways_9 : decode cX9_ways 9 = .ok (.iload_n 2, 1) := by decide +kernel
theorem dX9_ways_10 : decode cX9_ways 10 = .ok (.invokevirtual 68, 3) := by decide +kernel
theorem dX9_ways_13 : decode cX9_ways 13 = .ok (.ifCond .eq 35, 3) := by decide +kernel
theorem dX9_ways_16 : decode cX9_ways 16 = .ok (.aload_n 0, 1) := by decide +kernel
theorem dX9_ways_17 : decode cX9_ways 17 = .ok (.iload_n 1, 1) := by decide +kernel
theorem dX9_ways_18 : decode cX9_ways 18 = .ok (.iload_n 3, 1) := by decide +kernel
theorem dX9_ways_19 : decode cX9_ways 19 = .ok (.invokevirtual 68, 3) := by decide +kernel
theorem dX9_ways_22 : decode cX9_ways 22 = .ok (.ifCond .eq 26, 3) := by decide +kernel
theorem dX9_ways_25 : decode cX9_ways 25 = .ok (.iload 4, 2) := by decide +kernel
theorem dX9_ways_27 : decode cX9_ways 27 = .ok (.i2l, 1) := by decide +kernel
theorem dX9_ways_28 : decode cX9_ways 28 = .ok (.lconst 0, 1) := by decide +kernel
theorem dX9_ways_29 : decode cX9_ways 29 = .ok (.ldc2_w 150, 3) := by decide +kernel
theorem dX9_ways_32 : decode cX9_ways 32 = .ok (.invokestatic 60, 3) := by decide +kernel
theorem dX9_ways_35 : decode cX9_ways 35 = .ok (.ifCond .eq 13, 3) := by decide +kernel
theorem dX9_ways_38 : decode cX9_ways 38 = .ok (.aload_n 0, 1) := by decide +kernel
theorem dX9_ways_39 : decode cX9_ways 39 = .ok (.iload_n 1, 1) := by decide +kernel
theorem dX9_ways_40 : decode cX9_ways 40 = .ok (.iload 5, 2) := by decide +kernel
theorem dX9_ways_42 : decode cX9_ways 42 = .ok (.invokevirtual 68, 3) := by decide +kernel
theorem dX9_ways_45 : decode cX9_ways 45 = .ok (.ifCond .ne 7, 3) := by decide +kernel
theorem dX9_ways_48 : decode cX9_ways 48 = .ok (.ldc2_w 142, 3) := by decide +kernel
theorem dX9_ways_51 : decode cX9_ways 51 = .ok (.lreturn, 1) := by decide +kernel
theorem dX9_ways_52 : decode cX9_ways 52 = .ok (.aload_n 0, 1) := by decide +kernel
theorem dX9_ways_53 : decode cX9_ways 53 = .ok (.iload_n 1, 1) := by decide +kernel
theorem dX9_ways_54 : decode cX9_ways 54 = .ok (.iload_n 2, 1) := by decide +kernel
theorem dX9_ways_55 : decode cX9_ways 55 = .ok (.invokevirtual 144, 3) := by decide +kernel
theorem dX9_ways_58 : decode cX9_ways 58 = .ok (.iconst 0, 1) := by decide +kernel
theorem dX9_ways_59 : decode cX9_ways 59 = .ok (.istore 6, 2) := by decide +kernel
theorem dX9_ways_61 : decode cX9_ways 61 = .ok (.iload 6, 2) := by decide +kernel
theorem dX9_ways_63 : decode cX9_ways 63 = .ok (.iload 4, 2) := by decide +kernel
theorem dX9_ways_65 : decode cX9_ways 65 = .ok (.if_icmp .ge 15, 3) := by decide +kernel
theorem dX9_ways_68 : decode cX9_ways 68 = .ok (.aload_n 0, 1) := by decide +kernel
theorem dX9_ways_69 : decode cX9_ways 69 = .ok (.iload_n 1, 1) := by decide +kernel
theorem dX9_ways_70 : decode cX9_ways 70 = .ok (.iload_n 3, 1) := by decide +kernel
theorem dX9_ways_71 : decode cX9_ways 71 = .ok (.invokevirtual 147, 3) := by decide +kernel
theorem dX9_ways_74 : decode cX9_ways 74 = .ok (.iinc 6 1, 3) := by decide +kernel
theorem dX9_ways_77 : decode cX9_ways 77 = .ok (.goto (-16), 3) := by decide +kernel
theorem dX9_ways_80 : decode cX9_ways 80 = .ok (.aload_n 0, 1) := by decide +kernel
theorem dX9_ways_81 : decode cX9_ways 81 = .ok (.getfield 31, 3) := by decide +kernel
theorem dX9_ways_84 : decode cX9_ways 84 = .ok (.iload 5, 2) := by decide +kernel
theorem dX9_ways_86 : decode cX9_ways 86 = .ok (.laload, 1) := by decide +kernel
theorem dX9_ways_87 : decode cX9_ways 87 = .ok (.lreturn, 1) := by decide +kernel
set_option maxRecDepth 20000 in
theorem ggX9_close_X9_n : GoodIn wsX9_close wsX9_n := goodIn_r _ [7, 8, 9, 10, 11, 12, 13, 14, 15, 16, 17, 18, 19, 20, 21, 22, 23] (by decide +kernel) (by decide +kernel)
set_option maxRecDepth 20000 in
theorem gX9_close_X9_n : GoodIn wsX9_close (wsV RX9 74 RX9 yX9_n wsX9_n) := goodIn_app (goodIn_of _ (by decide +kernel)) ggX9_close_X9_n
theorem dX9_close_0 : decode cX9_close 0 = .ok (.iload_n 2, 1) := by decide +kernel
theorem dX9_close_1 : decode cX9_close 1 = .ok (.iconst 1, 1) := by decide +kernel
theorem dX9_close_2 : decode cX9_close 2 = .ok (.ior, 1) := by decide +kernel
theorem dX9_close_3 : decode cX9_close 3 = .ok (.istore_n 3, 1) := by decide +kernel
theorem dX9_close_4 : decode cX9_close 4 = .ok (.iconst 0, 1) := by decide +kernel
theorem dX9_close_5 : decode cX9_close 5 = .ok (.istore 4, 2) := by decide +kernel
theorem dX9_close_7 : decode cX9_close 7 = .ok (.iload_n 3, 1) := by decide +kernel
theorem dX9_close_8 : decode cX9_close 8 = .ok (.iload 4, 2) := by decide +kernel
theorem dX9_close_10 : decode cX9_close 10 = .ok (.if_icmp .eq 128, 3) := by decide +kernel
theorem dX9_close_13 : decode cX9_close 13 = .ok (.iload_n 3, 1) := by decide +kernel
theorem dX9_close_14 : decode cX9_close 14 = .ok (.istore 4, 2) := by decide +kernel
theorem dX9_close_16 : decode cX9_close 16 = .ok (.iconst 0, 1) := by decide +kernel
theorem dX9_close_17 : decode cX9_close 17 = .ok (.istore 5, 2) := by decide +kernel
theorem dX9_close_19 : decode cX9_close 19 = .ok (.iload 5, 2) := by decide +kernel
theorem dX9_close_21 : decode cX9_close 21 = .ok (.aload_n 0, 1) := by decide +kernel
theorem dX9_close_22 : decode cX9_close 22 = .ok (.getfield 7, 3) := by decide +kernel
theorem dX9_close_25 : decode cX9_close 25 = .ok (.iload_n 1, 1) := by decide +kernel
theorem dX9_close_26 : decode cX9_close 26 = .ok (.iaload, 1) := by decide +kernel
theorem dX9_close_27 : decode cX9_close 27 = .ok (.if_icmp .ge 108, 3) := by decide +kernel
theorem dX9_close_30 : decode cX9_close 30 = .ok (.iload 4, 2) := by decide +kernel
theorem dX9_close_32 : decode cX9_close 32 = .ok (.iload 5, 2) := by decide +kernel
theorem dX9_close_34 : decode cX9_close 34 = .ok (.ishr, 1) := by decide +kernel
theorem dX9_close_35 : decode cX9_close 35 = .ok (.iconst 1, 1) := by decide +kernel
theorem dX9_close_36 : decode cX9_close 36 = .ok (.iand, 1) := by decide +kernel
theorem dX9_close_37 : decode cX9_close 37 = .ok (.iconst 1, 1) := by decide +kernel
theorem dX9_close_38 : decode cX9_close 38 = .ok (.if_icmp .ne 91, 3) := by decide +kernel
theorem dX9_close_41 : decode cX9_close 41 = .ok (.iload_n 3, 1) := by decide +kernel
theorem dX9_close_42 : decode cX9_close 42 = .ok (.iconst 1, 1) := by decide +kernel
theorem dX9_close_43 : decode cX9_close 43 = .ok (.aload_n 0, 1) := by decide +kernel
theorem dX9_close_44 : decode cX9_close 44 = .ok (.getfield 19, 3) := by decide +kernel
theorem dX9_close_47 : decode cX9_close 47 = .ok (.iload 5, 2) := by decide +kernel
theorem dX9_close_49 : decode cX9_close 49 = .ok (.iaload, 1) := by decide +kernel
theorem dX9_close_50 : decode cX9_close 50 = .ok (.ishl, 1) := by decide +kernel
theorem dX9_close_51 : decode cX9_close 51 = .ok (.ior, 1) := by decide +kernel
theorem dX9_close_52 : decode cX9_close 52 = .ok (.istore_n 3, 1) := by decide +kernel
theorem dX9_close_53 : decode cX9_close 53 = .ok (.iconst 0, 1) := by decide +kernel
theorem dX9_close_54 : decode cX9_close 54 = .ok (.istore 6, 2) := by decide +kernel
theorem dX9_close_56 : decode cX9_close 56 = .ok (.iload 6, 2) := by decide +kernel
theorem dX9_close_58 : decode cX9_close 58 = .ok (.aload_n 0, 1) := by decide +kernel
theorem dX9_close_59 : decode cX9_close 59 = .ok (.getfield 7, 3) := by decide +kernel
theorem dX9_close_62 : decode cX9_close 62 = .ok (.iload_n 1, 1) := by decide +kernel
theorem dX9_close_63 : decode cX9_close 63 = .ok (.iaload, 1) := by decide +kernel
theorem dX9_close_64 : decode cX9_close 64 = .ok (.if_icmp .ge 65, 3) := by decide +kernel
theorem dX9_close_67 : decode cX9_close 67 = .ok (.iconst 0, 1) := by decide +kernel
theorem dX9_close_68 : decode cX9_close 68 = .ok (.istore 7, 2) := by decide +kernel
theorem dX9_close_70 : decode cX9_close 70 = .ok (.iload 7, 2) := by decide +kernel
theorem dX9_close_72 : decode cX9_close 72 = .ok (.aload_n 0, 1) := by decide +kernel
theorem dX9_close_73 : decode cX9_close 73 = .ok (.getfield 7, 3) := by decide +kernel
theorem dX9_close_76 : decode cX9_close 76 = .ok (.iload_n 1, 1) := by decide +kernel
theorem dX9_close_77 : decode cX9_close 77 = .ok (.iaload, 1) := by decide +kernel
theorem dX9_close_78 : decode cX9_close 78 = .ok (.if_icmp .ge 45, 3) := by decide +kernel
theorem dX9_close_81 : decode cX9_close 81 = .ok (.iload_n 3, 1) := by decide +kernel
theorem dX9_close_82 : decode cX9_close 82 = .ok (.iload 4, 2) := by decide +kernel
theorem dX9_close_84 : decode cX9_close 84 = .ok (.iload 6, 2) := by decide +kernel
theorem dX9_close_86 : decode cX9_close 86 = .ok (.ishr, 1) := by decide +kernel
theorem dX9_close_87 : decode cX9_close 87 = .ok (.iconst 1, 1) := by decide +kernel
theorem dX9_close_88 : decode cX9_close 88 = .ok (.iand, 1) := by decide +kernel
theorem dX9_close_89 : decode cX9_close 89 = .ok (.iconst 1, 1) := by decide +kernel
theorem dX9_close_90 : decode cX9_close 90 = .ok (.if_icmp .ne 24, 3) := by decide +kernel
theorem dX9_close_93 : decode cX9_close 93 = .ok (.aload_n 0, 1) := by decide +kernel
theorem dX9_close_94 : decode cX9_close 94 = .ok (.iload_n 1, 1) := by decide +kernel
theorem dX9_close_95 : decode cX9_close 95 = .ok (.iload 5, 2) := by decide +kernel
theorem dX9_close_97 : decode cX9_close 97 = .ok (.iload 6, 2) := by decide +kernel
theorem dX9_close_99 : decode cX9_close 99 = .ok (.iload 7, 2) := by decide +kernel
theorem dX9_close_101 : decode cX9_close 101 = .ok (.invokevirtual 74, 3) := by decide +kernel
theorem dX9_close_104 : decode cX9_close 104 = .ok (.ifCond .le 10, 3) := by decide +kernel
theorem dX9_close_107 : decode cX9_close 107 = .ok (.iconst 1, 1) := by decide +kernel
theorem dX9_close_108 : decode cX9_close 108 = .ok (.iload 7, 2) := by decide +kernel
theorem dX9_close_110 : decode cX9_close 110 = .ok (.ishl, 1) := by decide +kernel
theorem dX9_close_111 : decode cX9_close 111 = .ok (.goto 4, 3) := by decide +kernel
theorem dX9_close_114 : decode cX9_close 114 = .ok (.iconst 0, 1) := by decide +kernel
theorem dX9_close_115 : decode cX9_close 115 = .ok (.ior, 1) := by decide +kernel
theorem dX9_close_116 : decode cX9_close 116 = .ok (.istore_n 3, 1) := by decide +kernel
theorem dX9_close_117 : decode cX9_close 117 = .ok (.iinc 7 1, 3) := by decide +kernel
theorem dX9_close_120 : decode cX9_close 120 = .ok (.goto (-50), 3) := by decide +kernel
theorem dX9_close_123 : decode cX9_close 123 = .ok (.iinc 6 1, 3) := by decide +kernel
theorem dX9_close_126 : decode cX9_close 126 = .ok (.goto (-70), 3) := by decide +kernel
theorem dX9_close_129 : decode cX9_close 129 = .ok (.iinc 5 1, 3) := by decide +kernel
theorem dX9_close_132 : decode cX9_close 132 = .ok (.goto (-113), 3) := by decide +kernel
theorem dX9_close_135 : decode cX9_close 135 = .ok (.goto (-128), 3) := by decide +kernel
theorem dX9_close_138 : decode cX9_close 138 = .ok (.iload_n 3, 1) := by decide +kernel
theorem dX9_close_139 : decode cX9_close 139 = .ok (.ireturn, 1) := by decide +kernel
set_option maxRecDepth 20000 in
theorem ggX9_isSet_X9_in : GoodIn wsX9_isSet wsX9_in := goodIn_r _ [5] (by decide +kernel) (by decide +kernel)
set_option maxRecDepth 20000 in
theorem gX9_isSet_X9_in : GoodIn wsX9_isSet (va_wsS RX9 60 yX9_in wsX9_in) := goodIn_app (goodIn_of _ (by decide +kernel)) ggX9_isSet_X9_in
theorem dX9_isSet_0 : decode cX9_isSet 0 = .ok (.iload_n 2, 1) := by decide +kernel
theorem dX9_isSet_1 : decode cX9_isSet 1 = .ok (.i2l, 1) := by decide +kernel
theorem dX9_isSet_2 : decode cX9_isSet 2 = .ok (.iload_n 3, 1) := by decide +kernel
theorem dX9_isSet_3 : decode cX9_isSet 3 = .ok (.i2l, 1) := by decide +kernel
theorem dX9_isSet_4 : decode cX9_isSet 4 = .ok (.iconst 1, 1) := by decide +kernel
theorem dX9_isSet_5 : decode cX9_isSet 5 = .ok (.aload_n 0, 1) := by decide +kernel
theorem dX9_isSet_6 : decode cX9_isSet 6 = .ok (.getfield 7, 3) := by decide +kernel
theorem dX9_isSet_9 : decode cX9_isSet 9 = .ok (.iload_n 1, 1) := by decide +kernel
theorem dX9_isSet_10 : decode cX9_isSet 10 = .ok (.iaload, 1) := by decide +kernel
theorem dX9_isSet_11 : decode cX9_isSet 11 = .ok (.ishl, 1) := by decide +kernel
theorem dX9_isSet_12 : decode cX9_isSet 12 = .ok (.iconst 1, 1) := by decide +kernel
theorem dX9_isSet_13 : decode cX9_isSet 13 = .ok (.isub, 1) := by decide +kernel
theorem dX9_isSet_14 : decode cX9_isSet 14 = .ok (.i2l, 1) := by decide +kernel
theorem dX9_isSet_15 : decode cX9_isSet 15 = .ok (.invokestatic 60, 3) := by decide +kernel
theorem dX9_isSet_18 : decode cX9_isSet 18 = .ok (.ireturn, 1) := by decide +kernel
set_option maxRecDepth 20000 in
theorem ggX9_closed_X9_noTable : GoodIn wsX9_closed wsX9_noTable := goodIn_r _ [4, 5, 6, 7, 3, 8] (by decide +kernel) (by decide +kernel)
set_option maxRecDepth 20000 in
theorem gX9_closed_X9_noTable : GoodIn wsX9_closed (va_wsS RX9 64 yX9_noTable wsX9_noTable) := goodIn_app (goodIn_of _ (by decide +kernel)) ggX9_closed_X9_noTable
set_option maxRecDepth 20000 in
theorem ggX9_closed_X9_isSet : GoodIn wsX9_closed wsX9_isSet := goodIn_r _ [12, 13, 6, 7, 3, 8, 49, 50, 51, 52, 53, 54, 55, 56, 57, 58, 59, 60, 61, 62, 63] (by decide +kernel) (by decide +kernel)
set_option maxRecDepth 20000 in
theorem gX9_closed_X9_isSet : GoodIn wsX9_closed (wsV RX9 152 RX9 yX9_isSet wsX9_isSet) := goodIn_app (goodIn_of _ (by decide +kernel)) ggX9_closed_X9_isSet
set_option maxRecDepth 20000 in
theorem ggX9_closed_X9_isRight : GoodIn wsX9_closed wsX9_isRight := goodIn_r _ [17, 18, 19, 20, 3, 21, 13, 22, 23, 24, 25, 26, 27, 28, 29, 30, 31, 32, 33, 34, 35, 36, 37, 38, 39, 40, 41, 42, 43, 44, 49, 50, 51, 52, 53, 54, 55, 56, 57, 58, 59, 60, 61, 62, 63] (by decide +kernel) (by decide +kernel)
set_option maxRecDepth 20000 in
theorem gX9_closed_X9_isRight : GoodIn wsX9_closed (wsV RX9 96 RX9 yX9_isRight wsX9_isRight) := goodIn_app (goodIn_of _ (by decide +kernel)) ggX9_closed_X9_isRight
set_option maxRecDepth 20000 in
theorem ggX9_closed_X9_close : GoodIn wsX9_closed wsX9_close := goodIn_r _ [48, 13, 36, 22, 23, 24, 3, 25, 26, 49, 50, 51, 52, 53, 54, 55, 56, 57, 58, 59, 60, 61, 62, 63] (by decide +kernel) (by decide +kernel)
set_option maxRecDepth 20000 in
theorem gX9_closed_X9_close : GoodIn wsX9_closed (wsV RX9 155 RX9 yX9_close wsX9_close) := goodIn_app (goodIn_of _ (by decide +kernel)) ggX9_closed_X9_close
theorem dX9_closed_0 : decode cX9_closed 0 = .ok (.iload_n 1, 1) := by decide +kernel
theorem dX9_closed_1 : decode cX9_closed 1 = .ok (.invokestatic 64, 3) := by decide +kernel
theorem dX9_closed_4 : decode cX9_closed 4 = .ok (.ifCond .ne 13, 3) := by decide +kernel
theorem dX9_closed_7 : decode cX9_closed 7 = .ok (.aload_n 0, 1) := by decide +kernel
theorem dX9_closed_8 : decode cX9_closed 8 = .ok (.iload_n 1, 1) := by decide +kernel
theorem dX9_closed_9 : decode cX9_closed 9 = .ok (.iload_n 2, 1) := by decide +kernel
theorem dX9_closed_10 : decode cX9_closed 10 = .ok (.iconst 1, 1) := by decide +kernel
theorem dX9_closed_11 : decode cX9_closed 11 = .ok (.invokevirtual 152, 3) := by decide +kernel
theorem dX9_closed_14 : decode cX9_closed 14 = .ok (.ifCond .ne 6, 3) := by decide +kernel
theorem dX9_closed_17 : decode cX9_closed 17 = .ok (.bipush (-2), 2) := by decide +kernel
theorem dX9_closed_19 : decode cX9_closed 19 = .ok (.ireturn, 1) := by decide +kernel
theorem dX9_closed_20 : decode cX9_closed 20 = .ok (.aload_n 0, 1) := by decide +kernel
theorem dX9_closed_21 : decode cX9_closed 21 = .ok (.iload_n 1, 1) := by decide +kernel
theorem dX9_closed_22 : decode cX9_closed 22 = .ok (.invokevirtual 96, 3) := by decide +kernel
theorem dX9_closed_25 : decode cX9_closed 25 = .ok (.ifCond .ne 8, 3) := by decide +kernel
theorem dX9_closed_28 : decode cX9_closed 28 = .ok (.bipush (-3), 2) := by decide +kernel
theorem dX9_closed_30 : decode cX9_closed 30 = .ok (.goto 18, 3) := by decide +kernel
theorem dX9_closed_33 : decode cX9_closed 33 = .ok (.aload_n 0, 1) := by decide +kernel
theorem dX9_closed_34 : decode cX9_closed 34 = .ok (.iload_n 1, 1) := by decide +kernel
theorem dX9_closed_35 : decode cX9_closed 35 = .ok (.iload_n 2, 1) := by decide +kernel
theorem dX9_closed_36 : decode cX9_closed 36 = .ok (.invokevirtual 155, 3) := by decide +kernel
theorem dX9_closed_39 : decode cX9_closed 39 = .ok (.iload_n 2, 1) := by decide +kernel
theorem dX9_closed_40 : decode cX9_closed 40 = .ok (.if_icmp .ne 7, 3) := by decide +kernel
theorem dX9_closed_43 : decode cX9_closed 43 = .ok (.iconst 1, 1) := by decide +kernel
theorem dX9_closed_44 : decode cX9_closed 44 = .ok (.goto 4, 3) := by decide +kernel
theorem dX9_closed_47 : decode cX9_closed 47 = .ok (.iconst 0, 1) := by decide +kernel
theorem dX9_closed_48 : decode cX9_closed 48 = .ok (.ireturn, 1) := by decide +kernel
set_option maxRecDepth 20000 in
theorem ggX9_least_X9_noTable : GoodIn wsX9_least wsX9_noTable := goodIn_r _ [4, 5, 6, 7, 3, 8] (by decide +kernel) (by decide +kernel)
set_option maxRecDepth 20000 in
theorem gX9_least_X9_noTable : GoodIn wsX9_least (va_wsS RX9 64 yX9_noTable wsX9_noTable) := goodIn_app (goodIn_of _ (by decide +kernel)) ggX9_least_X9_noTable
set_option maxRecDepth 20000 in
theorem ggX9_least_X9_isSet : GoodIn wsX9_least wsX9_isSet := goodIn_r _ [12, 13, 6, 7, 3, 8, 49, 50, 51, 52, 53, 54, 55, 56, 57, 58, 59, 60, 61, 62, 63] (by decide +kernel) (by decide +kernel)
set_option maxRecDepth 20000 in
theorem gX9_least_X9_isSet : GoodIn wsX9_least (wsV RX9 152 RX9 yX9_isSet wsX9_isSet) := goodIn_app (goodIn_of _ (by decide +kernel)) ggX9_least_X9_isSet
set_option maxRecDepth 20000 in
theorem ggX9_least_X9_isRight : GoodIn wsX9_least wsX9_isRight := goodIn_r _ [17, 18, 19, 20, 3, 21, 13, 22, 23, 24, 25, 26, 27, 28, 29, 30, 31, 32, 33, 34, 35, 36, 37, 38, 39, 40, 41, 42, 43, 44, 49, 50, 51, 52, 53, 54, 55, 56, 57, 58, 59, 60, 61, 62, 63] (by decide +kernel) (by decide +kernel)
set_option maxRecDepth 20000 in
theorem gX9_least_X9_isRight : GoodIn wsX9_least (wsV RX9 96 RX9 yX9_isRight wsX9_isRight) := goodIn_app (goodIn_of _ (by decide +kernel)) ggX9_least_X9_isRight
set_option maxRecDepth 20000 in
theorem ggX9_least_X9_close : GoodIn wsX9_least wsX9_close := goodIn_r _ [48, 13, 36, 22, 23, 24, 3, 25, 26, 49, 50, 51, 52, 53, 54, 55, 56, 57, 58, 59, 60, 61, 62, 63] (by decide +kernel) (by decide +kernel)
set_option maxRecDepth 20000 in
theorem gX9_least_X9_close : GoodIn wsX9_least (wsV RX9 155 RX9 yX9_close wsX9_close) := goodIn_app (goodIn_of _ (by decide +kernel)) ggX9_least_X9_close
theorem dX9_least_0 : decode cX9_least 0 = .ok (.iload_n 1, 1) := by decide +kernel
theorem dX9_least_1 : decode cX9_least 1 = .ok (.invokestatic 64, 3) := by decide +kernel
theorem dX9_least_4 : decode cX9_least 4 = .ok (.ifCond .ne 13, 3) := by decide +kernel
theorem dX9_least_7 : decode cX9_least 7 = .ok (.aload_n 0, 1) := by decide +kernel
theorem dX9_least_8 : decode cX9_least 8 = .ok (.iload_n 1, 1) := by decide +kernel
theorem dX9_least_9 : decode cX9_least 9 = .ok (.iload_n 2, 1) := by decide +kernel
theorem dX9_least_10 : decode cX9_least 10 = .ok (.iconst 0, 1) := by decide +kernel
theorem dX9_least_11 : decode cX9_least 11 = .ok (.invokevirtual 152, 3) := by decide +kernel
theorem dX9_least_14 : decode cX9_least 14 = .ok (.ifCond .ne 6, 3) := by decide +kernel
theorem dX9_least_17 : decode cX9_least 17 = .ok (.bipush (-2), 2) := by decide +kernel
theorem dX9_least_19 : decode cX9_least 19 = .ok (.ireturn, 1) := by decide +kernel
theorem dX9_least_20 : decode cX9_least 20 = .ok (.aload_n 0, 1) := by decide +kernel
theorem dX9_least_21 : decode cX9_least 21 = .ok (.iload_n 1, 1) := by decide +kernel
theorem dX9_least_22 : decode cX9_least 22 = .ok (.invokevirtual 96, 3) := by decide +kernel
theorem dX9_least_25 : decode cX9_least 25 = .ok (.ifCond .eq 12, 3) := by decide +kernel
theorem dX9_least_28 : decode cX9_least 28 = .ok (.aload_n 0, 1) := by decide +kernel
theorem dX9_least_29 : decode cX9_least 29 = .ok (.iload_n 1, 1) := by decide +kernel
theorem dX9_least_30 : decode cX9_least 30 = .ok (.iload_n 2, 1) := by decide +kernel
theorem dX9_least_31 : decode cX9_least 31 = .ok (.invokevirtual 155, 3) := by decide +kernel
theorem dX9_least_34 : decode cX9_least 34 = .ok (.goto 5, 3) := by decide +kernel
theorem dX9_least_37 : decode cX9_least 37 = .ok (.bipush (-3), 2) := by decide +kernel
theorem dX9_least_39 : decode cX9_least 39 = .ok (.ireturn, 1) := by decide +kernel
set_option maxRecDepth 20000 in
theorem ggX9_coreOf_X9_n : GoodIn wsX9_coreOf wsX9_n := goodIn_r _ [7, 8, 13, 14, 15, 16, 17, 18, 19, 20, 21, 22, 23, 24, 25, 26, 27] (by decide +kernel) (by decide +kernel)
set_option maxRecDepth 20000 in
theorem gX9_coreOf_X9_n : GoodIn wsX9_coreOf (wsV RX9 74 RX9 yX9_n wsX9_n) := goodIn_app (goodIn_of _ (by decide +kernel)) ggX9_coreOf_X9_n
set_option maxRecDepth 20000 in
theorem ggX9_coreOf_X9_close : GoodIn wsX9_coreOf wsX9_close := goodIn_r _ [12, 1, 2, 3, 4, 5, 6, 7, 8, 13, 14, 15, 16, 17, 18, 19, 20, 21, 22, 23, 24, 25, 26, 27] (by decide +kernel) (by decide +kernel)
set_option maxRecDepth 20000 in
theorem gX9_coreOf_X9_close : GoodIn wsX9_coreOf (wsV RX9 155 RX9 yX9_close wsX9_close) := goodIn_app (goodIn_of _ (by decide +kernel)) ggX9_coreOf_X9_close
theorem dX9_coreOf_0 : decode cX9_coreOf 0 = .ok (.iconst 0, 1) := by decide +kernel
theorem dX9_coreOf_1 : decode cX9_coreOf 1 = .ok (.istore_n 2, 1) := by decide +kernel
theorem dX9_coreOf_2 : decode cX9_coreOf 2 = .ok (.iconst 0, 1) := by decide +kernel
theorem dX9_coreOf_3 : decode cX9_coreOf 3 = .ok (.istore_n 3, 1) := by decide +kernel
theorem dX9_coreOf_4 : decode cX9_coreOf 4 = .ok (.iload_n 3, 1) := by decide +kernel
theorem dX9_coreOf_5 : decode cX9_coreOf 5 = .ok (.aload_n 0, 1) := by decide +kernel
theorem dX9_coreOf_6 : decode cX9_coreOf 6 = .ok (.getfield 7, 3) := by decide +kernel
theorem dX9_coreOf_9 : decode cX9_coreOf 9 = .ok (.iload_n 1, 1) := by decide +kernel
theorem dX9_coreOf_10 : decode cX9_coreOf 10 = .ok (.iaload, 1) := by decide +kernel
theorem dX9_coreOf_11 : decode cX9_coreOf 11 = .ok (.if_icmp .ge 57, 3) := by decide +kernel
theorem dX9_coreOf_14 : decode cX9_coreOf 14 = .ok (.iconst 0, 1) := by decide +kernel
theorem dX9_coreOf_15 : decode cX9_coreOf 15 = .ok (.istore 4, 2) := by decide +kernel
theorem dX9_coreOf_17 : decode cX9_coreOf 17 = .ok (.iload 4, 2) := by decide +kernel
theorem dX9_coreOf_19 : decode cX9_coreOf 19 = .ok (.aload_n 0, 1) := by decide +kernel
theorem dX9_coreOf_20 : decode cX9_coreOf 20 = .ok (.getfield 7, 3) := by decide +kernel
theorem dX9_coreOf_23 : decode cX9_coreOf 23 = .ok (.iload_n 1, 1) := by decide +kernel
theorem dX9_coreOf_24 : decode cX9_coreOf 24 = .ok (.iaload, 1) := by decide +kernel
theorem dX9_coreOf_25 : decode cX9_coreOf 25 = .ok (.if_icmp .ge 37, 3) := by decide +kernel
theorem dX9_coreOf_28 : decode cX9_coreOf 28 = .ok (.iload_n 2, 1) := by decide +kernel
theorem dX9_coreOf_29 : decode cX9_coreOf 29 = .ok (.aload_n 0, 1) := by decide +kernel
theorem dX9_coreOf_30 : decode cX9_coreOf 30 = .ok (.iload_n 1, 1) := by decide +kernel
theorem dX9_coreOf_31 : decode cX9_coreOf 31 = .ok (.iload_n 3, 1) := by decide +kernel
theorem dX9_coreOf_32 : decode cX9_coreOf 32 = .ok (.aload_n 0, 1) := by decide +kernel
theorem dX9_coreOf_33 : decode cX9_coreOf 33 = .ok (.getfield 19, 3) := by decide +kernel
theorem dX9_coreOf_36 : decode cX9_coreOf 36 = .ok (.iload_n 3, 1) := by decide +kernel
theorem dX9_coreOf_37 : decode cX9_coreOf 37 = .ok (.iaload, 1) := by decide +kernel
theorem dX9_coreOf_38 : decode cX9_coreOf 38 = .ok (.iload 4, 2) := by decide +kernel
theorem dX9_coreOf_40 : decode cX9_coreOf 40 = .ok (.invokevirtual 74, 3) := by decide +kernel
theorem dX9_coreOf_43 : decode cX9_coreOf 43 = .ok (.ifCond .le 10, 3) := by decide +kernel
theorem dX9_coreOf_46 : decode cX9_coreOf 46 = .ok (.iconst 1, 1) := by decide +kernel
theorem dX9_coreOf_47 : decode cX9_coreOf 47 = .ok (.iload 4, 2) := by decide +kernel
theorem dX9_coreOf_49 : decode cX9_coreOf 49 = .ok (.ishl, 1) := by decide +kernel
theorem dX9_coreOf_50 : decode cX9_coreOf 50 = .ok (.goto 4, 3) := by decide +kernel
theorem dX9_coreOf_53 : decode cX9_coreOf 53 = .ok (.iconst 0, 1) := by decide +kernel
theorem dX9_coreOf_54 : decode cX9_coreOf 54 = .ok (.ior, 1) := by decide +kernel
theorem dX9_coreOf_55 : decode cX9_coreOf 55 = .ok (.istore_n 2, 1) := by decide +kernel
theorem dX9_coreOf_56 : decode cX9_coreOf 56 = .ok (.iinc 4 1, 3) := by decide +kernel
theorem dX9_coreOf_59 : decode cX9_coreOf 59 = .ok (.goto (-42), 3) := by decide +kernel
theorem dX9_coreOf_62 : decode cX9_coreOf 62 = .ok (.iinc 3 1, 3) := by decide +kernel
theorem dX9_coreOf_65 : decode cX9_coreOf 65 = .ok (.goto (-61), 3) := by decide +kernel
theorem dX9_coreOf_68 : decode cX9_coreOf 68 = .ok (.aload_n 0, 1) := by decide +kernel
theorem dX9_coreOf_69 : decode cX9_coreOf 69 = .ok (.iload_n 1, 1) := by decide +kernel
theorem dX9_coreOf_70 : decode cX9_coreOf 70 = .ok (.iload_n 2, 1) := by decide +kernel
theorem dX9_coreOf_71 : decode cX9_coreOf 71 = .ok (.invokevirtual 155, 3) := by decide +kernel
theorem dX9_coreOf_74 : decode cX9_coreOf 74 = .ok (.ireturn, 1) := by decide +kernel
set_option maxRecDepth 20000 in
theorem ggX9_core_X9_noTable : GoodIn wsX9_core wsX9_noTable := goodIn_r _ [4, 5, 6, 7, 3, 8] (by decide +kernel) (by decide +kernel)
set_option maxRecDepth 20000 in
theorem gX9_core_X9_noTable : GoodIn wsX9_core (va_wsS RX9 64 yX9_noTable wsX9_noTable) := goodIn_app (goodIn_of _ (by decide +kernel)) ggX9_core_X9_noTable
set_option maxRecDepth 20000 in
theorem ggX9_core_X9_isRight : GoodIn wsX9_core wsX9_isRight := goodIn_r _ [12, 13, 14, 15, 3, 16, 17, 18, 19, 20, 21, 22, 23, 24, 25, 26, 27, 28, 29, 30, 31, 32, 33, 34, 35, 36, 37, 38, 39, 40, 49, 50, 51, 52, 53, 54, 55, 56, 57, 58, 59, 60, 61, 62, 63] (by decide +kernel) (by decide +kernel)
set_option maxRecDepth 20000 in
theorem gX9_core_X9_isRight : GoodIn wsX9_core (wsV RX9 96 RX9 yX9_isRight wsX9_isRight) := goodIn_app (goodIn_of _ (by decide +kernel)) ggX9_core_X9_isRight
set_option maxRecDepth 20000 in
theorem ggX9_core_X9_coreOf : GoodIn wsX9_core wsX9_coreOf := goodIn_r _ [44, 17, 32, 18, 19, 20, 3, 21, 22, 45, 46, 47, 48, 49, 50, 51, 52, 53, 54, 55, 56, 57, 58, 59, 60, 61, 62, 63] (by decide +kernel) (by decide +kernel)
set_option maxRecDepth 20000 in
theorem gX9_core_X9_coreOf : GoodIn wsX9_core (wsV RX9 158 RX9 yX9_coreOf wsX9_coreOf) := goodIn_app (goodIn_of _ (by decide +kernel)) ggX9_core_X9_coreOf
theorem dX9_core_0 : decode cX9_core 0 = .ok (.iload_n 1, 1) := by decide +kernel
theorem dX9_core_1 : decode cX9_core 1 = .ok (.invokestatic 64, 3) := by decide +kernel
theorem dX9_core_4 : decode cX9_core 4 = .ok (.ifCond .eq 6, 3) := by decide +kernel
theorem dX9_core_7 : decode cX9_core 7 = .ok (.bipush (-2), 2) := by decide +kernel
theorem dX9_core_9 : decode cX9_core 9 = .ok (.ireturn, 1) := by decide +kernel
theorem dX9_core_10 : decode cX9_core 10 = .ok (.aload_n 0, 1) := by decide +kernel
theorem dX9_core_11 : decode cX9_core 11 = .ok (.iload_n 1, 1) := by decide +kernel
theorem dX9_core_12 : decode cX9_core 12 = .ok (.invokevirtual 96, 3) := by decide +kernel
theorem dX9_core_15 : decode cX9_core 15 = .ok (.ifCond .eq 11, 3) := by decide +kernel
theorem dX9_core_18 : decode cX9_core 18 = .ok (.aload_n 0, 1) := by decide +kernel
theorem dX9_core_19 : decode cX9_core 19 = .ok (.iload_n 1, 1) := by decide +kernel
theorem dX9_core_20 : decode cX9_core 20 = .ok (.invokevirtual 158, 3) := by decide +kernel
theorem dX9_core_23 : decode cX9_core 23 = .ok (.goto 5, 3) := by decide +kernel
theorem dX9_core_26 : decode cX9_core 26 = .ok (.bipush (-3), 2) := by decide +kernel
theorem dX9_core_28 : decode cX9_core 28 = .ok (.ireturn, 1) := by decide +kernel
set_option maxRecDepth 20000 in
theorem ggX9_grade_X9_noTable : GoodIn wsX9_grade wsX9_noTable := goodIn_r _ [5, 6, 7, 8, 4, 9] (by decide +kernel) (by decide +kernel)
set_option maxRecDepth 20000 in
theorem gX9_grade_X9_noTable : GoodIn wsX9_grade (va_wsS RX9 64 yX9_noTable wsX9_noTable) := goodIn_app (goodIn_of _ (by decide +kernel)) ggX9_grade_X9_noTable
set_option maxRecDepth 20000 in
theorem ggX9_grade_X9_isKind : GoodIn wsX9_grade wsX9_isKind := goodIn_r _ [13, 1, 7, 8, 4, 9, 53, 54, 55, 56, 57, 58, 59, 60, 61, 62, 63, 64, 65, 66, 67] (by decide +kernel) (by decide +kernel)
set_option maxRecDepth 20000 in
theorem gX9_grade_X9_isKind : GoodIn wsX9_grade (wsV RX9 68 RX9 yX9_isKind wsX9_isKind) := goodIn_app (goodIn_of _ (by decide +kernel)) ggX9_grade_X9_isKind
set_option maxRecDepth 20000 in
theorem ggX9_grade_X9_isRight : GoodIn wsX9_grade wsX9_isRight := goodIn_r _ [17, 18, 19, 20, 4, 21, 1, 22, 23, 24, 25, 26, 27, 28, 29, 30, 31, 32, 33, 34, 35, 36, 37, 38, 39, 40, 41, 42, 43, 44, 53, 54, 55, 56, 57, 58, 59, 60, 61, 62, 63, 64, 65, 66, 67] (by decide +kernel) (by decide +kernel)
set_option maxRecDepth 20000 in
theorem gX9_grade_X9_isRight : GoodIn wsX9_grade (wsV RX9 96 RX9 yX9_isRight wsX9_isRight) := goodIn_app (goodIn_of _ (by decide +kernel)) ggX9_grade_X9_isRight
set_option maxRecDepth 20000 in
theorem ggX9_grade_X9_coreOf : GoodIn wsX9_grade wsX9_coreOf := goodIn_r _ [48, 1, 36, 22, 23, 24, 4, 25, 26, 49, 50, 51, 52, 53, 54, 55, 56, 57, 58, 59, 60, 61, 62, 63, 64, 65, 66, 67] (by decide +kernel) (by decide +kernel)
set_option maxRecDepth 20000 in
theorem gX9_grade_X9_coreOf : GoodIn wsX9_grade (wsV RX9 158 RX9 yX9_coreOf wsX9_coreOf) := goodIn_app (goodIn_of _ (by decide +kernel)) ggX9_grade_X9_coreOf
set_option maxRecDepth 20000 in
theorem ggX9_grade_X9_n : GoodIn wsX9_grade wsX9_n := goodIn_r _ [25, 26, 53, 54, 55, 56, 57, 58, 59, 60, 61, 62, 63, 64, 65, 66, 67] (by decide +kernel) (by decide +kernel)
set_option maxRecDepth 20000 in
theorem gX9_grade_X9_n : GoodIn wsX9_grade (wsV RX9 74 RX9 yX9_n wsX9_n) := goodIn_app (goodIn_of _ (by decide +kernel)) ggX9_grade_X9_n
theorem dX9_grade_0 : decode cX9_grade 0 = .ok (.iload_n 1, 1) := by decide +kernel
theorem dX9_grade_1 : decode cX9_grade 1 = .ok (.invokestatic 64, 3) := by decide +kernel
theorem dX9_grade_4 : decode cX9_grade 4 = .ok (.ifCond .ne 12, 3) := by decide +kernel
theorem dX9_grade_7 : decode cX9_grade 7 = .ok (.aload_n 0, 1) := by decide +kernel
theorem dX9_grade_8 : decode cX9_grade 8 = .ok (.iload_n 1, 1) := by decide +kernel
theorem dX9_grade_9 : decode cX9_grade 9 = .ok (.iload_n 2, 1) := by decide +kernel
theorem dX9_grade_10 : decode cX9_grade 10 = .ok (.invokevirtual 68, 3) := by decide +kernel
theorem dX9_grade_13 : decode cX9_grade 13 = .ok (.ifCond .ne 6, 3) := by decide +kernel
theorem dX9_grade_16 : decode cX9_grade 16 = .ok (.bipush (-2), 2) := by decide +kernel
theorem dX9_grade_18 : decode cX9_grade 18 = .ok (.ireturn, 1) := by decide +kernel
theorem dX9_grade_19 : decode cX9_grade 19 = .ok (.aload_n 0, 1) := by decide +kernel
theorem dX9_grade_20 : decode cX9_grade 20 = .ok (.iload_n 1, 1) := by decide +kernel
theorem dX9_grade_21 : decode cX9_grade 21 = .ok (.invokevirtual 96, 3) := by decide +kernel
theorem dX9_grade_24 : decode cX9_grade 24 = .ok (.ifCond .ne 6, 3) := by decide +kernel
theorem dX9_grade_27 : decode cX9_grade 27 = .ok (.bipush (-3), 2) := by decide +kernel
theorem dX9_grade_29 : decode cX9_grade 29 = .ok (.ireturn, 1) := by decide +kernel
theorem dX9_grade_30 : decode cX9_grade 30 = .ok (.aload_n 0, 1) := by decide +kernel
theorem dX9_grade_31 : decode cX9_grade 31 = .ok (.iload_n 1, 1) := by decide +kernel
theorem dX9_grade_32 : decode cX9_grade 32 = .ok (.invokevirtual 158, 3) := by decide +kernel
theorem dX9_grade_35 : decode cX9_grade 35 = .ok (.istore_n 3, 1) := by decide +kernel
theorem dX9_grade_36 : decode cX9_grade 36 = .ok (.iload_n 2, 1) := by decide +kernel
theorem dX9_grade_37 : decode cX9_grade 37 = .ok (.istore 4, 2) := by decide +kernel
theorem dX9_grade_39 : decode cX9_grade 39 = .ok (.aload_n 0, 1) := by decide +kernel
theorem dX9_grade_40 : decode cX9_grade 40 = .ok (.getfield 7, 3) := by decide +kernel
theorem dX9_grade_43 : decode cX9_grade 43 = .ok (.iload_n 1, 1) := by decide +kernel
theorem dX9_grade_44 : decode cX9_grade 44 = .ok (.iaload, 1) := by decide +kernel
theorem dX9_grade_45 : decode cX9_grade 45 = .ok (.iconst 1, 1) := by decide +kernel
theorem dX9_grade_46 : decode cX9_grade 46 = .ok (.isub, 1) := by decide +kernel
theorem dX9_grade_47 : decode cX9_grade 47 = .ok (.istore 5, 2) := by decide +kernel
theorem dX9_grade_49 : decode cX9_grade 49 = .ok (.iload 5, 2) := by decide +kernel
theorem dX9_grade_51 : decode cX9_grade 51 = .ok (.ifCond .lt 81, 3) := by decide +kernel
theorem dX9_grade_54 : decode cX9_grade 54 = .ok (.iconst 0, 1) := by decide +kernel
theorem dX9_grade_55 : decode cX9_grade 55 = .ok (.istore 6, 2) := by decide +kernel
theorem dX9_grade_57 : decode cX9_grade 57 = .ok (.iconst 0, 1) := by decide +kernel
theorem dX9_grade_58 : decode cX9_grade 58 = .ok (.istore 7, 2) := by decide +kernel
theorem dX9_grade_60 : decode cX9_grade 60 = .ok (.iload 7, 2) := by decide +kernel
theorem dX9_grade_62 : decode cX9_grade 62 = .ok (.aload_n 0, 1) := by decide +kernel
theorem dX9_grade_63 : decode cX9_grade 63 = .ok (.getfield 7, 3) := by decide +kernel
theorem dX9_grade_66 : decode cX9_grade 66 = .ok (.iload_n 1, 1) := by decide +kernel
theorem dX9_grade_67 : decode cX9_grade 67 = .ok (.iaload, 1) := by decide +kernel
theorem dX9_grade_68 : decode cX9_grade 68 = .ok (.if_icmp .ge 44, 3) := by decide +kernel
theorem dX9_grade_71 : decode cX9_grade 71 = .ok (.iload 6, 2) := by decide +kernel
theorem dX9_grade_73 : decode cX9_grade 73 = .ok (.ifCond .ne 26, 3) := by decide +kernel
theorem dX9_grade_76 : decode cX9_grade 76 = .ok (.iload_n 3, 1) := by decide +kernel
theorem dX9_grade_77 : decode cX9_grade 77 = .ok (.iload 7, 2) := by decide +kernel
theorem dX9_grade_79 : decode cX9_grade 79 = .ok (.ishr, 1) := by decide +kernel
theorem dX9_grade_80 : decode cX9_grade 80 = .ok (.iconst 1, 1) := by decide +kernel
theorem dX9_grade_81 : decode cX9_grade 81 = .ok (.iand, 1) := by decide +kernel
theorem dX9_grade_82 : decode cX9_grade 82 = .ok (.iconst 1, 1) := by decide +kernel
theorem dX9_grade_83 : decode cX9_grade 83 = .ok (.if_icmp .ne 20, 3) := by decide +kernel
theorem dX9_grade_86 : decode cX9_grade 86 = .ok (.aload_n 0, 1) := by decide +kernel
theorem dX9_grade_87 : decode cX9_grade 87 = .ok (.iload_n 1, 1) := by decide +kernel
theorem dX9_grade_88 : decode cX9_grade 88 = .ok (.iload_n 2, 1) := by decide +kernel
theorem dX9_grade_89 : decode cX9_grade 89 = .ok (.iload 7, 2) := by decide +kernel
theorem dX9_grade_91 : decode cX9_grade 91 = .ok (.iload 5, 2) := by decide +kernel
theorem dX9_grade_93 : decode cX9_grade 93 = .ok (.invokevirtual 74, 3) := by decide +kernel
theorem dX9_grade_96 : decode cX9_grade 96 = .ok (.ifCond .le 7, 3) := by decide +kernel
theorem dX9_grade_99 : decode cX9_grade 99 = .ok (.iconst 1, 1) := by decide +kernel
theorem dX9_grade_100 : decode cX9_grade 100 = .ok (.goto 4, 3) := by decide +kernel
theorem dX9_grade_103 : decode cX9_grade 103 = .ok (.iconst 0, 1) := by decide +kernel
theorem dX9_grade_104 : decode cX9_grade 104 = .ok (.istore 6, 2) := by decide +kernel
theorem dX9_grade_106 : decode cX9_grade 106 = .ok (.iinc 7 1, 3) := by decide +kernel
theorem dX9_grade_109 : decode cX9_grade 109 = .ok (.goto (-49), 3) := by decide +kernel
theorem dX9_grade_112 : decode cX9_grade 112 = .ok (.iload 6, 2) := by decide +kernel
theorem dX9_grade_114 : decode cX9_grade 114 = .ok (.ifCond .eq 8, 3) := by decide +kernel
theorem dX9_grade_117 : decode cX9_grade 117 = .ok (.iload 5, 2) := by decide +kernel
theorem dX9_grade_119 : decode cX9_grade 119 = .ok (.goto 5, 3) := by decide +kernel
theorem dX9_grade_122 : decode cX9_grade 122 = .ok (.iload 4, 2) := by decide +kernel
theorem dX9_grade_124 : decode cX9_grade 124 = .ok (.istore 4, 2) := by decide +kernel
theorem dX9_grade_126 : decode cX9_grade 126 = .ok (.iinc 5 (-1), 3) := by decide +kernel
theorem dX9_grade_129 : decode cX9_grade 129 = .ok (.goto (-80), 3) := by decide +kernel
theorem dX9_grade_132 : decode cX9_grade 132 = .ok (.iload 4, 2) := by decide +kernel
theorem dX9_grade_134 : decode cX9_grade 134 = .ok (.ireturn, 1) := by decide +kernel
set_option maxRecDepth 20000 in
theorem ggX9_within_X9_noTable : GoodIn wsX9_within wsX9_noTable := goodIn_r _ [5, 6, 7, 8, 4, 9] (by decide +kernel) (by decide +kernel)
set_option maxRecDepth 20000 in
theorem gX9_within_X9_noTable : GoodIn wsX9_within (va_wsS RX9 64 yX9_noTable wsX9_noTable) := goodIn_app (goodIn_of _ (by decide +kernel)) ggX9_within_X9_noTable
set_option maxRecDepth 20000 in
theorem ggX9_within_X9_isRight : GoodIn wsX9_within wsX9_isRight := goodIn_r _ [13, 14, 15, 16, 4, 17, 1, 18, 19, 20, 21, 22, 23, 24, 25, 26, 27, 28, 29, 30, 31, 32, 33, 34, 35, 36, 37, 38, 39, 40, 45, 46, 47, 48, 49, 50, 51, 52, 53, 54, 55, 56, 57, 58, 59] (by decide +kernel) (by decide +kernel)
set_option maxRecDepth 20000 in
theorem gX9_within_X9_isRight : GoodIn wsX9_within (wsV RX9 96 RX9 yX9_isRight wsX9_isRight) := goodIn_app (goodIn_of _ (by decide +kernel)) ggX9_within_X9_isRight
set_option maxRecDepth 20000 in
theorem ggX9_within_X9_close : GoodIn wsX9_within wsX9_close := goodIn_r _ [44, 1, 32, 18, 19, 20, 4, 21, 22, 45, 46, 47, 48, 49, 50, 51, 52, 53, 54, 55, 56, 57, 58, 59] (by decide +kernel) (by decide +kernel)
set_option maxRecDepth 20000 in
theorem gX9_within_X9_close : GoodIn wsX9_within (wsV RX9 155 RX9 yX9_close wsX9_close) := goodIn_app (goodIn_of _ (by decide +kernel)) ggX9_within_X9_close
theorem dX9_within_0 : decode cX9_within 0 = .ok (.iload_n 1, 1) := by decide +kernel
theorem dX9_within_1 : decode cX9_within 1 = .ok (.invokestatic 64, 3) := by decide +kernel
theorem dX9_within_4 : decode cX9_within 4 = .ok (.ifCond .eq 6, 3) := by decide +kernel
theorem dX9_within_7 : decode cX9_within 7 = .ok (.bipush (-2), 2) := by decide +kernel
theorem dX9_within_9 : decode cX9_within 9 = .ok (.ireturn, 1) := by decide +kernel
theorem dX9_within_10 : decode cX9_within 10 = .ok (.aload_n 0, 1) := by decide +kernel
theorem dX9_within_11 : decode cX9_within 11 = .ok (.iload_n 1, 1) := by decide +kernel
theorem dX9_within_12 : decode cX9_within 12 = .ok (.invokevirtual 96, 3) := by decide +kernel
theorem dX9_within_15 : decode cX9_within 15 = .ok (.ifCond .ne 6, 3) := by decide +kernel
theorem dX9_within_18 : decode cX9_within 18 = .ok (.bipush (-3), 2) := by decide +kernel
theorem dX9_within_20 : decode cX9_within 20 = .ok (.ireturn, 1) := by decide +kernel
theorem dX9_within_21 : decode cX9_within 21 = .ok (.iconst 0, 1) := by decide +kernel
theorem dX9_within_22 : decode cX9_within 22 = .ok (.istore_n 2, 1) := by decide +kernel
theorem dX9_within_23 : decode cX9_within 23 = .ok (.iconst 1, 1) := by decide +kernel
theorem dX9_within_24 : decode cX9_within 24 = .ok (.istore_n 3, 1) := by decide +kernel
theorem dX9_within_25 : decode cX9_within 25 = .ok (.iload_n 3, 1) := by decide +kernel
theorem dX9_within_26 : decode cX9_within 26 = .ok (.iconst 1, 1) := by decide +kernel
theorem dX9_within_27 : decode cX9_within 27 = .ok (.aload_n 0, 1) := by decide +kernel
theorem dX9_within_28 : decode cX9_within 28 = .ok (.getfield 7, 3) := by decide +kernel
theorem dX9_within_31 : decode cX9_within 31 = .ok (.iload_n 1, 1) := by decide +kernel
theorem dX9_within_32 : decode cX9_within 32 = .ok (.iaload, 1) := by decide +kernel
theorem dX9_within_33 : decode cX9_within 33 = .ok (.ishl, 1) := by decide +kernel
theorem dX9_within_34 : decode cX9_within 34 = .ok (.if_icmp .ge 27, 3) := by decide +kernel
theorem dX9_within_37 : decode cX9_within 37 = .ok (.iload_n 2, 1) := by decide +kernel
theorem dX9_within_38 : decode cX9_within 38 = .ok (.aload_n 0, 1) := by decide +kernel
theorem dX9_within_39 : decode cX9_within 39 = .ok (.iload_n 1, 1) := by decide +kernel
theorem dX9_within_40 : decode cX9_within 40 = .ok (.iload_n 3, 1) := by decide +kernel
theorem dX9_within_41 : decode cX9_within 41 = .ok (.invokevirtual 155, 3) := by decide +kernel
theorem dX9_within_44 : decode cX9_within 44 = .ok (.iload_n 3, 1) := by decide +kernel
theorem dX9_within_45 : decode cX9_within 45 = .ok (.if_icmp .ne 7, 3) := by decide +kernel
theorem dX9_within_48 : decode cX9_within 48 = .ok (.iconst 1, 1) := by decide +kernel
theorem dX9_within_49 : decode cX9_within 49 = .ok (.goto 4, 3) := by decide +kernel
theorem dX9_within_52 : decode cX9_within 52 = .ok (.iconst 0, 1) := by decide +kernel
theorem dX9_within_53 : decode cX9_within 53 = .ok (.iadd, 1) := by decide +kernel
theorem dX9_within_54 : decode cX9_within 54 = .ok (.istore_n 2, 1) := by decide +kernel
theorem dX9_within_55 : decode cX9_within 55 = .ok (.iinc 3 1, 3) := by decide +kernel
theorem dX9_within_58 : decode cX9_within 58 = .ok (.goto (-33), 3) := by decide +kernel
theorem dX9_within_61 : decode cX9_within 61 = .ok (.iload_n 2, 1) := by decide +kernel
theorem dX9_within_62 : decode cX9_within 62 = .ok (.ireturn, 1) := by decide +kernel
theorem dX9_layNaming_0 : decode cX9_layNaming 0 = .ok (.iload_n 2, 1) := by decide +kernel
theorem dX9_layNaming_1 : decode cX9_layNaming 1 = .ok (.istore_n 3, 1) := by decide +kernel
theorem dX9_layNaming_2 : decode cX9_layNaming 2 = .ok (.iconst 1, 1) := by decide +kernel
theorem dX9_layNaming_3 : decode cX9_layNaming 3 = .ok (.istore 4, 2) := by decide +kernel
theorem dX9_layNaming_5 : decode cX9_layNaming 5 = .ok (.aload_n 0, 1) := by decide +kernel
theorem dX9_layNaming_6 : decode cX9_layNaming 6 = .ok (.getfield 38, 3) := by decide +kernel
theorem dX9_layNaming_9 : decode cX9_layNaming 9 = .ok (.iconst 0, 1) := by decide +kernel
theorem dX9_layNaming_10 : decode cX9_layNaming 10 = .ok (.iconst 0, 1) := by decide +kernel
theorem dX9_layNaming_11 : decode cX9_layNaming 11 = .ok (.iastore, 1) := by decide +kernel
theorem dX9_layNaming_12 : decode cX9_layNaming 12 = .ok (.iconst 1, 1) := by decide +kernel
theorem dX9_layNaming_13 : decode cX9_layNaming 13 = .ok (.istore 5, 2) := by decide +kernel
theorem dX9_layNaming_15 : decode cX9_layNaming 15 = .ok (.iload 5, 2) := by decide +kernel
theorem dX9_layNaming_17 : decode cX9_layNaming 17 = .ok (.iload_n 1, 1) := by decide +kernel
theorem dX9_layNaming_18 : decode cX9_layNaming 18 = .ok (.if_icmp .ge 37, 3) := by decide +kernel
theorem dX9_layNaming_21 : decode cX9_layNaming 21 = .ok (.aload_n 0, 1) := by decide +kernel
theorem dX9_layNaming_22 : decode cX9_layNaming 22 = .ok (.getfield 38, 3) := by decide +kernel
theorem dX9_layNaming_25 : decode cX9_layNaming 25 = .ok (.iload 5, 2) := by decide +kernel
theorem dX9_layNaming_27 : decode cX9_layNaming 27 = .ok (.iload_n 3, 1) := by decide +kernel
theorem dX9_layNaming_28 : decode cX9_layNaming 28 = .ok (.iload_n 1, 1) := by decide +kernel
theorem dX9_layNaming_29 : decode cX9_layNaming 29 = .ok (.irem, 1) := by decide +kernel
theorem dX9_layNaming_30 : decode cX9_layNaming 30 = .ok (.iastore, 1) := by decide +kernel
theorem dX9_layNaming_31 : decode cX9_layNaming 31 = .ok (.iload_n 3, 1) := by decide +kernel
theorem dX9_layNaming_32 : decode cX9_layNaming 32 = .ok (.iload_n 1, 1) := by decide +kernel
theorem dX9_layNaming_33 : decode cX9_layNaming 33 = .ok (.idiv, 1) := by decide +kernel
theorem dX9_layNaming_34 : decode cX9_layNaming 34 = .ok (.istore_n 3, 1) := by decide +kernel
theorem dX9_layNaming_35 : decode cX9_layNaming 35 = .ok (.iload 4, 2) := by decide +kernel
theorem dX9_layNaming_37 : decode cX9_layNaming 37 = .ok (.iconst 1, 1) := by decide +kernel
theorem dX9_layNaming_38 : decode cX9_layNaming 38 = .ok (.aload_n 0, 1) := by decide +kernel
theorem dX9_layNaming_39 : decode cX9_layNaming 39 = .ok (.getfield 38, 3) := by decide +kernel
theorem dX9_layNaming_42 : decode cX9_layNaming 42 = .ok (.iload 5, 2) := by decide +kernel
theorem dX9_layNaming_44 : decode cX9_layNaming 44 = .ok (.iaload, 1) := by decide +kernel
theorem dX9_layNaming_45 : decode cX9_layNaming 45 = .ok (.ishl, 1) := by decide +kernel
theorem dX9_layNaming_46 : decode cX9_layNaming 46 = .ok (.ior, 1) := by decide +kernel
theorem dX9_layNaming_47 : decode cX9_layNaming 47 = .ok (.istore 4, 2) := by decide +kernel
theorem dX9_layNaming_49 : decode cX9_layNaming 49 = .ok (.iinc 5 1, 3) := by decide +kernel
theorem dX9_layNaming_52 : decode cX9_layNaming 52 = .ok (.goto (-37), 3) := by decide +kernel
theorem dX9_layNaming_55 : decode cX9_layNaming 55 = .ok (.iload 4, 2) := by decide +kernel
theorem dX9_layNaming_57 : decode cX9_layNaming 57 = .ok (.iconst 1, 1) := by decide +kernel
theorem dX9_layNaming_58 : decode cX9_layNaming 58 = .ok (.iload_n 1, 1) := by decide +kernel
theorem dX9_layNaming_59 : decode cX9_layNaming 59 = .ok (.ishl, 1) := by decide +kernel
theorem dX9_layNaming_60 : decode cX9_layNaming 60 = .ok (.iconst 1, 1) := by decide +kernel
theorem dX9_layNaming_61 : decode cX9_layNaming 61 = .ok (.isub, 1) := by decide +kernel
theorem dX9_layNaming_62 : decode cX9_layNaming 62 = .ok (.if_icmp .ne 7, 3) := by decide +kernel
theorem dX9_layNaming_65 : decode cX9_layNaming 65 = .ok (.iconst 1, 1) := by decide +kernel
theorem dX9_layNaming_66 : decode cX9_layNaming 66 = .ok (.goto 4, 3) := by decide +kernel
theorem dX9_layNaming_69 : decode cX9_layNaming 69 = .ok (.iconst 0, 1) := by decide +kernel
theorem dX9_layNaming_70 : decode cX9_layNaming 70 = .ok (.ireturn, 1) := by decide +kernel
set_option maxRecDepth 20000 in
theorem ggX9_isLike_X9_n : GoodIn wsX9_isLike wsX9_n := goodIn_r _ [7, 8, 9, 10, 11, 12, 13, 14, 15, 16, 17, 18, 19, 20, 21, 22, 23] (by decide +kernel) (by decide +kernel)
set_option maxRecDepth 20000 in
theorem gX9_isLike_X9_n : GoodIn wsX9_isLike (wsV RX9 74 RX9 yX9_n wsX9_n) := goodIn_app (goodIn_of _ (by decide +kernel)) ggX9_isLike_X9_n
theorem dX9_isLike_0 : decode cX9_isLike 0 = .ok (.iconst 1, 1) := by decide +kernel
theorem dX9_isLike_1 : decode cX9_isLike 1 = .ok (.istore_n 3, 1) := by decide +kernel
theorem dX9_isLike_2 : decode cX9_isLike 2 = .ok (.iconst 0, 1) := by decide +kernel
theorem dX9_isLike_3 : decode cX9_isLike 3 = .ok (.istore 4, 2) := by decide +kernel
theorem dX9_isLike_5 : decode cX9_isLike 5 = .ok (.iload 4, 2) := by decide +kernel
theorem dX9_isLike_7 : decode cX9_isLike 7 = .ok (.aload_n 0, 1) := by decide +kernel
theorem dX9_isLike_8 : decode cX9_isLike 8 = .ok (.getfield 7, 3) := by decide +kernel
theorem dX9_isLike_11 : decode cX9_isLike 11 = .ok (.iload_n 1, 1) := by decide +kernel
theorem dX9_isLike_12 : decode cX9_isLike 12 = .ok (.iaload, 1) := by decide +kernel
theorem dX9_isLike_13 : decode cX9_isLike 13 = .ok (.if_icmp .ge 99, 3) := by decide +kernel
theorem dX9_isLike_16 : decode cX9_isLike 16 = .ok (.iconst 0, 1) := by decide +kernel
theorem dX9_isLike_17 : decode cX9_isLike 17 = .ok (.istore 5, 2) := by decide +kernel
theorem dX9_isLike_19 : decode cX9_isLike 19 = .ok (.iload 5, 2) := by decide +kernel
theorem dX9_isLike_21 : decode cX9_isLike 21 = .ok (.aload_n 0, 1) := by decide +kernel
theorem dX9_isLike_22 : decode cX9_isLike 22 = .ok (.getfield 7, 3) := by decide +kernel
theorem dX9_isLike_25 : decode cX9_isLike 25 = .ok (.iload_n 1, 1) := by decide +kernel
theorem dX9_isLike_26 : decode cX9_isLike 26 = .ok (.iaload, 1) := by decide +kernel
theorem dX9_isLike_27 : decode cX9_isLike 27 = .ok (.if_icmp .ge 79, 3) := by decide +kernel
theorem dX9_isLike_30 : decode cX9_isLike 30 = .ok (.iconst 0, 1) := by decide +kernel
theorem dX9_isLike_31 : decode cX9_isLike 31 = .ok (.istore 6, 2) := by decide +kernel
theorem dX9_isLike_33 : decode cX9_isLike 33 = .ok (.iload 6, 2) := by decide +kernel
theorem dX9_isLike_35 : decode cX9_isLike 35 = .ok (.aload_n 0, 1) := by decide +kernel
theorem dX9_isLike_36 : decode cX9_isLike 36 = .ok (.getfield 7, 3) := by decide +kernel
theorem dX9_isLike_39 : decode cX9_isLike 39 = .ok (.iload_n 1, 1) := by decide +kernel
theorem dX9_isLike_40 : decode cX9_isLike 40 = .ok (.iaload, 1) := by decide +kernel
theorem dX9_isLike_41 : decode cX9_isLike 41 = .ok (.if_icmp .ge 59, 3) := by decide +kernel
theorem dX9_isLike_44 : decode cX9_isLike 44 = .ok (.iload_n 3, 1) := by decide +kernel
theorem dX9_isLike_45 : decode cX9_isLike 45 = .ok (.ifCond .eq 47, 3) := by decide +kernel
theorem dX9_isLike_48 : decode cX9_isLike 48 = .ok (.aload_n 0, 1) := by decide +kernel
theorem dX9_isLike_49 : decode cX9_isLike 49 = .ok (.iload_n 1, 1) := by decide +kernel
theorem dX9_isLike_50 : decode cX9_isLike 50 = .ok (.iload 4, 2) := by decide +kernel
theorem dX9_isLike_52 : decode cX9_isLike 52 = .ok (.iload 5, 2) := by decide +kernel
theorem dX9_isLike_54 : decode cX9_isLike 54 = .ok (.iload 6, 2) := by decide +kernel
theorem dX9_isLike_56 : decode cX9_isLike 56 = .ok (.invokevirtual 74, 3) := by decide +kernel
theorem dX9_isLike_59 : decode cX9_isLike 59 = .ok (.aload_n 0, 1) := by decide +kernel
theorem dX9_isLike_60 : decode cX9_isLike 60 = .ok (.iload_n 2, 1) := by decide +kernel
theorem dX9_isLike_61 : decode cX9_isLike 61 = .ok (.aload_n 0, 1) := by decide +kernel
theorem dX9_isLike_62 : decode cX9_isLike 62 = .ok (.getfield 38, 3) := by decide +kernel
theorem dX9_isLike_65 : decode cX9_isLike 65 = .ok (.iload 4, 2) := by decide +kernel
theorem dX9_isLike_67 : decode cX9_isLike 67 = .ok (.iaload, 1) := by decide +kernel
theorem dX9_isLike_68 : decode cX9_isLike 68 = .ok (.aload_n 0, 1) := by decide +kernel
theorem dX9_isLike_69 : decode cX9_isLike 69 = .ok (.getfield 38, 3) := by decide +kernel
theorem dX9_isLike_72 : decode cX9_isLike 72 = .ok (.iload 5, 2) := by decide +kernel
theorem dX9_isLike_74 : decode cX9_isLike 74 = .ok (.iaload, 1) := by decide +kernel
theorem dX9_isLike_75 : decode cX9_isLike 75 = .ok (.aload_n 0, 1) := by decide +kernel
theorem dX9_isLike_76 : decode cX9_isLike 76 = .ok (.getfield 38, 3) := by decide +kernel
theorem dX9_isLike_79 : decode cX9_isLike 79 = .ok (.iload 6, 2) := by decide +kernel
theorem dX9_isLike_81 : decode cX9_isLike 81 = .ok (.iaload, 1) := by decide +kernel
theorem dX9_isLike_82 : decode cX9_isLike 82 = .ok (.invokevirtual 74, 3) := by decide +kernel
theorem dX9_isLike_85 : decode cX9_isLike 85 = .ok (.if_icmp .ne 7, 3) := by decide +kernel
theorem dX9_isLike_88 : decode cX9_isLike 88 = .ok (.iconst 1, 1) := by decide +kernel
theorem dX9_isLike_89 : decode cX9_isLike 89 = .ok (.goto 4, 3) := by decide +kernel
theorem dX9_isLike_92 : decode cX9_isLike 92 = .ok (.iconst 0, 1) := by decide +kernel
theorem dX9_isLike_93 : decode cX9_isLike 93 = .ok (.istore_n 3, 1) := by decide +kernel
theorem dX9_isLike_94 : decode cX9_isLike 94 = .ok (.iinc 6 1, 3) := by decide +kernel
theorem dX9_isLike_97 : decode cX9_isLike 97 = .ok (.goto (-64), 3) := by decide +kernel
theorem dX9_isLike_100 : decode cX9_isLike 100 = .ok (.iinc 5 1, 3) := by decide +kernel
theorem dX9_isLike_103 : decode cX9_isLike 103 = .ok (.goto (-84), 3) := by decide +kernel
theorem dX9_isLike_106 : decode cX9_isLike 106 = .ok (.iinc 4 1, 3) := by decide +kernel
theorem dX9_isLike_109 : decode cX9_isLike 109 = .ok (.goto (-104), 3) := by decide +kernel
theorem dX9_isLike_112 : decode cX9_isLike 112 = .ok (.iload_n 3, 1) := by decide +kernel
theorem dX9_isLike_113 : decode cX9_isLike 113 = .ok (.ireturn, 1) := by decide +kernel
set_option maxRecDepth 20000 in
theorem ggX9_like_X9_noTable : GoodIn wsX9_like wsX9_noTable := goodIn_r _ [5, 6, 7, 8, 4, 9] (by decide +kernel) (by decide +kernel)
set_option maxRecDepth 20000 in
theorem gX9_like_X9_noTable : GoodIn wsX9_like (va_wsS RX9 64 yX9_noTable wsX9_noTable) := goodIn_app (goodIn_of _ (by decide +kernel)) ggX9_like_X9_noTable
set_option maxRecDepth 20000 in
theorem ggX9_like_X9_layNaming : GoodIn wsX9_like wsX9_layNaming := goodIn_r _ [13, 14, 24, 25, 26, 27, 28, 29, 30, 31, 32, 33, 34, 35, 36, 37, 38] (by decide +kernel) (by decide +kernel)
set_option maxRecDepth 20000 in
theorem gX9_like_X9_layNaming : GoodIn wsX9_like (wsV RX9 162 RX9 yX9_layNaming wsX9_layNaming) := goodIn_app (goodIn_of _ (by decide +kernel)) ggX9_like_X9_layNaming
set_option maxRecDepth 20000 in
theorem ggX9_like_X9_isLike : GoodIn wsX9_like wsX9_isLike := goodIn_r _ [18, 1, 14, 19, 20, 21, 4, 22, 23, 24, 25, 26, 27, 28, 29, 30, 31, 32, 33, 34, 35, 36, 37, 38] (by decide +kernel) (by decide +kernel)
set_option maxRecDepth 20000 in
theorem gX9_like_X9_isLike : GoodIn wsX9_like (wsV RX9 165 RX9 yX9_isLike wsX9_isLike) := goodIn_app (goodIn_of _ (by decide +kernel)) ggX9_like_X9_isLike
theorem dX9_like_0 : decode cX9_like 0 = .ok (.iload_n 1, 1) := by decide +kernel
theorem dX9_like_1 : decode cX9_like 1 = .ok (.invokestatic 64, 3) := by decide +kernel
theorem dX9_like_4 : decode cX9_like 4 = .ok (.ifCond .ne 10, 3) := by decide +kernel
theorem dX9_like_7 : decode cX9_like 7 = .ok (.iload_n 2, 1) := by decide +kernel
theorem dX9_like_8 : decode cX9_like 8 = .ok (.invokestatic 64, 3) := by decide +kernel
theorem dX9_like_11 : decode cX9_like 11 = .ok (.ifCond .eq 6, 3) := by decide +kernel
end
section
theorem dX9_like_14 : decode cX9_like 14 = .ok (.bipush (-2), 2) := by decide +kernel
theorem dX9_like_16 : decode cX9_like 16 = .ok (.ireturn, 1) := by decide +kernel
theorem dX9_like_17 : decode cX9_like 17 = .ok (.aload_n 0, 1) := by decide +kernel
theorem dX9_like_18 : decode cX9_like 18 = .ok (.getfield 7, 3) := by decide +kernel
theorem dX9_like_21 : decode cX9_like 21 = .ok (.iload_n 1, 1) := by decide +kernel
theorem dX9_like_22 : decode cX9_like 22 = .ok (.iaload, 1) := by decide +kernel
theorem dX9_like_23 : decode cX9_like 23 = .ok (.istore_n 3, 1) := by decide +kernel
theorem dX9_like_24 : decode cX9_like 24 = .ok (.iload_n 3, 1) := by decide +kernel
theorem dX9_like_25 : decode cX9_like 25 = .ok (.aload_n 0, 1) := by decide +kernel
theorem dX9_like_26 : decode cX9_like 26 = .ok (.getfield 7, 3) := by decide +kernel
theorem dX9_like_29 : decode cX9_like 29 = .ok (.iload_n 2, 1) := by decide +kernel
theorem dX9_like_30 : decode cX9_like 30 = .ok (.iaload, 1) := by decide +kernel
theorem dX9_like_31 : decode cX9_like 31 = .ok (.if_icmp .eq 5, 3) := by decide +kernel
theorem dX9_like_34 : decode cX9_like 34 = .ok (.iconst 0, 1) := by decide +kernel
theorem dX9_like_35 : decode cX9_like 35 = .ok (.ireturn, 1) := by decide +kernel
theorem dX9_like_36 : decode cX9_like 36 = .ok (.iconst 1, 1) := by decide +kernel
theorem dX9_like_37 : decode cX9_like 37 = .ok (.istore 4, 2) := by decide +kernel
theorem dX9_like_39 : decode cX9_like 39 = .ok (.iconst 1, 1) := by decide +kernel
theorem dX9_like_40 : decode cX9_like 40 = .ok (.istore 5, 2) := by decide +kernel
theorem dX9_like_42 : decode cX9_like 42 = .ok (.iload 5, 2) := by decide +kernel
theorem dX9_like_44 : decode cX9_like 44 = .ok (.iload_n 3, 1) := by decide +kernel
theorem dX9_like_45 : decode cX9_like 45 = .ok (.if_icmp .ge 15, 3) := by decide +kernel
theorem dX9_like_48 : decode cX9_like 48 = .ok (.iload 4, 2) := by decide +kernel
theorem dX9_like_50 : decode cX9_like 50 = .ok (.iload_n 3, 1) := by decide +kernel
theorem dX9_like_51 : decode cX9_like 51 = .ok (.imul, 1) := by decide +kernel
theorem dX9_like_52 : decode cX9_like 52 = .ok (.istore 4, 2) := by decide +kernel
theorem dX9_like_54 : decode cX9_like 54 = .ok (.iinc 5 1, 3) := by decide +kernel
theorem dX9_like_57 : decode cX9_like 57 = .ok (.goto (-15), 3) := by decide +kernel
theorem dX9_like_60 : decode cX9_like 60 = .ok (.iconst 0, 1) := by decide +kernel
theorem dX9_like_61 : decode cX9_like 61 = .ok (.istore 5, 2) := by decide +kernel
theorem dX9_like_63 : decode cX9_like 63 = .ok (.iconst 0, 1) := by decide +kernel
theorem dX9_like_64 : decode cX9_like 64 = .ok (.istore 6, 2) := by decide +kernel
theorem dX9_like_66 : decode cX9_like 66 = .ok (.iload 6, 2) := by decide +kernel
theorem dX9_like_68 : decode cX9_like 68 = .ok (.iload 4, 2) := by decide +kernel
theorem dX9_like_70 : decode cX9_like 70 = .ok (.if_icmp .ge 38, 3) := by decide +kernel
theorem dX9_like_73 : decode cX9_like 73 = .ok (.iload 5, 2) := by decide +kernel
theorem dX9_like_75 : decode cX9_like 75 = .ok (.aload_n 0, 1) := by decide +kernel
theorem dX9_like_76 : decode cX9_like 76 = .ok (.iload_n 3, 1) := by decide +kernel
theorem dX9_like_77 : decode cX9_like 77 = .ok (.iload 6, 2) := by decide +kernel
theorem dX9_like_79 : decode cX9_like 79 = .ok (.invokevirtual 162, 3) := by decide +kernel
theorem dX9_like_82 : decode cX9_like 82 = .ok (.ifCond .eq 16, 3) := by decide +kernel
theorem dX9_like_85 : decode cX9_like 85 = .ok (.aload_n 0, 1) := by decide +kernel
theorem dX9_like_86 : decode cX9_like 86 = .ok (.iload_n 1, 1) := by decide +kernel
theorem dX9_like_87 : decode cX9_like 87 = .ok (.iload_n 2, 1) := by decide +kernel
theorem dX9_like_88 : decode cX9_like 88 = .ok (.invokevirtual 165, 3) := by decide +kernel
theorem dX9_like_91 : decode cX9_like 91 = .ok (.ifCond .eq 7, 3) := by decide +kernel
theorem dX9_like_94 : decode cX9_like 94 = .ok (.iconst 1, 1) := by decide +kernel
theorem dX9_like_95 : decode cX9_like 95 = .ok (.goto 4, 3) := by decide +kernel
theorem dX9_like_98 : decode cX9_like 98 = .ok (.iconst 0, 1) := by decide +kernel
theorem dX9_like_99 : decode cX9_like 99 = .ok (.iadd, 1) := by decide +kernel
theorem dX9_like_100 : decode cX9_like 100 = .ok (.istore 5, 2) := by decide +kernel
theorem dX9_like_102 : decode cX9_like 102 = .ok (.iinc 6 1, 3) := by decide +kernel
theorem dX9_like_105 : decode cX9_like 105 = .ok (.goto (-39), 3) := by decide +kernel
theorem dX9_like_108 : decode cX9_like 108 = .ok (.iload 5, 2) := by decide +kernel
theorem dX9_like_110 : decode cX9_like 110 = .ok (.ireturn, 1) := by decide +kernel
theorem dX9_isPrime_0 : decode cX9_isPrime 0 = .ok (.iload_n 0, 1) := by decide +kernel
theorem dX9_isPrime_1 : decode cX9_isPrime 1 = .ok (.iconst 2, 1) := by decide +kernel
theorem dX9_isPrime_2 : decode cX9_isPrime 2 = .ok (.if_icmp .eq 31, 3) := by decide +kernel
theorem dX9_isPrime_5 : decode cX9_isPrime 5 = .ok (.iload_n 0, 1) := by decide +kernel
theorem dX9_isPrime_6 : decode cX9_isPrime 6 = .ok (.iconst 3, 1) := by decide +kernel
theorem dX9_isPrime_7 : decode cX9_isPrime 7 = .ok (.if_icmp .eq 26, 3) := by decide +kernel
theorem dX9_isPrime_10 : decode cX9_isPrime 10 = .ok (.iload_n 0, 1) := by decide +kernel
theorem dX9_isPrime_11 : decode cX9_isPrime 11 = .ok (.iconst 5, 1) := by decide +kernel
theorem dX9_isPrime_12 : decode cX9_isPrime 12 = .ok (.if_icmp .eq 21, 3) := by decide +kernel
theorem dX9_isPrime_15 : decode cX9_isPrime 15 = .ok (.iload_n 0, 1) := by decide +kernel
theorem dX9_isPrime_16 : decode cX9_isPrime 16 = .ok (.bipush 7, 2) := by decide +kernel
theorem dX9_isPrime_18 : decode cX9_isPrime 18 = .ok (.if_icmp .eq 15, 3) := by decide +kernel
theorem dX9_isPrime_21 : decode cX9_isPrime 21 = .ok (.iload_n 0, 1) := by decide +kernel
theorem dX9_isPrime_22 : decode cX9_isPrime 22 = .ok (.bipush 11, 2) := by decide +kernel
theorem dX9_isPrime_24 : decode cX9_isPrime 24 = .ok (.if_icmp .eq 9, 3) := by decide +kernel
theorem dX9_isPrime_27 : decode cX9_isPrime 27 = .ok (.iload_n 0, 1) := by decide +kernel
theorem dX9_isPrime_28 : decode cX9_isPrime 28 = .ok (.bipush 13, 2) := by decide +kernel
theorem dX9_isPrime_30 : decode cX9_isPrime 30 = .ok (.if_icmp .ne 7, 3) := by decide +kernel
theorem dX9_isPrime_33 : decode cX9_isPrime 33 = .ok (.iconst 1, 1) := by decide +kernel
theorem dX9_isPrime_34 : decode cX9_isPrime 34 = .ok (.goto 4, 3) := by decide +kernel
theorem dX9_isPrime_37 : decode cX9_isPrime 37 = .ok (.iconst 0, 1) := by decide +kernel
theorem dX9_isPrime_38 : decode cX9_isPrime 38 = .ok (.ireturn, 1) := by decide +kernel
set_option maxRecDepth 20000 in
theorem ggX9_isMap_X9_n : GoodIn wsX9_isMap wsX9_n := goodIn_r _ [7, 8, 9, 10, 11, 12, 13, 14, 15, 16, 17, 18, 19, 20, 21, 22, 23] (by decide +kernel) (by decide +kernel)
set_option maxRecDepth 20000 in
theorem gX9_isMap_X9_n : GoodIn wsX9_isMap (wsV RX9 74 RX9 yX9_n wsX9_n) := goodIn_app (goodIn_of _ (by decide +kernel)) ggX9_isMap_X9_n
theorem dX9_isMap_0 : decode cX9_isMap 0 = .ok (.iconst 0, 1) := by decide +kernel
theorem dX9_isMap_1 : decode cX9_isMap 1 = .ok (.istore_n 3, 1) := by decide +kernel
theorem dX9_isMap_2 : decode cX9_isMap 2 = .ok (.iload_n 3, 1) := by decide +kernel
theorem dX9_isMap_3 : decode cX9_isMap 3 = .ok (.aload_n 0, 1) := by decide +kernel
theorem dX9_isMap_4 : decode cX9_isMap 4 = .ok (.getfield 7, 3) := by decide +kernel
theorem dX9_isMap_7 : decode cX9_isMap 7 = .ok (.iload_n 1, 1) := by decide +kernel
theorem dX9_isMap_8 : decode cX9_isMap 8 = .ok (.iaload, 1) := by decide +kernel
theorem dX9_isMap_9 : decode cX9_isMap 9 = .ok (.if_icmp .ge 97, 3) := by decide +kernel
theorem dX9_isMap_12 : decode cX9_isMap 12 = .ok (.iconst 0, 1) := by decide +kernel
theorem dX9_isMap_13 : decode cX9_isMap 13 = .ok (.istore 4, 2) := by decide +kernel
theorem dX9_isMap_15 : decode cX9_isMap 15 = .ok (.iload 4, 2) := by decide +kernel
theorem dX9_isMap_17 : decode cX9_isMap 17 = .ok (.aload_n 0, 1) := by decide +kernel
theorem dX9_isMap_18 : decode cX9_isMap 18 = .ok (.getfield 7, 3) := by decide +kernel
theorem dX9_isMap_21 : decode cX9_isMap 21 = .ok (.iload_n 1, 1) := by decide +kernel
theorem dX9_isMap_22 : decode cX9_isMap 22 = .ok (.iaload, 1) := by decide +kernel
theorem dX9_isMap_23 : decode cX9_isMap 23 = .ok (.if_icmp .ge 77, 3) := by decide +kernel
theorem dX9_isMap_26 : decode cX9_isMap 26 = .ok (.aload_n 0, 1) := by decide +kernel
theorem dX9_isMap_27 : decode cX9_isMap 27 = .ok (.getfield 41, 3) := by decide +kernel
theorem dX9_isMap_30 : decode cX9_isMap 30 = .ok (.iload_n 3, 1) := by decide +kernel
theorem dX9_isMap_31 : decode cX9_isMap 31 = .ok (.iaload, 1) := by decide +kernel
theorem dX9_isMap_32 : decode cX9_isMap 32 = .ok (.aload_n 0, 1) := by decide +kernel
theorem dX9_isMap_33 : decode cX9_isMap 33 = .ok (.getfield 41, 3) := by decide +kernel
theorem dX9_isMap_36 : decode cX9_isMap 36 = .ok (.iload 4, 2) := by decide +kernel
theorem dX9_isMap_38 : decode cX9_isMap 38 = .ok (.iaload, 1) := by decide +kernel
theorem dX9_isMap_39 : decode cX9_isMap 39 = .ok (.imul, 1) := by decide +kernel
theorem dX9_isMap_40 : decode cX9_isMap 40 = .ok (.istore 5, 2) := by decide +kernel
theorem dX9_isMap_42 : decode cX9_isMap 42 = .ok (.iconst 0, 1) := by decide +kernel
theorem dX9_isMap_43 : decode cX9_isMap 43 = .ok (.istore 6, 2) := by decide +kernel
theorem dX9_isMap_45 : decode cX9_isMap 45 = .ok (.iload 6, 2) := by decide +kernel
theorem dX9_isMap_47 : decode cX9_isMap 47 = .ok (.aload_n 0, 1) := by decide +kernel
theorem dX9_isMap_48 : decode cX9_isMap 48 = .ok (.getfield 7, 3) := by decide +kernel
theorem dX9_isMap_51 : decode cX9_isMap 51 = .ok (.iload_n 1, 1) := by decide +kernel
theorem dX9_isMap_52 : decode cX9_isMap 52 = .ok (.iaload, 1) := by decide +kernel
theorem dX9_isMap_53 : decode cX9_isMap 53 = .ok (.if_icmp .ge 32, 3) := by decide +kernel
theorem dX9_isMap_56 : decode cX9_isMap 56 = .ok (.iload 5, 2) := by decide +kernel
theorem dX9_isMap_58 : decode cX9_isMap 58 = .ok (.aload_n 0, 1) := by decide +kernel
theorem dX9_isMap_59 : decode cX9_isMap 59 = .ok (.iload_n 1, 1) := by decide +kernel
theorem dX9_isMap_60 : decode cX9_isMap 60 = .ok (.iload_n 3, 1) := by decide +kernel
theorem dX9_isMap_61 : decode cX9_isMap 61 = .ok (.iload 4, 2) := by decide +kernel
theorem dX9_isMap_63 : decode cX9_isMap 63 = .ok (.iload 6, 2) := by decide +kernel
theorem dX9_isMap_65 : decode cX9_isMap 65 = .ok (.invokevirtual 74, 3) := by decide +kernel
theorem dX9_isMap_68 : decode cX9_isMap 68 = .ok (.aload_n 0, 1) := by decide +kernel
theorem dX9_isMap_69 : decode cX9_isMap 69 = .ok (.getfield 41, 3) := by decide +kernel
theorem dX9_isMap_72 : decode cX9_isMap 72 = .ok (.iload 6, 2) := by decide +kernel
theorem dX9_isMap_74 : decode cX9_isMap 74 = .ok (.iaload, 1) := by decide +kernel
theorem dX9_isMap_75 : decode cX9_isMap 75 = .ok (.imul, 1) := by decide +kernel
theorem dX9_isMap_76 : decode cX9_isMap 76 = .ok (.isub, 1) := by decide +kernel
theorem dX9_isMap_77 : decode cX9_isMap 77 = .ok (.istore 5, 2) := by decide +kernel
theorem dX9_isMap_79 : decode cX9_isMap 79 = .ok (.iinc 6 1, 3) := by decide +kernel
theorem dX9_isMap_82 : decode cX9_isMap 82 = .ok (.goto (-37), 3) := by decide +kernel
theorem dX9_isMap_85 : decode cX9_isMap 85 = .ok (.iload 5, 2) := by decide +kernel
theorem dX9_isMap_87 : decode cX9_isMap 87 = .ok (.iload_n 2, 1) := by decide +kernel
theorem dX9_isMap_88 : decode cX9_isMap 88 = .ok (.irem, 1) := by decide +kernel
theorem dX9_isMap_89 : decode cX9_isMap 89 = .ok (.ifCond .eq 5, 3) := by decide +kernel
theorem dX9_isMap_92 : decode cX9_isMap 92 = .ok (.iconst 0, 1) := by decide +kernel
theorem dX9_isMap_93 : decode cX9_isMap 93 = .ok (.ireturn, 1) := by decide +kernel
theorem dX9_isMap_94 : decode cX9_isMap 94 = .ok (.iinc 4 1, 3) := by decide +kernel
theorem dX9_isMap_97 : decode cX9_isMap 97 = .ok (.goto (-82), 3) := by decide +kernel
theorem dX9_isMap_100 : decode cX9_isMap 100 = .ok (.iinc 3 1, 3) := by decide +kernel
theorem dX9_isMap_103 : decode cX9_isMap 103 = .ok (.goto (-101), 3) := by decide +kernel
theorem dX9_isMap_106 : decode cX9_isMap 106 = .ok (.iconst 1, 1) := by decide +kernel
theorem dX9_isMap_107 : decode cX9_isMap 107 = .ok (.ireturn, 1) := by decide +kernel
set_option maxRecDepth 20000 in
theorem ggX9_findMaps_X9_isMap : GoodIn wsX9_findMaps wsX9_isMap := goodIn_r _ [7, 1, 2, 8, 9, 10, 6, 11, 12, 13, 14, 15, 16, 17, 18, 19, 20, 21, 22, 23, 24, 25, 26, 27] (by decide +kernel) (by decide +kernel)
set_option maxRecDepth 20000 in
theorem gX9_findMaps_X9_isMap : GoodIn wsX9_findMaps (wsV RX9 168 RX9 yX9_isMap wsX9_isMap) := goodIn_app (goodIn_of _ (by decide +kernel)) ggX9_findMaps_X9_isMap
theorem dX9_findMaps_0 : decode cX9_findMaps 0 = .ok (.iconst 1, 1) := by decide +kernel
theorem dX9_findMaps_1 : decode cX9_findMaps 1 = .ok (.istore 4, 2) := by decide +kernel
theorem dX9_findMaps_3 : decode cX9_findMaps 3 = .ok (.iconst 1, 1) := by decide +kernel
theorem dX9_findMaps_4 : decode cX9_findMaps 4 = .ok (.istore 5, 2) := by decide +kernel
theorem dX9_findMaps_6 : decode cX9_findMaps 6 = .ok (.iload 5, 2) := by decide +kernel
theorem dX9_findMaps_8 : decode cX9_findMaps 8 = .ok (.aload_n 0, 1) := by decide +kernel
theorem dX9_findMaps_9 : decode cX9_findMaps 9 = .ok (.getfield 7, 3) := by decide +kernel
theorem dX9_findMaps_12 : decode cX9_findMaps 12 = .ok (.iload_n 1, 1) := by decide +kernel
theorem dX9_findMaps_13 : decode cX9_findMaps 13 = .ok (.iaload, 1) := by decide +kernel
theorem dX9_findMaps_14 : decode cX9_findMaps 14 = .ok (.if_icmp .ge 15, 3) := by decide +kernel
theorem dX9_findMaps_17 : decode cX9_findMaps 17 = .ok (.iload 4, 2) := by decide +kernel
theorem dX9_findMaps_19 : decode cX9_findMaps 19 = .ok (.iload_n 2, 1) := by decide +kernel
theorem dX9_findMaps_20 : decode cX9_findMaps 20 = .ok (.imul, 1) := by decide +kernel
theorem dX9_findMaps_21 : decode cX9_findMaps 21 = .ok (.istore 4, 2) := by decide +kernel
theorem dX9_findMaps_23 : decode cX9_findMaps 23 = .ok (.iinc 5 1, 3) := by decide +kernel
theorem dX9_findMaps_26 : decode cX9_findMaps 26 = .ok (.goto (-20), 3) := by decide +kernel
theorem dX9_findMaps_29 : decode cX9_findMaps 29 = .ok (.iconst 0, 1) := by decide +kernel
theorem dX9_findMaps_30 : decode cX9_findMaps 30 = .ok (.istore 5, 2) := by decide +kernel
theorem dX9_findMaps_32 : decode cX9_findMaps 32 = .ok (.iconst 0, 1) := by decide +kernel
theorem dX9_findMaps_33 : decode cX9_findMaps 33 = .ok (.istore 6, 2) := by decide +kernel
theorem dX9_findMaps_35 : decode cX9_findMaps 35 = .ok (.iload 6, 2) := by decide +kernel
theorem dX9_findMaps_37 : decode cX9_findMaps 37 = .ok (.iload 4, 2) := by decide +kernel
theorem dX9_findMaps_39 : decode cX9_findMaps 39 = .ok (.if_icmp .ge 85, 3) := by decide +kernel
theorem dX9_findMaps_42 : decode cX9_findMaps 42 = .ok (.iload 5, 2) := by decide +kernel
theorem dX9_findMaps_44 : decode cX9_findMaps 44 = .ok (.iload_n 3, 1) := by decide +kernel
theorem dX9_findMaps_45 : decode cX9_findMaps 45 = .ok (.iconst 1, 1) := by decide +kernel
theorem dX9_findMaps_46 : decode cX9_findMaps 46 = .ok (.iadd, 1) := by decide +kernel
theorem dX9_findMaps_47 : decode cX9_findMaps 47 = .ok (.if_icmp .eq 77, 3) := by decide +kernel
theorem dX9_findMaps_50 : decode cX9_findMaps 50 = .ok (.iload 6, 2) := by decide +kernel
theorem dX9_findMaps_52 : decode cX9_findMaps 52 = .ok (.istore 7, 2) := by decide +kernel
theorem dX9_findMaps_54 : decode cX9_findMaps 54 = .ok (.aload_n 0, 1) := by decide +kernel
theorem dX9_findMaps_55 : decode cX9_findMaps 55 = .ok (.getfield 41, 3) := by decide +kernel
theorem dX9_findMaps_58 : decode cX9_findMaps 58 = .ok (.iconst 0, 1) := by decide +kernel
theorem dX9_findMaps_59 : decode cX9_findMaps 59 = .ok (.iconst 1, 1) := by decide +kernel
theorem dX9_findMaps_60 : decode cX9_findMaps 60 = .ok (.iastore, 1) := by decide +kernel
theorem dX9_findMaps_61 : decode cX9_findMaps 61 = .ok (.aload_n 0, 1) := by decide +kernel
theorem dX9_findMaps_62 : decode cX9_findMaps 62 = .ok (.getfield 7, 3) := by decide +kernel
theorem dX9_findMaps_65 : decode cX9_findMaps 65 = .ok (.iload_n 1, 1) := by decide +kernel
theorem dX9_findMaps_66 : decode cX9_findMaps 66 = .ok (.iaload, 1) := by decide +kernel
theorem dX9_findMaps_67 : decode cX9_findMaps 67 = .ok (.iconst 1, 1) := by decide +kernel
theorem dX9_findMaps_68 : decode cX9_findMaps 68 = .ok (.isub, 1) := by decide +kernel
theorem dX9_findMaps_69 : decode cX9_findMaps 69 = .ok (.istore 8, 2) := by decide +kernel
theorem dX9_findMaps_71 : decode cX9_findMaps 71 = .ok (.iload 8, 2) := by decide +kernel
theorem dX9_findMaps_73 : decode cX9_findMaps 73 = .ok (.ifCond .le 26, 3) := by decide +kernel
theorem dX9_findMaps_76 : decode cX9_findMaps 76 = .ok (.aload_n 0, 1) := by decide +kernel
theorem dX9_findMaps_77 : decode cX9_findMaps 77 = .ok (.getfield 41, 3) := by decide +kernel
theorem dX9_findMaps_80 : decode cX9_findMaps 80 = .ok (.iload 8, 2) := by decide +kernel
theorem dX9_findMaps_82 : decode cX9_findMaps 82 = .ok (.iload 7, 2) := by decide +kernel
theorem dX9_findMaps_84 : decode cX9_findMaps 84 = .ok (.iload_n 2, 1) := by decide +kernel
theorem dX9_findMaps_85 : decode cX9_findMaps 85 = .ok (.irem, 1) := by decide +kernel
theorem dX9_findMaps_86 : decode cX9_findMaps 86 = .ok (.iastore, 1) := by decide +kernel
theorem dX9_findMaps_87 : decode cX9_findMaps 87 = .ok (.iload 7, 2) := by decide +kernel
theorem dX9_findMaps_89 : decode cX9_findMaps 89 = .ok (.iload_n 2, 1) := by decide +kernel
theorem dX9_findMaps_90 : decode cX9_findMaps 90 = .ok (.idiv, 1) := by decide +kernel
theorem dX9_findMaps_91 : decode cX9_findMaps 91 = .ok (.istore 7, 2) := by decide +kernel
theorem dX9_findMaps_93 : decode cX9_findMaps 93 = .ok (.iinc 8 (-1), 3) := by decide +kernel
theorem dX9_findMaps_96 : decode cX9_findMaps 96 = .ok (.goto (-25), 3) := by decide +kernel
theorem dX9_findMaps_99 : decode cX9_findMaps 99 = .ok (.iload 5, 2) := by decide +kernel
theorem dX9_findMaps_101 : decode cX9_findMaps 101 = .ok (.aload_n 0, 1) := by decide +kernel
theorem dX9_findMaps_102 : decode cX9_findMaps 102 = .ok (.iload_n 1, 1) := by decide +kernel
theorem dX9_findMaps_103 : decode cX9_findMaps 103 = .ok (.iload_n 2, 1) := by decide +kernel
theorem dX9_findMaps_104 : decode cX9_findMaps 104 = .ok (.invokevirtual 168, 3) := by decide +kernel
theorem dX9_findMaps_107 : decode cX9_findMaps 107 = .ok (.ifCond .eq 7, 3) := by decide +kernel
theorem dX9_findMaps_110 : decode cX9_findMaps 110 = .ok (.iconst 1, 1) := by decide +kernel
theorem dX9_findMaps_111 : decode cX9_findMaps 111 = .ok (.goto 4, 3) := by decide +kernel
theorem dX9_findMaps_114 : decode cX9_findMaps 114 = .ok (.iconst 0, 1) := by decide +kernel
theorem dX9_findMaps_115 : decode cX9_findMaps 115 = .ok (.iadd, 1) := by decide +kernel
theorem dX9_findMaps_116 : decode cX9_findMaps 116 = .ok (.istore 5, 2) := by decide +kernel
theorem dX9_findMaps_118 : decode cX9_findMaps 118 = .ok (.iinc 6 1, 3) := by decide +kernel
theorem dX9_findMaps_121 : decode cX9_findMaps 121 = .ok (.goto (-86), 3) := by decide +kernel
theorem dX9_findMaps_124 : decode cX9_findMaps 124 = .ok (.iload 5, 2) := by decide +kernel
theorem dX9_findMaps_126 : decode cX9_findMaps 126 = .ok (.ireturn, 1) := by decide +kernel
set_option maxRecDepth 20000 in
theorem ggX9_maps_X9_noTable : GoodIn wsX9_maps wsX9_noTable := goodIn_r _ [4, 5, 6, 7, 3, 8] (by decide +kernel) (by decide +kernel)
set_option maxRecDepth 20000 in
theorem gX9_maps_X9_noTable : GoodIn wsX9_maps (va_wsS RX9 64 yX9_noTable wsX9_noTable) := goodIn_app (goodIn_of _ (by decide +kernel)) ggX9_maps_X9_noTable
set_option maxRecDepth 20000 in
theorem ggX9_maps_X9_isPrime : GoodIn wsX9_maps wsX9_isPrime := goodIn_r _ [11] (by decide +kernel) (by decide +kernel)
set_option maxRecDepth 20000 in
theorem gX9_maps_X9_isPrime : GoodIn wsX9_maps (va_wsS RX9 171 yX9_isPrime wsX9_isPrime) := goodIn_app (goodIn_of _ (by decide +kernel)) ggX9_maps_X9_isPrime
set_option maxRecDepth 20000 in
theorem ggX9_maps_X9_isRight : GoodIn wsX9_maps wsX9_isRight := goodIn_r _ [15, 16, 17, 18, 3, 19, 20, 21, 22, 23, 24, 25, 26, 27, 28, 29, 30, 31, 32, 33, 34, 35, 36, 37, 38, 39, 40, 41, 42, 43, 53, 54, 55, 56, 57, 58, 59, 60, 61, 62, 63, 64, 65, 66, 67] (by decide +kernel) (by decide +kernel)
set_option maxRecDepth 20000 in
theorem gX9_maps_X9_isRight : GoodIn wsX9_maps (wsV RX9 96 RX9 yX9_isRight wsX9_isRight) := goodIn_app (goodIn_of _ (by decide +kernel)) ggX9_maps_X9_isRight
set_option maxRecDepth 20000 in
theorem ggX9_maps_X9_findMaps : GoodIn wsX9_maps wsX9_findMaps := goodIn_r _ [47, 20, 48, 49, 50, 51, 3, 52, 21, 22, 23, 24, 25, 53, 54, 55, 56, 57, 58, 59, 60, 61, 62, 63, 64, 65, 66, 67] (by decide +kernel) (by decide +kernel)
set_option maxRecDepth 20000 in
theorem gX9_maps_X9_findMaps : GoodIn wsX9_maps (wsV RX9 174 RX9 yX9_findMaps wsX9_findMaps) := goodIn_app (goodIn_of _ (by decide +kernel)) ggX9_maps_X9_findMaps
theorem dX9_maps_0 : decode cX9_maps 0 = .ok (.iload_n 1, 1) := by decide +kernel
theorem dX9_maps_1 : decode cX9_maps 1 = .ok (.invokestatic 64, 3) := by decide +kernel
theorem dX9_maps_4 : decode cX9_maps 4 = .ok (.ifCond .ne 10, 3) := by decide +kernel
theorem dX9_maps_7 : decode cX9_maps 7 = .ok (.iload_n 2, 1) := by decide +kernel
theorem dX9_maps_8 : decode cX9_maps 8 = .ok (.invokestatic 171, 3) := by decide +kernel
theorem dX9_maps_11 : decode cX9_maps 11 = .ok (.ifCond .ne 6, 3) := by decide +kernel
theorem dX9_maps_14 : decode cX9_maps 14 = .ok (.bipush (-2), 2) := by decide +kernel
theorem dX9_maps_16 : decode cX9_maps 16 = .ok (.ireturn, 1) := by decide +kernel
theorem dX9_maps_17 : decode cX9_maps 17 = .ok (.aload_n 0, 1) := by decide +kernel
theorem dX9_maps_18 : decode cX9_maps 18 = .ok (.iload_n 1, 1) := by decide +kernel
theorem dX9_maps_19 : decode cX9_maps 19 = .ok (.invokevirtual 96, 3) := by decide +kernel
theorem dX9_maps_22 : decode cX9_maps 22 = .ok (.ifCond .eq 14, 3) := by decide +kernel
theorem dX9_maps_25 : decode cX9_maps 25 = .ok (.aload_n 0, 1) := by decide +kernel
theorem dX9_maps_26 : decode cX9_maps 26 = .ok (.iload_n 1, 1) := by decide +kernel
theorem dX9_maps_27 : decode cX9_maps 27 = .ok (.iload_n 2, 1) := by decide +kernel
theorem dX9_maps_28 : decode cX9_maps 28 = .ok (.bipush (-2), 2) := by decide +kernel
theorem dX9_maps_30 : decode cX9_maps 30 = .ok (.invokevirtual 174, 3) := by decide +kernel
theorem dX9_maps_33 : decode cX9_maps 33 = .ok (.goto 5, 3) := by decide +kernel
theorem dX9_maps_36 : decode cX9_maps 36 = .ok (.bipush (-3), 2) := by decide +kernel
theorem dX9_maps_38 : decode cX9_maps 38 = .ok (.ireturn, 1) := by decide +kernel
set_option maxRecDepth 20000 in
theorem ggX9_map_X9_noTable : GoodIn wsX9_map wsX9_noTable := goodIn_r _ [6, 7, 8, 9, 5, 10] (by decide +kernel) (by decide +kernel)
set_option maxRecDepth 20000 in
theorem gX9_map_X9_noTable : GoodIn wsX9_map (va_wsS RX9 64 yX9_noTable wsX9_noTable) := goodIn_app (goodIn_of _ (by decide +kernel)) ggX9_map_X9_noTable
set_option maxRecDepth 20000 in
theorem ggX9_map_X9_isPrime : GoodIn wsX9_map wsX9_isPrime := goodIn_r _ [13] (by decide +kernel) (by decide +kernel)
set_option maxRecDepth 20000 in
theorem gX9_map_X9_isPrime : GoodIn wsX9_map (va_wsS RX9 171 yX9_isPrime wsX9_isPrime) := goodIn_app (goodIn_of _ (by decide +kernel)) ggX9_map_X9_isPrime
set_option maxRecDepth 20000 in
theorem ggX9_map_X9_isKind : GoodIn wsX9_map wsX9_isKind := goodIn_r _ [17, 18, 8, 9, 5, 10, 58, 59, 60, 61, 62, 63, 64, 65, 66, 67, 68, 69, 70, 71, 72] (by decide +kernel) (by decide +kernel)
set_option maxRecDepth 20000 in
theorem gX9_map_X9_isKind : GoodIn wsX9_map (wsV RX9 68 RX9 yX9_isKind wsX9_isKind) := goodIn_app (goodIn_of _ (by decide +kernel)) ggX9_map_X9_isKind
set_option maxRecDepth 20000 in
theorem ggX9_map_X9_isRight : GoodIn wsX9_map wsX9_isRight := goodIn_r _ [22, 23, 24, 25, 5, 26, 18, 27, 28, 29, 30, 31, 32, 33, 34, 35, 36, 37, 38, 39, 40, 41, 42, 43, 44, 45, 46, 47, 48, 49, 58, 59, 60, 61, 62, 63, 64, 65, 66, 67, 68, 69, 70, 71, 72] (by decide +kernel) (by decide +kernel)
set_option maxRecDepth 20000 in
theorem gX9_map_X9_isRight : GoodIn wsX9_map (wsV RX9 96 RX9 yX9_isRight wsX9_isRight) := goodIn_app (goodIn_of _ (by decide +kernel)) ggX9_map_X9_isRight
set_option maxRecDepth 20000 in
theorem ggX9_map_X9_findMaps : GoodIn wsX9_map wsX9_findMaps := goodIn_r _ [53, 18, 2, 54, 55, 56, 5, 57, 27, 28, 29, 30, 31, 58, 59, 60, 61, 62, 63, 64, 65, 66, 67, 68, 69, 70, 71, 72] (by decide +kernel) (by decide +kernel)
set_option maxRecDepth 20000 in
theorem gX9_map_X9_findMaps : GoodIn wsX9_map (wsV RX9 174 RX9 yX9_findMaps wsX9_findMaps) := goodIn_app (goodIn_of _ (by decide +kernel)) ggX9_map_X9_findMaps
theorem dX9_map_0 : decode cX9_map 0 = .ok (.iload_n 1, 1) := by decide +kernel
theorem dX9_map_1 : decode cX9_map 1 = .ok (.invokestatic 64, 3) := by decide +kernel
theorem dX9_map_4 : decode cX9_map 4 = .ok (.ifCond .ne 24, 3) := by decide +kernel
theorem dX9_map_7 : decode cX9_map 7 = .ok (.iload_n 2, 1) := by decide +kernel
theorem dX9_map_8 : decode cX9_map 8 = .ok (.invokestatic 171, 3) := by decide +kernel
theorem dX9_map_11 : decode cX9_map 11 = .ok (.ifCond .eq 17, 3) := by decide +kernel
theorem dX9_map_14 : decode cX9_map 14 = .ok (.iload_n 3, 1) := by decide +kernel
theorem dX9_map_15 : decode cX9_map 15 = .ok (.ifCond .lt 13, 3) := by decide +kernel
theorem dX9_map_18 : decode cX9_map 18 = .ok (.aload_n 0, 1) := by decide +kernel
theorem dX9_map_19 : decode cX9_map 19 = .ok (.iload_n 1, 1) := by decide +kernel
theorem dX9_map_20 : decode cX9_map 20 = .ok (.iload 4, 2) := by decide +kernel
theorem dX9_map_22 : decode cX9_map 22 = .ok (.invokevirtual 68, 3) := by decide +kernel
theorem dX9_map_25 : decode cX9_map 25 = .ok (.ifCond .ne 6, 3) := by decide +kernel
theorem dX9_map_28 : decode cX9_map 28 = .ok (.bipush (-2), 2) := by decide +kernel
theorem dX9_map_30 : decode cX9_map 30 = .ok (.ireturn, 1) := by decide +kernel
theorem dX9_map_31 : decode cX9_map 31 = .ok (.aload_n 0, 1) := by decide +kernel
theorem dX9_map_32 : decode cX9_map 32 = .ok (.iload_n 1, 1) := by decide +kernel
theorem dX9_map_33 : decode cX9_map 33 = .ok (.invokevirtual 96, 3) := by decide +kernel
theorem dX9_map_36 : decode cX9_map 36 = .ok (.ifCond .ne 6, 3) := by decide +kernel
theorem dX9_map_39 : decode cX9_map 39 = .ok (.bipush (-3), 2) := by decide +kernel
theorem dX9_map_41 : decode cX9_map 41 = .ok (.ireturn, 1) := by decide +kernel
theorem dX9_map_42 : decode cX9_map 42 = .ok (.iload_n 3, 1) := by decide +kernel
theorem dX9_map_43 : decode cX9_map 43 = .ok (.ldc 138, 2) := by decide +kernel
theorem dX9_map_45 : decode cX9_map 45 = .ok (.if_icmp .ge 26, 3) := by decide +kernel
theorem dX9_map_48 : decode cX9_map 48 = .ok (.aload_n 0, 1) := by decide +kernel
theorem dX9_map_49 : decode cX9_map 49 = .ok (.iload_n 1, 1) := by decide +kernel
theorem dX9_map_50 : decode cX9_map 50 = .ok (.iload_n 2, 1) := by decide +kernel
theorem dX9_map_51 : decode cX9_map 51 = .ok (.iload_n 3, 1) := by decide +kernel
theorem dX9_map_52 : decode cX9_map 52 = .ok (.invokevirtual 174, 3) := by decide +kernel
theorem dX9_map_55 : decode cX9_map 55 = .ok (.iload_n 3, 1) := by decide +kernel
theorem dX9_map_56 : decode cX9_map 56 = .ok (.iconst 1, 1) := by decide +kernel
theorem dX9_map_57 : decode cX9_map 57 = .ok (.iadd, 1) := by decide +kernel
theorem dX9_map_58 : decode cX9_map 58 = .ok (.if_icmp .ne 13, 3) := by decide +kernel
theorem dX9_map_61 : decode cX9_map 61 = .ok (.aload_n 0, 1) := by decide +kernel
theorem dX9_map_62 : decode cX9_map 62 = .ok (.getfield 41, 3) := by decide +kernel
theorem dX9_map_65 : decode cX9_map 65 = .ok (.iload 4, 2) := by decide +kernel
theorem dX9_map_67 : decode cX9_map 67 = .ok (.iaload, 1) := by decide +kernel
theorem dX9_map_68 : decode cX9_map 68 = .ok (.goto 4, 3) := by decide +kernel
theorem dX9_map_71 : decode cX9_map 71 = .ok (.iconst (-1), 1) := by decide +kernel
theorem dX9_map_72 : decode cX9_map 72 = .ok (.ireturn, 1) := by decide +kernel
set_option maxRecDepth 20000 in
theorem ggX9_layLines_X9_n : GoodIn wsX9_layLines wsX9_n := goodIn_r _ [7, 8, 9, 10, 11, 12, 13, 14, 15, 16, 17, 18, 19, 20, 21, 22, 23] (by decide +kernel) (by decide +kernel)
set_option maxRecDepth 20000 in
theorem gX9_layLines_X9_n : GoodIn wsX9_layLines (wsV RX9 74 RX9 yX9_n wsX9_n) := goodIn_app (goodIn_of _ (by decide +kernel)) ggX9_layLines_X9_n
theorem dX9_layLines_0 : decode cX9_layLines 0 = .ok (.iconst 0, 1) := by decide +kernel
theorem dX9_layLines_1 : decode cX9_layLines 1 = .ok (.istore_n 3, 1) := by decide +kernel
theorem dX9_layLines_2 : decode cX9_layLines 2 = .ok (.iload_n 3, 1) := by decide +kernel
theorem dX9_layLines_3 : decode cX9_layLines 3 = .ok (.aload_n 0, 1) := by decide +kernel
theorem dX9_layLines_4 : decode cX9_layLines 4 = .ok (.getfield 7, 3) := by decide +kernel
theorem dX9_layLines_7 : decode cX9_layLines 7 = .ok (.iload_n 1, 1) := by decide +kernel
theorem dX9_layLines_8 : decode cX9_layLines 8 = .ok (.iaload, 1) := by decide +kernel
theorem dX9_layLines_9 : decode cX9_layLines 9 = .ok (.if_icmp .ge 95, 3) := by decide +kernel
theorem dX9_layLines_12 : decode cX9_layLines 12 = .ok (.iconst 0, 1) := by decide +kernel
theorem dX9_layLines_13 : decode cX9_layLines 13 = .ok (.istore 4, 2) := by decide +kernel
theorem dX9_layLines_15 : decode cX9_layLines 15 = .ok (.iload 4, 2) := by decide +kernel
theorem dX9_layLines_17 : decode cX9_layLines 17 = .ok (.aload_n 0, 1) := by decide +kernel
theorem dX9_layLines_18 : decode cX9_layLines 18 = .ok (.getfield 7, 3) := by decide +kernel
theorem dX9_layLines_21 : decode cX9_layLines 21 = .ok (.iload_n 1, 1) := by decide +kernel
theorem dX9_layLines_22 : decode cX9_layLines 22 = .ok (.iaload, 1) := by decide +kernel
theorem dX9_layLines_23 : decode cX9_layLines 23 = .ok (.if_icmp .ge 75, 3) := by decide +kernel
theorem dX9_layLines_26 : decode cX9_layLines 26 = .ok (.iconst 0, 1) := by decide +kernel
theorem dX9_layLines_27 : decode cX9_layLines 27 = .ok (.istore 5, 2) := by decide +kernel
theorem dX9_layLines_29 : decode cX9_layLines 29 = .ok (.iconst 0, 1) := by decide +kernel
theorem dX9_layLines_30 : decode cX9_layLines 30 = .ok (.istore 6, 2) := by decide +kernel
theorem dX9_layLines_32 : decode cX9_layLines 32 = .ok (.iload 6, 2) := by decide +kernel
theorem dX9_layLines_34 : decode cX9_layLines 34 = .ok (.aload_n 0, 1) := by decide +kernel
theorem dX9_layLines_35 : decode cX9_layLines 35 = .ok (.getfield 7, 3) := by decide +kernel
theorem dX9_layLines_38 : decode cX9_layLines 38 = .ok (.iload_n 1, 1) := by decide +kernel
theorem dX9_layLines_39 : decode cX9_layLines 39 = .ok (.iaload, 1) := by decide +kernel
theorem dX9_layLines_40 : decode cX9_layLines 40 = .ok (.if_icmp .ge 24, 3) := by decide +kernel
theorem dX9_layLines_43 : decode cX9_layLines 43 = .ok (.iload 5, 2) := by decide +kernel
theorem dX9_layLines_45 : decode cX9_layLines 45 = .ok (.aload_n 0, 1) := by decide +kernel
theorem dX9_layLines_46 : decode cX9_layLines 46 = .ok (.iload_n 1, 1) := by decide +kernel
theorem dX9_layLines_47 : decode cX9_layLines 47 = .ok (.iload 6, 2) := by decide +kernel
theorem dX9_layLines_49 : decode cX9_layLines 49 = .ok (.iload_n 3, 1) := by decide +kernel
theorem dX9_layLines_50 : decode cX9_layLines 50 = .ok (.iload 4, 2) := by decide +kernel
theorem dX9_layLines_52 : decode cX9_layLines 52 = .ok (.invokevirtual 74, 3) := by decide +kernel
theorem dX9_layLines_55 : decode cX9_layLines 55 = .ok (.iadd, 1) := by decide +kernel
theorem dX9_layLines_56 : decode cX9_layLines 56 = .ok (.istore 5, 2) := by decide +kernel
theorem dX9_layLines_58 : decode cX9_layLines 58 = .ok (.iinc 6 1, 3) := by decide +kernel
theorem dX9_layLines_61 : decode cX9_layLines 61 = .ok (.goto (-29), 3) := by decide +kernel
theorem dX9_layLines_64 : decode cX9_layLines 64 = .ok (.aload_n 0, 1) := by decide +kernel
theorem dX9_layLines_65 : decode cX9_layLines 65 = .ok (.getfield 44, 3) := by decide +kernel
theorem dX9_layLines_68 : decode cX9_layLines 68 = .ok (.iconst 5, 1) := by decide +kernel
theorem dX9_layLines_69 : decode cX9_layLines 69 = .ok (.iload_n 3, 1) := by decide +kernel
theorem dX9_layLines_70 : decode cX9_layLines 70 = .ok (.imul, 1) := by decide +kernel
theorem dX9_layLines_71 : decode cX9_layLines 71 = .ok (.iload 4, 2) := by decide +kernel
theorem dX9_layLines_73 : decode cX9_layLines 73 = .ok (.iadd, 1) := by decide +kernel
theorem dX9_layLines_74 : decode cX9_layLines 74 = .ok (.iload_n 3, 1) := by decide +kernel
theorem dX9_layLines_75 : decode cX9_layLines 75 = .ok (.iload 4, 2) := by decide +kernel
theorem dX9_layLines_77 : decode cX9_layLines 77 = .ok (.if_icmp .ne 7, 3) := by decide +kernel
theorem dX9_layLines_80 : decode cX9_layLines 80 = .ok (.iload_n 2, 1) := by decide +kernel
theorem dX9_layLines_81 : decode cX9_layLines 81 = .ok (.goto 4, 3) := by decide +kernel
theorem dX9_layLines_84 : decode cX9_layLines 84 = .ok (.iconst 0, 1) := by decide +kernel
theorem dX9_layLines_85 : decode cX9_layLines 85 = .ok (.bipush 10, 2) := by decide +kernel
theorem dX9_layLines_87 : decode cX9_layLines 87 = .ok (.iload 5, 2) := by decide +kernel
theorem dX9_layLines_89 : decode cX9_layLines 89 = .ok (.imul, 1) := by decide +kernel
theorem dX9_layLines_90 : decode cX9_layLines 90 = .ok (.isub, 1) := by decide +kernel
theorem dX9_layLines_91 : decode cX9_layLines 91 = .ok (.iastore, 1) := by decide +kernel
theorem dX9_layLines_92 : decode cX9_layLines 92 = .ok (.iinc 4 1, 3) := by decide +kernel
theorem dX9_layLines_95 : decode cX9_layLines 95 = .ok (.goto (-80), 3) := by decide +kernel
theorem dX9_layLines_98 : decode cX9_layLines 98 = .ok (.iinc 3 1, 3) := by decide +kernel
theorem dX9_layLines_101 : decode cX9_layLines 101 = .ok (.goto (-99), 3) := by decide +kernel
theorem dX9_layLines_104 : decode cX9_layLines 104 = .ok (.return_, 1) := by decide +kernel
theorem dX9_layTurn_0 : decode cX9_layTurn 0 = .ok (.iload_n 2, 1) := by decide +kernel
theorem dX9_layTurn_1 : decode cX9_layTurn 1 = .ok (.istore_n 3, 1) := by decide +kernel
theorem dX9_layTurn_2 : decode cX9_layTurn 2 = .ok (.iconst 1, 1) := by decide +kernel
theorem dX9_layTurn_3 : decode cX9_layTurn 3 = .ok (.istore 4, 2) := by decide +kernel
theorem dX9_layTurn_5 : decode cX9_layTurn 5 = .ok (.iconst 0, 1) := by decide +kernel
theorem dX9_layTurn_6 : decode cX9_layTurn 6 = .ok (.istore 5, 2) := by decide +kernel
theorem dX9_layTurn_8 : decode cX9_layTurn 8 = .ok (.iload 5, 2) := by decide +kernel
theorem dX9_layTurn_10 : decode cX9_layTurn 10 = .ok (.iload_n 1, 1) := by decide +kernel
theorem dX9_layTurn_11 : decode cX9_layTurn 11 = .ok (.if_icmp .ge 88, 3) := by decide +kernel
theorem dX9_layTurn_14 : decode cX9_layTurn 14 = .ok (.aload_n 0, 1) := by decide +kernel
theorem dX9_layTurn_15 : decode cX9_layTurn 15 = .ok (.getfield 47, 3) := by decide +kernel
theorem dX9_layTurn_18 : decode cX9_layTurn 18 = .ok (.iload 5, 2) := by decide +kernel
theorem dX9_layTurn_20 : decode cX9_layTurn 20 = .ok (.iload_n 3, 1) := by decide +kernel
theorem dX9_layTurn_21 : decode cX9_layTurn 21 = .ok (.iload_n 1, 1) := by decide +kernel
theorem dX9_layTurn_22 : decode cX9_layTurn 22 = .ok (.irem, 1) := by decide +kernel
theorem dX9_layTurn_23 : decode cX9_layTurn 23 = .ok (.iastore, 1) := by decide +kernel
theorem dX9_layTurn_24 : decode cX9_layTurn 24 = .ok (.iload_n 3, 1) := by decide +kernel
theorem dX9_layTurn_25 : decode cX9_layTurn 25 = .ok (.iload_n 1, 1) := by decide +kernel
theorem dX9_layTurn_26 : decode cX9_layTurn 26 = .ok (.idiv, 1) := by decide +kernel
theorem dX9_layTurn_27 : decode cX9_layTurn 27 = .ok (.istore_n 3, 1) := by decide +kernel
theorem dX9_layTurn_28 : decode cX9_layTurn 28 = .ok (.iconst 0, 1) := by decide +kernel
theorem dX9_layTurn_29 : decode cX9_layTurn 29 = .ok (.istore 6, 2) := by decide +kernel
theorem dX9_layTurn_31 : decode cX9_layTurn 31 = .ok (.iload 6, 2) := by decide +kernel
theorem dX9_layTurn_33 : decode cX9_layTurn 33 = .ok (.iload 5, 2) := by decide +kernel
theorem dX9_layTurn_35 : decode cX9_layTurn 35 = .ok (.if_icmp .ge 58, 3) := by decide +kernel
theorem dX9_layTurn_38 : decode cX9_layTurn 38 = .ok (.aload_n 0, 1) := by decide +kernel
theorem dX9_layTurn_39 : decode cX9_layTurn 39 = .ok (.getfield 47, 3) := by decide +kernel
theorem dX9_layTurn_42 : decode cX9_layTurn 42 = .ok (.iload 6, 2) := by decide +kernel
theorem dX9_layTurn_44 : decode cX9_layTurn 44 = .ok (.iaload, 1) := by decide +kernel
theorem dX9_layTurn_45 : decode cX9_layTurn 45 = .ok (.aload_n 0, 1) := by decide +kernel
theorem dX9_layTurn_46 : decode cX9_layTurn 46 = .ok (.getfield 47, 3) := by decide +kernel
theorem dX9_layTurn_49 : decode cX9_layTurn 49 = .ok (.iload 5, 2) := by decide +kernel
theorem dX9_layTurn_51 : decode cX9_layTurn 51 = .ok (.iaload, 1) := by decide +kernel
theorem dX9_layTurn_52 : decode cX9_layTurn 52 = .ok (.if_icmp .ne 7, 3) := by decide +kernel
theorem dX9_layTurn_55 : decode cX9_layTurn 55 = .ok (.iconst 0, 1) := by decide +kernel
theorem dX9_layTurn_56 : decode cX9_layTurn 56 = .ok (.goto 29, 3) := by decide +kernel
theorem dX9_layTurn_59 : decode cX9_layTurn 59 = .ok (.aload_n 0, 1) := by decide +kernel
theorem dX9_layTurn_60 : decode cX9_layTurn 60 = .ok (.getfield 47, 3) := by decide +kernel
theorem dX9_layTurn_63 : decode cX9_layTurn 63 = .ok (.iload 6, 2) := by decide +kernel
theorem dX9_layTurn_65 : decode cX9_layTurn 65 = .ok (.iaload, 1) := by decide +kernel
theorem dX9_layTurn_66 : decode cX9_layTurn 66 = .ok (.aload_n 0, 1) := by decide +kernel
theorem dX9_layTurn_67 : decode cX9_layTurn 67 = .ok (.getfield 47, 3) := by decide +kernel
theorem dX9_layTurn_70 : decode cX9_layTurn 70 = .ok (.iload 5, 2) := by decide +kernel
theorem dX9_layTurn_72 : decode cX9_layTurn 72 = .ok (.iaload, 1) := by decide +kernel
theorem dX9_layTurn_73 : decode cX9_layTurn 73 = .ok (.if_icmp .le 10, 3) := by decide +kernel
theorem dX9_layTurn_76 : decode cX9_layTurn 76 = .ok (.iconst 0, 1) := by decide +kernel
theorem dX9_layTurn_77 : decode cX9_layTurn 77 = .ok (.iload 4, 2) := by decide +kernel
theorem dX9_layTurn_79 : decode cX9_layTurn 79 = .ok (.isub, 1) := by decide +kernel
theorem dX9_layTurn_80 : decode cX9_layTurn 80 = .ok (.goto 5, 3) := by decide +kernel
theorem dX9_layTurn_83 : decode cX9_layTurn 83 = .ok (.iload 4, 2) := by decide +kernel
theorem dX9_layTurn_85 : decode cX9_layTurn 85 = .ok (.istore 4, 2) := by decide +kernel
theorem dX9_layTurn_87 : decode cX9_layTurn 87 = .ok (.iinc 6 1, 3) := by decide +kernel
theorem dX9_layTurn_90 : decode cX9_layTurn 90 = .ok (.goto (-59), 3) := by decide +kernel
theorem dX9_layTurn_93 : decode cX9_layTurn 93 = .ok (.iinc 5 1, 3) := by decide +kernel
theorem dX9_layTurn_96 : decode cX9_layTurn 96 = .ok (.goto (-88), 3) := by decide +kernel
theorem dX9_layTurn_99 : decode cX9_layTurn 99 = .ok (.iload 4, 2) := by decide +kernel
theorem dX9_layTurn_101 : decode cX9_layTurn 101 = .ok (.ireturn, 1) := by decide +kernel
set_option maxRecDepth 20000 in
theorem ggX9_isAbove_X9_layTurn : GoodIn wsX9_isAbove wsX9_layTurn := goodIn_r _ [8, 2, 9, 10, 11, 12, 13, 14, 15, 16, 17, 18, 19, 20, 21, 22, 23] (by decide +kernel) (by decide +kernel)
set_option maxRecDepth 20000 in
theorem gX9_isAbove_X9_layTurn : GoodIn wsX9_isAbove (wsV RX9 177 RX9 yX9_layTurn wsX9_layTurn) := goodIn_app (goodIn_of _ (by decide +kernel)) ggX9_isAbove_X9_layTurn
theorem dX9_isAbove_0 : decode cX9_isAbove 0 = .ok (.lconst 0, 1) := by decide +kernel
theorem dX9_isAbove_1 : decode cX9_isAbove 1 = .ok (.lstore_n 2, 1) := by decide +kernel
theorem dX9_isAbove_2 : decode cX9_isAbove 2 = .ok (.lconst 0, 1) := by decide +kernel
theorem dX9_isAbove_3 : decode cX9_isAbove 3 = .ok (.lstore 4, 2) := by decide +kernel
theorem dX9_isAbove_5 : decode cX9_isAbove 5 = .ok (.iconst 1, 1) := by decide +kernel
theorem dX9_isAbove_6 : decode cX9_isAbove 6 = .ok (.istore 6, 2) := by decide +kernel
theorem dX9_isAbove_8 : decode cX9_isAbove 8 = .ok (.iconst 0, 1) := by decide +kernel
theorem dX9_isAbove_9 : decode cX9_isAbove 9 = .ok (.istore 7, 2) := by decide +kernel
theorem dX9_isAbove_11 : decode cX9_isAbove 11 = .ok (.iload 7, 2) := by decide +kernel
theorem dX9_isAbove_13 : decode cX9_isAbove 13 = .ok (.iload_n 1, 1) := by decide +kernel
theorem dX9_isAbove_14 : decode cX9_isAbove 14 = .ok (.if_icmp .ge 15, 3) := by decide +kernel
theorem dX9_isAbove_17 : decode cX9_isAbove 17 = .ok (.iload 6, 2) := by decide +kernel
theorem dX9_isAbove_19 : decode cX9_isAbove 19 = .ok (.iload_n 1, 1) := by decide +kernel
theorem dX9_isAbove_20 : decode cX9_isAbove 20 = .ok (.imul, 1) := by decide +kernel
theorem dX9_isAbove_21 : decode cX9_isAbove 21 = .ok (.istore 6, 2) := by decide +kernel
theorem dX9_isAbove_23 : decode cX9_isAbove 23 = .ok (.iinc 7 1, 3) := by decide +kernel
theorem dX9_isAbove_26 : decode cX9_isAbove 26 = .ok (.goto (-15), 3) := by decide +kernel
theorem dX9_isAbove_29 : decode cX9_isAbove 29 = .ok (.iconst 0, 1) := by decide +kernel
theorem dX9_isAbove_30 : decode cX9_isAbove 30 = .ok (.istore 7, 2) := by decide +kernel
theorem dX9_isAbove_32 : decode cX9_isAbove 32 = .ok (.iload 7, 2) := by decide +kernel
theorem dX9_isAbove_34 : decode cX9_isAbove 34 = .ok (.iload 6, 2) := by decide +kernel
theorem dX9_isAbove_36 : decode cX9_isAbove 36 = .ok (.if_icmp .ge 138, 3) := by decide +kernel
theorem dX9_isAbove_39 : decode cX9_isAbove 39 = .ok (.aload_n 0, 1) := by decide +kernel
theorem dX9_isAbove_40 : decode cX9_isAbove 40 = .ok (.iload_n 1, 1) := by decide +kernel
theorem dX9_isAbove_41 : decode cX9_isAbove 41 = .ok (.iload 7, 2) := by decide +kernel
theorem dX9_isAbove_43 : decode cX9_isAbove 43 = .ok (.invokevirtual 177, 3) := by decide +kernel
theorem dX9_isAbove_46 : decode cX9_isAbove 46 = .ok (.istore 8, 2) := by decide +kernel
theorem dX9_isAbove_48 : decode cX9_isAbove 48 = .ok (.iload 8, 2) := by decide +kernel
theorem dX9_isAbove_50 : decode cX9_isAbove 50 = .ok (.ifCond .eq 118, 3) := by decide +kernel
theorem dX9_isAbove_53 : decode cX9_isAbove 53 = .ok (.iload 8, 2) := by decide +kernel
theorem dX9_isAbove_55 : decode cX9_isAbove 55 = .ok (.i2l, 1) := by decide +kernel
theorem dX9_isAbove_56 : decode cX9_isAbove 56 = .ok (.lstore 9, 2) := by decide +kernel
theorem dX9_isAbove_58 : decode cX9_isAbove 58 = .ok (.lconst 1, 1) := by decide +kernel
theorem dX9_isAbove_59 : decode cX9_isAbove 59 = .ok (.lstore 11, 2) := by decide +kernel
theorem dX9_isAbove_61 : decode cX9_isAbove 61 = .ok (.iconst 0, 1) := by decide +kernel
theorem dX9_isAbove_62 : decode cX9_isAbove 62 = .ok (.istore 13, 2) := by decide +kernel
theorem dX9_isAbove_64 : decode cX9_isAbove 64 = .ok (.iload 13, 2) := by decide +kernel
theorem dX9_isAbove_66 : decode cX9_isAbove 66 = .ok (.iload_n 1, 1) := by decide +kernel
theorem dX9_isAbove_67 : decode cX9_isAbove 67 = .ok (.if_icmp .ge 75, 3) := by decide +kernel
theorem dX9_isAbove_70 : decode cX9_isAbove 70 = .ok (.lload 9, 2) := by decide +kernel
theorem dX9_isAbove_72 : decode cX9_isAbove 72 = .ok (.iload 13, 2) := by decide +kernel
theorem dX9_isAbove_74 : decode cX9_isAbove 74 = .ok (.iconst 3, 1) := by decide +kernel
theorem dX9_isAbove_75 : decode cX9_isAbove 75 = .ok (.if_icmp .ge 24, 3) := by decide +kernel
theorem dX9_isAbove_78 : decode cX9_isAbove 78 = .ok (.aload_n 0, 1) := by decide +kernel
theorem dX9_isAbove_79 : decode cX9_isAbove 79 = .ok (.getfield 44, 3) := by decide +kernel
theorem dX9_isAbove_82 : decode cX9_isAbove 82 = .ok (.iconst 5, 1) := by decide +kernel
theorem dX9_isAbove_83 : decode cX9_isAbove 83 = .ok (.iload 13, 2) := by decide +kernel
theorem dX9_isAbove_85 : decode cX9_isAbove 85 = .ok (.imul, 1) := by decide +kernel
theorem dX9_isAbove_86 : decode cX9_isAbove 86 = .ok (.aload_n 0, 1) := by decide +kernel
theorem dX9_isAbove_87 : decode cX9_isAbove 87 = .ok (.getfield 47, 3) := by decide +kernel
theorem dX9_isAbove_90 : decode cX9_isAbove 90 = .ok (.iload 13, 2) := by decide +kernel
theorem dX9_isAbove_92 : decode cX9_isAbove 92 = .ok (.iaload, 1) := by decide +kernel
theorem dX9_isAbove_93 : decode cX9_isAbove 93 = .ok (.iadd, 1) := by decide +kernel
theorem dX9_isAbove_94 : decode cX9_isAbove 94 = .ok (.iaload, 1) := by decide +kernel
theorem dX9_isAbove_95 : decode cX9_isAbove 95 = .ok (.i2l, 1) := by decide +kernel
theorem dX9_isAbove_96 : decode cX9_isAbove 96 = .ok (.goto 4, 3) := by decide +kernel
theorem dX9_isAbove_99 : decode cX9_isAbove 99 = .ok (.lconst 1, 1) := by decide +kernel
theorem dX9_isAbove_100 : decode cX9_isAbove 100 = .ok (.lmul, 1) := by decide +kernel
theorem dX9_isAbove_101 : decode cX9_isAbove 101 = .ok (.lstore 9, 2) := by decide +kernel
theorem dX9_isAbove_103 : decode cX9_isAbove 103 = .ok (.lload 11, 2) := by decide +kernel
theorem dX9_isAbove_105 : decode cX9_isAbove 105 = .ok (.iload 13, 2) := by decide +kernel
theorem dX9_isAbove_107 : decode cX9_isAbove 107 = .ok (.iconst 3, 1) := by decide +kernel
theorem dX9_isAbove_108 : decode cX9_isAbove 108 = .ok (.if_icmp .ge 7, 3) := by decide +kernel
theorem dX9_isAbove_111 : decode cX9_isAbove 111 = .ok (.lconst 1, 1) := by decide +kernel
theorem dX9_isAbove_112 : decode cX9_isAbove 112 = .ok (.goto 21, 3) := by decide +kernel
theorem dX9_isAbove_115 : decode cX9_isAbove 115 = .ok (.aload_n 0, 1) := by decide +kernel
theorem dX9_isAbove_116 : decode cX9_isAbove 116 = .ok (.getfield 44, 3) := by decide +kernel
theorem dX9_isAbove_119 : decode cX9_isAbove 119 = .ok (.iconst 5, 1) := by decide +kernel
theorem dX9_isAbove_120 : decode cX9_isAbove 120 = .ok (.iload 13, 2) := by decide +kernel
theorem dX9_isAbove_122 : decode cX9_isAbove 122 = .ok (.imul, 1) := by decide +kernel
theorem dX9_isAbove_123 : decode cX9_isAbove 123 = .ok (.aload_n 0, 1) := by decide +kernel
theorem dX9_isAbove_124 : decode cX9_isAbove 124 = .ok (.getfield 47, 3) := by decide +kernel
theorem dX9_isAbove_127 : decode cX9_isAbove 127 = .ok (.iload 13, 2) := by decide +kernel
theorem dX9_isAbove_129 : decode cX9_isAbove 129 = .ok (.iaload, 1) := by decide +kernel
theorem dX9_isAbove_130 : decode cX9_isAbove 130 = .ok (.iadd, 1) := by decide +kernel
theorem dX9_isAbove_131 : decode cX9_isAbove 131 = .ok (.iaload, 1) := by decide +kernel
theorem dX9_isAbove_132 : decode cX9_isAbove 132 = .ok (.i2l, 1) := by decide +kernel
theorem dX9_isAbove_133 : decode cX9_isAbove 133 = .ok (.lmul, 1) := by decide +kernel
theorem dX9_isAbove_134 : decode cX9_isAbove 134 = .ok (.lstore 11, 2) := by decide +kernel
theorem dX9_isAbove_136 : decode cX9_isAbove 136 = .ok (.iinc 13 1, 3) := by decide +kernel
theorem dX9_isAbove_139 : decode cX9_isAbove 139 = .ok (.goto (-75), 3) := by decide +kernel
theorem dX9_isAbove_142 : decode cX9_isAbove 142 = .ok (.lload_n 2, 1) := by decide +kernel
theorem dX9_isAbove_143 : decode cX9_isAbove 143 = .ok (.lload 9, 2) := by decide +kernel
theorem dX9_isAbove_145 : decode cX9_isAbove 145 = .ok (.ldc2_w 180, 3) := by decide +kernel
theorem dX9_isAbove_148 : decode cX9_isAbove 148 = .ok (.ldiv, 1) := by decide +kernel
theorem dX9_isAbove_149 : decode cX9_isAbove 149 = .ok (.lload 11, 2) := by decide +kernel
theorem dX9_isAbove_151 : decode cX9_isAbove 151 = .ok (.lmul, 1) := by decide +kernel
theorem dX9_isAbove_152 : decode cX9_isAbove 152 = .ok (.ladd, 1) := by decide +kernel
theorem dX9_isAbove_153 : decode cX9_isAbove 153 = .ok (.lstore_n 2, 1) := by decide +kernel
theorem dX9_isAbove_154 : decode cX9_isAbove 154 = .ok (.lload 4, 2) := by decide +kernel
theorem dX9_isAbove_156 : decode cX9_isAbove 156 = .ok (.lload 9, 2) := by decide +kernel
theorem dX9_isAbove_158 : decode cX9_isAbove 158 = .ok (.ldc2_w 180, 3) := by decide +kernel
theorem dX9_isAbove_161 : decode cX9_isAbove 161 = .ok (.lrem, 1) := by decide +kernel
theorem dX9_isAbove_162 : decode cX9_isAbove 162 = .ok (.lload 11, 2) := by decide +kernel
theorem dX9_isAbove_164 : decode cX9_isAbove 164 = .ok (.lmul, 1) := by decide +kernel
theorem dX9_isAbove_165 : decode cX9_isAbove 165 = .ok (.ladd, 1) := by decide +kernel
theorem dX9_isAbove_166 : decode cX9_isAbove 166 = .ok (.lstore 4, 2) := by decide +kernel
theorem dX9_isAbove_168 : decode cX9_isAbove 168 = .ok (.iinc 7 1, 3) := by decide +kernel
theorem dX9_isAbove_171 : decode cX9_isAbove 171 = .ok (.goto (-139), 3) := by decide +kernel
theorem dX9_isAbove_174 : decode cX9_isAbove 174 = .ok (.lload_n 2, 1) := by decide +kernel
theorem dX9_isAbove_175 : decode cX9_isAbove 175 = .ok (.lload 4, 2) := by decide +kernel
theorem dX9_isAbove_177 : decode cX9_isAbove 177 = .ok (.ldc2_w 180, 3) := by decide +kernel
theorem dX9_isAbove_180 : decode cX9_isAbove 180 = .ok (.ldiv, 1) := by decide +kernel
theorem dX9_isAbove_181 : decode cX9_isAbove 181 = .ok (.ladd, 1) := by decide +kernel
theorem dX9_isAbove_182 : decode cX9_isAbove 182 = .ok (.lstore 7, 2) := by decide +kernel
theorem dX9_isAbove_184 : decode cX9_isAbove 184 = .ok (.lload 4, 2) := by decide +kernel
theorem dX9_isAbove_186 : decode cX9_isAbove 186 = .ok (.ldc2_w 180, 3) := by decide +kernel
theorem dX9_isAbove_189 : decode cX9_isAbove 189 = .ok (.lrem, 1) := by decide +kernel
theorem dX9_isAbove_190 : decode cX9_isAbove 190 = .ok (.lstore 9, 2) := by decide +kernel
theorem dX9_isAbove_192 : decode cX9_isAbove 192 = .ok (.lload 7, 2) := by decide +kernel
theorem dX9_isAbove_194 : decode cX9_isAbove 194 = .ok (.lconst 0, 1) := by decide +kernel
theorem dX9_isAbove_195 : decode cX9_isAbove 195 = .ok (.lcmp, 1) := by decide +kernel
theorem dX9_isAbove_196 : decode cX9_isAbove 196 = .ok (.ifCond .gt 31, 3) := by decide +kernel
theorem dX9_isAbove_199 : decode cX9_isAbove 199 = .ok (.lload 7, 2) := by decide +kernel
theorem dX9_isAbove_201 : decode cX9_isAbove 201 = .ok (.lconst 0, 1) := by decide +kernel
theorem dX9_isAbove_202 : decode cX9_isAbove 202 = .ok (.lcmp, 1) := by decide +kernel
theorem dX9_isAbove_203 : decode cX9_isAbove 203 = .ok (.ifCond .ne 10, 3) := by decide +kernel
theorem dX9_isAbove_206 : decode cX9_isAbove 206 = .ok (.lload 9, 2) := by decide +kernel
theorem dX9_isAbove_208 : decode cX9_isAbove 208 = .ok (.lconst 0, 1) := by decide +kernel
theorem dX9_isAbove_209 : decode cX9_isAbove 209 = .ok (.lcmp, 1) := by decide +kernel
theorem dX9_isAbove_210 : decode cX9_isAbove 210 = .ok (.ifCond .gt 17, 3) := by decide +kernel
theorem dX9_isAbove_213 : decode cX9_isAbove 213 = .ok (.lload 7, 2) := by decide +kernel
theorem dX9_isAbove_215 : decode cX9_isAbove 215 = .ok (.lconst 1, 1) := by decide +kernel
theorem dX9_isAbove_216 : decode cX9_isAbove 216 = .ok (.lcmp, 1) := by decide +kernel
theorem dX9_isAbove_217 : decode cX9_isAbove 217 = .ok (.ifCond .ne 14, 3) := by decide +kernel
theorem dX9_isAbove_220 : decode cX9_isAbove 220 = .ok (.lload 9, 2) := by decide +kernel
theorem dX9_isAbove_222 : decode cX9_isAbove 222 = .ok (.lconst 0, 1) := by decide +kernel
theorem dX9_isAbove_223 : decode cX9_isAbove 223 = .ok (.lcmp, 1) := by decide +kernel
theorem dX9_isAbove_224 : decode cX9_isAbove 224 = .ok (.ifCond .ge 7, 3) := by decide +kernel
theorem dX9_isAbove_227 : decode cX9_isAbove 227 = .ok (.iconst 1, 1) := by decide +kernel
theorem dX9_isAbove_228 : decode cX9_isAbove 228 = .ok (.goto 4, 3) := by decide +kernel
theorem dX9_isAbove_231 : decode cX9_isAbove 231 = .ok (.iconst 0, 1) := by decide +kernel
theorem dX9_isAbove_232 : decode cX9_isAbove 232 = .ok (.ireturn, 1) := by decide +kernel
set_option maxRecDepth 20000 in
theorem ggX9_isBelow_X9_layLines : GoodIn wsX9_isBelow wsX9_layLines := goodIn_r _ [6, 1, 7, 8, 9, 10, 5, 11, 12, 23, 24, 25, 26, 27, 28, 29, 30, 31, 32, 33, 34, 35, 36, 37] (by decide +kernel) (by decide +kernel)
set_option maxRecDepth 20000 in
theorem gX9_isBelow_X9_layLines : GoodIn wsX9_isBelow (wsV RX9 182 RX9 yX9_layLines wsX9_layLines) := goodIn_app (goodIn_of _ (by decide +kernel)) ggX9_isBelow_X9_layLines
set_option maxRecDepth 20000 in
theorem ggX9_isBelow_X9_isAbove : GoodIn wsX9_isBelow wsX9_isAbove := goodIn_r _ [16, 7, 17, 18, 19, 20, 21, 5, 22, 23, 24, 25, 26, 27, 28, 29, 30, 31, 32, 33, 34, 35, 36, 37] (by decide +kernel) (by decide +kernel)
set_option maxRecDepth 20000 in
theorem gX9_isBelow_X9_isAbove : GoodIn wsX9_isBelow (wsV RX9 185 RX9 yX9_isAbove wsX9_isAbove) := goodIn_app (goodIn_of _ (by decide +kernel)) ggX9_isBelow_X9_isAbove
theorem dX9_isBelow_0 : decode cX9_isBelow 0 = .ok (.aload_n 0, 1) := by decide +kernel
theorem dX9_isBelow_1 : decode cX9_isBelow 1 = .ok (.iload_n 1, 1) := by decide +kernel
theorem dX9_isBelow_2 : decode cX9_isBelow 2 = .ok (.iload_n 2, 1) := by decide +kernel
theorem dX9_isBelow_3 : decode cX9_isBelow 3 = .ok (.invokevirtual 182, 3) := by decide +kernel
theorem dX9_isBelow_6 : decode cX9_isBelow 6 = .ok (.iconst 1, 1) := by decide +kernel
theorem dX9_isBelow_7 : decode cX9_isBelow 7 = .ok (.istore_n 3, 1) := by decide +kernel
theorem dX9_isBelow_8 : decode cX9_isBelow 8 = .ok (.iconst 1, 1) := by decide +kernel
theorem dX9_isBelow_9 : decode cX9_isBelow 9 = .ok (.istore 4, 2) := by decide +kernel
theorem dX9_isBelow_11 : decode cX9_isBelow 11 = .ok (.iload 4, 2) := by decide +kernel
theorem dX9_isBelow_13 : decode cX9_isBelow 13 = .ok (.aload_n 0, 1) := by decide +kernel
theorem dX9_isBelow_14 : decode cX9_isBelow 14 = .ok (.getfield 7, 3) := by decide +kernel
theorem dX9_isBelow_17 : decode cX9_isBelow 17 = .ok (.iload_n 1, 1) := by decide +kernel
theorem dX9_isBelow_18 : decode cX9_isBelow 18 = .ok (.iaload, 1) := by decide +kernel
theorem dX9_isBelow_19 : decode cX9_isBelow 19 = .ok (.if_icmp .gt 20, 3) := by decide +kernel
theorem dX9_isBelow_22 : decode cX9_isBelow 22 = .ok (.iload_n 3, 1) := by decide +kernel
theorem dX9_isBelow_23 : decode cX9_isBelow 23 = .ok (.ifCond .eq 16, 3) := by decide +kernel
theorem dX9_isBelow_26 : decode cX9_isBelow 26 = .ok (.aload_n 0, 1) := by decide +kernel
theorem dX9_isBelow_27 : decode cX9_isBelow 27 = .ok (.iload 4, 2) := by decide +kernel
theorem dX9_isBelow_29 : decode cX9_isBelow 29 = .ok (.invokevirtual 185, 3) := by decide +kernel
theorem dX9_isBelow_32 : decode cX9_isBelow 32 = .ok (.istore_n 3, 1) := by decide +kernel
theorem dX9_isBelow_33 : decode cX9_isBelow 33 = .ok (.iinc 4 1, 3) := by decide +kernel
theorem dX9_isBelow_36 : decode cX9_isBelow 36 = .ok (.goto (-25), 3) := by decide +kernel
theorem dX9_isBelow_39 : decode cX9_isBelow 39 = .ok (.iload_n 3, 1) := by decide +kernel
theorem dX9_isBelow_40 : decode cX9_isBelow 40 = .ok (.ireturn, 1) := by decide +kernel
set_option maxRecDepth 20000 in
theorem ggX9_size_X9_noTable : GoodIn wsX9_size wsX9_noTable := goodIn_r _ [4, 5, 6, 7, 3, 8] (by decide +kernel) (by decide +kernel)
set_option maxRecDepth 20000 in
theorem gX9_size_X9_noTable : GoodIn wsX9_size (va_wsS RX9 64 yX9_noTable wsX9_noTable) := goodIn_app (goodIn_of _ (by decide +kernel)) ggX9_size_X9_noTable
set_option maxRecDepth 20000 in
theorem ggX9_size_X9_isRight : GoodIn wsX9_size wsX9_isRight := goodIn_r _ [12, 13, 14, 15, 3, 16, 17, 18, 19, 20, 21, 22, 23, 24, 25, 26, 27, 28, 29, 30, 31, 32, 33, 34, 35, 36, 37, 38, 39, 40, 60, 61, 62, 63, 64, 65, 66, 67, 68, 69, 70, 71, 72, 73, 74] (by decide +kernel) (by decide +kernel)
set_option maxRecDepth 20000 in
theorem gX9_size_X9_isRight : GoodIn wsX9_size (wsV RX9 96 RX9 yX9_isRight wsX9_isRight) := goodIn_app (goodIn_of _ (by decide +kernel)) ggX9_size_X9_isRight
set_option maxRecDepth 20000 in
theorem ggX9_size_X9_isBelow : GoodIn wsX9_size wsX9_isBelow := goodIn_r _ [44, 17, 45, 46, 47, 3, 48, 49, 18, 19, 20, 21, 22, 50, 51, 52, 53, 54, 55, 56, 57, 58, 59, 60, 61, 62, 63, 64, 65, 66, 67, 68, 69, 70, 71, 72, 73, 74] (by decide +kernel) (by decide +kernel)
set_option maxRecDepth 20000 in
theorem gX9_size_X9_isBelow : GoodIn wsX9_size (wsV RX9 188 RX9 yX9_isBelow wsX9_isBelow) := goodIn_app (goodIn_of _ (by decide +kernel)) ggX9_size_X9_isBelow
theorem dX9_size_0 : decode cX9_size 0 = .ok (.iload_n 1, 1) := by decide +kernel
theorem dX9_size_1 : decode cX9_size 1 = .ok (.invokestatic 64, 3) := by decide +kernel
theorem dX9_size_4 : decode cX9_size 4 = .ok (.ifCond .eq 6, 3) := by decide +kernel
theorem dX9_size_7 : decode cX9_size 7 = .ok (.bipush (-2), 2) := by decide +kernel
theorem dX9_size_9 : decode cX9_size 9 = .ok (.ireturn, 1) := by decide +kernel
theorem dX9_size_10 : decode cX9_size 10 = .ok (.aload_n 0, 1) := by decide +kernel
theorem dX9_size_11 : decode cX9_size 11 = .ok (.iload_n 1, 1) := by decide +kernel
theorem dX9_size_12 : decode cX9_size 12 = .ok (.invokevirtual 96, 3) := by decide +kernel
theorem dX9_size_15 : decode cX9_size 15 = .ok (.ifCond .ne 6, 3) := by decide +kernel
theorem dX9_size_18 : decode cX9_size 18 = .ok (.bipush (-3), 2) := by decide +kernel
theorem dX9_size_20 : decode cX9_size 20 = .ok (.ireturn, 1) := by decide +kernel
theorem dX9_size_21 : decode cX9_size 21 = .ok (.iconst 0, 1) := by decide +kernel
theorem dX9_size_22 : decode cX9_size 22 = .ok (.istore_n 2, 1) := by decide +kernel
theorem dX9_size_23 : decode cX9_size 23 = .ok (.sipush 2251, 3) := by decide +kernel
theorem dX9_size_26 : decode cX9_size 26 = .ok (.istore_n 3, 1) := by decide +kernel
theorem dX9_size_27 : decode cX9_size 27 = .ok (.iload_n 3, 1) := by decide +kernel
theorem dX9_size_28 : decode cX9_size 28 = .ok (.iload_n 2, 1) := by decide +kernel
theorem dX9_size_29 : decode cX9_size 29 = .ok (.isub, 1) := by decide +kernel
theorem dX9_size_30 : decode cX9_size 30 = .ok (.iconst 1, 1) := by decide +kernel
theorem dX9_size_31 : decode cX9_size 31 = .ok (.if_icmp .le 32, 3) := by decide +kernel
theorem dX9_size_34 : decode cX9_size 34 = .ok (.iload_n 2, 1) := by decide +kernel
theorem dX9_size_35 : decode cX9_size 35 = .ok (.iload_n 3, 1) := by decide +kernel
theorem dX9_size_36 : decode cX9_size 36 = .ok (.iadd, 1) := by decide +kernel
theorem dX9_size_37 : decode cX9_size 37 = .ok (.iconst 2, 1) := by decide +kernel
theorem dX9_size_38 : decode cX9_size 38 = .ok (.idiv, 1) := by decide +kernel
theorem dX9_size_39 : decode cX9_size 39 = .ok (.istore 4, 2) := by decide +kernel
theorem dX9_size_41 : decode cX9_size 41 = .ok (.aload_n 0, 1) := by decide +kernel
theorem dX9_size_42 : decode cX9_size 42 = .ok (.iload_n 1, 1) := by decide +kernel
theorem dX9_size_43 : decode cX9_size 43 = .ok (.iload 4, 2) := by decide +kernel
theorem dX9_size_45 : decode cX9_size 45 = .ok (.invokevirtual 188, 3) := by decide +kernel
theorem dX9_size_48 : decode cX9_size 48 = .ok (.ifCond .eq 9, 3) := by decide +kernel
theorem dX9_size_51 : decode cX9_size 51 = .ok (.iload 4, 2) := by decide +kernel
theorem dX9_size_53 : decode cX9_size 53 = .ok (.istore_n 3, 1) := by decide +kernel
theorem dX9_size_54 : decode cX9_size 54 = .ok (.goto 6, 3) := by decide +kernel
theorem dX9_size_57 : decode cX9_size 57 = .ok (.iload 4, 2) := by decide +kernel
theorem dX9_size_59 : decode cX9_size 59 = .ok (.istore_n 2, 1) := by decide +kernel
theorem dX9_size_60 : decode cX9_size 60 = .ok (.goto (-33), 3) := by decide +kernel
theorem dX9_size_63 : decode cX9_size 63 = .ok (.iload_n 2, 1) := by decide +kernel
theorem dX9_size_64 : decode cX9_size 64 = .ok (.ireturn, 1) := by decide +kernel
set_option maxRecDepth 20000 in
theorem ggX9_digest_X9_n : GoodIn wsX9_digest wsX9_n := goodIn_r _ [10, 11, 12, 13, 14, 15, 16, 17, 18, 19, 20, 21, 22, 23, 24, 25, 26] (by decide +kernel) (by decide +kernel)
set_option maxRecDepth 20000 in
theorem gX9_digest_X9_n : GoodIn wsX9_digest (wsV RX9 74 RX9 yX9_n wsX9_n) := goodIn_app (goodIn_of _ (by decide +kernel)) ggX9_digest_X9_n
theorem dX9_digest_0 : decode cX9_digest 0 = .ok (.ldc2_w 191, 3) := by decide +kernel
theorem dX9_digest_3 : decode cX9_digest 3 = .ok (.lstore_n 1, 1) := by decide +kernel
theorem dX9_digest_4 : decode cX9_digest 4 = .ok (.iconst 0, 1) := by decide +kernel
theorem dX9_digest_5 : decode cX9_digest 5 = .ok (.istore_n 3, 1) := by decide +kernel
theorem dX9_digest_6 : decode cX9_digest 6 = .ok (.iload_n 3, 1) := by decide +kernel
theorem dX9_digest_7 : decode cX9_digest 7 = .ok (.bipush 6, 2) := by decide +kernel
theorem dX9_digest_9 : decode cX9_digest 9 = .ok (.if_icmp .ge 83, 3) := by decide +kernel
theorem dX9_digest_12 : decode cX9_digest 12 = .ok (.aload_n 0, 1) := by decide +kernel
theorem dX9_digest_13 : decode cX9_digest 13 = .ok (.getfield 7, 3) := by decide +kernel
theorem dX9_digest_16 : decode cX9_digest 16 = .ok (.iload_n 3, 1) := by decide +kernel
theorem dX9_digest_17 : decode cX9_digest 17 = .ok (.iaload, 1) := by decide +kernel
theorem dX9_digest_18 : decode cX9_digest 18 = .ok (.istore 4, 2) := by decide +kernel
theorem dX9_digest_20 : decode cX9_digest 20 = .ok (.ldc2_w 193, 3) := by decide +kernel
theorem dX9_digest_23 : decode cX9_digest 23 = .ok (.lload_n 1, 1) := by decide +kernel
theorem dX9_digest_24 : decode cX9_digest 24 = .ok (.lmul, 1) := by decide +kernel
theorem dX9_digest_25 : decode cX9_digest 25 = .ok (.iload 4, 2) := by decide +kernel
theorem dX9_digest_27 : decode cX9_digest 27 = .ok (.i2l, 1) := by decide +kernel
theorem dX9_digest_28 : decode cX9_digest 28 = .ok (.ladd, 1) := by decide +kernel
theorem dX9_digest_29 : decode cX9_digest 29 = .ok (.lstore_n 1, 1) := by decide +kernel
theorem dX9_digest_30 : decode cX9_digest 30 = .ok (.iconst 0, 1) := by decide +kernel
theorem dX9_digest_31 : decode cX9_digest 31 = .ok (.istore 5, 2) := by decide +kernel
theorem dX9_digest_33 : decode cX9_digest 33 = .ok (.iload 5, 2) := by decide +kernel
theorem dX9_digest_35 : decode cX9_digest 35 = .ok (.iload 4, 2) := by decide +kernel
theorem dX9_digest_37 : decode cX9_digest 37 = .ok (.iload 4, 2) := by decide +kernel
theorem dX9_digest_39 : decode cX9_digest 39 = .ok (.imul, 1) := by decide +kernel
theorem dX9_digest_40 : decode cX9_digest 40 = .ok (.iload 4, 2) := by decide +kernel
theorem dX9_digest_42 : decode cX9_digest 42 = .ok (.imul, 1) := by decide +kernel
theorem dX9_digest_43 : decode cX9_digest 43 = .ok (.if_icmp .ge 43, 3) := by decide +kernel
theorem dX9_digest_46 : decode cX9_digest 46 = .ok (.ldc2_w 193, 3) := by decide +kernel
theorem dX9_digest_49 : decode cX9_digest 49 = .ok (.lload_n 1, 1) := by decide +kernel
theorem dX9_digest_50 : decode cX9_digest 50 = .ok (.lmul, 1) := by decide +kernel
theorem dX9_digest_51 : decode cX9_digest 51 = .ok (.aload_n 0, 1) := by decide +kernel
theorem dX9_digest_52 : decode cX9_digest 52 = .ok (.iload_n 3, 1) := by decide +kernel
theorem dX9_digest_53 : decode cX9_digest 53 = .ok (.iload 5, 2) := by decide +kernel
theorem dX9_digest_55 : decode cX9_digest 55 = .ok (.iload 4, 2) := by decide +kernel
theorem dX9_digest_57 : decode cX9_digest 57 = .ok (.iload 4, 2) := by decide +kernel
theorem dX9_digest_59 : decode cX9_digest 59 = .ok (.imul, 1) := by decide +kernel
theorem dX9_digest_60 : decode cX9_digest 60 = .ok (.idiv, 1) := by decide +kernel
theorem dX9_digest_61 : decode cX9_digest 61 = .ok (.iload 5, 2) := by decide +kernel
theorem dX9_digest_63 : decode cX9_digest 63 = .ok (.iload 4, 2) := by decide +kernel
theorem dX9_digest_65 : decode cX9_digest 65 = .ok (.idiv, 1) := by decide +kernel
theorem dX9_digest_66 : decode cX9_digest 66 = .ok (.iload 4, 2) := by decide +kernel
theorem dX9_digest_68 : decode cX9_digest 68 = .ok (.irem, 1) := by decide +kernel
theorem dX9_digest_69 : decode cX9_digest 69 = .ok (.iload 5, 2) := by decide +kernel
theorem dX9_digest_71 : decode cX9_digest 71 = .ok (.iload 4, 2) := by decide +kernel
theorem dX9_digest_73 : decode cX9_digest 73 = .ok (.irem, 1) := by decide +kernel
theorem dX9_digest_74 : decode cX9_digest 74 = .ok (.invokevirtual 74, 3) := by decide +kernel
theorem dX9_digest_77 : decode cX9_digest 77 = .ok (.i2l, 1) := by decide +kernel
theorem dX9_digest_78 : decode cX9_digest 78 = .ok (.ladd, 1) := by decide +kernel
theorem dX9_digest_79 : decode cX9_digest 79 = .ok (.lstore_n 1, 1) := by decide +kernel
theorem dX9_digest_80 : decode cX9_digest 80 = .ok (.iinc 5 1, 3) := by decide +kernel
theorem dX9_digest_83 : decode cX9_digest 83 = .ok (.goto (-50), 3) := by decide +kernel
theorem dX9_digest_86 : decode cX9_digest 86 = .ok (.iinc 3 1, 3) := by decide +kernel
theorem dX9_digest_89 : decode cX9_digest 89 = .ok (.goto (-83), 3) := by decide +kernel
theorem dX9_digest_92 : decode cX9_digest 92 = .ok (.ldc2_w 193, 3) := by decide +kernel
theorem dX9_digest_95 : decode cX9_digest 95 = .ok (.lload_n 1, 1) := by decide +kernel
theorem dX9_digest_96 : decode cX9_digest 96 = .ok (.lmul, 1) := by decide +kernel
theorem dX9_digest_97 : decode cX9_digest 97 = .ok (.aload_n 0, 1) := by decide +kernel
theorem dX9_digest_98 : decode cX9_digest 98 = .ok (.getfield 139, 3) := by decide +kernel
theorem dX9_digest_101 : decode cX9_digest 101 = .ok (.i2l, 1) := by decide +kernel
theorem dX9_digest_102 : decode cX9_digest 102 = .ok (.ladd, 1) := by decide +kernel
theorem dX9_digest_103 : decode cX9_digest 103 = .ok (.lstore_n 1, 1) := by decide +kernel
theorem dX9_digest_104 : decode cX9_digest 104 = .ok (.iconst 0, 1) := by decide +kernel
theorem dX9_digest_105 : decode cX9_digest 105 = .ok (.istore_n 3, 1) := by decide +kernel
theorem dX9_digest_106 : decode cX9_digest 106 = .ok (.iload_n 3, 1) := by decide +kernel
theorem dX9_digest_107 : decode cX9_digest 107 = .ok (.aload_n 0, 1) := by decide +kernel
theorem dX9_digest_108 : decode cX9_digest 108 = .ok (.getfield 139, 3) := by decide +kernel
theorem dX9_digest_111 : decode cX9_digest 111 = .ok (.if_icmp .ge 23, 3) := by decide +kernel
theorem dX9_digest_114 : decode cX9_digest 114 = .ok (.ldc2_w 193, 3) := by decide +kernel
theorem dX9_digest_117 : decode cX9_digest 117 = .ok (.lload_n 1, 1) := by decide +kernel
theorem dX9_digest_118 : decode cX9_digest 118 = .ok (.lmul, 1) := by decide +kernel
theorem dX9_digest_119 : decode cX9_digest 119 = .ok (.aload_n 0, 1) := by decide +kernel
theorem dX9_digest_120 : decode cX9_digest 120 = .ok (.getfield 28, 3) := by decide +kernel
theorem dX9_digest_123 : decode cX9_digest 123 = .ok (.iload_n 3, 1) := by decide +kernel
theorem dX9_digest_124 : decode cX9_digest 124 = .ok (.iaload, 1) := by decide +kernel
theorem dX9_digest_125 : decode cX9_digest 125 = .ok (.i2l, 1) := by decide +kernel
theorem dX9_digest_126 : decode cX9_digest 126 = .ok (.ladd, 1) := by decide +kernel
theorem dX9_digest_127 : decode cX9_digest 127 = .ok (.lstore_n 1, 1) := by decide +kernel
theorem dX9_digest_128 : decode cX9_digest 128 = .ok (.iinc 3 1, 3) := by decide +kernel
theorem dX9_digest_131 : decode cX9_digest 131 = .ok (.goto (-25), 3) := by decide +kernel
theorem dX9_digest_134 : decode cX9_digest 134 = .ok (.lload_n 1, 1) := by decide +kernel
theorem dX9_digest_135 : decode cX9_digest 135 = .ok (.lreturn, 1) := by decide +kernel
theorem dJ6_bitCount_0f7a4_0 : decode cJ6_bitCount_0f7a4 0 = .ok (.iload_n 0, 1) := by decide +kernel
theorem dJ6_bitCount_0f7a4_1 : decode cJ6_bitCount_0f7a4 1 = .ok (.iload_n 0, 1) := by decide +kernel
theorem dJ6_bitCount_0f7a4_2 : decode cJ6_bitCount_0f7a4 2 = .ok (.iconst 1, 1) := by decide +kernel
theorem dJ6_bitCount_0f7a4_3 : decode cJ6_bitCount_0f7a4 3 = .ok (.iushr, 1) := by decide +kernel
theorem dJ6_bitCount_0f7a4_4 : decode cJ6_bitCount_0f7a4 4 = .ok (.ldc_w 265, 3) := by decide +kernel
theorem dJ6_bitCount_0f7a4_7 : decode cJ6_bitCount_0f7a4 7 = .ok (.iand, 1) := by decide +kernel
theorem dJ6_bitCount_0f7a4_8 : decode cJ6_bitCount_0f7a4 8 = .ok (.isub, 1) := by decide +kernel
theorem dJ6_bitCount_0f7a4_9 : decode cJ6_bitCount_0f7a4 9 = .ok (.istore_n 0, 1) := by decide +kernel
theorem dJ6_bitCount_0f7a4_10 : decode cJ6_bitCount_0f7a4 10 = .ok (.iload_n 0, 1) := by decide +kernel
theorem dJ6_bitCount_0f7a4_11 : decode cJ6_bitCount_0f7a4 11 = .ok (.ldc_w 266, 3) := by decide +kernel
theorem dJ6_bitCount_0f7a4_14 : decode cJ6_bitCount_0f7a4 14 = .ok (.iand, 1) := by decide +kernel
theorem dJ6_bitCount_0f7a4_15 : decode cJ6_bitCount_0f7a4 15 = .ok (.iload_n 0, 1) := by decide +kernel
theorem dJ6_bitCount_0f7a4_16 : decode cJ6_bitCount_0f7a4 16 = .ok (.iconst 2, 1) := by decide +kernel
theorem dJ6_bitCount_0f7a4_17 : decode cJ6_bitCount_0f7a4 17 = .ok (.iushr, 1) := by decide +kernel
theorem dJ6_bitCount_0f7a4_18 : decode cJ6_bitCount_0f7a4 18 = .ok (.ldc_w 266, 3) := by decide +kernel
theorem dJ6_bitCount_0f7a4_21 : decode cJ6_bitCount_0f7a4 21 = .ok (.iand, 1) := by decide +kernel
theorem dJ6_bitCount_0f7a4_22 : decode cJ6_bitCount_0f7a4 22 = .ok (.iadd, 1) := by decide +kernel
theorem dJ6_bitCount_0f7a4_23 : decode cJ6_bitCount_0f7a4 23 = .ok (.istore_n 0, 1) := by decide +kernel
theorem dJ6_bitCount_0f7a4_24 : decode cJ6_bitCount_0f7a4 24 = .ok (.iload_n 0, 1) := by decide +kernel
theorem dJ6_bitCount_0f7a4_25 : decode cJ6_bitCount_0f7a4 25 = .ok (.iload_n 0, 1) := by decide +kernel
theorem dJ6_bitCount_0f7a4_26 : decode cJ6_bitCount_0f7a4 26 = .ok (.iconst 4, 1) := by decide +kernel
theorem dJ6_bitCount_0f7a4_27 : decode cJ6_bitCount_0f7a4 27 = .ok (.iushr, 1) := by decide +kernel
theorem dJ6_bitCount_0f7a4_28 : decode cJ6_bitCount_0f7a4 28 = .ok (.iadd, 1) := by decide +kernel
theorem dJ6_bitCount_0f7a4_29 : decode cJ6_bitCount_0f7a4 29 = .ok (.ldc_w 267, 3) := by decide +kernel
theorem dJ6_bitCount_0f7a4_32 : decode cJ6_bitCount_0f7a4 32 = .ok (.iand, 1) := by decide +kernel
theorem dJ6_bitCount_0f7a4_33 : decode cJ6_bitCount_0f7a4 33 = .ok (.istore_n 0, 1) := by decide +kernel
theorem dJ6_bitCount_0f7a4_34 : decode cJ6_bitCount_0f7a4 34 = .ok (.iload_n 0, 1) := by decide +kernel
theorem dJ6_bitCount_0f7a4_35 : decode cJ6_bitCount_0f7a4 35 = .ok (.iload_n 0, 1) := by decide +kernel
theorem dJ6_bitCount_0f7a4_36 : decode cJ6_bitCount_0f7a4 36 = .ok (.bipush 8, 2) := by decide +kernel
theorem dJ6_bitCount_0f7a4_38 : decode cJ6_bitCount_0f7a4 38 = .ok (.iushr, 1) := by decide +kernel
theorem dJ6_bitCount_0f7a4_39 : decode cJ6_bitCount_0f7a4 39 = .ok (.iadd, 1) := by decide +kernel
theorem dJ6_bitCount_0f7a4_40 : decode cJ6_bitCount_0f7a4 40 = .ok (.istore_n 0, 1) := by decide +kernel
theorem dJ6_bitCount_0f7a4_41 : decode cJ6_bitCount_0f7a4 41 = .ok (.iload_n 0, 1) := by decide +kernel
theorem dJ6_bitCount_0f7a4_42 : decode cJ6_bitCount_0f7a4 42 = .ok (.iload_n 0, 1) := by decide +kernel
theorem dJ6_bitCount_0f7a4_43 : decode cJ6_bitCount_0f7a4 43 = .ok (.bipush 16, 2) := by decide +kernel
theorem dJ6_bitCount_0f7a4_45 : decode cJ6_bitCount_0f7a4 45 = .ok (.iushr, 1) := by decide +kernel
theorem dJ6_bitCount_0f7a4_46 : decode cJ6_bitCount_0f7a4 46 = .ok (.iadd, 1) := by decide +kernel
theorem dJ6_bitCount_0f7a4_47 : decode cJ6_bitCount_0f7a4 47 = .ok (.istore_n 0, 1) := by decide +kernel
theorem dJ6_bitCount_0f7a4_48 : decode cJ6_bitCount_0f7a4 48 = .ok (.iload_n 0, 1) := by decide +kernel
theorem dJ6_bitCount_0f7a4_49 : decode cJ6_bitCount_0f7a4 49 = .ok (.bipush 63, 2) := by decide +kernel
theorem dJ6_bitCount_0f7a4_51 : decode cJ6_bitCount_0f7a4 51 = .ok (.iand, 1) := by decide +kernel
theorem dJ6_bitCount_0f7a4_52 : decode cJ6_bitCount_0f7a4 52 = .ok (.ireturn, 1) := by decide +kernel
theorem dJ9_max_7cf53_0 : decode cJ9_max_7cf53 0 = .ok (.iload_n 0, 1) := by decide +kernel
theorem dJ9_max_7cf53_1 : decode cJ9_max_7cf53 1 = .ok (.iload_n 1, 1) := by decide +kernel
theorem dJ9_max_7cf53_2 : decode cJ9_max_7cf53 2 = .ok (.if_icmp .lt 7, 3) := by decide +kernel
theorem dJ9_max_7cf53_5 : decode cJ9_max_7cf53 5 = .ok (.iload_n 0, 1) := by decide +kernel
theorem dJ9_max_7cf53_6 : decode cJ9_max_7cf53 6 = .ok (.goto 4, 3) := by decide +kernel
theorem dJ9_max_7cf53_9 : decode cJ9_max_7cf53 9 = .ok (.iload_n 1, 1) := by decide +kernel
theorem dJ9_max_7cf53_10 : decode cJ9_max_7cf53 10 = .ok (.ireturn, 1) := by decide +kernel
theorem dJ7_fill_d0a16_0 : decode cJ7_fill_d0a16 0 = .ok (.iconst 0, 1) := by decide +kernel
theorem dJ7_fill_d0a16_1 : decode cJ7_fill_d0a16 1 = .ok (.istore_n 3, 1) := by decide +kernel
theorem dJ7_fill_d0a16_2 : decode cJ7_fill_d0a16 2 = .ok (.aload_n 0, 1) := by decide +kernel
theorem dJ7_fill_d0a16_3 : decode cJ7_fill_d0a16 3 = .ok (.arraylength, 1) := by decide +kernel
theorem dJ7_fill_d0a16_4 : decode cJ7_fill_d0a16 4 = .ok (.istore 4, 2) := by decide +kernel
theorem dJ7_fill_d0a16_6 : decode cJ7_fill_d0a16 6 = .ok (.iload_n 3, 1) := by decide +kernel
theorem dJ7_fill_d0a16_7 : decode cJ7_fill_d0a16 7 = .ok (.iload 4, 2) := by decide +kernel
theorem dJ7_fill_d0a16_9 : decode cJ7_fill_d0a16 9 = .ok (.if_icmp .ge 13, 3) := by decide +kernel
theorem dJ7_fill_d0a16_12 : decode cJ7_fill_d0a16 12 = .ok (.aload_n 0, 1) := by decide +kernel
theorem dJ7_fill_d0a16_13 : decode cJ7_fill_d0a16 13 = .ok (.iload_n 3, 1) := by decide +kernel
theorem dJ7_fill_d0a16_14 : decode cJ7_fill_d0a16 14 = .ok (.lload_n 1, 1) := by decide +kernel
theorem dJ7_fill_d0a16_15 : decode cJ7_fill_d0a16 15 = .ok (.lastore, 1) := by decide +kernel
theorem dJ7_fill_d0a16_16 : decode cJ7_fill_d0a16 16 = .ok (.iinc 3 1, 3) := by decide +kernel
theorem dJ7_fill_d0a16_19 : decode cJ7_fill_d0a16 19 = .ok (.goto (-13), 3) := by decide +kernel
theorem dJ7_fill_d0a16_22 : decode cJ7_fill_d0a16 22 = .ok (.return_, 1) := by decide +kernel
theorem dJ7_fill_53178_0 : decode cJ7_fill_53178 0 = .ok (.iconst 0, 1) := by decide +kernel
theorem dJ7_fill_53178_1 : decode cJ7_fill_53178 1 = .ok (.istore_n 2, 1) := by decide +kernel
theorem dJ7_fill_53178_2 : decode cJ7_fill_53178 2 = .ok (.aload_n 0, 1) := by decide +kernel
theorem dJ7_fill_53178_3 : decode cJ7_fill_53178 3 = .ok (.arraylength, 1) := by decide +kernel
theorem dJ7_fill_53178_4 : decode cJ7_fill_53178 4 = .ok (.istore_n 3, 1) := by decide +kernel
theorem dJ7_fill_53178_5 : decode cJ7_fill_53178 5 = .ok (.iload_n 2, 1) := by decide +kernel
theorem dJ7_fill_53178_6 : decode cJ7_fill_53178 6 = .ok (.iload_n 3, 1) := by decide +kernel
theorem dJ7_fill_53178_7 : decode cJ7_fill_53178 7 = .ok (.if_icmp .ge 13, 3) := by decide +kernel
theorem dJ7_fill_53178_10 : decode cJ7_fill_53178 10 = .ok (.aload_n 0, 1) := by decide +kernel
theorem dJ7_fill_53178_11 : decode cJ7_fill_53178 11 = .ok (.iload_n 2, 1) := by decide +kernel
theorem dJ7_fill_53178_12 : decode cJ7_fill_53178 12 = .ok (.iload_n 1, 1) := by decide +kernel
theorem dJ7_fill_53178_13 : decode cJ7_fill_53178 13 = .ok (.iastore, 1) := by decide +kernel
theorem dJ7_fill_53178_14 : decode cJ7_fill_53178 14 = .ok (.iinc 2 1, 3) := by decide +kernel
theorem dJ7_fill_53178_17 : decode cJ7_fill_53178 17 = .ok (.goto (-12), 3) := by decide +kernel
theorem dJ7_fill_53178_20 : decode cJ7_fill_53178 20 = .ok (.return_, 1) := by decide +kernel
set_option maxRecDepth 20000 in
theorem ggL_law_X8_init : GoodIn wsL_law wsX8_init := goodIn_r _ [8, 9, 10, 11, 12, 13, 14, 15, 16, 17, 18, 19, 20, 21, 22, 23, 24, 25, 26, 27, 28, 29, 30, 31, 32, 33, 34, 35, 36, 37, 38, 39, 40, 41, 42, 43, 44, 45, 46, 47, 48, 49, 50, 51, 52, 53, 54, 55, 56, 57, 58, 59, 60, 61, 62, 63, 64, 65, 66, 67, 68, 69, 70, 71, 72, 73, 74, 75, 76, 77, 78, 79, 80, 81, 82, 83, 84, 85, 86, 87, 88, 89, 90, 91, 92, 93, 94, 95, 96, 97, 98, 728, 729, 730, 731, 732, 733, 734, 735, 736, 737, 753, 754, 755, 756, 757, 758, 759, 760, 761, 762, 763, 764, 765, 766, 767, 768, 769, 770, 771, 772, 773, 774] (by decide +kernel) (by decide +kernel)
set_option maxRecDepth 20000 in
theorem gL_law_X8_init : GoodIn wsL_law (wsX8_init) := ggL_law_X8_init
set_option maxRecDepth 20000 in
theorem ggL_law_X9_init : GoodIn wsL_law wsX9_init := goodIn_r _ [101, 102, 10, 11, 41, 103, 104, 105, 106, 107, 108, 109, 72, 110, 111, 112, 113, 114, 115, 116, 117, 118, 5, 119, 120, 121, 122, 123, 738, 739, 740, 741, 742, 743, 744, 745, 746, 747, 748, 749, 750, 751, 752] (by decide +kernel) (by decide +kernel)
set_option maxRecDepth 20000 in
theorem gL_law_X9_init : GoodIn wsL_law (wsX9_init) := ggL_law_X9_init
set_option maxRecDepth 20000 in
theorem ggL_law_X8_rank : GoodIn wsL_law wsX8_rank := goodIn_r _ [127, 13, 128, 129, 2, 130, 131, 49, 50, 15, 51, 47, 52, 53, 54, 55, 56, 57, 58, 59, 60, 61, 62, 63, 728, 729, 730, 731, 732, 733, 734, 735, 736, 737, 753, 754] (by decide +kernel) (by decide +kernel)
set_option maxRecDepth 20000 in
theorem gL_law_X8_rank : GoodIn wsL_law (wsV RL 13 RX8 yX8_rank wsX8_rank) := goodIn_app (goodIn_of _ (by decide +kernel)) ggL_law_X8_rank
set_option maxRecDepth 20000 in
theorem ggL_law_X9_rank : GoodIn wsL_law wsX9_rank := goodIn_r _ [135, 136, 137, 138, 5, 139, 140, 141, 142, 116, 117, 118, 119, 103, 104, 120, 121, 122, 123, 738, 739, 740, 741, 742, 743, 744, 745, 746, 747, 748, 749, 750, 751, 752] (by decide +kernel) (by decide +kernel)
set_option maxRecDepth 20000 in
theorem gL_law_X9_rank : GoodIn wsL_law (wsV RL 17 RX9 yX9_rank wsX9_rank) := goodIn_app (goodIn_of _ (by decide +kernel)) ggL_law_X9_rank
set_option maxRecDepth 20000 in
theorem ggL_law_X8_put : GoodIn wsL_law wsX8_put := goodIn_r _ [146, 13, 147, 148, 149, 2, 150, 151, 152, 153, 154, 128, 129, 130, 155, 156, 157, 15, 158, 52, 159, 160, 161, 162, 47, 61, 62, 63, 163, 58, 59, 60, 728, 729, 730, 731, 732, 733, 734, 735, 736, 737, 753, 754] (by decide +kernel) (by decide +kernel)
set_option maxRecDepth 20000 in
theorem gL_law_X8_put : GoodIn wsL_law (wsV RL 18 RX8 yX8_put wsX8_put) := goodIn_app (goodIn_of _ (by decide +kernel)) ggL_law_X8_put
set_option maxRecDepth 20000 in
theorem ggL_law_X9_put : GoodIn wsL_law wsX9_put := goodIn_r _ [167, 168, 137, 138, 5, 139, 136, 140, 141, 142, 169, 170, 171, 172, 103, 173, 174, 175, 176, 104, 120, 121, 122, 123, 738, 739, 740, 741, 742, 743, 744, 745, 746, 747, 748, 749, 750, 751, 752] (by decide +kernel) (by decide +kernel)
set_option maxRecDepth 20000 in
theorem gL_law_X9_put : GoodIn wsL_law (wsV RL 22 RX9 yX9_put wsX9_put) := goodIn_app (goodIn_of _ (by decide +kernel)) ggL_law_X9_put
set_option maxRecDepth 20000 in
theorem ggL_law_X8_at : GoodIn wsL_law wsX8_at := goodIn_r _ [180, 13, 147, 148, 149, 2, 150, 151, 152, 153, 154, 128, 129, 130, 155, 156, 157, 15, 158, 52, 159, 160, 161, 162, 47, 61, 62, 63, 728, 729, 730, 731, 732, 733, 734, 735, 736, 737, 753, 754] (by decide +kernel) (by decide +kernel)
set_option maxRecDepth 20000 in
theorem gL_law_X8_at : GoodIn wsL_law (wsV RL 23 RX8 yX8_at wsX8_at) := goodIn_app (goodIn_of _ (by decide +kernel)) ggL_law_X8_at
set_option maxRecDepth 20000 in
theorem ggL_law_X9_at : GoodIn wsL_law wsX9_at := goodIn_r _ [184, 137, 138, 5, 139, 136, 140, 141, 142, 169, 170, 171, 172, 103, 173, 174, 175, 176, 104, 738, 739, 740, 741, 742, 743, 744, 745, 746, 747, 748, 749, 750, 751, 752] (by decide +kernel) (by decide +kernel)
set_option maxRecDepth 20000 in
theorem gL_law_X9_at : GoodIn wsL_law (wsV RL 27 RX9 yX9_at wsX9_at) := goodIn_app (goodIn_of _ (by decide +kernel)) ggL_law_X9_at
set_option maxRecDepth 20000 in
theorem ggL_law_X8_fault : GoodIn wsL_law wsX8_fault := goodIn_r _ [188, 20, 13, 189, 190, 128, 129, 2, 130, 191, 192, 193, 19, 194, 195, 67, 196, 54, 55, 56, 197, 198, 199, 200, 201, 202, 160, 161, 15, 162, 47, 61, 62, 63, 203, 204, 205, 206, 207, 208, 209, 210, 211, 212, 213, 214, 68, 215, 216, 217, 218, 219, 220, 221, 222, 223, 224, 225, 728, 729, 730, 731, 732, 733, 734, 735, 736, 737, 755, 756, 757, 753, 754] (by decide +kernel) (by decide +kernel)
set_option maxRecDepth 20000 in
theorem gL_law_X8_fault : GoodIn wsL_law (wsV RL 28 RX8 yX8_fault wsX8_fault) := goodIn_app (goodIn_of _ (by decide +kernel)) ggL_law_X8_fault
set_option maxRecDepth 20000 in
theorem ggL_law_X9_fault : GoodIn wsL_law wsX9_fault := goodIn_r _ [229, 230, 105, 137, 138, 5, 139, 136, 140, 141, 142, 231, 232, 233, 234, 235, 236, 237, 238, 103, 173, 174, 175, 176, 104, 239, 240, 241, 242, 243, 244, 245, 246, 106, 247, 248, 249, 250, 251, 252, 253, 254, 738, 739, 740, 741, 742, 743, 744, 745, 746, 747, 748, 749, 750, 751, 752] (by decide +kernel) (by decide +kernel)
set_option maxRecDepth 20000 in
theorem gL_law_X9_fault : GoodIn wsL_law (wsV RL 31 RX9 yX9_fault wsX9_fault) := goodIn_app (goodIn_of _ (by decide +kernel)) ggL_law_X9_fault
set_option maxRecDepth 20000 in
theorem ggL_law_X8_partner : GoodIn wsL_law wsX8_partner := goodIn_r _ [258, 20, 259, 151, 152, 153, 2, 154, 13, 128, 129, 130, 155, 156, 157, 15, 158, 52, 260, 261, 262, 263, 191, 192, 193, 19, 194, 195, 67, 196, 54, 55, 56, 197, 198, 199, 200, 201, 202, 160, 161, 162, 47, 61, 62, 63, 203, 204, 205, 206, 207, 208, 209, 210, 211, 212, 213, 214, 68, 215, 216, 217, 218, 219, 220, 221, 222, 223, 224, 225, 728, 729, 730, 731, 732, 733, 734, 735, 736, 737, 755, 756, 757, 753, 754] (by decide +kernel) (by decide +kernel)
set_option maxRecDepth 20000 in
theorem gL_law_X8_partner : GoodIn wsL_law (wsV RL 32 RX8 yX8_partner wsX8_partner) := goodIn_app (goodIn_of _ (by decide +kernel)) ggL_law_X8_partner
set_option maxRecDepth 20000 in
theorem ggL_law_X9_partner : GoodIn wsL_law wsX9_partner := goodIn_r _ [267, 106, 137, 138, 5, 139, 136, 140, 141, 142, 169, 170, 171, 172, 103, 231, 232, 233, 234, 235, 236, 237, 238, 173, 174, 175, 176, 104, 239, 240, 241, 242, 105, 243, 244, 245, 246, 247, 248, 249, 250, 251, 252, 253, 254, 738, 739, 740, 741, 742, 743, 744, 745, 746, 747, 748, 749, 750, 751, 752] (by decide +kernel) (by decide +kernel)
set_option maxRecDepth 20000 in
theorem gL_law_X9_partner : GoodIn wsL_law (wsV RL 35 RX9 yX9_partner wsX9_partner) := goodIn_app (goodIn_of _ (by decide +kernel)) ggL_law_X9_partner
set_option maxRecDepth 20000 in
theorem ggL_law_X8_copy : GoodIn wsL_law wsX8_copy := goodIn_r _ [271, 13, 272, 128, 129, 2, 130, 273, 274, 275, 15, 276, 52, 47, 277, 278, 279, 280, 728, 729, 730, 731, 732, 733, 734, 735, 736, 737, 753, 754] (by decide +kernel) (by decide +kernel)
set_option maxRecDepth 20000 in
theorem gL_law_X8_copy : GoodIn wsL_law (wsV RL 36 RX8 yX8_copy wsX8_copy) := goodIn_app (goodIn_of _ (by decide +kernel)) ggL_law_X8_copy
set_option maxRecDepth 20000 in
theorem ggL_law_X9_copy : GoodIn wsL_law wsX9_copy := goodIn_r _ [284, 103, 137, 138, 5, 139, 136, 140, 141, 142, 285, 286, 287, 288, 104, 738, 739, 740, 741, 742, 743, 744, 745, 746, 747, 748, 749, 750, 751, 752] (by decide +kernel) (by decide +kernel)
set_option maxRecDepth 20000 in
theorem gL_law_X9_copy : GoodIn wsL_law (wsV RL 39 RX9 yX9_copy wsX9_copy) := goodIn_app (goodIn_of _ (by decide +kernel)) ggL_law_X9_copy
set_option maxRecDepth 20000 in
theorem ggL_law_X8_group : GoodIn wsL_law wsX8_group := goodIn_r _ [292, 13, 128, 129, 2, 130, 131, 49, 50, 15, 51, 47, 52, 53, 54, 55, 56, 57, 58, 59, 60, 61, 62, 63, 293, 294, 295, 296, 728, 729, 730, 731, 732, 733, 734, 735, 736, 737, 753, 754] (by decide +kernel) (by decide +kernel)
set_option maxRecDepth 20000 in
theorem gL_law_X8_group : GoodIn wsL_law (wsV RL 40 RX8 yX8_group wsX8_group) := goodIn_app (goodIn_of _ (by decide +kernel)) ggL_law_X8_group
set_option maxRecDepth 20000 in
theorem ggL_law_X9_group : GoodIn wsL_law wsX9_group := goodIn_r _ [300, 136, 137, 138, 5, 139, 140, 141, 142, 116, 117, 118, 119, 103, 104, 120, 121, 122, 123, 301, 302, 303, 304, 738, 739, 740, 741, 742, 743, 744, 745, 746, 747, 748, 749, 750, 751, 752] (by decide +kernel) (by decide +kernel)
set_option maxRecDepth 20000 in
theorem gL_law_X9_group : GoodIn wsL_law (wsV RL 43 RX9 yX9_group wsX9_group) := goodIn_app (goodIn_of _ (by decide +kernel)) ggL_law_X9_group
set_option maxRecDepth 20000 in
theorem ggL_law_X8_near : GoodIn wsL_law wsX8_near := goodIn_r _ [308, 13, 128, 129, 2, 130, 131, 49, 50, 15, 51, 47, 52, 53, 54, 55, 56, 57, 58, 59, 60, 61, 62, 63, 293, 294, 295, 296, 163, 728, 729, 730, 731, 732, 733, 734, 735, 736, 737, 753, 754] (by decide +kernel) (by decide +kernel)
set_option maxRecDepth 20000 in
theorem gL_law_X8_near : GoodIn wsL_law (wsV RL 44 RX8 yX8_near wsX8_near) := goodIn_app (goodIn_of _ (by decide +kernel)) ggL_law_X8_near
set_option maxRecDepth 20000 in
theorem ggL_law_X9_near : GoodIn wsL_law wsX9_near := goodIn_r _ [312, 230, 168, 137, 138, 5, 139, 136, 140, 141, 142, 116, 117, 118, 119, 103, 104, 120, 121, 122, 123, 301, 302, 303, 304, 738, 739, 740, 741, 742, 743, 744, 745, 746, 747, 748, 749, 750, 751, 752] (by decide +kernel) (by decide +kernel)
set_option maxRecDepth 20000 in
theorem gL_law_X9_near : GoodIn wsL_law (wsV RL 48 RX9 yX9_near wsX9_near) := goodIn_app (goodIn_of _ (by decide +kernel)) ggL_law_X9_near
set_option maxRecDepth 20000 in
theorem ggL_law_X8_together : GoodIn wsL_law wsX8_together := goodIn_r _ [316, 13, 272, 16, 128, 129, 2, 130, 317, 318, 319, 15, 320, 52, 48, 49, 50, 51, 47, 53, 54, 55, 56, 57, 58, 59, 60, 61, 62, 63, 321, 160, 161, 162, 322, 323, 324, 325, 273, 274, 275, 276, 277, 278, 279, 280, 728, 729, 730, 731, 732, 733, 734, 735, 736, 737, 753, 754] (by decide +kernel) (by decide +kernel)
set_option maxRecDepth 20000 in
theorem gL_law_X8_together : GoodIn wsL_law (wsV RL 49 RX8 yX8_together wsX8_together) := goodIn_app (goodIn_of _ (by decide +kernel)) ggL_law_X8_together
set_option maxRecDepth 20000 in
theorem ggL_law_X9_together : GoodIn wsL_law wsX9_together := goodIn_r _ [329, 103, 137, 138, 5, 139, 136, 140, 141, 142, 116, 117, 118, 119, 104, 120, 121, 122, 123, 173, 174, 175, 176, 285, 286, 287, 288, 738, 739, 740, 741, 742, 743, 744, 745, 746, 747, 748, 749, 750, 751, 752] (by decide +kernel) (by decide +kernel)
set_option maxRecDepth 20000 in
theorem gL_law_X9_together : GoodIn wsL_law (wsV RL 52 RX9 yX9_together wsX9_together) := goodIn_app (goodIn_of _ (by decide +kernel)) ggL_law_X9_together
set_option maxRecDepth 20000 in
theorem ggL_law_X8_list : GoodIn wsL_law wsX8_list := goodIn_r _ [333, 28, 334, 335, 2, 336, 337, 338, 339, 27, 340, 341, 342, 343, 344, 345, 346, 347, 348, 78, 349, 350, 54, 55, 56, 351, 62, 15, 63, 352, 353, 354, 355, 356, 357, 358, 359, 360, 361, 362, 363, 79, 84, 82, 80, 364, 365, 366, 367, 368, 49, 50, 51, 47, 52, 53, 57, 58, 59, 60, 61, 369, 370, 220, 221, 19, 222, 201, 223, 224, 225, 202, 160, 161, 162, 203, 204, 205, 206, 195, 67, 371, 372, 373, 374, 375, 376, 377, 378, 728, 729, 730, 731, 732, 733, 734, 735, 736, 737, 760, 761, 762, 763, 764, 765, 766, 767, 768, 769, 753, 754, 755, 756, 757] (by decide +kernel) (by decide +kernel)
set_option maxRecDepth 20000 in
theorem gL_law_X8_list : GoodIn wsL_law (wsV RL 53 RX8 yX8_list wsX8_list) := goodIn_app (goodIn_of _ (by decide +kernel)) ggL_law_X8_list
set_option maxRecDepth 20000 in
theorem ggL_law_X9_list : GoodIn wsL_law wsX9_list := goodIn_r _ [382, 383, 384, 5, 385, 386, 230, 387, 140, 141, 142, 388, 389, 390, 391, 392, 393, 394, 395, 396, 107, 108, 397, 398, 399, 400, 401, 402, 403, 404, 405, 406, 407, 408, 409, 410, 104, 116, 117, 118, 119, 103, 120, 121, 122, 123, 231, 232, 233, 234, 235, 236, 237, 238, 173, 174, 175, 176, 239, 240, 241, 242, 105, 243, 244, 245, 246, 106, 247, 248, 249, 250, 251, 252, 253, 254, 738, 739, 740, 741, 742, 743, 744, 745, 746, 747, 748, 749, 750, 751, 752] (by decide +kernel) (by decide +kernel)
set_option maxRecDepth 20000 in
theorem gL_law_X9_list : GoodIn wsL_law (wsV RL 56 RX9 yX9_list wsX9_list) := goodIn_app (goodIn_of _ (by decide +kernel)) ggL_law_X9_list
set_option maxRecDepth 20000 in
theorem ggL_law_X8_take : GoodIn wsL_law wsX8_take := goodIn_r _ [414, 28, 13, 128, 129, 2, 130, 334, 335, 336, 337, 338, 339, 27, 340, 341, 342, 343, 344, 345, 346, 347, 348, 78, 349, 350, 54, 55, 56, 351, 62, 15, 63, 352, 353, 354, 355, 356, 357, 358, 359, 360, 361, 362, 363, 79, 84, 82, 80, 364, 365, 366, 367, 368, 49, 50, 51, 47, 52, 53, 57, 58, 59, 60, 61, 369, 370, 220, 221, 19, 222, 201, 223, 224, 225, 202, 160, 161, 162, 203, 204, 205, 206, 195, 67, 371, 372, 373, 374, 375, 376, 377, 378, 415, 416, 417, 418, 419, 274, 275, 276, 277, 278, 279, 280, 728, 729, 730, 731, 732, 733, 734, 735, 736, 737, 760, 761, 762, 763, 764, 765, 766, 767, 768, 769, 753, 754, 755, 756, 757] (by decide +kernel) (by decide +kernel)
set_option maxRecDepth 20000 in
theorem gL_law_X8_take : GoodIn wsL_law (wsV RL 57 RX8 yX8_take wsX8_take) := goodIn_app (goodIn_of _ (by decide +kernel)) ggL_law_X8_take
set_option maxRecDepth 20000 in
theorem ggL_law_X9_take : GoodIn wsL_law wsX9_take := goodIn_r _ [423, 424, 137, 138, 5, 139, 136, 140, 141, 142, 383, 384, 385, 386, 230, 387, 388, 389, 390, 391, 392, 393, 394, 395, 396, 107, 108, 397, 398, 399, 400, 401, 402, 403, 404, 405, 406, 407, 408, 409, 410, 104, 116, 117, 118, 119, 103, 120, 121, 122, 123, 231, 232, 233, 234, 235, 236, 237, 238, 173, 174, 175, 176, 239, 240, 241, 242, 105, 243, 244, 245, 246, 106, 247, 248, 249, 250, 251, 252, 253, 254, 285, 286, 287, 288, 738, 739, 740, 741, 742, 743, 744, 745, 746, 747, 748, 749, 750, 751, 752] (by decide +kernel) (by decide +kernel)
set_option maxRecDepth 20000 in
theorem gL_law_X9_take : GoodIn wsL_law (wsV RL 60 RX9 yX9_take wsX9_take) := goodIn_app (goodIn_of _ (by decide +kernel)) ggL_law_X9_take
set_option maxRecDepth 20000 in
theorem ggL_law_X8_letter : GoodIn wsL_law wsX8_letter := goodIn_r _ [428, 429, 42, 728, 729, 730, 731, 732, 733, 734, 735, 736, 737] (by decide +kernel) (by decide +kernel)
set_option maxRecDepth 20000 in
theorem gL_law_X8_letter : GoodIn wsL_law (wsV RL 61 RX8 yX8_letter wsX8_letter) := goodIn_app (goodIn_of _ (by decide +kernel)) ggL_law_X8_letter
set_option maxRecDepth 20000 in
theorem ggL_law_X9_letter : GoodIn wsL_law wsX9_letter := goodIn_r _ [433, 230, 434, 109, 140, 141, 5, 142, 738, 739, 740, 741, 742, 743, 744, 745, 746, 747, 748, 749, 750, 751, 752] (by decide +kernel) (by decide +kernel)
set_option maxRecDepth 20000 in
theorem gL_law_X9_letter : GoodIn wsL_law (wsV RL 65 RX9 yX9_letter wsX9_letter) := goodIn_app (goodIn_of _ (by decide +kernel)) ggL_law_X9_letter
set_option maxRecDepth 20000 in
theorem ggL_law_X8_empty : GoodIn wsL_law wsX8_empty := goodIn_r _ [438, 429, 728, 729, 730, 731, 732, 733, 734, 735, 736, 737] (by decide +kernel) (by decide +kernel)
set_option maxRecDepth 20000 in
theorem gL_law_X8_empty : GoodIn wsL_law (wsV RL 66 RX8 yX8_empty wsX8_empty) := goodIn_app (goodIn_of _ (by decide +kernel)) ggL_law_X8_empty
set_option maxRecDepth 20000 in
theorem ggL_law_X9_empty : GoodIn wsL_law wsX9_empty := goodIn_r _ [442, 434, 738, 739, 740, 741, 742, 743, 744, 745, 746, 747, 748, 749, 750, 751, 752] (by decide +kernel) (by decide +kernel)
set_option maxRecDepth 20000 in
theorem gL_law_X9_empty : GoodIn wsL_law (wsV RL 70 RX9 yX9_empty wsX9_empty) := goodIn_app (goodIn_of _ (by decide +kernel)) ggL_law_X9_empty
set_option maxRecDepth 20000 in
theorem ggL_law_X8_fused : GoodIn wsL_law wsX8_fused := goodIn_r _ [446, 13, 447, 24, 429, 42, 448, 151, 152, 153, 2, 154, 128, 129, 130, 155, 156, 157, 15, 158, 52, 449, 450, 451, 452, 453, 454, 455, 23, 456, 73, 457, 458, 55, 459, 460, 461, 462, 463, 464, 74, 465, 278, 279, 280, 466, 160, 161, 162, 47, 61, 62, 63, 728, 729, 730, 731, 732, 733, 734, 735, 736, 737, 758, 759, 753, 754] (by decide +kernel) (by decide +kernel)
set_option maxRecDepth 20000 in
theorem gL_law_X8_fused : GoodIn wsL_law (wsV RL 71 RX8 yX8_fused wsX8_fused) := goodIn_app (goodIn_of _ (by decide +kernel)) ggL_law_X8_fused
set_option maxRecDepth 20000 in
theorem ggL_law_X9_fused : GoodIn wsL_law wsX9_fused := goodIn_r _ [470, 471, 434, 109, 110, 137, 138, 5, 139, 136, 140, 141, 142, 169, 170, 171, 172, 103, 472, 473, 474, 475, 476, 477, 478, 479, 111, 173, 174, 175, 176, 104, 738, 739, 740, 741, 742, 743, 744, 745, 746, 747, 748, 749, 750, 751, 752] (by decide +kernel) (by decide +kernel)
set_option maxRecDepth 20000 in
theorem gL_law_X9_fused : GoodIn wsL_law (wsV RL 75 RX9 yX9_fused wsX9_fused) := goodIn_app (goodIn_of _ (by decide +kernel)) ggL_law_X9_fused
set_option maxRecDepth 20000 in
theorem ggL_law_X8_ways : GoodIn wsL_law wsX8_ways := goodIn_r _ [483, 447, 24, 13, 448, 147, 148, 149, 2, 150, 151, 152, 153, 154, 128, 129, 130, 155, 156, 157, 15, 158, 52, 453, 454, 455, 23, 456, 73, 457, 458, 55, 459, 460, 461, 462, 463, 464, 74, 465, 278, 279, 280, 466, 160, 161, 162, 47, 61, 62, 63, 728, 729, 730, 731, 732, 733, 734, 735, 736, 737, 758, 759, 753, 754] (by decide +kernel) (by decide +kernel)
set_option maxRecDepth 20000 in
theorem gL_law_X8_ways : GoodIn wsL_law (wsV RL 76 RX8 yX8_ways wsX8_ways) := goodIn_app (goodIn_of _ (by decide +kernel)) ggL_law_X8_ways
set_option maxRecDepth 20000 in
theorem ggL_law_X9_ways : GoodIn wsL_law wsX9_ways := goodIn_r _ [487, 488, 471, 110, 137, 138, 5, 139, 136, 140, 141, 142, 169, 170, 171, 172, 103, 472, 473, 474, 475, 476, 477, 478, 479, 111, 173, 174, 175, 176, 104, 738, 739, 740, 741, 742, 743, 744, 745, 746, 747, 748, 749, 750, 751, 752] (by decide +kernel) (by decide +kernel)
set_option maxRecDepth 20000 in
theorem gL_law_X9_ways : GoodIn wsL_law (wsV RL 80 RX9 yX9_ways wsX9_ways) := goodIn_app (goodIn_of _ (by decide +kernel)) ggL_law_X9_ways
set_option maxRecDepth 20000 in
theorem ggL_law_X8_closed : GoodIn wsL_law wsX8_closed := goodIn_r _ [492, 13, 20, 259, 493, 494, 495, 2, 496, 272, 128, 129, 130, 260, 261, 262, 263, 191, 192, 193, 19, 194, 195, 67, 196, 54, 55, 56, 197, 198, 199, 200, 201, 202, 160, 161, 15, 162, 47, 61, 62, 63, 203, 204, 205, 206, 207, 208, 209, 210, 211, 212, 213, 214, 68, 215, 216, 217, 218, 219, 220, 221, 222, 223, 224, 225, 497, 498, 499, 500, 501, 502, 503, 504, 505, 506, 507, 508, 509, 510, 511, 728, 729, 730, 731, 732, 733, 734, 735, 736, 737, 755, 756, 757, 753, 754] (by decide +kernel) (by decide +kernel)
set_option maxRecDepth 20000 in
theorem gL_law_X8_closed : GoodIn wsL_law (wsV RL 81 RX8 yX8_closed wsX8_closed) := goodIn_app (goodIn_of _ (by decide +kernel)) ggL_law_X8_closed
set_option maxRecDepth 20000 in
theorem ggL_law_X9_closed : GoodIn wsL_law wsX9_closed := goodIn_r _ [515, 137, 138, 5, 139, 136, 140, 141, 142, 516, 517, 518, 519, 103, 231, 232, 233, 234, 235, 236, 237, 238, 173, 174, 175, 176, 104, 239, 240, 241, 242, 105, 243, 244, 245, 246, 106, 247, 248, 249, 250, 251, 252, 253, 254, 520, 521, 522, 523, 738, 739, 740, 741, 742, 743, 744, 745, 746, 747, 748, 749, 750, 751, 752] (by decide +kernel) (by decide +kernel)
set_option maxRecDepth 20000 in
theorem gL_law_X9_closed : GoodIn wsL_law (wsV RL 84 RX9 yX9_closed wsX9_closed) := goodIn_app (goodIn_of _ (by decide +kernel)) ggL_law_X9_closed
set_option maxRecDepth 20000 in
theorem ggL_law_X8_least : GoodIn wsL_law wsX8_least := goodIn_r _ [527, 13, 20, 259, 493, 494, 495, 2, 496, 272, 128, 129, 130, 260, 261, 262, 263, 191, 192, 193, 19, 194, 195, 67, 196, 54, 55, 56, 197, 198, 199, 200, 201, 202, 160, 161, 15, 162, 47, 61, 62, 63, 203, 204, 205, 206, 207, 208, 209, 210, 211, 212, 213, 214, 68, 215, 216, 217, 218, 219, 220, 221, 222, 223, 224, 225, 497, 498, 499, 500, 501, 502, 503, 504, 505, 506, 507, 508, 509, 510, 511, 728, 729, 730, 731, 732, 733, 734, 735, 736, 737, 755, 756, 757, 753, 754] (by decide +kernel) (by decide +kernel)
set_option maxRecDepth 20000 in
theorem gL_law_X8_least : GoodIn wsL_law (wsV RL 85 RX8 yX8_least wsX8_least) := goodIn_app (goodIn_of _ (by decide +kernel)) ggL_law_X8_least
set_option maxRecDepth 20000 in
theorem ggL_law_X9_least : GoodIn wsL_law wsX9_least := goodIn_r _ [531, 137, 138, 5, 139, 136, 140, 141, 142, 516, 517, 518, 519, 103, 231, 232, 233, 234, 235, 236, 237, 238, 173, 174, 175, 176, 104, 239, 240, 241, 242, 105, 243, 244, 245, 246, 106, 247, 248, 249, 250, 251, 252, 253, 254, 520, 521, 522, 523, 738, 739, 740, 741, 742, 743, 744, 745, 746, 747, 748, 749, 750, 751, 752] (by decide +kernel) (by decide +kernel)
set_option maxRecDepth 20000 in
theorem gL_law_X9_least : GoodIn wsL_law (wsV RL 88 RX9 yX9_least wsX9_least) := goodIn_app (goodIn_of _ (by decide +kernel)) ggL_law_X9_least
set_option maxRecDepth 20000 in
theorem ggL_law_X8_core : GoodIn wsL_law wsX8_core := goodIn_r _ [535, 13, 20, 259, 128, 129, 2, 130, 260, 261, 262, 263, 191, 192, 193, 19, 194, 195, 67, 196, 54, 55, 56, 197, 198, 199, 200, 201, 202, 160, 161, 15, 162, 47, 61, 62, 63, 203, 204, 205, 206, 207, 208, 209, 210, 211, 212, 213, 214, 68, 215, 216, 217, 218, 219, 220, 221, 222, 223, 224, 225, 536, 537, 499, 538, 501, 508, 509, 510, 505, 506, 507, 511, 539, 498, 500, 502, 503, 504, 728, 729, 730, 731, 732, 733, 734, 735, 736, 737, 755, 756, 757, 753, 754] (by decide +kernel) (by decide +kernel)
set_option maxRecDepth 20000 in
theorem gL_law_X8_core : GoodIn wsL_law (wsV RL 89 RX8 yX8_core wsX8_core) := goodIn_app (goodIn_of _ (by decide +kernel)) ggL_law_X8_core
set_option maxRecDepth 20000 in
theorem ggL_law_X9_core : GoodIn wsL_law wsX9_core := goodIn_r _ [543, 137, 138, 5, 139, 136, 140, 141, 142, 231, 232, 233, 234, 235, 236, 237, 238, 103, 173, 174, 175, 176, 104, 239, 240, 241, 242, 105, 243, 244, 245, 246, 106, 247, 248, 249, 250, 251, 252, 253, 254, 544, 545, 546, 547, 520, 521, 522, 523, 738, 739, 740, 741, 742, 743, 744, 745, 746, 747, 748, 749, 750, 751, 752] (by decide +kernel) (by decide +kernel)
set_option maxRecDepth 20000 in
theorem gL_law_X9_core : GoodIn wsL_law (wsV RL 92 RX9 yX9_core wsX9_core) := goodIn_app (goodIn_of _ (by decide +kernel)) ggL_law_X9_core
set_option maxRecDepth 20000 in
theorem ggL_law_X8_grade : GoodIn wsL_law wsX8_grade := goodIn_r _ [551, 13, 20, 259, 151, 152, 153, 2, 154, 128, 129, 130, 155, 156, 157, 15, 158, 52, 260, 261, 262, 263, 191, 192, 193, 19, 194, 195, 67, 196, 54, 55, 56, 197, 198, 199, 200, 201, 202, 160, 161, 162, 47, 61, 62, 63, 203, 204, 205, 206, 207, 208, 209, 210, 211, 212, 213, 214, 68, 215, 216, 217, 218, 219, 220, 221, 222, 223, 224, 225, 536, 537, 499, 538, 501, 508, 509, 510, 505, 506, 507, 511, 539, 498, 500, 502, 503, 504, 552, 553, 554, 555, 728, 729, 730, 731, 732, 733, 734, 735, 736, 737, 755, 756, 757, 753, 754] (by decide +kernel) (by decide +kernel)
set_option maxRecDepth 20000 in
theorem gL_law_X8_grade : GoodIn wsL_law (wsV RL 93 RX8 yX8_grade wsX8_grade) := goodIn_app (goodIn_of _ (by decide +kernel)) ggL_law_X8_grade
set_option maxRecDepth 20000 in
theorem ggL_law_X9_grade : GoodIn wsL_law wsX9_grade := goodIn_r _ [559, 103, 137, 138, 5, 139, 136, 140, 141, 142, 169, 170, 171, 172, 231, 232, 233, 234, 235, 236, 237, 238, 173, 174, 175, 176, 104, 239, 240, 241, 242, 105, 243, 244, 245, 246, 106, 247, 248, 249, 250, 251, 252, 253, 254, 544, 545, 546, 547, 520, 521, 522, 523, 738, 739, 740, 741, 742, 743, 744, 745, 746, 747, 748, 749, 750, 751, 752] (by decide +kernel) (by decide +kernel)
set_option maxRecDepth 20000 in
theorem gL_law_X9_grade : GoodIn wsL_law (wsV RL 96 RX9 yX9_grade wsX9_grade) := goodIn_app (goodIn_of _ (by decide +kernel)) ggL_law_X9_grade
set_option maxRecDepth 20000 in
theorem ggL_law_X8_within : GoodIn wsL_law wsX8_within := goodIn_r _ [563, 13, 20, 259, 128, 129, 2, 130, 260, 261, 262, 263, 191, 192, 193, 19, 194, 195, 67, 196, 54, 55, 56, 197, 198, 199, 200, 201, 202, 160, 161, 15, 162, 47, 61, 62, 63, 203, 204, 205, 206, 207, 208, 209, 210, 211, 212, 213, 214, 68, 215, 216, 217, 218, 219, 220, 221, 222, 223, 224, 225, 564, 565, 499, 566, 501, 502, 503, 504, 505, 506, 507, 508, 509, 510, 511, 728, 729, 730, 731, 732, 733, 734, 735, 736, 737, 755, 756, 757, 753, 754] (by decide +kernel) (by decide +kernel)
set_option maxRecDepth 20000 in
theorem gL_law_X8_within : GoodIn wsL_law (wsV RL 97 RX8 yX8_within wsX8_within) := goodIn_app (goodIn_of _ (by decide +kernel)) ggL_law_X8_within
set_option maxRecDepth 20000 in
theorem ggL_law_X9_within : GoodIn wsL_law wsX9_within := goodIn_r _ [570, 103, 137, 138, 5, 139, 136, 140, 141, 142, 231, 232, 233, 234, 235, 236, 237, 238, 173, 174, 175, 176, 104, 239, 240, 241, 242, 105, 243, 244, 245, 246, 106, 247, 248, 249, 250, 251, 252, 253, 254, 520, 521, 522, 523, 738, 739, 740, 741, 742, 743, 744, 745, 746, 747, 748, 749, 750, 751, 752] (by decide +kernel) (by decide +kernel)
set_option maxRecDepth 20000 in
theorem gL_law_X9_within : GoodIn wsL_law (wsV RL 100 RX9 yX9_within wsX9_within) := goodIn_app (goodIn_of _ (by decide +kernel)) ggL_law_X9_within
set_option maxRecDepth 20000 in
theorem ggL_law_X8_like : GoodIn wsL_law wsX8_like := goodIn_r _ [574, 32, 13, 128, 129, 2, 130, 575, 576, 577, 31, 578, 579, 89, 580, 581, 582, 583, 584, 585, 586, 160, 161, 15, 162, 47, 61, 62, 63, 728, 729, 730, 731, 732, 733, 734, 735, 736, 737, 753, 754, 770] (by decide +kernel) (by decide +kernel)
set_option maxRecDepth 20000 in
theorem gL_law_X8_like : GoodIn wsL_law (wsV RL 101 RX8 yX8_like wsX8_like) := goodIn_app (goodIn_of _ (by decide +kernel)) ggL_law_X8_like
set_option maxRecDepth 20000 in
theorem ggL_law_X9_like : GoodIn wsL_law wsX9_like := goodIn_r _ [590, 103, 137, 138, 5, 139, 136, 140, 141, 142, 591, 592, 593, 594, 112, 595, 596, 597, 598, 173, 174, 175, 176, 104, 738, 739, 740, 741, 742, 743, 744, 745, 746, 747, 748, 749, 750, 751, 752] (by decide +kernel) (by decide +kernel)
set_option maxRecDepth 20000 in
theorem gL_law_X9_like : GoodIn wsL_law (wsV RL 104 RX9 yX9_like wsX9_like) := goodIn_app (goodIn_of _ (by decide +kernel)) ggL_law_X9_like
set_option maxRecDepth 20000 in
theorem ggL_law_X8_maps : GoodIn wsL_law wsX8_maps := goodIn_r _ [602, 36, 13, 128, 129, 2, 130, 603, 604, 605, 606, 260, 261, 262, 263, 20, 191, 192, 193, 19, 194, 195, 67, 196, 54, 55, 56, 197, 198, 199, 200, 201, 202, 160, 161, 15, 162, 47, 61, 62, 63, 203, 204, 205, 206, 207, 208, 209, 210, 211, 212, 213, 214, 68, 215, 216, 217, 218, 219, 220, 221, 222, 223, 224, 225, 607, 608, 609, 35, 610, 611, 612, 613, 614, 615, 93, 616, 617, 618, 619, 620, 621, 622, 623, 624, 625, 626, 627, 628, 629, 630, 728, 729, 730, 731, 732, 733, 734, 735, 736, 737, 755, 756, 757, 753, 754, 771, 772] (by decide +kernel) (by decide +kernel)
set_option maxRecDepth 20000 in
theorem gL_law_X8_maps : GoodIn wsL_law (wsV RL 105 RX8 yX8_maps wsX8_maps) := goodIn_app (goodIn_of _ (by decide +kernel)) ggL_law_X8_maps
set_option maxRecDepth 20000 in
theorem ggL_law_X9_maps : GoodIn wsL_law wsX9_maps := goodIn_r _ [634, 137, 138, 5, 139, 136, 140, 141, 142, 635, 636, 637, 231, 232, 233, 234, 235, 236, 237, 238, 103, 173, 174, 175, 176, 104, 239, 240, 241, 242, 105, 243, 244, 245, 246, 106, 247, 248, 249, 250, 251, 252, 253, 254, 638, 639, 640, 641, 113, 642, 643, 644, 645, 738, 739, 740, 741, 742, 743, 744, 745, 746, 747, 748, 749, 750, 751, 752] (by decide +kernel) (by decide +kernel)
set_option maxRecDepth 20000 in
theorem gL_law_X9_maps : GoodIn wsL_law (wsV RL 108 RX9 yX9_maps wsX9_maps) := goodIn_app (goodIn_of _ (by decide +kernel)) ggL_law_X9_maps
set_option maxRecDepth 20000 in
theorem ggL_law_X8_map : GoodIn wsL_law wsX8_map := goodIn_r _ [649, 36, 13, 650, 151, 152, 153, 2, 154, 128, 129, 130, 155, 156, 157, 15, 158, 52, 603, 604, 605, 606, 260, 261, 262, 263, 20, 191, 192, 193, 19, 194, 195, 67, 196, 54, 55, 56, 197, 198, 199, 200, 201, 202, 160, 161, 162, 47, 61, 62, 63, 203, 204, 205, 206, 207, 208, 209, 210, 211, 212, 213, 214, 68, 215, 216, 217, 218, 219, 220, 221, 222, 223, 224, 225, 651, 652, 653, 35, 654, 612, 613, 614, 615, 611, 93, 616, 617, 618, 619, 620, 621, 622, 623, 624, 625, 626, 627, 628, 629, 630, 728, 729, 730, 731, 732, 733, 734, 735, 736, 737, 771, 772, 753, 754, 755, 756, 757] (by decide +kernel) (by decide +kernel)
set_option maxRecDepth 20000 in
theorem gL_law_X8_map : GoodIn wsL_law (wsV RL 109 RX8 yX8_map wsX8_map) := goodIn_app (goodIn_of _ (by decide +kernel)) ggL_law_X8_map
set_option maxRecDepth 20000 in
theorem ggL_law_X9_map : GoodIn wsL_law wsX9_map := goodIn_r _ [658, 424, 113, 137, 138, 5, 139, 136, 140, 141, 142, 635, 636, 637, 169, 170, 171, 172, 103, 231, 232, 233, 234, 235, 236, 237, 238, 173, 174, 175, 176, 104, 239, 240, 241, 242, 105, 243, 244, 245, 246, 106, 247, 248, 249, 250, 251, 252, 253, 254, 638, 639, 640, 641, 642, 643, 644, 645, 738, 739, 740, 741, 742, 743, 744, 745, 746, 747, 748, 749, 750, 751, 752] (by decide +kernel) (by decide +kernel)
set_option maxRecDepth 20000 in
theorem gL_law_X9_map : GoodIn wsL_law (wsV RL 112 RX9 yX9_map wsX9_map) := goodIn_app (goodIn_of _ (by decide +kernel)) ggL_law_X9_map
set_option maxRecDepth 20000 in
theorem ggL_law_X8_size : GoodIn wsL_law wsX8_size := goodIn_r _ [662, 40, 13, 128, 129, 2, 130, 260, 261, 262, 263, 20, 191, 192, 193, 19, 194, 195, 67, 196, 54, 55, 56, 197, 198, 199, 200, 201, 202, 160, 161, 15, 162, 47, 61, 62, 63, 203, 204, 205, 206, 207, 208, 209, 210, 211, 212, 213, 214, 68, 215, 216, 217, 218, 219, 220, 221, 222, 223, 224, 225, 663, 664, 665, 39, 666, 667, 668, 669, 670, 671, 97, 672, 673, 674, 675, 676, 98, 677, 678, 679, 680, 681, 682, 683, 684, 685, 686, 687, 688, 689, 506, 499, 507, 728, 729, 730, 731, 732, 733, 734, 735, 736, 737, 755, 756, 757, 753, 754, 773, 774] (by decide +kernel) (by decide +kernel)
set_option maxRecDepth 20000 in
theorem gL_law_X8_size : GoodIn wsL_law (wsV RL 113 RX8 yX8_size wsX8_size) := goodIn_app (goodIn_of _ (by decide +kernel)) ggL_law_X8_size
set_option maxRecDepth 20000 in
theorem ggL_law_X9_size : GoodIn wsL_law wsX9_size := goodIn_r _ [693, 137, 138, 5, 139, 136, 140, 141, 142, 231, 232, 233, 234, 235, 236, 237, 238, 103, 173, 174, 175, 176, 104, 239, 240, 241, 242, 105, 243, 244, 245, 246, 106, 247, 248, 249, 250, 251, 252, 253, 254, 694, 695, 696, 697, 698, 699, 700, 701, 114, 702, 703, 704, 705, 115, 706, 707, 708, 709, 710, 738, 739, 740, 741, 742, 743, 744, 745, 746, 747, 748, 749, 750, 751, 752] (by decide +kernel) (by decide +kernel)
set_option maxRecDepth 20000 in
theorem gL_law_X9_size : GoodIn wsL_law (wsV RL 116 RX9 yX9_size wsX9_size) := goodIn_app (goodIn_of _ (by decide +kernel)) ggL_law_X9_size
set_option maxRecDepth 20000 in
theorem ggL_law_X8_digest : GoodIn wsL_law wsX8_digest := goodIn_r _ [714, 715, 13, 716, 429, 42, 717, 718, 719, 15, 720, 721, 52, 321, 160, 161, 162, 47, 61, 62, 63, 728, 729, 730, 731, 732, 733, 734, 735, 736, 737, 753, 754] (by decide +kernel) (by decide +kernel)
set_option maxRecDepth 20000 in
theorem gL_law_X8_digest : GoodIn wsL_law (wsV RL 117 RX8 yX8_digest wsX8_digest) := goodIn_app (goodIn_of _ (by decide +kernel)) ggL_law_X8_digest
set_option maxRecDepth 20000 in
theorem ggL_law_X9_digest : GoodIn wsL_law wsX9_digest := goodIn_r _ [725, 726, 103, 727, 434, 109, 173, 174, 175, 5, 176, 104, 738, 739, 740, 741, 742, 743, 744, 745, 746, 747, 748, 749, 750, 751, 752] (by decide +kernel) (by decide +kernel)
set_option maxRecDepth 20000 in
theorem gL_law_X9_digest : GoodIn wsL_law (wsV RL 121 RX9 yX9_digest wsX9_digest) := goodIn_app (goodIn_of _ (by decide +kernel)) ggL_law_X9_digest
theorem dL_law_0 : decode cL_law 0 = .ok (.new 7, 3) := by decide +kernel
theorem dL_law_3 : decode cL_law 3 = .ok (.dup, 1) := by decide +kernel
theorem dL_law_4 : decode cL_law 4 = .ok (.invokespecial 9, 3) := by decide +kernel
theorem dL_law_7 : decode cL_law 7 = .ok (.astore_n 1, 1) := by decide +kernel
theorem dL_law_8 : decode cL_law 8 = .ok (.new 10, 3) := by decide +kernel
theorem dL_law_11 : decode cL_law 11 = .ok (.dup, 1) := by decide +kernel
theorem dL_law_12 : decode cL_law 12 = .ok (.invokespecial 12, 3) := by decide +kernel
theorem dL_law_15 : decode cL_law 15 = .ok (.astore_n 2, 1) := by decide +kernel
theorem dL_law_16 : decode cL_law 16 = .ok (.iconst 0, 1) := by decide +kernel
theorem dL_law_17 : decode cL_law 17 = .ok (.istore_n 3, 1) := by decide +kernel
theorem dL_law_18 : decode cL_law 18 = .ok (.iload_n 3, 1) := by decide +kernel
theorem dL_law_19 : decode cL_law 19 = .ok (.aload_n 0, 1) := by decide +kernel
theorem dL_law_20 : decode cL_law 20 = .ok (.arraylength, 1) := by decide +kernel
theorem dL_law_21 : decode cL_law 21 = .ok (.bipush 6, 2) := by decide +kernel
theorem dL_law_23 : decode cL_law 23 = .ok (.isub, 1) := by decide +kernel
theorem dL_law_24 : decode cL_law 24 = .ok (.if_icmp .gt 1038, 3) := by decide +kernel
theorem dL_law_27 : decode cL_law 27 = .ok (.aload_n 0, 1) := by decide +kernel
theorem dL_law_28 : decode cL_law 28 = .ok (.iload_n 3, 1) := by decide +kernel
theorem dL_law_29 : decode cL_law 29 = .ok (.iaload, 1) := by decide +kernel
theorem dL_law_30 : decode cL_law 30 = .ok (.bipush 31, 2) := by decide +kernel
theorem dL_law_32 : decode cL_law 32 = .ok (.iand, 1) := by decide +kernel
theorem dL_law_33 : decode cL_law 33 = .ok (.tableswitch 1023 0 24 #[115, 148, 211, 264, 297, 330, 363, 396, 439, 482, 525, 588, 611, 624, 658, 722, 755, 788, 811, 844, 867, 900, 933, 986, 1009], 115) := by decide +kernel
theorem dL_law_148 : decode cL_law 148 = .ok (.aload_n 1, 1) := by decide +kernel
theorem dL_law_149 : decode cL_law 149 = .ok (.aload_n 0, 1) := by decide +kernel
theorem dL_law_150 : decode cL_law 150 = .ok (.iload_n 3, 1) := by decide +kernel
theorem dL_law_151 : decode cL_law 151 = .ok (.iconst 1, 1) := by decide +kernel
theorem dL_law_152 : decode cL_law 152 = .ok (.iadd, 1) := by decide +kernel
theorem dL_law_153 : decode cL_law 153 = .ok (.iaload, 1) := by decide +kernel
theorem dL_law_154 : decode cL_law 154 = .ok (.aload_n 0, 1) := by decide +kernel
theorem dL_law_155 : decode cL_law 155 = .ok (.iload_n 3, 1) := by decide +kernel
theorem dL_law_156 : decode cL_law 156 = .ok (.iconst 2, 1) := by decide +kernel
theorem dL_law_157 : decode cL_law 157 = .ok (.iadd, 1) := by decide +kernel
theorem dL_law_158 : decode cL_law 158 = .ok (.iaload, 1) := by decide +kernel
theorem dL_law_159 : decode cL_law 159 = .ok (.invokevirtual 13, 3) := by decide +kernel
theorem dL_law_162 : decode cL_law 162 = .ok (.aload_n 2, 1) := by decide +kernel
theorem dL_law_163 : decode cL_law 163 = .ok (.aload_n 0, 1) := by decide +kernel
theorem dL_law_164 : decode cL_law 164 = .ok (.iload_n 3, 1) := by decide +kernel
theorem dL_law_165 : decode cL_law 165 = .ok (.iconst 1, 1) := by decide +kernel
theorem dL_law_166 : decode cL_law 166 = .ok (.iadd, 1) := by decide +kernel
theorem dL_law_167 : decode cL_law 167 = .ok (.iaload, 1) := by decide +kernel
theorem dL_law_168 : decode cL_law 168 = .ok (.aload_n 0, 1) := by decide +kernel
theorem dL_law_169 : decode cL_law 169 = .ok (.iload_n 3, 1) := by decide +kernel
theorem dL_law_170 : decode cL_law 170 = .ok (.iconst 2, 1) := by decide +kernel
theorem dL_law_171 : decode cL_law 171 = .ok (.iadd, 1) := by decide +kernel
theorem dL_law_172 : decode cL_law 172 = .ok (.iaload, 1) := by decide +kernel
theorem dL_law_173 : decode cL_law 173 = .ok (.invokevirtual 17, 3) := by decide +kernel
theorem dL_law_176 : decode cL_law 176 = .ok (.if_icmp .eq 880, 3) := by decide +kernel
theorem dL_law_179 : decode cL_law 179 = .ok (.iconst 0, 1) := by decide +kernel
theorem dL_law_180 : decode cL_law 180 = .ok (.ireturn, 1) := by decide +kernel
theorem dL_law_181 : decode cL_law 181 = .ok (.aload_n 1, 1) := by decide +kernel
theorem dL_law_182 : decode cL_law 182 = .ok (.aload_n 0, 1) := by decide +kernel
theorem dL_law_183 : decode cL_law 183 = .ok (.iload_n 3, 1) := by decide +kernel
theorem dL_law_184 : decode cL_law 184 = .ok (.iconst 1, 1) := by decide +kernel
theorem dL_law_185 : decode cL_law 185 = .ok (.iadd, 1) := by decide +kernel
theorem dL_law_186 : decode cL_law 186 = .ok (.iaload, 1) := by decide +kernel
theorem dL_law_187 : decode cL_law 187 = .ok (.aload_n 0, 1) := by decide +kernel
theorem dL_law_188 : decode cL_law 188 = .ok (.iload_n 3, 1) := by decide +kernel
theorem dL_law_189 : decode cL_law 189 = .ok (.iconst 2, 1) := by decide +kernel
theorem dL_law_190 : decode cL_law 190 = .ok (.iadd, 1) := by decide +kernel
theorem dL_law_191 : decode cL_law 191 = .ok (.iaload, 1) := by decide +kernel
theorem dL_law_192 : decode cL_law 192 = .ok (.aload_n 0, 1) := by decide +kernel
theorem dL_law_193 : decode cL_law 193 = .ok (.iload_n 3, 1) := by decide +kernel
theorem dL_law_194 : decode cL_law 194 = .ok (.iconst 3, 1) := by decide +kernel
theorem dL_law_195 : decode cL_law 195 = .ok (.iadd, 1) := by decide +kernel
theorem dL_law_196 : decode cL_law 196 = .ok (.iaload, 1) := by decide +kernel
theorem dL_law_197 : decode cL_law 197 = .ok (.aload_n 0, 1) := by decide +kernel
theorem dL_law_198 : decode cL_law 198 = .ok (.iload_n 3, 1) := by decide +kernel
theorem dL_law_199 : decode cL_law 199 = .ok (.iconst 4, 1) := by decide +kernel
theorem dL_law_200 : decode cL_law 200 = .ok (.iadd, 1) := by decide +kernel
theorem dL_law_201 : decode cL_law 201 = .ok (.iaload, 1) := by decide +kernel
theorem dL_law_202 : decode cL_law 202 = .ok (.aload_n 0, 1) := by decide +kernel
theorem dL_law_203 : decode cL_law 203 = .ok (.iload_n 3, 1) := by decide +kernel
theorem dL_law_204 : decode cL_law 204 = .ok (.iconst 5, 1) := by decide +kernel
theorem dL_law_205 : decode cL_law 205 = .ok (.iadd, 1) := by decide +kernel
theorem dL_law_206 : decode cL_law 206 = .ok (.iaload, 1) := by decide +kernel
theorem dL_law_207 : decode cL_law 207 = .ok (.invokevirtual 18, 3) := by decide +kernel
theorem dL_law_210 : decode cL_law 210 = .ok (.aload_n 2, 1) := by decide +kernel
theorem dL_law_211 : decode cL_law 211 = .ok (.aload_n 0, 1) := by decide +kernel
theorem dL_law_212 : decode cL_law 212 = .ok (.iload_n 3, 1) := by decide +kernel
theorem dL_law_213 : decode cL_law 213 = .ok (.iconst 1, 1) := by decide +kernel
theorem dL_law_214 : decode cL_law 214 = .ok (.iadd, 1) := by decide +kernel
theorem dL_law_215 : decode cL_law 215 = .ok (.iaload, 1) := by decide +kernel
theorem dL_law_216 : decode cL_law 216 = .ok (.aload_n 0, 1) := by decide +kernel
theorem dL_law_217 : decode cL_law 217 = .ok (.iload_n 3, 1) := by decide +kernel
theorem dL_law_218 : decode cL_law 218 = .ok (.iconst 2, 1) := by decide +kernel
theorem dL_law_219 : decode cL_law 219 = .ok (.iadd, 1) := by decide +kernel
theorem dL_law_220 : decode cL_law 220 = .ok (.iaload, 1) := by decide +kernel
theorem dL_law_221 : decode cL_law 221 = .ok (.aload_n 0, 1) := by decide +kernel
theorem dL_law_222 : decode cL_law 222 = .ok (.iload_n 3, 1) := by decide +kernel
theorem dL_law_223 : decode cL_law 223 = .ok (.iconst 3, 1) := by decide +kernel
theorem dL_law_224 : decode cL_law 224 = .ok (.iadd, 1) := by decide +kernel
theorem dL_law_225 : decode cL_law 225 = .ok (.iaload, 1) := by decide +kernel
theorem dL_law_226 : decode cL_law 226 = .ok (.aload_n 0, 1) := by decide +kernel
theorem dL_law_227 : decode cL_law 227 = .ok (.iload_n 3, 1) := by decide +kernel
theorem dL_law_228 : decode cL_law 228 = .ok (.iconst 4, 1) := by decide +kernel
theorem dL_law_229 : decode cL_law 229 = .ok (.iadd, 1) := by decide +kernel
theorem dL_law_230 : decode cL_law 230 = .ok (.iaload, 1) := by decide +kernel
theorem dL_law_231 : decode cL_law 231 = .ok (.aload_n 0, 1) := by decide +kernel
theorem dL_law_232 : decode cL_law 232 = .ok (.iload_n 3, 1) := by decide +kernel
theorem dL_law_233 : decode cL_law 233 = .ok (.iconst 5, 1) := by decide +kernel
theorem dL_law_234 : decode cL_law 234 = .ok (.iadd, 1) := by decide +kernel
theorem dL_law_235 : decode cL_law 235 = .ok (.iaload, 1) := by decide +kernel
theorem dL_law_236 : decode cL_law 236 = .ok (.invokevirtual 22, 3) := by decide +kernel
theorem dL_law_239 : decode cL_law 239 = .ok (.if_icmp .eq 817, 3) := by decide +kernel
theorem dL_law_242 : decode cL_law 242 = .ok (.iconst 0, 1) := by decide +kernel
theorem dL_law_243 : decode cL_law 243 = .ok (.ireturn, 1) := by decide +kernel
theorem dL_law_244 : decode cL_law 244 = .ok (.aload_n 1, 1) := by decide +kernel
theorem dL_law_245 : decode cL_law 245 = .ok (.aload_n 0, 1) := by decide +kernel
theorem dL_law_246 : decode cL_law 246 = .ok (.iload_n 3, 1) := by decide +kernel
theorem dL_law_247 : decode cL_law 247 = .ok (.iconst 1, 1) := by decide +kernel
theorem dL_law_248 : decode cL_law 248 = .ok (.iadd, 1) := by decide +kernel
theorem dL_law_249 : decode cL_law 249 = .ok (.iaload, 1) := by decide +kernel
theorem dL_law_250 : decode cL_law 250 = .ok (.aload_n 0, 1) := by decide +kernel
theorem dL_law_251 : decode cL_law 251 = .ok (.iload_n 3, 1) := by decide +kernel
theorem dL_law_252 : decode cL_law 252 = .ok (.iconst 2, 1) := by decide +kernel
theorem dL_law_253 : decode cL_law 253 = .ok (.iadd, 1) := by decide +kernel
theorem dL_law_254 : decode cL_law 254 = .ok (.iaload, 1) := by decide +kernel
theorem dL_law_255 : decode cL_law 255 = .ok (.aload_n 0, 1) := by decide +kernel
theorem dL_law_256 : decode cL_law 256 = .ok (.iload_n 3, 1) := by decide +kernel
theorem dL_law_257 : decode cL_law 257 = .ok (.iconst 3, 1) := by decide +kernel
theorem dL_law_258 : decode cL_law 258 = .ok (.iadd, 1) := by decide +kernel
theorem dL_law_259 : decode cL_law 259 = .ok (.iaload, 1) := by decide +kernel
theorem dL_law_260 : decode cL_law 260 = .ok (.aload_n 0, 1) := by decide +kernel
theorem dL_law_261 : decode cL_law 261 = .ok (.iload_n 3, 1) := by decide +kernel
theorem dL_law_262 : decode cL_law 262 = .ok (.iconst 4, 1) := by decide +kernel
theorem dL_law_263 : decode cL_law 263 = .ok (.iadd, 1) := by decide +kernel
theorem dL_law_264 : decode cL_law 264 = .ok (.iaload, 1) := by decide +kernel
theorem dL_law_265 : decode cL_law 265 = .ok (.invokevirtual 23, 3) := by decide +kernel
theorem dL_law_268 : decode cL_law 268 = .ok (.aload_n 2, 1) := by decide +kernel
theorem dL_law_269 : decode cL_law 269 = .ok (.aload_n 0, 1) := by decide +kernel
theorem dL_law_270 : decode cL_law 270 = .ok (.iload_n 3, 1) := by decide +kernel
theorem dL_law_271 : decode cL_law 271 = .ok (.iconst 1, 1) := by decide +kernel
theorem dL_law_272 : decode cL_law 272 = .ok (.iadd, 1) := by decide +kernel
theorem dL_law_273 : decode cL_law 273 = .ok (.iaload, 1) := by decide +kernel
theorem dL_law_274 : decode cL_law 274 = .ok (.aload_n 0, 1) := by decide +kernel
theorem dL_law_275 : decode cL_law 275 = .ok (.iload_n 3, 1) := by decide +kernel
theorem dL_law_276 : decode cL_law 276 = .ok (.iconst 2, 1) := by decide +kernel
theorem dL_law_277 : decode cL_law 277 = .ok (.iadd, 1) := by decide +kernel
theorem dL_law_278 : decode cL_law 278 = .ok (.iaload, 1) := by decide +kernel
theorem dL_law_279 : decode cL_law 279 = .ok (.aload_n 0, 1) := by decide +kernel
theorem dL_law_280 : decode cL_law 280 = .ok (.iload_n 3, 1) := by decide +kernel
theorem dL_law_281 : decode cL_law 281 = .ok (.iconst 3, 1) := by decide +kernel
theorem dL_law_282 : decode cL_law 282 = .ok (.iadd, 1) := by decide +kernel
theorem dL_law_283 : decode cL_law 283 = .ok (.iaload, 1) := by decide +kernel
theorem dL_law_284 : decode cL_law 284 = .ok (.aload_n 0, 1) := by decide +kernel
theorem dL_law_285 : decode cL_law 285 = .ok (.iload_n 3, 1) := by decide +kernel
theorem dL_law_286 : decode cL_law 286 = .ok (.iconst 4, 1) := by decide +kernel
theorem dL_law_287 : decode cL_law 287 = .ok (.iadd, 1) := by decide +kernel
theorem dL_law_288 : decode cL_law 288 = .ok (.iaload, 1) := by decide +kernel
theorem dL_law_289 : decode cL_law 289 = .ok (.invokevirtual 27, 3) := by decide +kernel
theorem dL_law_292 : decode cL_law 292 = .ok (.if_icmp .eq 764, 3) := by decide +kernel
theorem dL_law_295 : decode cL_law 295 = .ok (.iconst 0, 1) := by decide +kernel
theorem dL_law_296 : decode cL_law 296 = .ok (.ireturn, 1) := by decide +kernel
theorem dL_law_297 : decode cL_law 297 = .ok (.aload_n 1, 1) := by decide +kernel
theorem dL_law_298 : decode cL_law 298 = .ok (.aload_n 0, 1) := by decide +kernel
theorem dL_law_299 : decode cL_law 299 = .ok (.iload_n 3, 1) := by decide +kernel
theorem dL_law_300 : decode cL_law 300 = .ok (.iconst 1, 1) := by decide +kernel
theorem dL_law_301 : decode cL_law 301 = .ok (.iadd, 1) := by decide +kernel
theorem dL_law_302 : decode cL_law 302 = .ok (.iaload, 1) := by decide +kernel
theorem dL_law_303 : decode cL_law 303 = .ok (.aload_n 0, 1) := by decide +kernel
theorem dL_law_304 : decode cL_law 304 = .ok (.iload_n 3, 1) := by decide +kernel
theorem dL_law_305 : decode cL_law 305 = .ok (.iconst 2, 1) := by decide +kernel
theorem dL_law_306 : decode cL_law 306 = .ok (.iadd, 1) := by decide +kernel
theorem dL_law_307 : decode cL_law 307 = .ok (.iaload, 1) := by decide +kernel
theorem dL_law_308 : decode cL_law 308 = .ok (.invokevirtual 28, 3) := by decide +kernel
theorem dL_law_311 : decode cL_law 311 = .ok (.aload_n 2, 1) := by decide +kernel
theorem dL_law_312 : decode cL_law 312 = .ok (.aload_n 0, 1) := by decide +kernel
theorem dL_law_313 : decode cL_law 313 = .ok (.iload_n 3, 1) := by decide +kernel
theorem dL_law_314 : decode cL_law 314 = .ok (.iconst 1, 1) := by decide +kernel
theorem dL_law_315 : decode cL_law 315 = .ok (.iadd, 1) := by decide +kernel
theorem dL_law_316 : decode cL_law 316 = .ok (.iaload, 1) := by decide +kernel
theorem dL_law_317 : decode cL_law 317 = .ok (.aload_n 0, 1) := by decide +kernel
theorem dL_law_318 : decode cL_law 318 = .ok (.iload_n 3, 1) := by decide +kernel
theorem dL_law_319 : decode cL_law 319 = .ok (.iconst 2, 1) := by decide +kernel
theorem dL_law_320 : decode cL_law 320 = .ok (.iadd, 1) := by decide +kernel
theorem dL_law_321 : decode cL_law 321 = .ok (.iaload, 1) := by decide +kernel
theorem dL_law_322 : decode cL_law 322 = .ok (.invokevirtual 31, 3) := by decide +kernel
theorem dL_law_325 : decode cL_law 325 = .ok (.if_icmp .eq 731, 3) := by decide +kernel
theorem dL_law_328 : decode cL_law 328 = .ok (.iconst 0, 1) := by decide +kernel
theorem dL_law_329 : decode cL_law 329 = .ok (.ireturn, 1) := by decide +kernel
theorem dL_law_330 : decode cL_law 330 = .ok (.aload_n 1, 1) := by decide +kernel
theorem dL_law_331 : decode cL_law 331 = .ok (.aload_n 0, 1) := by decide +kernel
theorem dL_law_332 : decode cL_law 332 = .ok (.iload_n 3, 1) := by decide +kernel
theorem dL_law_333 : decode cL_law 333 = .ok (.iconst 1, 1) := by decide +kernel
theorem dL_law_334 : decode cL_law 334 = .ok (.iadd, 1) := by decide +kernel
theorem dL_law_335 : decode cL_law 335 = .ok (.iaload, 1) := by decide +kernel
theorem dL_law_336 : decode cL_law 336 = .ok (.aload_n 0, 1) := by decide +kernel
theorem dL_law_337 : decode cL_law 337 = .ok (.iload_n 3, 1) := by decide +kernel
theorem dL_law_338 : decode cL_law 338 = .ok (.iconst 2, 1) := by decide +kernel
theorem dL_law_339 : decode cL_law 339 = .ok (.iadd, 1) := by decide +kernel
theorem dL_law_340 : decode cL_law 340 = .ok (.iaload, 1) := by decide +kernel
theorem dL_law_341 : decode cL_law 341 = .ok (.invokevirtual 32, 3) := by decide +kernel
theorem dL_law_344 : decode cL_law 344 = .ok (.aload_n 2, 1) := by decide +kernel
theorem dL_law_345 : decode cL_law 345 = .ok (.aload_n 0, 1) := by decide +kernel
theorem dL_law_346 : decode cL_law 346 = .ok (.iload_n 3, 1) := by decide +kernel
theorem dL_law_347 : decode cL_law 347 = .ok (.iconst 1, 1) := by decide +kernel
theorem dL_law_348 : decode cL_law 348 = .ok (.iadd, 1) := by decide +kernel
theorem dL_law_349 : decode cL_law 349 = .ok (.iaload, 1) := by decide +kernel
theorem dL_law_350 : decode cL_law 350 = .ok (.aload_n 0, 1) := by decide +kernel
theorem dL_law_351 : decode cL_law 351 = .ok (.iload_n 3, 1) := by decide +kernel
theorem dL_law_352 : decode cL_law 352 = .ok (.iconst 2, 1) := by decide +kernel
theorem dL_law_353 : decode cL_law 353 = .ok (.iadd, 1) := by decide +kernel
theorem dL_law_354 : decode cL_law 354 = .ok (.iaload, 1) := by decide +kernel
theorem dL_law_355 : decode cL_law 355 = .ok (.invokevirtual 35, 3) := by decide +kernel
theorem dL_law_358 : decode cL_law 358 = .ok (.if_icmp .eq 698, 3) := by decide +kernel
theorem dL_law_361 : decode cL_law 361 = .ok (.iconst 0, 1) := by decide +kernel
theorem dL_law_362 : decode cL_law 362 = .ok (.ireturn, 1) := by decide +kernel
theorem dL_law_363 : decode cL_law 363 = .ok (.aload_n 1, 1) := by decide +kernel
theorem dL_law_364 : decode cL_law 364 = .ok (.aload_n 0, 1) := by decide +kernel
theorem dL_law_365 : decode cL_law 365 = .ok (.iload_n 3, 1) := by decide +kernel
theorem dL_law_366 : decode cL_law 366 = .ok (.iconst 1, 1) := by decide +kernel
theorem dL_law_367 : decode cL_law 367 = .ok (.iadd, 1) := by decide +kernel
theorem dL_law_368 : decode cL_law 368 = .ok (.iaload, 1) := by decide +kernel
theorem dL_law_369 : decode cL_law 369 = .ok (.aload_n 0, 1) := by decide +kernel
theorem dL_law_370 : decode cL_law 370 = .ok (.iload_n 3, 1) := by decide +kernel
theorem dL_law_371 : decode cL_law 371 = .ok (.iconst 2, 1) := by decide +kernel
theorem dL_law_372 : decode cL_law 372 = .ok (.iadd, 1) := by decide +kernel
theorem dL_law_373 : decode cL_law 373 = .ok (.iaload, 1) := by decide +kernel
theorem dL_law_374 : decode cL_law 374 = .ok (.invokevirtual 36, 3) := by decide +kernel
theorem dL_law_377 : decode cL_law 377 = .ok (.aload_n 2, 1) := by decide +kernel
theorem dL_law_378 : decode cL_law 378 = .ok (.aload_n 0, 1) := by decide +kernel
theorem dL_law_379 : decode cL_law 379 = .ok (.iload_n 3, 1) := by decide +kernel
theorem dL_law_380 : decode cL_law 380 = .ok (.iconst 1, 1) := by decide +kernel
theorem dL_law_381 : decode cL_law 381 = .ok (.iadd, 1) := by decide +kernel
theorem dL_law_382 : decode cL_law 382 = .ok (.iaload, 1) := by decide +kernel
theorem dL_law_383 : decode cL_law 383 = .ok (.aload_n 0, 1) := by decide +kernel
theorem dL_law_384 : decode cL_law 384 = .ok (.iload_n 3, 1) := by decide +kernel
theorem dL_law_385 : decode cL_law 385 = .ok (.iconst 2, 1) := by decide +kernel
theorem dL_law_386 : decode cL_law 386 = .ok (.iadd, 1) := by decide +kernel
theorem dL_law_387 : decode cL_law 387 = .ok (.iaload, 1) := by decide +kernel
theorem dL_law_388 : decode cL_law 388 = .ok (.invokevirtual 39, 3) := by decide +kernel
theorem dL_law_391 : decode cL_law 391 = .ok (.if_icmp .eq 665, 3) := by decide +kernel
theorem dL_law_394 : decode cL_law 394 = .ok (.iconst 0, 1) := by decide +kernel
theorem dL_law_395 : decode cL_law 395 = .ok (.ireturn, 1) := by decide +kernel
theorem dL_law_396 : decode cL_law 396 = .ok (.aload_n 1, 1) := by decide +kernel
theorem dL_law_397 : decode cL_law 397 = .ok (.aload_n 0, 1) := by decide +kernel
theorem dL_law_398 : decode cL_law 398 = .ok (.iload_n 3, 1) := by decide +kernel
theorem dL_law_399 : decode cL_law 399 = .ok (.iconst 1, 1) := by decide +kernel
theorem dL_law_400 : decode cL_law 400 = .ok (.iadd, 1) := by decide +kernel
theorem dL_law_401 : decode cL_law 401 = .ok (.iaload, 1) := by decide +kernel
theorem dL_law_402 : decode cL_law 402 = .ok (.aload_n 0, 1) := by decide +kernel
theorem dL_law_403 : decode cL_law 403 = .ok (.iload_n 3, 1) := by decide +kernel
theorem dL_law_404 : decode cL_law 404 = .ok (.iconst 2, 1) := by decide +kernel
theorem dL_law_405 : decode cL_law 405 = .ok (.iadd, 1) := by decide +kernel
theorem dL_law_406 : decode cL_law 406 = .ok (.iaload, 1) := by decide +kernel
theorem dL_law_407 : decode cL_law 407 = .ok (.invokevirtual 40, 3) := by decide +kernel
theorem dL_law_410 : decode cL_law 410 = .ok (.aload_n 2, 1) := by decide +kernel
theorem dL_law_411 : decode cL_law 411 = .ok (.aload_n 0, 1) := by decide +kernel
theorem dL_law_412 : decode cL_law 412 = .ok (.iload_n 3, 1) := by decide +kernel
theorem dL_law_413 : decode cL_law 413 = .ok (.iconst 1, 1) := by decide +kernel
theorem dL_law_414 : decode cL_law 414 = .ok (.iadd, 1) := by decide +kernel
theorem dL_law_415 : decode cL_law 415 = .ok (.iaload, 1) := by decide +kernel
theorem dL_law_416 : decode cL_law 416 = .ok (.aload_n 0, 1) := by decide +kernel
theorem dL_law_417 : decode cL_law 417 = .ok (.iload_n 3, 1) := by decide +kernel
theorem dL_law_418 : decode cL_law 418 = .ok (.iconst 2, 1) := by decide +kernel
theorem dL_law_419 : decode cL_law 419 = .ok (.iadd, 1) := by decide +kernel
theorem dL_law_420 : decode cL_law 420 = .ok (.iaload, 1) := by decide +kernel
theorem dL_law_421 : decode cL_law 421 = .ok (.invokevirtual 43, 3) := by decide +kernel
theorem dL_law_424 : decode cL_law 424 = .ok (.if_icmp .eq 632, 3) := by decide +kernel
theorem dL_law_427 : decode cL_law 427 = .ok (.iconst 0, 1) := by decide +kernel
theorem dL_law_428 : decode cL_law 428 = .ok (.ireturn, 1) := by decide +kernel
theorem dL_law_429 : decode cL_law 429 = .ok (.aload_n 1, 1) := by decide +kernel
theorem dL_law_430 : decode cL_law 430 = .ok (.aload_n 0, 1) := by decide +kernel
theorem dL_law_431 : decode cL_law 431 = .ok (.iload_n 3, 1) := by decide +kernel
theorem dL_law_432 : decode cL_law 432 = .ok (.iconst 1, 1) := by decide +kernel
theorem dL_law_433 : decode cL_law 433 = .ok (.iadd, 1) := by decide +kernel
theorem dL_law_434 : decode cL_law 434 = .ok (.iaload, 1) := by decide +kernel
theorem dL_law_435 : decode cL_law 435 = .ok (.aload_n 0, 1) := by decide +kernel
theorem dL_law_436 : decode cL_law 436 = .ok (.iload_n 3, 1) := by decide +kernel
theorem dL_law_437 : decode cL_law 437 = .ok (.iconst 2, 1) := by decide +kernel
theorem dL_law_438 : decode cL_law 438 = .ok (.iadd, 1) := by decide +kernel
theorem dL_law_439 : decode cL_law 439 = .ok (.iaload, 1) := by decide +kernel
theorem dL_law_440 : decode cL_law 440 = .ok (.aload_n 0, 1) := by decide +kernel
theorem dL_law_441 : decode cL_law 441 = .ok (.iload_n 3, 1) := by decide +kernel
theorem dL_law_442 : decode cL_law 442 = .ok (.iconst 3, 1) := by decide +kernel
theorem dL_law_443 : decode cL_law 443 = .ok (.iadd, 1) := by decide +kernel
theorem dL_law_444 : decode cL_law 444 = .ok (.iaload, 1) := by decide +kernel
theorem dL_law_445 : decode cL_law 445 = .ok (.invokevirtual 44, 3) := by decide +kernel
theorem dL_law_448 : decode cL_law 448 = .ok (.aload_n 2, 1) := by decide +kernel
theorem dL_law_449 : decode cL_law 449 = .ok (.aload_n 0, 1) := by decide +kernel
theorem dL_law_450 : decode cL_law 450 = .ok (.iload_n 3, 1) := by decide +kernel
theorem dL_law_451 : decode cL_law 451 = .ok (.iconst 1, 1) := by decide +kernel
theorem dL_law_452 : decode cL_law 452 = .ok (.iadd, 1) := by decide +kernel
theorem dL_law_453 : decode cL_law 453 = .ok (.iaload, 1) := by decide +kernel
theorem dL_law_454 : decode cL_law 454 = .ok (.aload_n 0, 1) := by decide +kernel
theorem dL_law_455 : decode cL_law 455 = .ok (.iload_n 3, 1) := by decide +kernel
theorem dL_law_456 : decode cL_law 456 = .ok (.iconst 2, 1) := by decide +kernel
theorem dL_law_457 : decode cL_law 457 = .ok (.iadd, 1) := by decide +kernel
theorem dL_law_458 : decode cL_law 458 = .ok (.iaload, 1) := by decide +kernel
theorem dL_law_459 : decode cL_law 459 = .ok (.aload_n 0, 1) := by decide +kernel
theorem dL_law_460 : decode cL_law 460 = .ok (.iload_n 3, 1) := by decide +kernel
theorem dL_law_461 : decode cL_law 461 = .ok (.iconst 3, 1) := by decide +kernel
theorem dL_law_462 : decode cL_law 462 = .ok (.iadd, 1) := by decide +kernel
theorem dL_law_463 : decode cL_law 463 = .ok (.iaload, 1) := by decide +kernel
theorem dL_law_464 : decode cL_law 464 = .ok (.invokevirtual 48, 3) := by decide +kernel
theorem dL_law_467 : decode cL_law 467 = .ok (.if_icmp .eq 589, 3) := by decide +kernel
theorem dL_law_470 : decode cL_law 470 = .ok (.iconst 0, 1) := by decide +kernel
theorem dL_law_471 : decode cL_law 471 = .ok (.ireturn, 1) := by decide +kernel
theorem dL_law_472 : decode cL_law 472 = .ok (.aload_n 1, 1) := by decide +kernel
theorem dL_law_473 : decode cL_law 473 = .ok (.aload_n 0, 1) := by decide +kernel
theorem dL_law_474 : decode cL_law 474 = .ok (.iload_n 3, 1) := by decide +kernel
theorem dL_law_475 : decode cL_law 475 = .ok (.iconst 1, 1) := by decide +kernel
theorem dL_law_476 : decode cL_law 476 = .ok (.iadd, 1) := by decide +kernel
theorem dL_law_477 : decode cL_law 477 = .ok (.iaload, 1) := by decide +kernel
theorem dL_law_478 : decode cL_law 478 = .ok (.aload_n 0, 1) := by decide +kernel
theorem dL_law_479 : decode cL_law 479 = .ok (.iload_n 3, 1) := by decide +kernel
theorem dL_law_480 : decode cL_law 480 = .ok (.iconst 2, 1) := by decide +kernel
theorem dL_law_481 : decode cL_law 481 = .ok (.iadd, 1) := by decide +kernel
theorem dL_law_482 : decode cL_law 482 = .ok (.iaload, 1) := by decide +kernel
theorem dL_law_483 : decode cL_law 483 = .ok (.aload_n 0, 1) := by decide +kernel
theorem dL_law_484 : decode cL_law 484 = .ok (.iload_n 3, 1) := by decide +kernel
theorem dL_law_485 : decode cL_law 485 = .ok (.iconst 3, 1) := by decide +kernel
theorem dL_law_486 : decode cL_law 486 = .ok (.iadd, 1) := by decide +kernel
theorem dL_law_487 : decode cL_law 487 = .ok (.iaload, 1) := by decide +kernel
theorem dL_law_488 : decode cL_law 488 = .ok (.invokevirtual 49, 3) := by decide +kernel
theorem dL_law_491 : decode cL_law 491 = .ok (.aload_n 2, 1) := by decide +kernel
theorem dL_law_492 : decode cL_law 492 = .ok (.aload_n 0, 1) := by decide +kernel
theorem dL_law_493 : decode cL_law 493 = .ok (.iload_n 3, 1) := by decide +kernel
theorem dL_law_494 : decode cL_law 494 = .ok (.iconst 1, 1) := by decide +kernel
theorem dL_law_495 : decode cL_law 495 = .ok (.iadd, 1) := by decide +kernel
theorem dL_law_496 : decode cL_law 496 = .ok (.iaload, 1) := by decide +kernel
theorem dL_law_497 : decode cL_law 497 = .ok (.aload_n 0, 1) := by decide +kernel
theorem dL_law_498 : decode cL_law 498 = .ok (.iload_n 3, 1) := by decide +kernel
theorem dL_law_499 : decode cL_law 499 = .ok (.iconst 2, 1) := by decide +kernel
theorem dL_law_500 : decode cL_law 500 = .ok (.iadd, 1) := by decide +kernel
theorem dL_law_501 : decode cL_law 501 = .ok (.iaload, 1) := by decide +kernel
theorem dL_law_502 : decode cL_law 502 = .ok (.aload_n 0, 1) := by decide +kernel
theorem dL_law_503 : decode cL_law 503 = .ok (.iload_n 3, 1) := by decide +kernel
theorem dL_law_504 : decode cL_law 504 = .ok (.iconst 3, 1) := by decide +kernel
theorem dL_law_505 : decode cL_law 505 = .ok (.iadd, 1) := by decide +kernel
theorem dL_law_506 : decode cL_law 506 = .ok (.iaload, 1) := by decide +kernel
theorem dL_law_507 : decode cL_law 507 = .ok (.invokevirtual 52, 3) := by decide +kernel
theorem dL_law_510 : decode cL_law 510 = .ok (.if_icmp .eq 546, 3) := by decide +kernel
theorem dL_law_513 : decode cL_law 513 = .ok (.iconst 0, 1) := by decide +kernel
theorem dL_law_514 : decode cL_law 514 = .ok (.ireturn, 1) := by decide +kernel
theorem dL_law_515 : decode cL_law 515 = .ok (.aload_n 1, 1) := by decide +kernel
theorem dL_law_516 : decode cL_law 516 = .ok (.aload_n 0, 1) := by decide +kernel
theorem dL_law_517 : decode cL_law 517 = .ok (.iload_n 3, 1) := by decide +kernel
theorem dL_law_518 : decode cL_law 518 = .ok (.iconst 1, 1) := by decide +kernel
theorem dL_law_519 : decode cL_law 519 = .ok (.iadd, 1) := by decide +kernel
theorem dL_law_520 : decode cL_law 520 = .ok (.iaload, 1) := by decide +kernel
theorem dL_law_521 : decode cL_law 521 = .ok (.aload_n 0, 1) := by decide +kernel
theorem dL_law_522 : decode cL_law 522 = .ok (.iload_n 3, 1) := by decide +kernel
theorem dL_law_523 : decode cL_law 523 = .ok (.iconst 2, 1) := by decide +kernel
theorem dL_law_524 : decode cL_law 524 = .ok (.iadd, 1) := by decide +kernel
theorem dL_law_525 : decode cL_law 525 = .ok (.iaload, 1) := by decide +kernel
theorem dL_law_526 : decode cL_law 526 = .ok (.aload_n 0, 1) := by decide +kernel
theorem dL_law_527 : decode cL_law 527 = .ok (.iload_n 3, 1) := by decide +kernel
theorem dL_law_528 : decode cL_law 528 = .ok (.iconst 3, 1) := by decide +kernel
theorem dL_law_529 : decode cL_law 529 = .ok (.iadd, 1) := by decide +kernel
theorem dL_law_530 : decode cL_law 530 = .ok (.iaload, 1) := by decide +kernel
theorem dL_law_531 : decode cL_law 531 = .ok (.invokevirtual 53, 3) := by decide +kernel
theorem dL_law_534 : decode cL_law 534 = .ok (.aload_n 2, 1) := by decide +kernel
theorem dL_law_535 : decode cL_law 535 = .ok (.aload_n 0, 1) := by decide +kernel
theorem dL_law_536 : decode cL_law 536 = .ok (.iload_n 3, 1) := by decide +kernel
theorem dL_law_537 : decode cL_law 537 = .ok (.iconst 1, 1) := by decide +kernel
theorem dL_law_538 : decode cL_law 538 = .ok (.iadd, 1) := by decide +kernel
theorem dL_law_539 : decode cL_law 539 = .ok (.iaload, 1) := by decide +kernel
theorem dL_law_540 : decode cL_law 540 = .ok (.aload_n 0, 1) := by decide +kernel
theorem dL_law_541 : decode cL_law 541 = .ok (.iload_n 3, 1) := by decide +kernel
theorem dL_law_542 : decode cL_law 542 = .ok (.iconst 2, 1) := by decide +kernel
theorem dL_law_543 : decode cL_law 543 = .ok (.iadd, 1) := by decide +kernel
theorem dL_law_544 : decode cL_law 544 = .ok (.iaload, 1) := by decide +kernel
theorem dL_law_545 : decode cL_law 545 = .ok (.aload_n 0, 1) := by decide +kernel
theorem dL_law_546 : decode cL_law 546 = .ok (.iload_n 3, 1) := by decide +kernel
theorem dL_law_547 : decode cL_law 547 = .ok (.iconst 3, 1) := by decide +kernel
theorem dL_law_548 : decode cL_law 548 = .ok (.iadd, 1) := by decide +kernel
theorem dL_law_549 : decode cL_law 549 = .ok (.iaload, 1) := by decide +kernel
theorem dL_law_550 : decode cL_law 550 = .ok (.invokevirtual 56, 3) := by decide +kernel
theorem dL_law_553 : decode cL_law 553 = .ok (.if_icmp .eq 503, 3) := by decide +kernel
theorem dL_law_556 : decode cL_law 556 = .ok (.iconst 0, 1) := by decide +kernel
theorem dL_law_557 : decode cL_law 557 = .ok (.ireturn, 1) := by decide +kernel
theorem dL_law_558 : decode cL_law 558 = .ok (.aload_n 1, 1) := by decide +kernel
theorem dL_law_559 : decode cL_law 559 = .ok (.aload_n 0, 1) := by decide +kernel
theorem dL_law_560 : decode cL_law 560 = .ok (.iload_n 3, 1) := by decide +kernel
theorem dL_law_561 : decode cL_law 561 = .ok (.iconst 1, 1) := by decide +kernel
theorem dL_law_562 : decode cL_law 562 = .ok (.iadd, 1) := by decide +kernel
theorem dL_law_563 : decode cL_law 563 = .ok (.iaload, 1) := by decide +kernel
theorem dL_law_564 : decode cL_law 564 = .ok (.aload_n 0, 1) := by decide +kernel
theorem dL_law_565 : decode cL_law 565 = .ok (.iload_n 3, 1) := by decide +kernel
theorem dL_law_566 : decode cL_law 566 = .ok (.iconst 2, 1) := by decide +kernel
theorem dL_law_567 : decode cL_law 567 = .ok (.iadd, 1) := by decide +kernel
theorem dL_law_568 : decode cL_law 568 = .ok (.iaload, 1) := by decide +kernel
theorem dL_law_569 : decode cL_law 569 = .ok (.aload_n 0, 1) := by decide +kernel
theorem dL_law_570 : decode cL_law 570 = .ok (.iload_n 3, 1) := by decide +kernel
theorem dL_law_571 : decode cL_law 571 = .ok (.iconst 3, 1) := by decide +kernel
theorem dL_law_572 : decode cL_law 572 = .ok (.iadd, 1) := by decide +kernel
theorem dL_law_573 : decode cL_law 573 = .ok (.iaload, 1) := by decide +kernel
theorem dL_law_574 : decode cL_law 574 = .ok (.aload_n 0, 1) := by decide +kernel
theorem dL_law_575 : decode cL_law 575 = .ok (.iload_n 3, 1) := by decide +kernel
theorem dL_law_576 : decode cL_law 576 = .ok (.iconst 4, 1) := by decide +kernel
theorem dL_law_577 : decode cL_law 577 = .ok (.iadd, 1) := by decide +kernel
theorem dL_law_578 : decode cL_law 578 = .ok (.iaload, 1) := by decide +kernel
theorem dL_law_579 : decode cL_law 579 = .ok (.aload_n 0, 1) := by decide +kernel
theorem dL_law_580 : decode cL_law 580 = .ok (.iload_n 3, 1) := by decide +kernel
theorem dL_law_581 : decode cL_law 581 = .ok (.iconst 5, 1) := by decide +kernel
theorem dL_law_582 : decode cL_law 582 = .ok (.iadd, 1) := by decide +kernel
theorem dL_law_583 : decode cL_law 583 = .ok (.iaload, 1) := by decide +kernel
theorem dL_law_584 : decode cL_law 584 = .ok (.invokevirtual 57, 3) := by decide +kernel
theorem dL_law_587 : decode cL_law 587 = .ok (.aload_n 2, 1) := by decide +kernel
theorem dL_law_588 : decode cL_law 588 = .ok (.aload_n 0, 1) := by decide +kernel
theorem dL_law_589 : decode cL_law 589 = .ok (.iload_n 3, 1) := by decide +kernel
theorem dL_law_590 : decode cL_law 590 = .ok (.iconst 1, 1) := by decide +kernel
theorem dL_law_591 : decode cL_law 591 = .ok (.iadd, 1) := by decide +kernel
theorem dL_law_592 : decode cL_law 592 = .ok (.iaload, 1) := by decide +kernel
theorem dL_law_593 : decode cL_law 593 = .ok (.aload_n 0, 1) := by decide +kernel
theorem dL_law_594 : decode cL_law 594 = .ok (.iload_n 3, 1) := by decide +kernel
theorem dL_law_595 : decode cL_law 595 = .ok (.iconst 2, 1) := by decide +kernel
theorem dL_law_596 : decode cL_law 596 = .ok (.iadd, 1) := by decide +kernel
theorem dL_law_597 : decode cL_law 597 = .ok (.iaload, 1) := by decide +kernel
theorem dL_law_598 : decode cL_law 598 = .ok (.aload_n 0, 1) := by decide +kernel
theorem dL_law_599 : decode cL_law 599 = .ok (.iload_n 3, 1) := by decide +kernel
theorem dL_law_600 : decode cL_law 600 = .ok (.iconst 3, 1) := by decide +kernel
theorem dL_law_601 : decode cL_law 601 = .ok (.iadd, 1) := by decide +kernel
theorem dL_law_602 : decode cL_law 602 = .ok (.iaload, 1) := by decide +kernel
theorem dL_law_603 : decode cL_law 603 = .ok (.aload_n 0, 1) := by decide +kernel
theorem dL_law_604 : decode cL_law 604 = .ok (.iload_n 3, 1) := by decide +kernel
theorem dL_law_605 : decode cL_law 605 = .ok (.iconst 4, 1) := by decide +kernel
theorem dL_law_606 : decode cL_law 606 = .ok (.iadd, 1) := by decide +kernel
theorem dL_law_607 : decode cL_law 607 = .ok (.iaload, 1) := by decide +kernel
theorem dL_law_608 : decode cL_law 608 = .ok (.aload_n 0, 1) := by decide +kernel
theorem dL_law_609 : decode cL_law 609 = .ok (.iload_n 3, 1) := by decide +kernel
theorem dL_law_610 : decode cL_law 610 = .ok (.iconst 5, 1) := by decide +kernel
theorem dL_law_611 : decode cL_law 611 = .ok (.iadd, 1) := by decide +kernel
theorem dL_law_612 : decode cL_law 612 = .ok (.iaload, 1) := by decide +kernel
theorem dL_law_613 : decode cL_law 613 = .ok (.invokevirtual 60, 3) := by decide +kernel
theorem dL_law_616 : decode cL_law 616 = .ok (.if_icmp .eq 440, 3) := by decide +kernel
theorem dL_law_619 : decode cL_law 619 = .ok (.iconst 0, 1) := by decide +kernel
theorem dL_law_620 : decode cL_law 620 = .ok (.ireturn, 1) := by decide +kernel
theorem dL_law_621 : decode cL_law 621 = .ok (.aload_n 1, 1) := by decide +kernel
theorem dL_law_622 : decode cL_law 622 = .ok (.aload_n 0, 1) := by decide +kernel
theorem dL_law_623 : decode cL_law 623 = .ok (.iload_n 3, 1) := by decide +kernel
theorem dL_law_624 : decode cL_law 624 = .ok (.iconst 1, 1) := by decide +kernel
theorem dL_law_625 : decode cL_law 625 = .ok (.iadd, 1) := by decide +kernel
theorem dL_law_626 : decode cL_law 626 = .ok (.iaload, 1) := by decide +kernel
theorem dL_law_627 : decode cL_law 627 = .ok (.invokevirtual 61, 3) := by decide +kernel
theorem dL_law_630 : decode cL_law 630 = .ok (.aload_n 2, 1) := by decide +kernel
theorem dL_law_631 : decode cL_law 631 = .ok (.aload_n 0, 1) := by decide +kernel
theorem dL_law_632 : decode cL_law 632 = .ok (.iload_n 3, 1) := by decide +kernel
theorem dL_law_633 : decode cL_law 633 = .ok (.iconst 1, 1) := by decide +kernel
theorem dL_law_634 : decode cL_law 634 = .ok (.iadd, 1) := by decide +kernel
theorem dL_law_635 : decode cL_law 635 = .ok (.iaload, 1) := by decide +kernel
theorem dL_law_636 : decode cL_law 636 = .ok (.invokevirtual 65, 3) := by decide +kernel
theorem dL_law_639 : decode cL_law 639 = .ok (.if_icmp .eq 417, 3) := by decide +kernel
theorem dL_law_642 : decode cL_law 642 = .ok (.iconst 0, 1) := by decide +kernel
theorem dL_law_643 : decode cL_law 643 = .ok (.ireturn, 1) := by decide +kernel
theorem dL_law_644 : decode cL_law 644 = .ok (.aload_n 1, 1) := by decide +kernel
theorem dL_law_645 : decode cL_law 645 = .ok (.invokevirtual 66, 3) := by decide +kernel
theorem dL_law_648 : decode cL_law 648 = .ok (.aload_n 2, 1) := by decide +kernel
theorem dL_law_649 : decode cL_law 649 = .ok (.invokevirtual 70, 3) := by decide +kernel
theorem dL_law_652 : decode cL_law 652 = .ok (.if_icmp .eq 404, 3) := by decide +kernel
theorem dL_law_655 : decode cL_law 655 = .ok (.iconst 0, 1) := by decide +kernel
theorem dL_law_656 : decode cL_law 656 = .ok (.ireturn, 1) := by decide +kernel
theorem dL_law_657 : decode cL_law 657 = .ok (.aload_n 1, 1) := by decide +kernel
theorem dL_law_658 : decode cL_law 658 = .ok (.aload_n 0, 1) := by decide +kernel
theorem dL_law_659 : decode cL_law 659 = .ok (.iload_n 3, 1) := by decide +kernel
theorem dL_law_660 : decode cL_law 660 = .ok (.iconst 1, 1) := by decide +kernel
theorem dL_law_661 : decode cL_law 661 = .ok (.iadd, 1) := by decide +kernel
theorem dL_law_662 : decode cL_law 662 = .ok (.iaload, 1) := by decide +kernel
theorem dL_law_663 : decode cL_law 663 = .ok (.aload_n 0, 1) := by decide +kernel
theorem dL_law_664 : decode cL_law 664 = .ok (.iload_n 3, 1) := by decide +kernel
theorem dL_law_665 : decode cL_law 665 = .ok (.iconst 2, 1) := by decide +kernel
theorem dL_law_666 : decode cL_law 666 = .ok (.iadd, 1) := by decide +kernel
theorem dL_law_667 : decode cL_law 667 = .ok (.iaload, 1) := by decide +kernel
theorem dL_law_668 : decode cL_law 668 = .ok (.invokevirtual 71, 3) := by decide +kernel
theorem dL_law_671 : decode cL_law 671 = .ok (.aload_n 2, 1) := by decide +kernel
theorem dL_law_672 : decode cL_law 672 = .ok (.aload_n 0, 1) := by decide +kernel
theorem dL_law_673 : decode cL_law 673 = .ok (.iload_n 3, 1) := by decide +kernel
theorem dL_law_674 : decode cL_law 674 = .ok (.iconst 1, 1) := by decide +kernel
theorem dL_law_675 : decode cL_law 675 = .ok (.iadd, 1) := by decide +kernel
theorem dL_law_676 : decode cL_law 676 = .ok (.iaload, 1) := by decide +kernel
theorem dL_law_677 : decode cL_law 677 = .ok (.aload_n 0, 1) := by decide +kernel
theorem dL_law_678 : decode cL_law 678 = .ok (.iload_n 3, 1) := by decide +kernel
theorem dL_law_679 : decode cL_law 679 = .ok (.iconst 2, 1) := by decide +kernel
theorem dL_law_680 : decode cL_law 680 = .ok (.iadd, 1) := by decide +kernel
theorem dL_law_681 : decode cL_law 681 = .ok (.iaload, 1) := by decide +kernel
theorem dL_law_682 : decode cL_law 682 = .ok (.invokevirtual 75, 3) := by decide +kernel
theorem dL_law_685 : decode cL_law 685 = .ok (.lcmp, 1) := by decide +kernel
theorem dL_law_686 : decode cL_law 686 = .ok (.ifCond .eq 370, 3) := by decide +kernel
theorem dL_law_689 : decode cL_law 689 = .ok (.iconst 0, 1) := by decide +kernel
theorem dL_law_690 : decode cL_law 690 = .ok (.ireturn, 1) := by decide +kernel
theorem dL_law_691 : decode cL_law 691 = .ok (.aload_n 1, 1) := by decide +kernel
theorem dL_law_692 : decode cL_law 692 = .ok (.aload_n 0, 1) := by decide +kernel
theorem dL_law_693 : decode cL_law 693 = .ok (.iload_n 3, 1) := by decide +kernel
theorem dL_law_694 : decode cL_law 694 = .ok (.iconst 1, 1) := by decide +kernel
theorem dL_law_695 : decode cL_law 695 = .ok (.iadd, 1) := by decide +kernel
theorem dL_law_696 : decode cL_law 696 = .ok (.iaload, 1) := by decide +kernel
theorem dL_law_697 : decode cL_law 697 = .ok (.aload_n 0, 1) := by decide +kernel
theorem dL_law_698 : decode cL_law 698 = .ok (.iload_n 3, 1) := by decide +kernel
theorem dL_law_699 : decode cL_law 699 = .ok (.iconst 2, 1) := by decide +kernel
theorem dL_law_700 : decode cL_law 700 = .ok (.iadd, 1) := by decide +kernel
theorem dL_law_701 : decode cL_law 701 = .ok (.iaload, 1) := by decide +kernel
theorem dL_law_702 : decode cL_law 702 = .ok (.aload_n 0, 1) := by decide +kernel
theorem dL_law_703 : decode cL_law 703 = .ok (.iload_n 3, 1) := by decide +kernel
theorem dL_law_704 : decode cL_law 704 = .ok (.iconst 3, 1) := by decide +kernel
theorem dL_law_705 : decode cL_law 705 = .ok (.iadd, 1) := by decide +kernel
theorem dL_law_706 : decode cL_law 706 = .ok (.iaload, 1) := by decide +kernel
theorem dL_law_707 : decode cL_law 707 = .ok (.aload_n 0, 1) := by decide +kernel
theorem dL_law_708 : decode cL_law 708 = .ok (.iload_n 3, 1) := by decide +kernel
theorem dL_law_709 : decode cL_law 709 = .ok (.iconst 4, 1) := by decide +kernel
theorem dL_law_710 : decode cL_law 710 = .ok (.iadd, 1) := by decide +kernel
theorem dL_law_711 : decode cL_law 711 = .ok (.iaload, 1) := by decide +kernel
theorem dL_law_712 : decode cL_law 712 = .ok (.aload_n 0, 1) := by decide +kernel
theorem dL_law_713 : decode cL_law 713 = .ok (.iload_n 3, 1) := by decide +kernel
theorem dL_law_714 : decode cL_law 714 = .ok (.iconst 5, 1) := by decide +kernel
theorem dL_law_715 : decode cL_law 715 = .ok (.iadd, 1) := by decide +kernel
theorem dL_law_716 : decode cL_law 716 = .ok (.iaload, 1) := by decide +kernel
theorem dL_law_717 : decode cL_law 717 = .ok (.invokevirtual 76, 3) := by decide +kernel
theorem dL_law_720 : decode cL_law 720 = .ok (.aload_n 2, 1) := by decide +kernel
theorem dL_law_721 : decode cL_law 721 = .ok (.aload_n 0, 1) := by decide +kernel
theorem dL_law_722 : decode cL_law 722 = .ok (.iload_n 3, 1) := by decide +kernel
theorem dL_law_723 : decode cL_law 723 = .ok (.iconst 1, 1) := by decide +kernel
theorem dL_law_724 : decode cL_law 724 = .ok (.iadd, 1) := by decide +kernel
theorem dL_law_725 : decode cL_law 725 = .ok (.iaload, 1) := by decide +kernel
theorem dL_law_726 : decode cL_law 726 = .ok (.aload_n 0, 1) := by decide +kernel
theorem dL_law_727 : decode cL_law 727 = .ok (.iload_n 3, 1) := by decide +kernel
theorem dL_law_728 : decode cL_law 728 = .ok (.iconst 2, 1) := by decide +kernel
theorem dL_law_729 : decode cL_law 729 = .ok (.iadd, 1) := by decide +kernel
theorem dL_law_730 : decode cL_law 730 = .ok (.iaload, 1) := by decide +kernel
theorem dL_law_731 : decode cL_law 731 = .ok (.aload_n 0, 1) := by decide +kernel
theorem dL_law_732 : decode cL_law 732 = .ok (.iload_n 3, 1) := by decide +kernel
theorem dL_law_733 : decode cL_law 733 = .ok (.iconst 3, 1) := by decide +kernel
theorem dL_law_734 : decode cL_law 734 = .ok (.iadd, 1) := by decide +kernel
theorem dL_law_735 : decode cL_law 735 = .ok (.iaload, 1) := by decide +kernel
theorem dL_law_736 : decode cL_law 736 = .ok (.aload_n 0, 1) := by decide +kernel
theorem dL_law_737 : decode cL_law 737 = .ok (.iload_n 3, 1) := by decide +kernel
theorem dL_law_738 : decode cL_law 738 = .ok (.iconst 4, 1) := by decide +kernel
theorem dL_law_739 : decode cL_law 739 = .ok (.iadd, 1) := by decide +kernel
theorem dL_law_740 : decode cL_law 740 = .ok (.iaload, 1) := by decide +kernel
theorem dL_law_741 : decode cL_law 741 = .ok (.aload_n 0, 1) := by decide +kernel
theorem dL_law_742 : decode cL_law 742 = .ok (.iload_n 3, 1) := by decide +kernel
theorem dL_law_743 : decode cL_law 743 = .ok (.iconst 5, 1) := by decide +kernel
theorem dL_law_744 : decode cL_law 744 = .ok (.iadd, 1) := by decide +kernel
theorem dL_law_745 : decode cL_law 745 = .ok (.iaload, 1) := by decide +kernel
theorem dL_law_746 : decode cL_law 746 = .ok (.invokevirtual 80, 3) := by decide +kernel
theorem dL_law_749 : decode cL_law 749 = .ok (.lcmp, 1) := by decide +kernel
theorem dL_law_750 : decode cL_law 750 = .ok (.ifCond .eq 306, 3) := by decide +kernel
theorem dL_law_753 : decode cL_law 753 = .ok (.iconst 0, 1) := by decide +kernel
theorem dL_law_754 : decode cL_law 754 = .ok (.ireturn, 1) := by decide +kernel
theorem dL_law_755 : decode cL_law 755 = .ok (.aload_n 1, 1) := by decide +kernel
theorem dL_law_756 : decode cL_law 756 = .ok (.aload_n 0, 1) := by decide +kernel
theorem dL_law_757 : decode cL_law 757 = .ok (.iload_n 3, 1) := by decide +kernel
theorem dL_law_758 : decode cL_law 758 = .ok (.iconst 1, 1) := by decide +kernel
theorem dL_law_759 : decode cL_law 759 = .ok (.iadd, 1) := by decide +kernel
theorem dL_law_760 : decode cL_law 760 = .ok (.iaload, 1) := by decide +kernel
theorem dL_law_761 : decode cL_law 761 = .ok (.aload_n 0, 1) := by decide +kernel
theorem dL_law_762 : decode cL_law 762 = .ok (.iload_n 3, 1) := by decide +kernel
theorem dL_law_763 : decode cL_law 763 = .ok (.iconst 2, 1) := by decide +kernel
theorem dL_law_764 : decode cL_law 764 = .ok (.iadd, 1) := by decide +kernel
theorem dL_law_765 : decode cL_law 765 = .ok (.iaload, 1) := by decide +kernel
theorem dL_law_766 : decode cL_law 766 = .ok (.invokevirtual 81, 3) := by decide +kernel
theorem dL_law_769 : decode cL_law 769 = .ok (.aload_n 2, 1) := by decide +kernel
theorem dL_law_770 : decode cL_law 770 = .ok (.aload_n 0, 1) := by decide +kernel
theorem dL_law_771 : decode cL_law 771 = .ok (.iload_n 3, 1) := by decide +kernel
theorem dL_law_772 : decode cL_law 772 = .ok (.iconst 1, 1) := by decide +kernel
theorem dL_law_773 : decode cL_law 773 = .ok (.iadd, 1) := by decide +kernel
theorem dL_law_774 : decode cL_law 774 = .ok (.iaload, 1) := by decide +kernel
theorem dL_law_775 : decode cL_law 775 = .ok (.aload_n 0, 1) := by decide +kernel
theorem dL_law_776 : decode cL_law 776 = .ok (.iload_n 3, 1) := by decide +kernel
theorem dL_law_777 : decode cL_law 777 = .ok (.iconst 2, 1) := by decide +kernel
theorem dL_law_778 : decode cL_law 778 = .ok (.iadd, 1) := by decide +kernel
theorem dL_law_779 : decode cL_law 779 = .ok (.iaload, 1) := by decide +kernel
theorem dL_law_780 : decode cL_law 780 = .ok (.invokevirtual 84, 3) := by decide +kernel
theorem dL_law_783 : decode cL_law 783 = .ok (.if_icmp .eq 273, 3) := by decide +kernel
theorem dL_law_786 : decode cL_law 786 = .ok (.iconst 0, 1) := by decide +kernel
theorem dL_law_787 : decode cL_law 787 = .ok (.ireturn, 1) := by decide +kernel
theorem dL_law_788 : decode cL_law 788 = .ok (.aload_n 1, 1) := by decide +kernel
theorem dL_law_789 : decode cL_law 789 = .ok (.aload_n 0, 1) := by decide +kernel
theorem dL_law_790 : decode cL_law 790 = .ok (.iload_n 3, 1) := by decide +kernel
theorem dL_law_791 : decode cL_law 791 = .ok (.iconst 1, 1) := by decide +kernel
theorem dL_law_792 : decode cL_law 792 = .ok (.iadd, 1) := by decide +kernel
theorem dL_law_793 : decode cL_law 793 = .ok (.iaload, 1) := by decide +kernel
theorem dL_law_794 : decode cL_law 794 = .ok (.aload_n 0, 1) := by decide +kernel
theorem dL_law_795 : decode cL_law 795 = .ok (.iload_n 3, 1) := by decide +kernel
theorem dL_law_796 : decode cL_law 796 = .ok (.iconst 2, 1) := by decide +kernel
theorem dL_law_797 : decode cL_law 797 = .ok (.iadd, 1) := by decide +kernel
theorem dL_law_798 : decode cL_law 798 = .ok (.iaload, 1) := by decide +kernel
theorem dL_law_799 : decode cL_law 799 = .ok (.invokevirtual 85, 3) := by decide +kernel
theorem dL_law_802 : decode cL_law 802 = .ok (.aload_n 2, 1) := by decide +kernel
theorem dL_law_803 : decode cL_law 803 = .ok (.aload_n 0, 1) := by decide +kernel
theorem dL_law_804 : decode cL_law 804 = .ok (.iload_n 3, 1) := by decide +kernel
theorem dL_law_805 : decode cL_law 805 = .ok (.iconst 1, 1) := by decide +kernel
theorem dL_law_806 : decode cL_law 806 = .ok (.iadd, 1) := by decide +kernel
theorem dL_law_807 : decode cL_law 807 = .ok (.iaload, 1) := by decide +kernel
theorem dL_law_808 : decode cL_law 808 = .ok (.aload_n 0, 1) := by decide +kernel
theorem dL_law_809 : decode cL_law 809 = .ok (.iload_n 3, 1) := by decide +kernel
theorem dL_law_810 : decode cL_law 810 = .ok (.iconst 2, 1) := by decide +kernel
theorem dL_law_811 : decode cL_law 811 = .ok (.iadd, 1) := by decide +kernel
theorem dL_law_812 : decode cL_law 812 = .ok (.iaload, 1) := by decide +kernel
theorem dL_law_813 : decode cL_law 813 = .ok (.invokevirtual 88, 3) := by decide +kernel
theorem dL_law_816 : decode cL_law 816 = .ok (.if_icmp .eq 240, 3) := by decide +kernel
theorem dL_law_819 : decode cL_law 819 = .ok (.iconst 0, 1) := by decide +kernel
theorem dL_law_820 : decode cL_law 820 = .ok (.ireturn, 1) := by decide +kernel
theorem dL_law_821 : decode cL_law 821 = .ok (.aload_n 1, 1) := by decide +kernel
theorem dL_law_822 : decode cL_law 822 = .ok (.aload_n 0, 1) := by decide +kernel
theorem dL_law_823 : decode cL_law 823 = .ok (.iload_n 3, 1) := by decide +kernel
theorem dL_law_824 : decode cL_law 824 = .ok (.iconst 1, 1) := by decide +kernel
theorem dL_law_825 : decode cL_law 825 = .ok (.iadd, 1) := by decide +kernel
theorem dL_law_826 : decode cL_law 826 = .ok (.iaload, 1) := by decide +kernel
theorem dL_law_827 : decode cL_law 827 = .ok (.invokevirtual 89, 3) := by decide +kernel
theorem dL_law_830 : decode cL_law 830 = .ok (.aload_n 2, 1) := by decide +kernel
theorem dL_law_831 : decode cL_law 831 = .ok (.aload_n 0, 1) := by decide +kernel
theorem dL_law_832 : decode cL_law 832 = .ok (.iload_n 3, 1) := by decide +kernel
theorem dL_law_833 : decode cL_law 833 = .ok (.iconst 1, 1) := by decide +kernel
theorem dL_law_834 : decode cL_law 834 = .ok (.iadd, 1) := by decide +kernel
theorem dL_law_835 : decode cL_law 835 = .ok (.iaload, 1) := by decide +kernel
theorem dL_law_836 : decode cL_law 836 = .ok (.invokevirtual 92, 3) := by decide +kernel
theorem dL_law_839 : decode cL_law 839 = .ok (.if_icmp .eq 217, 3) := by decide +kernel
theorem dL_law_842 : decode cL_law 842 = .ok (.iconst 0, 1) := by decide +kernel
theorem dL_law_843 : decode cL_law 843 = .ok (.ireturn, 1) := by decide +kernel
theorem dL_law_844 : decode cL_law 844 = .ok (.aload_n 1, 1) := by decide +kernel
theorem dL_law_845 : decode cL_law 845 = .ok (.aload_n 0, 1) := by decide +kernel
theorem dL_law_846 : decode cL_law 846 = .ok (.iload_n 3, 1) := by decide +kernel
theorem dL_law_847 : decode cL_law 847 = .ok (.iconst 1, 1) := by decide +kernel
theorem dL_law_848 : decode cL_law 848 = .ok (.iadd, 1) := by decide +kernel
theorem dL_law_849 : decode cL_law 849 = .ok (.iaload, 1) := by decide +kernel
theorem dL_law_850 : decode cL_law 850 = .ok (.aload_n 0, 1) := by decide +kernel
theorem dL_law_851 : decode cL_law 851 = .ok (.iload_n 3, 1) := by decide +kernel
theorem dL_law_852 : decode cL_law 852 = .ok (.iconst 2, 1) := by decide +kernel
theorem dL_law_853 : decode cL_law 853 = .ok (.iadd, 1) := by decide +kernel
theorem dL_law_854 : decode cL_law 854 = .ok (.iaload, 1) := by decide +kernel
theorem dL_law_855 : decode cL_law 855 = .ok (.invokevirtual 93, 3) := by decide +kernel
theorem dL_law_858 : decode cL_law 858 = .ok (.aload_n 2, 1) := by decide +kernel
theorem dL_law_859 : decode cL_law 859 = .ok (.aload_n 0, 1) := by decide +kernel
theorem dL_law_860 : decode cL_law 860 = .ok (.iload_n 3, 1) := by decide +kernel
theorem dL_law_861 : decode cL_law 861 = .ok (.iconst 1, 1) := by decide +kernel
theorem dL_law_862 : decode cL_law 862 = .ok (.iadd, 1) := by decide +kernel
theorem dL_law_863 : decode cL_law 863 = .ok (.iaload, 1) := by decide +kernel
theorem dL_law_864 : decode cL_law 864 = .ok (.aload_n 0, 1) := by decide +kernel
theorem dL_law_865 : decode cL_law 865 = .ok (.iload_n 3, 1) := by decide +kernel
theorem dL_law_866 : decode cL_law 866 = .ok (.iconst 2, 1) := by decide +kernel
theorem dL_law_867 : decode cL_law 867 = .ok (.iadd, 1) := by decide +kernel
theorem dL_law_868 : decode cL_law 868 = .ok (.iaload, 1) := by decide +kernel
theorem dL_law_869 : decode cL_law 869 = .ok (.invokevirtual 96, 3) := by decide +kernel
theorem dL_law_872 : decode cL_law 872 = .ok (.if_icmp .eq 184, 3) := by decide +kernel
theorem dL_law_875 : decode cL_law 875 = .ok (.iconst 0, 1) := by decide +kernel
theorem dL_law_876 : decode cL_law 876 = .ok (.ireturn, 1) := by decide +kernel
theorem dL_law_877 : decode cL_law 877 = .ok (.aload_n 1, 1) := by decide +kernel
theorem dL_law_878 : decode cL_law 878 = .ok (.aload_n 0, 1) := by decide +kernel
theorem dL_law_879 : decode cL_law 879 = .ok (.iload_n 3, 1) := by decide +kernel
theorem dL_law_880 : decode cL_law 880 = .ok (.iconst 1, 1) := by decide +kernel
theorem dL_law_881 : decode cL_law 881 = .ok (.iadd, 1) := by decide +kernel
theorem dL_law_882 : decode cL_law 882 = .ok (.iaload, 1) := by decide +kernel
theorem dL_law_883 : decode cL_law 883 = .ok (.invokevirtual 97, 3) := by decide +kernel
theorem dL_law_886 : decode cL_law 886 = .ok (.aload_n 2, 1) := by decide +kernel
theorem dL_law_887 : decode cL_law 887 = .ok (.aload_n 0, 1) := by decide +kernel
theorem dL_law_888 : decode cL_law 888 = .ok (.iload_n 3, 1) := by decide +kernel
theorem dL_law_889 : decode cL_law 889 = .ok (.iconst 1, 1) := by decide +kernel
theorem dL_law_890 : decode cL_law 890 = .ok (.iadd, 1) := by decide +kernel
theorem dL_law_891 : decode cL_law 891 = .ok (.iaload, 1) := by decide +kernel
theorem dL_law_892 : decode cL_law 892 = .ok (.invokevirtual 100, 3) := by decide +kernel
theorem dL_law_895 : decode cL_law 895 = .ok (.if_icmp .eq 161, 3) := by decide +kernel
theorem dL_law_898 : decode cL_law 898 = .ok (.iconst 0, 1) := by decide +kernel
theorem dL_law_899 : decode cL_law 899 = .ok (.ireturn, 1) := by decide +kernel
theorem dL_law_900 : decode cL_law 900 = .ok (.aload_n 1, 1) := by decide +kernel
theorem dL_law_901 : decode cL_law 901 = .ok (.aload_n 0, 1) := by decide +kernel
theorem dL_law_902 : decode cL_law 902 = .ok (.iload_n 3, 1) := by decide +kernel
theorem dL_law_903 : decode cL_law 903 = .ok (.iconst 1, 1) := by decide +kernel
theorem dL_law_904 : decode cL_law 904 = .ok (.iadd, 1) := by decide +kernel
theorem dL_law_905 : decode cL_law 905 = .ok (.iaload, 1) := by decide +kernel
theorem dL_law_906 : decode cL_law 906 = .ok (.aload_n 0, 1) := by decide +kernel
theorem dL_law_907 : decode cL_law 907 = .ok (.iload_n 3, 1) := by decide +kernel
theorem dL_law_908 : decode cL_law 908 = .ok (.iconst 2, 1) := by decide +kernel
theorem dL_law_909 : decode cL_law 909 = .ok (.iadd, 1) := by decide +kernel
theorem dL_law_910 : decode cL_law 910 = .ok (.iaload, 1) := by decide +kernel
theorem dL_law_911 : decode cL_law 911 = .ok (.invokevirtual 101, 3) := by decide +kernel
theorem dL_law_914 : decode cL_law 914 = .ok (.aload_n 2, 1) := by decide +kernel
theorem dL_law_915 : decode cL_law 915 = .ok (.aload_n 0, 1) := by decide +kernel
theorem dL_law_916 : decode cL_law 916 = .ok (.iload_n 3, 1) := by decide +kernel
theorem dL_law_917 : decode cL_law 917 = .ok (.iconst 1, 1) := by decide +kernel
theorem dL_law_918 : decode cL_law 918 = .ok (.iadd, 1) := by decide +kernel
theorem dL_law_919 : decode cL_law 919 = .ok (.iaload, 1) := by decide +kernel
theorem dL_law_920 : decode cL_law 920 = .ok (.aload_n 0, 1) := by decide +kernel
theorem dL_law_921 : decode cL_law 921 = .ok (.iload_n 3, 1) := by decide +kernel
theorem dL_law_922 : decode cL_law 922 = .ok (.iconst 2, 1) := by decide +kernel
theorem dL_law_923 : decode cL_law 923 = .ok (.iadd, 1) := by decide +kernel
theorem dL_law_924 : decode cL_law 924 = .ok (.iaload, 1) := by decide +kernel
theorem dL_law_925 : decode cL_law 925 = .ok (.invokevirtual 104, 3) := by decide +kernel
theorem dL_law_928 : decode cL_law 928 = .ok (.if_icmp .eq 128, 3) := by decide +kernel
theorem dL_law_931 : decode cL_law 931 = .ok (.iconst 0, 1) := by decide +kernel
theorem dL_law_932 : decode cL_law 932 = .ok (.ireturn, 1) := by decide +kernel
theorem dL_law_933 : decode cL_law 933 = .ok (.aload_n 1, 1) := by decide +kernel
theorem dL_law_934 : decode cL_law 934 = .ok (.aload_n 0, 1) := by decide +kernel
theorem dL_law_935 : decode cL_law 935 = .ok (.iload_n 3, 1) := by decide +kernel
theorem dL_law_936 : decode cL_law 936 = .ok (.iconst 1, 1) := by decide +kernel
theorem dL_law_937 : decode cL_law 937 = .ok (.iadd, 1) := by decide +kernel
theorem dL_law_938 : decode cL_law 938 = .ok (.iaload, 1) := by decide +kernel
theorem dL_law_939 : decode cL_law 939 = .ok (.aload_n 0, 1) := by decide +kernel
theorem dL_law_940 : decode cL_law 940 = .ok (.iload_n 3, 1) := by decide +kernel
theorem dL_law_941 : decode cL_law 941 = .ok (.iconst 2, 1) := by decide +kernel
theorem dL_law_942 : decode cL_law 942 = .ok (.iadd, 1) := by decide +kernel
theorem dL_law_943 : decode cL_law 943 = .ok (.iaload, 1) := by decide +kernel
theorem dL_law_944 : decode cL_law 944 = .ok (.invokevirtual 105, 3) := by decide +kernel
theorem dL_law_947 : decode cL_law 947 = .ok (.aload_n 2, 1) := by decide +kernel
theorem dL_law_948 : decode cL_law 948 = .ok (.aload_n 0, 1) := by decide +kernel
theorem dL_law_949 : decode cL_law 949 = .ok (.iload_n 3, 1) := by decide +kernel
theorem dL_law_950 : decode cL_law 950 = .ok (.iconst 1, 1) := by decide +kernel
theorem dL_law_951 : decode cL_law 951 = .ok (.iadd, 1) := by decide +kernel
theorem dL_law_952 : decode cL_law 952 = .ok (.iaload, 1) := by decide +kernel
theorem dL_law_953 : decode cL_law 953 = .ok (.aload_n 0, 1) := by decide +kernel
theorem dL_law_954 : decode cL_law 954 = .ok (.iload_n 3, 1) := by decide +kernel
theorem dL_law_955 : decode cL_law 955 = .ok (.iconst 2, 1) := by decide +kernel
theorem dL_law_956 : decode cL_law 956 = .ok (.iadd, 1) := by decide +kernel
theorem dL_law_957 : decode cL_law 957 = .ok (.iaload, 1) := by decide +kernel
theorem dL_law_958 : decode cL_law 958 = .ok (.invokevirtual 108, 3) := by decide +kernel
theorem dL_law_961 : decode cL_law 961 = .ok (.if_icmp .eq 95, 3) := by decide +kernel
theorem dL_law_964 : decode cL_law 964 = .ok (.iconst 0, 1) := by decide +kernel
theorem dL_law_965 : decode cL_law 965 = .ok (.ireturn, 1) := by decide +kernel
theorem dL_law_966 : decode cL_law 966 = .ok (.aload_n 1, 1) := by decide +kernel
theorem dL_law_967 : decode cL_law 967 = .ok (.aload_n 0, 1) := by decide +kernel
theorem dL_law_968 : decode cL_law 968 = .ok (.iload_n 3, 1) := by decide +kernel
theorem dL_law_969 : decode cL_law 969 = .ok (.iconst 1, 1) := by decide +kernel
theorem dL_law_970 : decode cL_law 970 = .ok (.iadd, 1) := by decide +kernel
theorem dL_law_971 : decode cL_law 971 = .ok (.iaload, 1) := by decide +kernel
theorem dL_law_972 : decode cL_law 972 = .ok (.aload_n 0, 1) := by decide +kernel
theorem dL_law_973 : decode cL_law 973 = .ok (.iload_n 3, 1) := by decide +kernel
theorem dL_law_974 : decode cL_law 974 = .ok (.iconst 2, 1) := by decide +kernel
theorem dL_law_975 : decode cL_law 975 = .ok (.iadd, 1) := by decide +kernel
theorem dL_law_976 : decode cL_law 976 = .ok (.iaload, 1) := by decide +kernel
theorem dL_law_977 : decode cL_law 977 = .ok (.aload_n 0, 1) := by decide +kernel
theorem dL_law_978 : decode cL_law 978 = .ok (.iload_n 3, 1) := by decide +kernel
theorem dL_law_979 : decode cL_law 979 = .ok (.iconst 3, 1) := by decide +kernel
theorem dL_law_980 : decode cL_law 980 = .ok (.iadd, 1) := by decide +kernel
theorem dL_law_981 : decode cL_law 981 = .ok (.iaload, 1) := by decide +kernel
theorem dL_law_982 : decode cL_law 982 = .ok (.aload_n 0, 1) := by decide +kernel
theorem dL_law_983 : decode cL_law 983 = .ok (.iload_n 3, 1) := by decide +kernel
theorem dL_law_984 : decode cL_law 984 = .ok (.iconst 4, 1) := by decide +kernel
theorem dL_law_985 : decode cL_law 985 = .ok (.iadd, 1) := by decide +kernel
theorem dL_law_986 : decode cL_law 986 = .ok (.iaload, 1) := by decide +kernel
theorem dL_law_987 : decode cL_law 987 = .ok (.invokevirtual 109, 3) := by decide +kernel
theorem dL_law_990 : decode cL_law 990 = .ok (.aload_n 2, 1) := by decide +kernel
theorem dL_law_991 : decode cL_law 991 = .ok (.aload_n 0, 1) := by decide +kernel
theorem dL_law_992 : decode cL_law 992 = .ok (.iload_n 3, 1) := by decide +kernel
theorem dL_law_993 : decode cL_law 993 = .ok (.iconst 1, 1) := by decide +kernel
theorem dL_law_994 : decode cL_law 994 = .ok (.iadd, 1) := by decide +kernel
theorem dL_law_995 : decode cL_law 995 = .ok (.iaload, 1) := by decide +kernel
theorem dL_law_996 : decode cL_law 996 = .ok (.aload_n 0, 1) := by decide +kernel
theorem dL_law_997 : decode cL_law 997 = .ok (.iload_n 3, 1) := by decide +kernel
theorem dL_law_998 : decode cL_law 998 = .ok (.iconst 2, 1) := by decide +kernel
theorem dL_law_999 : decode cL_law 999 = .ok (.iadd, 1) := by decide +kernel
theorem dL_law_1000 : decode cL_law 1000 = .ok (.iaload, 1) := by decide +kernel
theorem dL_law_1001 : decode cL_law 1001 = .ok (.aload_n 0, 1) := by decide +kernel
theorem dL_law_1002 : decode cL_law 1002 = .ok (.iload_n 3, 1) := by decide +kernel
theorem dL_law_1003 : decode cL_law 1003 = .ok (.iconst 3, 1) := by decide +kernel
theorem dL_law_1004 : decode cL_law 1004 = .ok (.iadd, 1) := by decide +kernel
theorem dL_law_1005 : decode cL_law 1005 = .ok (.iaload, 1) := by decide +kernel
theorem dL_law_1006 : decode cL_law 1006 = .ok (.aload_n 0, 1) := by decide +kernel
theorem dL_law_1007 : decode cL_law 1007 = .ok (.iload_n 3, 1) := by decide +kernel
theorem dL_law_1008 : decode cL_law 1008 = .ok (.iconst 4, 1) := by decide +kernel
theorem dL_law_1009 : decode cL_law 1009 = .ok (.iadd, 1) := by decide +kernel
theorem dL_law_1010 : decode cL_law 1010 = .ok (.iaload, 1) := by decide +kernel
theorem dL_law_1011 : decode cL_law 1011 = .ok (.invokevirtual 112, 3) := by decide +kernel
theorem dL_law_1014 : decode cL_law 1014 = .ok (.if_icmp .eq 42, 3) := by decide +kernel
theorem dL_law_1017 : decode cL_law 1017 = .ok (.iconst 0, 1) := by decide +kernel
theorem dL_law_1018 : decode cL_law 1018 = .ok (.ireturn, 1) := by decide +kernel
theorem dL_law_1019 : decode cL_law 1019 = .ok (.aload_n 1, 1) := by decide +kernel
theorem dL_law_1020 : decode cL_law 1020 = .ok (.aload_n 0, 1) := by decide +kernel
theorem dL_law_1021 : decode cL_law 1021 = .ok (.iload_n 3, 1) := by decide +kernel
theorem dL_law_1022 : decode cL_law 1022 = .ok (.iconst 1, 1) := by decide +kernel
theorem dL_law_1023 : decode cL_law 1023 = .ok (.iadd, 1) := by decide +kernel
theorem dL_law_1024 : decode cL_law 1024 = .ok (.iaload, 1) := by decide +kernel
theorem dL_law_1025 : decode cL_law 1025 = .ok (.invokevirtual 113, 3) := by decide +kernel
theorem dL_law_1028 : decode cL_law 1028 = .ok (.aload_n 2, 1) := by decide +kernel
theorem dL_law_1029 : decode cL_law 1029 = .ok (.aload_n 0, 1) := by decide +kernel
theorem dL_law_1030 : decode cL_law 1030 = .ok (.iload_n 3, 1) := by decide +kernel
theorem dL_law_1031 : decode cL_law 1031 = .ok (.iconst 1, 1) := by decide +kernel
theorem dL_law_1032 : decode cL_law 1032 = .ok (.iadd, 1) := by decide +kernel
theorem dL_law_1033 : decode cL_law 1033 = .ok (.iaload, 1) := by decide +kernel
theorem dL_law_1034 : decode cL_law 1034 = .ok (.invokevirtual 116, 3) := by decide +kernel
theorem dL_law_1037 : decode cL_law 1037 = .ok (.if_icmp .eq 19, 3) := by decide +kernel
theorem dL_law_1040 : decode cL_law 1040 = .ok (.iconst 0, 1) := by decide +kernel
theorem dL_law_1041 : decode cL_law 1041 = .ok (.ireturn, 1) := by decide +kernel
theorem dL_law_1042 : decode cL_law 1042 = .ok (.aload_n 1, 1) := by decide +kernel
theorem dL_law_1043 : decode cL_law 1043 = .ok (.invokevirtual 117, 3) := by decide +kernel
theorem dL_law_1046 : decode cL_law 1046 = .ok (.aload_n 2, 1) := by decide +kernel
theorem dL_law_1047 : decode cL_law 1047 = .ok (.invokevirtual 121, 3) := by decide +kernel
theorem dL_law_1050 : decode cL_law 1050 = .ok (.lcmp, 1) := by decide +kernel
theorem dL_law_1051 : decode cL_law 1051 = .ok (.ifCond .eq 5, 3) := by decide +kernel
theorem dL_law_1054 : decode cL_law 1054 = .ok (.iconst 0, 1) := by decide +kernel
theorem dL_law_1055 : decode cL_law 1055 = .ok (.ireturn, 1) := by decide +kernel
theorem dL_law_1056 : decode cL_law 1056 = .ok (.iinc 3 6, 3) := by decide +kernel
theorem dL_law_1059 : decode cL_law 1059 = .ok (.goto (-1041), 3) := by decide +kernel
theorem dL_law_1062 : decode cL_law 1062 = .ok (.iconst 1, 1) := by decide +kernel
theorem dL_law_1063 : decode cL_law 1063 = .ok (.ireturn, 1) := by decide +kernel
end
