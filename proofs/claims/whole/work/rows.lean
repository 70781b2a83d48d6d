section
-- ===== PART A: goes FIRST, ahead of the names: the tables' words, and 'selects' of the private methods out of them =====
/-- a private method of a class that the tables say can be made, by its rows of tables_1 -/
def lw_okq (q : MethodName × Nat) : Prop := (q.1.cls ≠ "java/lang/invoke/MethodHandle" ∧ q.1.cls ≠ "java/lang/invoke/VarHandle") ∧ Cond.instantiable q.1.cls q.2 ∈ tables_1 ∧ Cond.privateMethod q.1 ∈ tables_1 ∧ Cond.instanceMethod q.1 ∈ tables_1
theorem lw_p0 : lw_okq (⟨"LoafStreet$Street", "empty", "()V"⟩, 15) := ⟨⟨by decide +kernel, by decide +kernel⟩, List.mem_of_getElem? (i := 28) (by decide +kernel), List.mem_of_getElem? (i := 34) (by decide +kernel), List.mem_of_getElem? (i := 35) (by decide +kernel)⟩
theorem lw_p1 : lw_okq (⟨"LoafStreet", "putNumber", "(I)V"⟩, 15) := ⟨⟨by decide +kernel, by decide +kernel⟩, List.mem_of_getElem? (i := 20) (by decide +kernel), List.mem_of_getElem? (i := 429) (by decide +kernel), List.mem_of_getElem? (i := 430) (by decide +kernel)⟩
theorem lw_p2 : lw_okq (⟨"LoafStreet$Reader", "read", "(I)I"⟩, 9) := ⟨⟨by decide +kernel, by decide +kernel⟩, List.mem_of_getElem? (i := 238) (by decide +kernel), List.mem_of_getElem? (i := 437) (by decide +kernel), List.mem_of_getElem? (i := 438) (by decide +kernel)⟩
theorem lw_p3 : lw_okq (⟨"LoafStreet$Reader", "advance", "()V"⟩, 9) := ⟨⟨by decide +kernel, by decide +kernel⟩, List.mem_of_getElem? (i := 238) (by decide +kernel), List.mem_of_getElem? (i := 445) (by decide +kernel), List.mem_of_getElem? (i := 446) (by decide +kernel)⟩
theorem lw_p4 : lw_okq (⟨"LoafStreet$Reader", "statement", "()Z"⟩, 9) := ⟨⟨by decide +kernel, by decide +kernel⟩, List.mem_of_getElem? (i := 238) (by decide +kernel), List.mem_of_getElem? (i := 450) (by decide +kernel), List.mem_of_getElem? (i := 451) (by decide +kernel)⟩
theorem lw_p5 : lw_okq (⟨"LoafStreet$Reader", "accept", "(Ljava/lang/String;)Z"⟩, 9) := ⟨⟨by decide +kernel, by decide +kernel⟩, List.mem_of_getElem? (i := 238) (by decide +kernel), List.mem_of_getElem? (i := 455) (by decide +kernel), List.mem_of_getElem? (i := 456) (by decide +kernel)⟩
theorem lw_p6 : lw_okq (⟨"LoafStreet$Reader", "spells", "(Ljava/lang/String;I)Z"⟩, 9) := ⟨⟨by decide +kernel, by decide +kernel⟩, List.mem_of_getElem? (i := 238) (by decide +kernel), List.mem_of_getElem? (i := 469) (by decide +kernel), List.mem_of_getElem? (i := 470) (by decide +kernel)⟩
theorem lw_p7 : lw_okq (⟨"LoafStreet$Reader", "baker", "()Z"⟩, 9) := ⟨⟨by decide +kernel, by decide +kernel⟩, List.mem_of_getElem? (i := 238) (by decide +kernel), List.mem_of_getElem? (i := 511) (by decide +kernel), List.mem_of_getElem? (i := 512) (by decide +kernel)⟩
theorem lw_p8 : lw_okq (⟨"LoafStreet$Reader", "isName", "()Z"⟩, 9) := ⟨⟨by decide +kernel, by decide +kernel⟩, List.mem_of_getElem? (i := 238) (by decide +kernel), List.mem_of_getElem? (i := 515) (by decide +kernel), List.mem_of_getElem? (i := 516) (by decide +kernel)⟩
theorem lw_p9 : lw_okq (⟨"LoafStreet$Reader", "isKeyword", "()Z"⟩, 9) := ⟨⟨by decide +kernel, by decide +kernel⟩, List.mem_of_getElem? (i := 238) (by decide +kernel), List.mem_of_getElem? (i := 519) (by decide +kernel), List.mem_of_getElem? (i := 520) (by decide +kernel)⟩
theorem lw_p10 : lw_okq (⟨"LoafStreet$Reader", "knownBaker", "()I"⟩, 9) := ⟨⟨by decide +kernel, by decide +kernel⟩, List.mem_of_getElem? (i := 238) (by decide +kernel), List.mem_of_getElem? (i := 524) (by decide +kernel), List.mem_of_getElem? (i := 525) (by decide +kernel)⟩
theorem lw_p11 : lw_okq (⟨"LoafStreet$Reader", "number", "(II)I"⟩, 9) := ⟨⟨by decide +kernel, by decide +kernel⟩, List.mem_of_getElem? (i := 238) (by decide +kernel), List.mem_of_getElem? (i := 529) (by decide +kernel), List.mem_of_getElem? (i := 530) (by decide +kernel)⟩
theorem lw_p12 : lw_okq (⟨"LoafStreet$Street", "addBaker", "(JI)V"⟩, 15) := ⟨⟨by decide +kernel, by decide +kernel⟩, List.mem_of_getElem? (i := 28) (by decide +kernel), List.mem_of_getElem? (i := 533) (by decide +kernel), List.mem_of_getElem? (i := 534) (by decide +kernel)⟩
theorem lw_p13 : lw_okq (⟨"LoafStreet$Reader", "ended", "()Z"⟩, 9) := ⟨⟨by decide +kernel, by decide +kernel⟩, List.mem_of_getElem? (i := 238) (by decide +kernel), List.mem_of_getElem? (i := 537) (by decide +kernel), List.mem_of_getElem? (i := 538) (by decide +kernel)⟩
theorem lw_p14 : lw_okq (⟨"LoafStreet$Reader", "steps", "()Z"⟩, 9) := ⟨⟨by decide +kernel, by decide +kernel⟩, List.mem_of_getElem? (i := 238) (by decide +kernel), List.mem_of_getElem? (i := 542) (by decide +kernel), List.mem_of_getElem? (i := 543) (by decide +kernel)⟩
theorem lw_p15 : lw_okq (⟨"LoafStreet$Reader", "listing", "()Z"⟩, 9) := ⟨⟨by decide +kernel, by decide +kernel⟩, List.mem_of_getElem? (i := 238) (by decide +kernel), List.mem_of_getElem? (i := 549) (by decide +kernel), List.mem_of_getElem? (i := 550) (by decide +kernel)⟩
def lw_privs_1 : List (MethodName × Nat) := [(⟨"LoafStreet$Street", "empty", "()V"⟩, 15), (⟨"LoafStreet", "putNumber", "(I)V"⟩, 15), (⟨"LoafStreet$Reader", "read", "(I)I"⟩, 9), (⟨"LoafStreet$Reader", "advance", "()V"⟩, 9), (⟨"LoafStreet$Reader", "statement", "()Z"⟩, 9), (⟨"LoafStreet$Reader", "accept", "(Ljava/lang/String;)Z"⟩, 9), (⟨"LoafStreet$Reader", "spells", "(Ljava/lang/String;I)Z"⟩, 9), (⟨"LoafStreet$Reader", "baker", "()Z"⟩, 9), (⟨"LoafStreet$Reader", "isName", "()Z"⟩, 9), (⟨"LoafStreet$Reader", "isKeyword", "()Z"⟩, 9), (⟨"LoafStreet$Reader", "knownBaker", "()I"⟩, 9), (⟨"LoafStreet$Reader", "number", "(II)I"⟩, 9), (⟨"LoafStreet$Street", "addBaker", "(JI)V"⟩, 15), (⟨"LoafStreet$Reader", "ended", "()Z"⟩, 9), (⟨"LoafStreet$Reader", "steps", "()Z"⟩, 9), (⟨"LoafStreet$Reader", "listing", "()Z"⟩, 9)]
theorem lw_r1 : ∀ q ∈ lw_privs_1, lw_okq q := List.forall_mem_cons.mpr ⟨lw_p0, List.forall_mem_cons.mpr ⟨lw_p1, List.forall_mem_cons.mpr ⟨lw_p2, List.forall_mem_cons.mpr ⟨lw_p3, List.forall_mem_cons.mpr ⟨lw_p4, List.forall_mem_cons.mpr ⟨lw_p5, List.forall_mem_cons.mpr ⟨lw_p6, List.forall_mem_cons.mpr ⟨lw_p7, List.forall_mem_cons.mpr ⟨lw_p8, List.forall_mem_cons.mpr ⟨lw_p9, List.forall_mem_cons.mpr ⟨lw_p10, List.forall_mem_cons.mpr ⟨lw_p11, List.forall_mem_cons.mpr ⟨lw_p12, List.forall_mem_cons.mpr ⟨lw_p13, List.forall_mem_cons.mpr ⟨lw_p14, List.forall_mem_cons.mpr ⟨lw_p15, fun _ h => absurd h List.not_mem_nil⟩⟩⟩⟩⟩⟩⟩⟩⟩⟩⟩⟩⟩⟩⟩⟩
theorem lw_p16 : lw_okq (⟨"LoafStreet$Reader", "sort", "(I)Z"⟩, 9) := ⟨⟨by decide +kernel, by decide +kernel⟩, List.mem_of_getElem? (i := 238) (by decide +kernel), List.mem_of_getElem? (i := 555) (by decide +kernel), List.mem_of_getElem? (i := 556) (by decide +kernel)⟩
theorem lw_p17 : lw_okq (⟨"LoafStreet$Reader", "asked", "()I"⟩, 9) := ⟨⟨by decide +kernel, by decide +kernel⟩, List.mem_of_getElem? (i := 238) (by decide +kernel), List.mem_of_getElem? (i := 560) (by decide +kernel), List.mem_of_getElem? (i := 561) (by decide +kernel)⟩
theorem lw_p18 : lw_okq (⟨"LoafStreet$Street", "addSort", "(IIII)V"⟩, 15) := ⟨⟨by decide +kernel, by decide +kernel⟩, List.mem_of_getElem? (i := 28) (by decide +kernel), List.mem_of_getElem? (i := 567) (by decide +kernel), List.mem_of_getElem? (i := 568) (by decide +kernel)⟩
theorem lw_p19 : lw_okq (⟨"LoafStreet$Street", "copyFrom", "(LLoafStreet$Street;)V"⟩, 15) := ⟨⟨by decide +kernel, by decide +kernel⟩, List.mem_of_getElem? (i := 28) (by decide +kernel), List.mem_of_getElem? (i := 573) (by decide +kernel), List.mem_of_getElem? (i := 574) (by decide +kernel)⟩
theorem lw_p20 : lw_okq (⟨"LoafStreet$Street", "shutDoors", "()V"⟩, 15) := ⟨⟨by decide +kernel, by decide +kernel⟩, List.mem_of_getElem? (i := 28) (by decide +kernel), List.mem_of_getElem? (i := 580) (by decide +kernel), List.mem_of_getElem? (i := 581) (by decide +kernel)⟩
theorem lw_p21 : lw_okq (⟨"LoafStreet$Stand", "begin", "(LLoafStreet$Street;)V"⟩, 5) := ⟨⟨by decide +kernel, by decide +kernel⟩, List.mem_of_getElem? (i := 135) (by decide +kernel), List.mem_of_getElem? (i := 584) (by decide +kernel), List.mem_of_getElem? (i := 585) (by decide +kernel)⟩
theorem lw_p22 : lw_okq (⟨"LoafStreet$Laws", "forget", "()V"⟩, 3) := ⟨⟨by decide +kernel, by decide +kernel⟩, List.mem_of_getElem? (i := 117) (by decide +kernel), List.mem_of_getElem? (i := 592) (by decide +kernel), List.mem_of_getElem? (i := 593) (by decide +kernel)⟩
theorem lw_p23 : lw_okq (⟨"LoafStreet$Rests", "forget", "()V"⟩, 10) := ⟨⟨by decide +kernel, by decide +kernel⟩, List.mem_of_getElem? (i := 272) (by decide +kernel), List.mem_of_getElem? (i := 596) (by decide +kernel), List.mem_of_getElem? (i := 597) (by decide +kernel)⟩
theorem lw_p24 : lw_okq (⟨"LoafStreet$Street", "toldOfSort", "(II)I"⟩, 15) := ⟨⟨by decide +kernel, by decide +kernel⟩, List.mem_of_getElem? (i := 28) (by decide +kernel), List.mem_of_getElem? (i := 608) (by decide +kernel), List.mem_of_getElem? (i := 609) (by decide +kernel)⟩
theorem lw_p25 : lw_okq (⟨"LoafStreet$Street", "hasSort", "(I)Z"⟩, 15) := ⟨⟨by decide +kernel, by decide +kernel⟩, List.mem_of_getElem? (i := 28) (by decide +kernel), List.mem_of_getElem? (i := 612) (by decide +kernel), List.mem_of_getElem? (i := 613) (by decide +kernel)⟩
theorem lw_p26 : lw_okq (⟨"LoafStreet$Street", "hasBaker", "(I)Z"⟩, 15) := ⟨⟨by decide +kernel, by decide +kernel⟩, List.mem_of_getElem? (i := 28) (by decide +kernel), List.mem_of_getElem? (i := 616) (by decide +kernel), List.mem_of_getElem? (i := 617) (by decide +kernel)⟩
theorem lw_p27 : lw_okq (⟨"LoafStreet$Street", "hasStep", "(I)Z"⟩, 15) := ⟨⟨by decide +kernel, by decide +kernel⟩, List.mem_of_getElem? (i := 28) (by decide +kernel), List.mem_of_getElem? (i := 632) (by decide +kernel), List.mem_of_getElem? (i := 633) (by decide +kernel)⟩
theorem lw_p28 : lw_okq (⟨"LoafStreet$Stand", "tellAnew", "(II)V"⟩, 5) := ⟨⟨by decide +kernel, by decide +kernel⟩, List.mem_of_getElem? (i := 135) (by decide +kernel), List.mem_of_getElem? (i := 636) (by decide +kernel), List.mem_of_getElem? (i := 637) (by decide +kernel)⟩
theorem lw_p29 : lw_okq (⟨"LoafStreet$Trade", "settle", "()Z"⟩, 17) := ⟨⟨by decide +kernel, by decide +kernel⟩, List.mem_of_getElem? (i := 170) (by decide +kernel), List.mem_of_getElem? (i := 659) (by decide +kernel), List.mem_of_getElem? (i := 660) (by decide +kernel)⟩
theorem lw_p30 : lw_okq (⟨"LoafStreet$Trade", "open", "(I)V"⟩, 17) := ⟨⟨by decide +kernel, by decide +kernel⟩, List.mem_of_getElem? (i := 170) (by decide +kernel), List.mem_of_getElem? (i := 663) (by decide +kernel), List.mem_of_getElem? (i := 664) (by decide +kernel)⟩
theorem lw_p31 : lw_okq (⟨"LoafStreet$Laws", "shouts", "(I)Z"⟩, 3) := ⟨⟨by decide +kernel, by decide +kernel⟩, List.mem_of_getElem? (i := 117) (by decide +kernel), List.mem_of_getElem? (i := 667) (by decide +kernel), List.mem_of_getElem? (i := 668) (by decide +kernel)⟩
def lw_privs_2 : List (MethodName × Nat) := [(⟨"LoafStreet$Reader", "sort", "(I)Z"⟩, 9), (⟨"LoafStreet$Reader", "asked", "()I"⟩, 9), (⟨"LoafStreet$Street", "addSort", "(IIII)V"⟩, 15), (⟨"LoafStreet$Street", "copyFrom", "(LLoafStreet$Street;)V"⟩, 15), (⟨"LoafStreet$Street", "shutDoors", "()V"⟩, 15), (⟨"LoafStreet$Stand", "begin", "(LLoafStreet$Street;)V"⟩, 5), (⟨"LoafStreet$Laws", "forget", "()V"⟩, 3), (⟨"LoafStreet$Rests", "forget", "()V"⟩, 10), (⟨"LoafStreet$Street", "toldOfSort", "(II)I"⟩, 15), (⟨"LoafStreet$Street", "hasSort", "(I)Z"⟩, 15), (⟨"LoafStreet$Street", "hasBaker", "(I)Z"⟩, 15), (⟨"LoafStreet$Street", "hasStep", "(I)Z"⟩, 15), (⟨"LoafStreet$Stand", "tellAnew", "(II)V"⟩, 5), (⟨"LoafStreet$Trade", "settle", "()Z"⟩, 17), (⟨"LoafStreet$Trade", "open", "(I)V"⟩, 17), (⟨"LoafStreet$Laws", "shouts", "(I)Z"⟩, 3)]
theorem lw_r2 : ∀ q ∈ lw_privs_2, lw_okq q := List.forall_mem_cons.mpr ⟨lw_p16, List.forall_mem_cons.mpr ⟨lw_p17, List.forall_mem_cons.mpr ⟨lw_p18, List.forall_mem_cons.mpr ⟨lw_p19, List.forall_mem_cons.mpr ⟨lw_p20, List.forall_mem_cons.mpr ⟨lw_p21, List.forall_mem_cons.mpr ⟨lw_p22, List.forall_mem_cons.mpr ⟨lw_p23, List.forall_mem_cons.mpr ⟨lw_p24, List.forall_mem_cons.mpr ⟨lw_p25, List.forall_mem_cons.mpr ⟨lw_p26, List.forall_mem_cons.mpr ⟨lw_p27, List.forall_mem_cons.mpr ⟨lw_p28, List.forall_mem_cons.mpr ⟨lw_p29, List.forall_mem_cons.mpr ⟨lw_p30, List.forall_mem_cons.mpr ⟨lw_p31, fun _ h => absurd h List.not_mem_nil⟩⟩⟩⟩⟩⟩⟩⟩⟩⟩⟩⟩⟩⟩⟩⟩
theorem lw_p32 : lw_okq (⟨"LoafStreet$Laws", "has", "(I)Z"⟩, 3) := ⟨⟨by decide +kernel, by decide +kernel⟩, List.mem_of_getElem? (i := 117) (by decide +kernel), List.mem_of_getElem? (i := 671) (by decide +kernel), List.mem_of_getElem? (i := 672) (by decide +kernel)⟩
theorem lw_p33 : lw_okq (⟨"LoafStreet$Laws", "free", "(II)I"⟩, 3) := ⟨⟨by decide +kernel, by decide +kernel⟩, List.mem_of_getElem? (i := 117) (by decide +kernel), List.mem_of_getElem? (i := 675) (by decide +kernel), List.mem_of_getElem? (i := 676) (by decide +kernel)⟩
theorem lw_p34 : lw_okq (⟨"LoafStreet$Trade", "gather", "()V"⟩, 17) := ⟨⟨by decide +kernel, by decide +kernel⟩, List.mem_of_getElem? (i := 170) (by decide +kernel), List.mem_of_getElem? (i := 679) (by decide +kernel), List.mem_of_getElem? (i := 680) (by decide +kernel)⟩
theorem lw_p35 : lw_okq (⟨"LoafStreet$Street", "everyone", "()I"⟩, 15) := ⟨⟨by decide +kernel, by decide +kernel⟩, List.mem_of_getElem? (i := 28) (by decide +kernel), List.mem_of_getElem? (i := 684) (by decide +kernel), List.mem_of_getElem? (i := 685) (by decide +kernel)⟩
theorem lw_p36 : lw_okq (⟨"LoafStreet$Street", "setsLike", "(IIZ)I"⟩, 15) := ⟨⟨by decide +kernel, by decide +kernel⟩, List.mem_of_getElem? (i := 28) (by decide +kernel), List.mem_of_getElem? (i := 688) (by decide +kernel), List.mem_of_getElem? (i := 689) (by decide +kernel)⟩
theorem lw_p37 : lw_okq (⟨"LoafStreet$Street", "setsInAll", "(I)I"⟩, 15) := ⟨⟨by decide +kernel, by decide +kernel⟩, List.mem_of_getElem? (i := 28) (by decide +kernel), List.mem_of_getElem? (i := 693) (by decide +kernel), List.mem_of_getElem? (i := 694) (by decide +kernel)⟩
theorem lw_p38 : lw_okq (⟨"LoafStreet$Trade", "addCrowd", "(III)V"⟩, 17) := ⟨⟨by decide +kernel, by decide +kernel⟩, List.mem_of_getElem? (i := 170) (by decide +kernel), List.mem_of_getElem? (i := 703) (by decide +kernel), List.mem_of_getElem? (i := 704) (by decide +kernel)⟩
theorem lw_p39 : lw_okq (⟨"LoafStreet$Street", "price", "(I)I"⟩, 15) := ⟨⟨by decide +kernel, by decide +kernel⟩, List.mem_of_getElem? (i := 28) (by decide +kernel), List.mem_of_getElem? (i := 707) (by decide +kernel), List.mem_of_getElem? (i := 708) (by decide +kernel)⟩
theorem lw_p40 : lw_okq (⟨"LoafStreet$Trade", "takeParts", "(I)Z"⟩, 17) := ⟨⟨by decide +kernel, by decide +kernel⟩, List.mem_of_getElem? (i := 170) (by decide +kernel), List.mem_of_getElem? (i := 711) (by decide +kernel), List.mem_of_getElem? (i := 712) (by decide +kernel)⟩
theorem lw_p41 : lw_okq (⟨"LoafStreet$Trade", "isFree", "(I)Z"⟩, 17) := ⟨⟨by decide +kernel, by decide +kernel⟩, List.mem_of_getElem? (i := 170) (by decide +kernel), List.mem_of_getElem? (i := 715) (by decide +kernel), List.mem_of_getElem? (i := 716) (by decide +kernel)⟩
theorem lw_p42 : lw_okq (⟨"LoafStreet$Trade", "answerAnew", "()Z"⟩, 17) := ⟨⟨by decide +kernel, by decide +kernel⟩, List.mem_of_getElem? (i := 170) (by decide +kernel), List.mem_of_getElem? (i := 719) (by decide +kernel), List.mem_of_getElem? (i := 720) (by decide +kernel)⟩
theorem lw_p43 : lw_okq (⟨"LoafStreet$Trade", "survey", "(I)V"⟩, 17) := ⟨⟨by decide +kernel, by decide +kernel⟩, List.mem_of_getElem? (i := 170) (by decide +kernel), List.mem_of_getElem? (i := 723) (by decide +kernel), List.mem_of_getElem? (i := 724) (by decide +kernel)⟩
theorem lw_p44 : lw_okq (⟨"LoafStreet$Trade", "rowsOfOthers", "()I"⟩, 17) := ⟨⟨by decide +kernel, by decide +kernel⟩, List.mem_of_getElem? (i := 170) (by decide +kernel), List.mem_of_getElem? (i := 730) (by decide +kernel), List.mem_of_getElem? (i := 731) (by decide +kernel)⟩
theorem lw_p45 : lw_okq (⟨"LoafStreet$Trade", "firstRow", "()V"⟩, 17) := ⟨⟨by decide +kernel, by decide +kernel⟩, List.mem_of_getElem? (i := 170) (by decide +kernel), List.mem_of_getElem? (i := 734) (by decide +kernel), List.mem_of_getElem? (i := 735) (by decide +kernel)⟩
theorem lw_p46 : lw_okq (⟨"LoafStreet$Trade", "weightOfOthers", "(I)J"⟩, 17) := ⟨⟨by decide +kernel, by decide +kernel⟩, List.mem_of_getElem? (i := 170) (by decide +kernel), List.mem_of_getElem? (i := 738) (by decide +kernel), List.mem_of_getElem? (i := 739) (by decide +kernel)⟩
theorem lw_p47 : lw_okq (⟨"LoafStreet$Trade", "readRow", "()V"⟩, 17) := ⟨⟨by decide +kernel, by decide +kernel⟩, List.mem_of_getElem? (i := 170) (by decide +kernel), List.mem_of_getElem? (i := 742) (by decide +kernel), List.mem_of_getElem? (i := 743) (by decide +kernel)⟩
def lw_privs_3 : List (MethodName × Nat) := [(⟨"LoafStreet$Laws", "has", "(I)Z"⟩, 3), (⟨"LoafStreet$Laws", "free", "(II)I"⟩, 3), (⟨"LoafStreet$Trade", "gather", "()V"⟩, 17), (⟨"LoafStreet$Street", "everyone", "()I"⟩, 15), (⟨"LoafStreet$Street", "setsLike", "(IIZ)I"⟩, 15), (⟨"LoafStreet$Street", "setsInAll", "(I)I"⟩, 15), (⟨"LoafStreet$Trade", "addCrowd", "(III)V"⟩, 17), (⟨"LoafStreet$Street", "price", "(I)I"⟩, 15), (⟨"LoafStreet$Trade", "takeParts", "(I)Z"⟩, 17), (⟨"LoafStreet$Trade", "isFree", "(I)Z"⟩, 17), (⟨"LoafStreet$Trade", "answerAnew", "()Z"⟩, 17), (⟨"LoafStreet$Trade", "survey", "(I)V"⟩, 17), (⟨"LoafStreet$Trade", "rowsOfOthers", "()I"⟩, 17), (⟨"LoafStreet$Trade", "firstRow", "()V"⟩, 17), (⟨"LoafStreet$Trade", "weightOfOthers", "(I)J"⟩, 17), (⟨"LoafStreet$Trade", "readRow", "()V"⟩, 17)]
theorem lw_r3 : ∀ q ∈ lw_privs_3, lw_okq q := List.forall_mem_cons.mpr ⟨lw_p32, List.forall_mem_cons.mpr ⟨lw_p33, List.forall_mem_cons.mpr ⟨lw_p34, List.forall_mem_cons.mpr ⟨lw_p35, List.forall_mem_cons.mpr ⟨lw_p36, List.forall_mem_cons.mpr ⟨lw_p37, List.forall_mem_cons.mpr ⟨lw_p38, List.forall_mem_cons.mpr ⟨lw_p39, List.forall_mem_cons.mpr ⟨lw_p40, List.forall_mem_cons.mpr ⟨lw_p41, List.forall_mem_cons.mpr ⟨lw_p42, List.forall_mem_cons.mpr ⟨lw_p43, List.forall_mem_cons.mpr ⟨lw_p44, List.forall_mem_cons.mpr ⟨lw_p45, List.forall_mem_cons.mpr ⟨lw_p46, List.forall_mem_cons.mpr ⟨lw_p47, fun _ h => absurd h List.not_mem_nil⟩⟩⟩⟩⟩⟩⟩⟩⟩⟩⟩⟩⟩⟩⟩⟩
theorem lw_p48 : lw_okq (⟨"LoafStreet$Trade", "weigh", "(I)V"⟩, 17) := ⟨⟨by decide +kernel, by decide +kernel⟩, List.mem_of_getElem? (i := 170) (by decide +kernel), List.mem_of_getElem? (i := 747) (by decide +kernel), List.mem_of_getElem? (i := 748) (by decide +kernel)⟩
theorem lw_p49 : lw_okq (⟨"LoafStreet$Stand", "promises", "(I)Z"⟩, 5) := ⟨⟨by decide +kernel, by decide +kernel⟩, List.mem_of_getElem? (i := 135) (by decide +kernel), List.mem_of_getElem? (i := 751) (by decide +kernel), List.mem_of_getElem? (i := 752) (by decide +kernel)⟩
theorem lw_p50 : lw_okq (⟨"LoafStreet$Trade", "nextRow", "(I)V"⟩, 17) := ⟨⟨by decide +kernel, by decide +kernel⟩, List.mem_of_getElem? (i := 170) (by decide +kernel), List.mem_of_getElem? (i := 756) (by decide +kernel), List.mem_of_getElem? (i := 757) (by decide +kernel)⟩
theorem lw_p51 : lw_okq (⟨"LoafStreet$Trade", "bestStep", "(I)I"⟩, 17) := ⟨⟨by decide +kernel, by decide +kernel⟩, List.mem_of_getElem? (i := 170) (by decide +kernel), List.mem_of_getElem? (i := 760) (by decide +kernel), List.mem_of_getElem? (i := 761) (by decide +kernel)⟩
theorem lw_p52 : lw_okq (⟨"LoafStreet$Trade", "gainAt", "(II)J"⟩, 17) := ⟨⟨by decide +kernel, by decide +kernel⟩, List.mem_of_getElem? (i := 170) (by decide +kernel), List.mem_of_getElem? (i := 764) (by decide +kernel), List.mem_of_getElem? (i := 765) (by decide +kernel)⟩
theorem lw_p53 : lw_okq (⟨"LoafStreet$Trade", "makeSure", "(II)V"⟩, 17) := ⟨⟨by decide +kernel, by decide +kernel⟩, List.mem_of_getElem? (i := 170) (by decide +kernel), List.mem_of_getElem? (i := 768) (by decide +kernel), List.mem_of_getElem? (i := 769) (by decide +kernel)⟩
theorem lw_p54 : lw_okq (⟨"LoafStreet$Trade", "soldBy", "(I)J"⟩, 17) := ⟨⟨by decide +kernel, by decide +kernel⟩, List.mem_of_getElem? (i := 170) (by decide +kernel), List.mem_of_getElem? (i := 778) (by decide +kernel), List.mem_of_getElem? (i := 779) (by decide +kernel)⟩
theorem lw_p55 : lw_okq (⟨"LoafStreet$Trade", "earnedBy", "(I)J"⟩, 17) := ⟨⟨by decide +kernel, by decide +kernel⟩, List.mem_of_getElem? (i := 170) (by decide +kernel), List.mem_of_getElem? (i := 787) (by decide +kernel), List.mem_of_getElem? (i := 788) (by decide +kernel)⟩
theorem lw_p56 : lw_okq (⟨"LoafStreet$Trade", "earnedAt", "(II)J"⟩, 17) := ⟨⟨by decide +kernel, by decide +kernel⟩, List.mem_of_getElem? (i := 170) (by decide +kernel), List.mem_of_getElem? (i := 795) (by decide +kernel), List.mem_of_getElem? (i := 796) (by decide +kernel)⟩
theorem lw_p57 : lw_okq (⟨"LoafStreet$Trade", "betterStep", "(I)I"⟩, 17) := ⟨⟨by decide +kernel, by decide +kernel⟩, List.mem_of_getElem? (i := 170) (by decide +kernel), List.mem_of_getElem? (i := 809) (by decide +kernel), List.mem_of_getElem? (i := 810) (by decide +kernel)⟩
theorem lw_p58 : lw_okq (⟨"LoafStreet$Rests", "find", "()V"⟩, 10) := ⟨⟨by decide +kernel, by decide +kernel⟩, List.mem_of_getElem? (i := 272) (by decide +kernel), List.mem_of_getElem? (i := 819) (by decide +kernel), List.mem_of_getElem? (i := 820) (by decide +kernel)⟩
theorem lw_p59 : lw_okq (⟨"LoafStreet$Rests", "search", "(II)V"⟩, 10) := ⟨⟨by decide +kernel, by decide +kernel⟩, List.mem_of_getElem? (i := 272) (by decide +kernel), List.mem_of_getElem? (i := 824) (by decide +kernel), List.mem_of_getElem? (i := 825) (by decide +kernel)⟩
theorem lw_p60 : lw_okq (⟨"LoafStreet$Rests", "countRows", "()V"⟩, 10) := ⟨⟨by decide +kernel, by decide +kernel⟩, List.mem_of_getElem? (i := 272) (by decide +kernel), List.mem_of_getElem? (i := 828) (by decide +kernel), List.mem_of_getElem? (i := 829) (by decide +kernel)⟩
theorem lw_p61 : lw_okq (⟨"LoafStreet$Rests", "strikeCases", "(III)V"⟩, 10) := ⟨⟨by decide +kernel, by decide +kernel⟩, List.mem_of_getElem? (i := 272) (by decide +kernel), List.mem_of_getElem? (i := 837) (by decide +kernel), List.mem_of_getElem? (i := 838) (by decide +kernel)⟩
theorem lw_p62 : lw_okq (⟨"LoafStreet$Rests", "strike", "(IIII)V"⟩, 10) := ⟨⟨by decide +kernel, by decide +kernel⟩, List.mem_of_getElem? (i := 272) (by decide +kernel), List.mem_of_getElem? (i := 841) (by decide +kernel), List.mem_of_getElem? (i := 842) (by decide +kernel)⟩
theorem lw_p63 : lw_okq (⟨"LoafStreet$Rests", "howMany", "(I)I"⟩, 10) := ⟨⟨by decide +kernel, by decide +kernel⟩, List.mem_of_getElem? (i := 272) (by decide +kernel), List.mem_of_getElem? (i := 850) (by decide +kernel), List.mem_of_getElem? (i := 851) (by decide +kernel)⟩
def lw_privs_4 : List (MethodName × Nat) := [(⟨"LoafStreet$Trade", "weigh", "(I)V"⟩, 17), (⟨"LoafStreet$Stand", "promises", "(I)Z"⟩, 5), (⟨"LoafStreet$Trade", "nextRow", "(I)V"⟩, 17), (⟨"LoafStreet$Trade", "bestStep", "(I)I"⟩, 17), (⟨"LoafStreet$Trade", "gainAt", "(II)J"⟩, 17), (⟨"LoafStreet$Trade", "makeSure", "(II)V"⟩, 17), (⟨"LoafStreet$Trade", "soldBy", "(I)J"⟩, 17), (⟨"LoafStreet$Trade", "earnedBy", "(I)J"⟩, 17), (⟨"LoafStreet$Trade", "earnedAt", "(II)J"⟩, 17), (⟨"LoafStreet$Trade", "betterStep", "(I)I"⟩, 17), (⟨"LoafStreet$Rests", "find", "()V"⟩, 10), (⟨"LoafStreet$Rests", "search", "(II)V"⟩, 10), (⟨"LoafStreet$Rests", "countRows", "()V"⟩, 10), (⟨"LoafStreet$Rests", "strikeCases", "(III)V"⟩, 10), (⟨"LoafStreet$Rests", "strike", "(IIII)V"⟩, 10), (⟨"LoafStreet$Rests", "howMany", "(I)I"⟩, 10)]
theorem lw_r4 : ∀ q ∈ lw_privs_4, lw_okq q := List.forall_mem_cons.mpr ⟨lw_p48, List.forall_mem_cons.mpr ⟨lw_p49, List.forall_mem_cons.mpr ⟨lw_p50, List.forall_mem_cons.mpr ⟨lw_p51, List.forall_mem_cons.mpr ⟨lw_p52, List.forall_mem_cons.mpr ⟨lw_p53, List.forall_mem_cons.mpr ⟨lw_p54, List.forall_mem_cons.mpr ⟨lw_p55, List.forall_mem_cons.mpr ⟨lw_p56, List.forall_mem_cons.mpr ⟨lw_p57, List.forall_mem_cons.mpr ⟨lw_p58, List.forall_mem_cons.mpr ⟨lw_p59, List.forall_mem_cons.mpr ⟨lw_p60, List.forall_mem_cons.mpr ⟨lw_p61, List.forall_mem_cons.mpr ⟨lw_p62, List.forall_mem_cons.mpr ⟨lw_p63, fun _ h => absurd h List.not_mem_nil⟩⟩⟩⟩⟩⟩⟩⟩⟩⟩⟩⟩⟩⟩⟩⟩
theorem lw_p64 : lw_okq (⟨"LoafStreet$Rests", "place", "(II)I"⟩, 10) := ⟨⟨by decide +kernel, by decide +kernel⟩, List.mem_of_getElem? (i := 272) (by decide +kernel), List.mem_of_getElem? (i := 854) (by decide +kernel), List.mem_of_getElem? (i := 855) (by decide +kernel)⟩
theorem lw_p65 : lw_okq (⟨"LoafStreet$Rests", "codeOf", "(I)I"⟩, 10) := ⟨⟨by decide +kernel, by decide +kernel⟩, List.mem_of_getElem? (i := 272) (by decide +kernel), List.mem_of_getElem? (i := 858) (by decide +kernel), List.mem_of_getElem? (i := 859) (by decide +kernel)⟩
theorem lw_p66 : lw_okq (⟨"LoafStreet$Rests", "stepIn", "(II)I"⟩, 10) := ⟨⟨by decide +kernel, by decide +kernel⟩, List.mem_of_getElem? (i := 272) (by decide +kernel), List.mem_of_getElem? (i := 862) (by decide +kernel), List.mem_of_getElem? (i := 863) (by decide +kernel)⟩
theorem lw_p67 : lw_okq (⟨"LoafStreet$Trade", "bill", "(I)V"⟩, 17) := ⟨⟨by decide +kernel, by decide +kernel⟩, List.mem_of_getElem? (i := 170) (by decide +kernel), List.mem_of_getElem? (i := 871) (by decide +kernel), List.mem_of_getElem? (i := 872) (by decide +kernel)⟩
theorem lw_p68 : lw_okq (⟨"LoafStreet$Trade", "weightFrom", "(II)J"⟩, 17) := ⟨⟨by decide +kernel, by decide +kernel⟩, List.mem_of_getElem? (i := 170) (by decide +kernel), List.mem_of_getElem? (i := 875) (by decide +kernel), List.mem_of_getElem? (i := 876) (by decide +kernel)⟩
theorem lw_p69 : lw_okq (⟨"LoafStreet$Trade", "partsFrom", "(II)I"⟩, 17) := ⟨⟨by decide +kernel, by decide +kernel⟩, List.mem_of_getElem? (i := 170) (by decide +kernel), List.mem_of_getElem? (i := 879) (by decide +kernel), List.mem_of_getElem? (i := 880) (by decide +kernel)⟩
theorem lw_p70 : lw_okq (⟨"LoafStreet$Trade", "goneHome", "(I)J"⟩, 17) := ⟨⟨by decide +kernel, by decide +kernel⟩, List.mem_of_getElem? (i := 170) (by decide +kernel), List.mem_of_getElem? (i := 884) (by decide +kernel), List.mem_of_getElem? (i := 885) (by decide +kernel)⟩
theorem lw_p71 : lw_okq (⟨"LoafStreet$Trade", "weightInAll", "()J"⟩, 17) := ⟨⟨by decide +kernel, by decide +kernel⟩, List.mem_of_getElem? (i := 170) (by decide +kernel), List.mem_of_getElem? (i := 889) (by decide +kernel), List.mem_of_getElem? (i := 890) (by decide +kernel)⟩
theorem lw_p72 : lw_okq (⟨"LoafStreet$Trade", "meanOf", "(I)I"⟩, 17) := ⟨⟨by decide +kernel, by decide +kernel⟩, List.mem_of_getElem? (i := 170) (by decide +kernel), List.mem_of_getElem? (i := 897) (by decide +kernel), List.mem_of_getElem? (i := 898) (by decide +kernel)⟩
theorem lw_p73 : lw_okq (⟨"LoafStreet$Trade", "spread", "()J"⟩, 17) := ⟨⟨by decide +kernel, by decide +kernel⟩, List.mem_of_getElem? (i := 170) (by decide +kernel), List.mem_of_getElem? (i := 907) (by decide +kernel), List.mem_of_getElem? (i := 908) (by decide +kernel)⟩
theorem lw_p74 : lw_okq (⟨"LoafStreet$Trade", "weightBelow", "(I)J"⟩, 17) := ⟨⟨by decide +kernel, by decide +kernel⟩, List.mem_of_getElem? (i := 170) (by decide +kernel), List.mem_of_getElem? (i := 911) (by decide +kernel), List.mem_of_getElem? (i := 912) (by decide +kernel)⟩
theorem lw_p75 : lw_okq (⟨"LoafStreet$Street", "isWomen", "(I)Z"⟩, 15) := ⟨⟨by decide +kernel, by decide +kernel⟩, List.mem_of_getElem? (i := 28) (by decide +kernel), List.mem_of_getElem? (i := 919) (by decide +kernel), List.mem_of_getElem? (i := 920) (by decide +kernel)⟩
theorem lw_p76 : lw_okq (⟨"LoafStreet$Street", "asks", "(II)Z"⟩, 15) := ⟨⟨by decide +kernel, by decide +kernel⟩, List.mem_of_getElem? (i := 28) (by decide +kernel), List.mem_of_getElem? (i := 923) (by decide +kernel), List.mem_of_getElem? (i := 924) (by decide +kernel)⟩
theorem lw_p77 : lw_okq (⟨"LoafStreet$Trade", "savedBy", "(II)J"⟩, 17) := ⟨⟨by decide +kernel, by decide +kernel⟩, List.mem_of_getElem? (i := 170) (by decide +kernel), List.mem_of_getElem? (i := 927) (by decide +kernel), List.mem_of_getElem? (i := 928) (by decide +kernel)⟩
theorem lw_p78 : lw_okq (⟨"LoafStreet$Trade", "valueOf", "(II)J"⟩, 17) := ⟨⟨by decide +kernel, by decide +kernel⟩, List.mem_of_getElem? (i := 170) (by decide +kernel), List.mem_of_getElem? (i := 931) (by decide +kernel), List.mem_of_getElem? (i := 932) (by decide +kernel)⟩
theorem lw_p79 : lw_okq (⟨"LoafStreet$Trade", "wishedDoor", "(I)I"⟩, 17) := ⟨⟨by decide +kernel, by decide +kernel⟩, List.mem_of_getElem? (i := 170) (by decide +kernel), List.mem_of_getElem? (i := 939) (by decide +kernel), List.mem_of_getElem? (i := 940) (by decide +kernel)⟩
def lw_privs_5 : List (MethodName × Nat) := [(⟨"LoafStreet$Rests", "place", "(II)I"⟩, 10), (⟨"LoafStreet$Rests", "codeOf", "(I)I"⟩, 10), (⟨"LoafStreet$Rests", "stepIn", "(II)I"⟩, 10), (⟨"LoafStreet$Trade", "bill", "(I)V"⟩, 17), (⟨"LoafStreet$Trade", "weightFrom", "(II)J"⟩, 17), (⟨"LoafStreet$Trade", "partsFrom", "(II)I"⟩, 17), (⟨"LoafStreet$Trade", "goneHome", "(I)J"⟩, 17), (⟨"LoafStreet$Trade", "weightInAll", "()J"⟩, 17), (⟨"LoafStreet$Trade", "meanOf", "(I)I"⟩, 17), (⟨"LoafStreet$Trade", "spread", "()J"⟩, 17), (⟨"LoafStreet$Trade", "weightBelow", "(I)J"⟩, 17), (⟨"LoafStreet$Street", "isWomen", "(I)Z"⟩, 15), (⟨"LoafStreet$Street", "asks", "(II)Z"⟩, 15), (⟨"LoafStreet$Trade", "savedBy", "(II)J"⟩, 17), (⟨"LoafStreet$Trade", "valueOf", "(II)J"⟩, 17), (⟨"LoafStreet$Trade", "wishedDoor", "(I)I"⟩, 17)]
theorem lw_r5 : ∀ q ∈ lw_privs_5, lw_okq q := List.forall_mem_cons.mpr ⟨lw_p64, List.forall_mem_cons.mpr ⟨lw_p65, List.forall_mem_cons.mpr ⟨lw_p66, List.forall_mem_cons.mpr ⟨lw_p67, List.forall_mem_cons.mpr ⟨lw_p68, List.forall_mem_cons.mpr ⟨lw_p69, List.forall_mem_cons.mpr ⟨lw_p70, List.forall_mem_cons.mpr ⟨lw_p71, List.forall_mem_cons.mpr ⟨lw_p72, List.forall_mem_cons.mpr ⟨lw_p73, List.forall_mem_cons.mpr ⟨lw_p74, List.forall_mem_cons.mpr ⟨lw_p75, List.forall_mem_cons.mpr ⟨lw_p76, List.forall_mem_cons.mpr ⟨lw_p77, List.forall_mem_cons.mpr ⟨lw_p78, List.forall_mem_cons.mpr ⟨lw_p79, fun _ h => absurd h List.not_mem_nil⟩⟩⟩⟩⟩⟩⟩⟩⟩⟩⟩⟩⟩⟩⟩⟩
theorem lw_p80 : lw_okq (⟨"LoafStreet$Trade", "lookAround", "(I)I"⟩, 17) := ⟨⟨by decide +kernel, by decide +kernel⟩, List.mem_of_getElem? (i := 170) (by decide +kernel), List.mem_of_getElem? (i := 949) (by decide +kernel), List.mem_of_getElem? (i := 950) (by decide +kernel)⟩
theorem lw_p81 : lw_okq (⟨"LoafStreet$Duel", "fill", "(IIII)V"⟩, 9) := ⟨⟨by decide +kernel, by decide +kernel⟩, List.mem_of_getElem? (i := 345) (by decide +kernel), List.mem_of_getElem? (i := 961) (by decide +kernel), List.mem_of_getElem? (i := 962) (by decide +kernel)⟩
theorem lw_p82 : lw_okq (⟨"LoafStreet$Duel", "hasRest", "()Z"⟩, 9) := ⟨⟨by decide +kernel, by decide +kernel⟩, List.mem_of_getElem? (i := 345) (by decide +kernel), List.mem_of_getElem? (i := 968) (by decide +kernel), List.mem_of_getElem? (i := 969) (by decide +kernel)⟩
theorem lw_p83 : lw_okq (⟨"LoafStreet$Duel", "share", "(I)J"⟩, 9) := ⟨⟨by decide +kernel, by decide +kernel⟩, List.mem_of_getElem? (i := 345) (by decide +kernel), List.mem_of_getElem? (i := 972) (by decide +kernel), List.mem_of_getElem? (i := 973) (by decide +kernel)⟩
theorem lw_p84 : lw_okq (⟨"LoafStreet$Chase", "go", "(I)V"⟩, 8) := ⟨⟨by decide +kernel, by decide +kernel⟩, List.mem_of_getElem? (i := 310) (by decide +kernel), List.mem_of_getElem? (i := 987) (by decide +kernel), List.mem_of_getElem? (i := 988) (by decide +kernel)⟩
theorem lw_p85 : lw_okq (⟨"LoafStreet$Chase", "begin", "()V"⟩, 8) := ⟨⟨by decide +kernel, by decide +kernel⟩, List.mem_of_getElem? (i := 310) (by decide +kernel), List.mem_of_getElem? (i := 991) (by decide +kernel), List.mem_of_getElem? (i := 992) (by decide +kernel)⟩
theorem lw_p86 : lw_okq (⟨"LoafStreet$Trade", "drawnStep", "(II)I"⟩, 17) := ⟨⟨by decide +kernel, by decide +kernel⟩, List.mem_of_getElem? (i := 170) (by decide +kernel), List.mem_of_getElem? (i := 995) (by decide +kernel), List.mem_of_getElem? (i := 996) (by decide +kernel)⟩
theorem lw_p87 : lw_okq (⟨"LoafStreet$Chase", "code", "()I"⟩, 8) := ⟨⟨by decide +kernel, by decide +kernel⟩, List.mem_of_getElem? (i := 310) (by decide +kernel), List.mem_of_getElem? (i := 999) (by decide +kernel), List.mem_of_getElem? (i := 1000) (by decide +kernel)⟩
theorem lw_p88 : lw_okq (⟨"LoafStreet$Chase", "round", "()Z"⟩, 8) := ⟨⟨by decide +kernel, by decide +kernel⟩, List.mem_of_getElem? (i := 310) (by decide +kernel), List.mem_of_getElem? (i := 1003) (by decide +kernel), List.mem_of_getElem? (i := 1004) (by decide +kernel)⟩
theorem lw_p89 : lw_okq (⟨"LoafStreet$Chase", "roundsSince", "(I)I"⟩, 8) := ⟨⟨by decide +kernel, by decide +kernel⟩, List.mem_of_getElem? (i := 310) (by decide +kernel), List.mem_of_getElem? (i := 1009) (by decide +kernel), List.mem_of_getElem? (i := 1010) (by decide +kernel)⟩
theorem lw_p90 : lw_okq (⟨"LoafStreet$Laws", "add", "(II)I"⟩, 3) := ⟨⟨by decide +kernel, by decide +kernel⟩, List.mem_of_getElem? (i := 117) (by decide +kernel), List.mem_of_getElem? (i := 1017) (by decide +kernel), List.mem_of_getElem? (i := 1018) (by decide +kernel)⟩
theorem lw_p91 : lw_okq (⟨"LoafStreet$Rests", "tryQuietLaws", "(I)V"⟩, 10) := ⟨⟨by decide +kernel, by decide +kernel⟩, List.mem_of_getElem? (i := 272) (by decide +kernel), List.mem_of_getElem? (i := 1030) (by decide +kernel), List.mem_of_getElem? (i := 1031) (by decide +kernel)⟩
theorem lw_p92 : lw_okq (⟨"LoafStreet$Rests", "meanByFirst", "(II)I"⟩, 10) := ⟨⟨by decide +kernel, by decide +kernel⟩, List.mem_of_getElem? (i := 272) (by decide +kernel), List.mem_of_getElem? (i := 1035) (by decide +kernel), List.mem_of_getElem? (i := 1036) (by decide +kernel)⟩
theorem lw_p93 : lw_okq (⟨"LoafStreet$Rests", "tryShouts", "(I)V"⟩, 10) := ⟨⟨by decide +kernel, by decide +kernel⟩, List.mem_of_getElem? (i := 272) (by decide +kernel), List.mem_of_getElem? (i := 1042) (by decide +kernel), List.mem_of_getElem? (i := 1043) (by decide +kernel)⟩
theorem lw_p94 : lw_okq (⟨"LoafStreet$Rests", "bestCase", "()I"⟩, 10) := ⟨⟨by decide +kernel, by decide +kernel⟩, List.mem_of_getElem? (i := 272) (by decide +kernel), List.mem_of_getElem? (i := 1047) (by decide +kernel), List.mem_of_getElem? (i := 1048) (by decide +kernel)⟩
theorem lw_p95 : lw_okq (⟨"LoafStreet$Rests", "changingCost", "(I)I"⟩, 10) := ⟨⟨by decide +kernel, by decide +kernel⟩, List.mem_of_getElem? (i := 272) (by decide +kernel), List.mem_of_getElem? (i := 1055) (by decide +kernel), List.mem_of_getElem? (i := 1056) (by decide +kernel)⟩
def lw_privs_6 : List (MethodName × Nat) := [(⟨"LoafStreet$Trade", "lookAround", "(I)I"⟩, 17), (⟨"LoafStreet$Duel", "fill", "(IIII)V"⟩, 9), (⟨"LoafStreet$Duel", "hasRest", "()Z"⟩, 9), (⟨"LoafStreet$Duel", "share", "(I)J"⟩, 9), (⟨"LoafStreet$Chase", "go", "(I)V"⟩, 8), (⟨"LoafStreet$Chase", "begin", "()V"⟩, 8), (⟨"LoafStreet$Trade", "drawnStep", "(II)I"⟩, 17), (⟨"LoafStreet$Chase", "code", "()I"⟩, 8), (⟨"LoafStreet$Chase", "round", "()Z"⟩, 8), (⟨"LoafStreet$Chase", "roundsSince", "(I)I"⟩, 8), (⟨"LoafStreet$Laws", "add", "(II)I"⟩, 3), (⟨"LoafStreet$Rests", "tryQuietLaws", "(I)V"⟩, 10), (⟨"LoafStreet$Rests", "meanByFirst", "(II)I"⟩, 10), (⟨"LoafStreet$Rests", "tryShouts", "(I)V"⟩, 10), (⟨"LoafStreet$Rests", "bestCase", "()I"⟩, 10), (⟨"LoafStreet$Rests", "changingCost", "(I)I"⟩, 10)]
theorem lw_r6 : ∀ q ∈ lw_privs_6, lw_okq q := List.forall_mem_cons.mpr ⟨lw_p80, List.forall_mem_cons.mpr ⟨lw_p81, List.forall_mem_cons.mpr ⟨lw_p82, List.forall_mem_cons.mpr ⟨lw_p83, List.forall_mem_cons.mpr ⟨lw_p84, List.forall_mem_cons.mpr ⟨lw_p85, List.forall_mem_cons.mpr ⟨lw_p86, List.forall_mem_cons.mpr ⟨lw_p87, List.forall_mem_cons.mpr ⟨lw_p88, List.forall_mem_cons.mpr ⟨lw_p89, List.forall_mem_cons.mpr ⟨lw_p90, List.forall_mem_cons.mpr ⟨lw_p91, List.forall_mem_cons.mpr ⟨lw_p92, List.forall_mem_cons.mpr ⟨lw_p93, List.forall_mem_cons.mpr ⟨lw_p94, List.forall_mem_cons.mpr ⟨lw_p95, fun _ h => absurd h List.not_mem_nil⟩⟩⟩⟩⟩⟩⟩⟩⟩⟩⟩⟩⟩⟩⟩⟩
theorem lw_p96 : lw_okq (⟨"LoafStreet$Trade", "mornings", "(III)J"⟩, 17) := ⟨⟨by decide +kernel, by decide +kernel⟩, List.mem_of_getElem? (i := 170) (by decide +kernel), List.mem_of_getElem? (i := 1066) (by decide +kernel), List.mem_of_getElem? (i := 1067) (by decide +kernel)⟩
theorem lw_p97 : lw_okq (⟨"LoafStreet$Trade", "morningOf", "(I)J"⟩, 17) := ⟨⟨by decide +kernel, by decide +kernel⟩, List.mem_of_getElem? (i := 170) (by decide +kernel), List.mem_of_getElem? (i := 1073) (by decide +kernel), List.mem_of_getElem? (i := 1074) (by decide +kernel)⟩
theorem lw_p98 : lw_okq (⟨"LoafStreet$Trade", "paidInRow", "(I)J"⟩, 17) := ⟨⟨by decide +kernel, by decide +kernel⟩, List.mem_of_getElem? (i := 170) (by decide +kernel), List.mem_of_getElem? (i := 1079) (by decide +kernel), List.mem_of_getElem? (i := 1080) (by decide +kernel)⟩
theorem lw_p99 : lw_okq (⟨"LoafStreet$Stand", "copyFrom", "(LLoafStreet$Stand;)V"⟩, 5) := ⟨⟨by decide +kernel, by decide +kernel⟩, List.mem_of_getElem? (i := 135) (by decide +kernel), List.mem_of_getElem? (i := 1087) (by decide +kernel), List.mem_of_getElem? (i := 1088) (by decide +kernel)⟩
theorem lw_p100 : lw_okq (⟨"LoafStreet$Trade", "likelyRows", "()I"⟩, 17) := ⟨⟨by decide +kernel, by decide +kernel⟩, List.mem_of_getElem? (i := 170) (by decide +kernel), List.mem_of_getElem? (i := 1099) (by decide +kernel), List.mem_of_getElem? (i := 1100) (by decide +kernel)⟩
theorem lw_p101 : lw_okq (⟨"LoafStreet$Street", "womenInAll", "()I"⟩, 15) := ⟨⟨by decide +kernel, by decide +kernel⟩, List.mem_of_getElem? (i := 28) (by decide +kernel), List.mem_of_getElem? (i := 1103) (by decide +kernel), List.mem_of_getElem? (i := 1104) (by decide +kernel)⟩
theorem lw_p102 : lw_okq (⟨"LoafStreetModel", "four", "(I)V"⟩, 70) := ⟨⟨by decide +kernel, by decide +kernel⟩, List.mem_of_getElem? (i := 1107) (by decide +kernel), List.mem_of_getElem? (i := 1328) (by decide +kernel), List.mem_of_getElem? (i := 1329) (by decide +kernel)⟩
theorem lw_p103 : lw_okq (⟨"LoafStreetModel", "reads", "(I)Z"⟩, 70) := ⟨⟨by decide +kernel, by decide +kernel⟩, List.mem_of_getElem? (i := 1107) (by decide +kernel), List.mem_of_getElem? (i := 1339) (by decide +kernel), List.mem_of_getElem? (i := 1340) (by decide +kernel)⟩
theorem lw_p104 : lw_okq (⟨"LoafStreetModel", "blanks", "()V"⟩, 70) := ⟨⟨by decide +kernel, by decide +kernel⟩, List.mem_of_getElem? (i := 1107) (by decide +kernel), List.mem_of_getElem? (i := 1343) (by decide +kernel), List.mem_of_getElem? (i := 1344) (by decide +kernel)⟩
theorem lw_p105 : lw_okq (⟨"LoafStreetModel", "statement", "()Z"⟩, 70) := ⟨⟨by decide +kernel, by decide +kernel⟩, List.mem_of_getElem? (i := 1107) (by decide +kernel), List.mem_of_getElem? (i := 1347) (by decide +kernel), List.mem_of_getElem? (i := 1348) (by decide +kernel)⟩
theorem lw_p106 : lw_okq (⟨"LoafStreetModel", "takes", "(J)Z"⟩, 70) := ⟨⟨by decide +kernel, by decide +kernel⟩, List.mem_of_getElem? (i := 1107) (by decide +kernel), List.mem_of_getElem? (i := 1352) (by decide +kernel), List.mem_of_getElem? (i := 1353) (by decide +kernel)⟩
theorem lw_p107 : lw_okq (⟨"LoafStreetModel", "word", "()J"⟩, 70) := ⟨⟨by decide +kernel, by decide +kernel⟩, List.mem_of_getElem? (i := 1107) (by decide +kernel), List.mem_of_getElem? (i := 1356) (by decide +kernel), List.mem_of_getElem? (i := 1357) (by decide +kernel)⟩
theorem lw_p108 : lw_okq (⟨"LoafStreetModel", "bakerTold", "()Z"⟩, 70) := ⟨⟨by decide +kernel, by decide +kernel⟩, List.mem_of_getElem? (i := 1107) (by decide +kernel), List.mem_of_getElem? (i := 1360) (by decide +kernel), List.mem_of_getElem? (i := 1361) (by decide +kernel)⟩
theorem lw_p109 : lw_okq (⟨"LoafStreetModel", "named", "(J)I"⟩, 70) := ⟨⟨by decide +kernel, by decide +kernel⟩, List.mem_of_getElem? (i := 1107) (by decide +kernel), List.mem_of_getElem? (i := 1380) (by decide +kernel), List.mem_of_getElem? (i := 1381) (by decide +kernel)⟩
theorem lw_p110 : lw_okq (⟨"LoafStreetModel", "takesNumber", "(II)Z"⟩, 70) := ⟨⟨by decide +kernel, by decide +kernel⟩, List.mem_of_getElem? (i := 1107) (by decide +kernel), List.mem_of_getElem? (i := 1384) (by decide +kernel), List.mem_of_getElem? (i := 1385) (by decide +kernel)⟩
theorem lw_p111 : lw_okq (⟨"LoafStreetModel", "stepsTold", "()Z"⟩, 70) := ⟨⟨by decide +kernel, by decide +kernel⟩, List.mem_of_getElem? (i := 1107) (by decide +kernel), List.mem_of_getElem? (i := 1388) (by decide +kernel), List.mem_of_getElem? (i := 1389) (by decide +kernel)⟩
def lw_privs_7 : List (MethodName × Nat) := [(⟨"LoafStreet$Trade", "mornings", "(III)J"⟩, 17), (⟨"LoafStreet$Trade", "morningOf", "(I)J"⟩, 17), (⟨"LoafStreet$Trade", "paidInRow", "(I)J"⟩, 17), (⟨"LoafStreet$Stand", "copyFrom", "(LLoafStreet$Stand;)V"⟩, 5), (⟨"LoafStreet$Trade", "likelyRows", "()I"⟩, 17), (⟨"LoafStreet$Street", "womenInAll", "()I"⟩, 15), (⟨"LoafStreetModel", "four", "(I)V"⟩, 70), (⟨"LoafStreetModel", "reads", "(I)Z"⟩, 70), (⟨"LoafStreetModel", "blanks", "()V"⟩, 70), (⟨"LoafStreetModel", "statement", "()Z"⟩, 70), (⟨"LoafStreetModel", "takes", "(J)Z"⟩, 70), (⟨"LoafStreetModel", "word", "()J"⟩, 70), (⟨"LoafStreetModel", "bakerTold", "()Z"⟩, 70), (⟨"LoafStreetModel", "named", "(J)I"⟩, 70), (⟨"LoafStreetModel", "takesNumber", "(II)Z"⟩, 70), (⟨"LoafStreetModel", "stepsTold", "()Z"⟩, 70)]
theorem lw_r7 : ∀ q ∈ lw_privs_7, lw_okq q := List.forall_mem_cons.mpr ⟨lw_p96, List.forall_mem_cons.mpr ⟨lw_p97, List.forall_mem_cons.mpr ⟨lw_p98, List.forall_mem_cons.mpr ⟨lw_p99, List.forall_mem_cons.mpr ⟨lw_p100, List.forall_mem_cons.mpr ⟨lw_p101, List.forall_mem_cons.mpr ⟨lw_p102, List.forall_mem_cons.mpr ⟨lw_p103, List.forall_mem_cons.mpr ⟨lw_p104, List.forall_mem_cons.mpr ⟨lw_p105, List.forall_mem_cons.mpr ⟨lw_p106, List.forall_mem_cons.mpr ⟨lw_p107, List.forall_mem_cons.mpr ⟨lw_p108, List.forall_mem_cons.mpr ⟨lw_p109, List.forall_mem_cons.mpr ⟨lw_p110, List.forall_mem_cons.mpr ⟨lw_p111, fun _ h => absurd h List.not_mem_nil⟩⟩⟩⟩⟩⟩⟩⟩⟩⟩⟩⟩⟩⟩⟩⟩
theorem lw_p112 : lw_okq (⟨"LoafStreetModel", "listTold", "()Z"⟩, 70) := ⟨⟨by decide +kernel, by decide +kernel⟩, List.mem_of_getElem? (i := 1107) (by decide +kernel), List.mem_of_getElem? (i := 1392) (by decide +kernel), List.mem_of_getElem? (i := 1393) (by decide +kernel)⟩
theorem lw_p113 : lw_okq (⟨"LoafStreetModel", "baker", "(I)I"⟩, 70) := ⟨⟨by decide +kernel, by decide +kernel⟩, List.mem_of_getElem? (i := 1107) (by decide +kernel), List.mem_of_getElem? (i := 1396) (by decide +kernel), List.mem_of_getElem? (i := 1397) (by decide +kernel)⟩
theorem lw_p114 : lw_okq (⟨"LoafStreetModel", "sortTold", "(I)Z"⟩, 70) := ⟨⟨by decide +kernel, by decide +kernel⟩, List.mem_of_getElem? (i := 1107) (by decide +kernel), List.mem_of_getElem? (i := 1403) (by decide +kernel), List.mem_of_getElem? (i := 1404) (by decide +kernel)⟩
theorem lw_p115 : lw_okq (⟨"LoafStreetModel", "worthTold", "()Z"⟩, 70) := ⟨⟨by decide +kernel, by decide +kernel⟩, List.mem_of_getElem? (i := 1107) (by decide +kernel), List.mem_of_getElem? (i := 1407) (by decide +kernel), List.mem_of_getElem? (i := 1408) (by decide +kernel)⟩
theorem lw_p116 : lw_okq (⟨"LoafStreetModel", "takesSign", "(I)Z"⟩, 70) := ⟨⟨by decide +kernel, by decide +kernel⟩, List.mem_of_getElem? (i := 1107) (by decide +kernel), List.mem_of_getElem? (i := 1411) (by decide +kernel), List.mem_of_getElem? (i := 1412) (by decide +kernel)⟩
theorem lw_p117 : lw_okq (⟨"LoafStreetModel", "isBaker", "(I)Z"⟩, 70) := ⟨⟨by decide +kernel, by decide +kernel⟩, List.mem_of_getElem? (i := 1107) (by decide +kernel), List.mem_of_getElem? (i := 1427) (by decide +kernel), List.mem_of_getElem? (i := 1428) (by decide +kernel)⟩
theorem lw_p118 : lw_okq (⟨"LoafStreetModel", "isStep", "(I)Z"⟩, 70) := ⟨⟨by decide +kernel, by decide +kernel⟩, List.mem_of_getElem? (i := 1107) (by decide +kernel), List.mem_of_getElem? (i := 1439) (by decide +kernel), List.mem_of_getElem? (i := 1440) (by decide +kernel)⟩
theorem lw_p119 : lw_okq (⟨"LoafStreetModel", "areReady", "()Z"⟩, 70) := ⟨⟨by decide +kernel, by decide +kernel⟩, List.mem_of_getElem? (i := 1107) (by decide +kernel), List.mem_of_getElem? (i := 1467) (by decide +kernel), List.mem_of_getElem? (i := 1468) (by decide +kernel)⟩
theorem lw_p120 : lw_okq (⟨"LoafStreetModel", "knocks", "()V"⟩, 70) := ⟨⟨by decide +kernel, by decide +kernel⟩, List.mem_of_getElem? (i := 1107) (by decide +kernel), List.mem_of_getElem? (i := 1471) (by decide +kernel), List.mem_of_getElem? (i := 1472) (by decide +kernel)⟩
theorem lw_p121 : lw_okq (⟨"LoafStreetModel", "areWhole", "()Z"⟩, 70) := ⟨⟨by decide +kernel, by decide +kernel⟩, List.mem_of_getElem? (i := 1107) (by decide +kernel), List.mem_of_getElem? (i := 1475) (by decide +kernel), List.mem_of_getElem? (i := 1476) (by decide +kernel)⟩
theorem lw_p122 : lw_okq (⟨"LoafStreetModel", "lays", "(I)Z"⟩, 70) := ⟨⟨by decide +kernel, by decide +kernel⟩, List.mem_of_getElem? (i := 1107) (by decide +kernel), List.mem_of_getElem? (i := 1479) (by decide +kernel), List.mem_of_getElem? (i := 1480) (by decide +kernel)⟩
theorem lw_p123 : lw_okq (⟨"LoafStreetModel", "isBarred", "(I)Z"⟩, 70) := ⟨⟨by decide +kernel, by decide +kernel⟩, List.mem_of_getElem? (i := 1107) (by decide +kernel), List.mem_of_getElem? (i := 1483) (by decide +kernel), List.mem_of_getElem? (i := 1484) (by decide +kernel)⟩
theorem lw_p124 : lw_okq (⟨"LoafStreetModel", "isAllBarred", "()Z"⟩, 70) := ⟨⟨by decide +kernel, by decide +kernel⟩, List.mem_of_getElem? (i := 1107) (by decide +kernel), List.mem_of_getElem? (i := 1487) (by decide +kernel), List.mem_of_getElem? (i := 1488) (by decide +kernel)⟩
theorem lw_p125 : lw_okq (⟨"LoafStreetModel", "bestOf", "(I)I"⟩, 70) := ⟨⟨by decide +kernel, by decide +kernel⟩, List.mem_of_getElem? (i := 1107) (by decide +kernel), List.mem_of_getElem? (i := 1491) (by decide +kernel), List.mem_of_getElem? (i := 1492) (by decide +kernel)⟩
theorem lw_p126 : lw_okq (⟨"LoafStreetModel", "earnsAt", "(II)J"⟩, 70) := ⟨⟨by decide +kernel, by decide +kernel⟩, List.mem_of_getElem? (i := 1107) (by decide +kernel), List.mem_of_getElem? (i := 1495) (by decide +kernel), List.mem_of_getElem? (i := 1496) (by decide +kernel)⟩
theorem lw_p127 : lw_okq (⟨"LoafStreetModel", "puts", "(II)V"⟩, 70) := ⟨⟨by decide +kernel, by decide +kernel⟩, List.mem_of_getElem? (i := 1107) (by decide +kernel), List.mem_of_getElem? (i := 1499) (by decide +kernel), List.mem_of_getElem? (i := 1500) (by decide +kernel)⟩
def lw_privs_8 : List (MethodName × Nat) := [(⟨"LoafStreetModel", "listTold", "()Z"⟩, 70), (⟨"LoafStreetModel", "baker", "(I)I"⟩, 70), (⟨"LoafStreetModel", "sortTold", "(I)Z"⟩, 70), (⟨"LoafStreetModel", "worthTold", "()Z"⟩, 70), (⟨"LoafStreetModel", "takesSign", "(I)Z"⟩, 70), (⟨"LoafStreetModel", "isBaker", "(I)Z"⟩, 70), (⟨"LoafStreetModel", "isStep", "(I)Z"⟩, 70), (⟨"LoafStreetModel", "areReady", "()Z"⟩, 70), (⟨"LoafStreetModel", "knocks", "()V"⟩, 70), (⟨"LoafStreetModel", "areWhole", "()Z"⟩, 70), (⟨"LoafStreetModel", "lays", "(I)Z"⟩, 70), (⟨"LoafStreetModel", "isBarred", "(I)Z"⟩, 70), (⟨"LoafStreetModel", "isAllBarred", "()Z"⟩, 70), (⟨"LoafStreetModel", "bestOf", "(I)I"⟩, 70), (⟨"LoafStreetModel", "earnsAt", "(II)J"⟩, 70), (⟨"LoafStreetModel", "puts", "(II)V"⟩, 70)]
theorem lw_r8 : ∀ q ∈ lw_privs_8, lw_okq q := List.forall_mem_cons.mpr ⟨lw_p112, List.forall_mem_cons.mpr ⟨lw_p113, List.forall_mem_cons.mpr ⟨lw_p114, List.forall_mem_cons.mpr ⟨lw_p115, List.forall_mem_cons.mpr ⟨lw_p116, List.forall_mem_cons.mpr ⟨lw_p117, List.forall_mem_cons.mpr ⟨lw_p118, List.forall_mem_cons.mpr ⟨lw_p119, List.forall_mem_cons.mpr ⟨lw_p120, List.forall_mem_cons.mpr ⟨lw_p121, List.forall_mem_cons.mpr ⟨lw_p122, List.forall_mem_cons.mpr ⟨lw_p123, List.forall_mem_cons.mpr ⟨lw_p124, List.forall_mem_cons.mpr ⟨lw_p125, List.forall_mem_cons.mpr ⟨lw_p126, List.forall_mem_cons.mpr ⟨lw_p127, fun _ h => absurd h List.not_mem_nil⟩⟩⟩⟩⟩⟩⟩⟩⟩⟩⟩⟩⟩⟩⟩⟩
theorem lw_p128 : lw_okq (⟨"LoafStreetModel", "sells", "()V"⟩, 70) := ⟨⟨by decide +kernel, by decide +kernel⟩, List.mem_of_getElem? (i := 1107) (by decide +kernel), List.mem_of_getElem? (i := 1503) (by decide +kernel), List.mem_of_getElem? (i := 1504) (by decide +kernel)⟩
theorem lw_p129 : lw_okq (⟨"LoafStreetModel", "clears", "()V"⟩, 70) := ⟨⟨by decide +kernel, by decide +kernel⟩, List.mem_of_getElem? (i := 1107) (by decide +kernel), List.mem_of_getElem? (i := 1507) (by decide +kernel), List.mem_of_getElem? (i := 1508) (by decide +kernel)⟩
theorem lw_p130 : lw_okq (⟨"LoafStreetModel", "rows", "()I"⟩, 70) := ⟨⟨by decide +kernel, by decide +kernel⟩, List.mem_of_getElem? (i := 1107) (by decide +kernel), List.mem_of_getElem? (i := 1511) (by decide +kernel), List.mem_of_getElem? (i := 1512) (by decide +kernel)⟩
theorem lw_p131 : lw_okq (⟨"LoafStreetModel", "lays", "(IZ)V"⟩, 70) := ⟨⟨by decide +kernel, by decide +kernel⟩, List.mem_of_getElem? (i := 1107) (by decide +kernel), List.mem_of_getElem? (i := 1515) (by decide +kernel), List.mem_of_getElem? (i := 1516) (by decide +kernel)⟩
theorem lw_p132 : lw_okq (⟨"LoafStreetModel", "rowBuys", "()V"⟩, 70) := ⟨⟨by decide +kernel, by decide +kernel⟩, List.mem_of_getElem? (i := 1107) (by decide +kernel), List.mem_of_getElem? (i := 1519) (by decide +kernel), List.mem_of_getElem? (i := 1520) (by decide +kernel)⟩
theorem lw_p133 : lw_okq (⟨"LoafStreetModel", "sortBuys", "(IJ)V"⟩, 70) := ⟨⟨by decide +kernel, by decide +kernel⟩, List.mem_of_getElem? (i := 1107) (by decide +kernel), List.mem_of_getElem? (i := 1523) (by decide +kernel), List.mem_of_getElem? (i := 1524) (by decide +kernel)⟩
theorem lw_p134 : lw_okq (⟨"LoafStreetModel", "isShouted", "()Z"⟩, 70) := ⟨⟨by decide +kernel, by decide +kernel⟩, List.mem_of_getElem? (i := 1107) (by decide +kernel), List.mem_of_getElem? (i := 1527) (by decide +kernel), List.mem_of_getElem? (i := 1528) (by decide +kernel)⟩
theorem lw_p135 : lw_okq (⟨"LoafStreetModel", "everyone", "()I"⟩, 70) := ⟨⟨by decide +kernel, by decide +kernel⟩, List.mem_of_getElem? (i := 1107) (by decide +kernel), List.mem_of_getElem? (i := 1531) (by decide +kernel), List.mem_of_getElem? (i := 1532) (by decide +kernel)⟩
theorem lw_p136 : lw_okq (⟨"LoafStreetModel", "buy", "(IIJ)V"⟩, 70) := ⟨⟨by decide +kernel, by decide +kernel⟩, List.mem_of_getElem? (i := 1107) (by decide +kernel), List.mem_of_getElem? (i := 1535) (by decide +kernel), List.mem_of_getElem? (i := 1536) (by decide +kernel)⟩
theorem lw_p137 : lw_okq (⟨"LoafStreetModel", "leastStep", "(I)I"⟩, 70) := ⟨⟨by decide +kernel, by decide +kernel⟩, List.mem_of_getElem? (i := 1107) (by decide +kernel), List.mem_of_getElem? (i := 1539) (by decide +kernel), List.mem_of_getElem? (i := 1540) (by decide +kernel)⟩
theorem lw_p138 : lw_okq (⟨"LoafStreetModel", "price", "(I)I"⟩, 70) := ⟨⟨by decide +kernel, by decide +kernel⟩, List.mem_of_getElem? (i := 1107) (by decide +kernel), List.mem_of_getElem? (i := 1543) (by decide +kernel), List.mem_of_getElem? (i := 1544) (by decide +kernel)⟩
theorem lw_p139 : lw_okq (⟨"LoafStreetModel", "wouldRather", "(I)Z"⟩, 70) := ⟨⟨by decide +kernel, by decide +kernel⟩, List.mem_of_getElem? (i := 1107) (by decide +kernel), List.mem_of_getElem? (i := 1573) (by decide +kernel), List.mem_of_getElem? (i := 1574) (by decide +kernel)⟩
theorem lw_p140 : lw_okq (⟨"LoafStreetModel", "countRests", "()I"⟩, 70) := ⟨⟨by decide +kernel, by decide +kernel⟩, List.mem_of_getElem? (i := 1107) (by decide +kernel), List.mem_of_getElem? (i := 1581) (by decide +kernel), List.mem_of_getElem? (i := 1582) (by decide +kernel)⟩
theorem lw_p141 : lw_okq (⟨"LoafStreetModel", "plays", "()V"⟩, 70) := ⟨⟨by decide +kernel, by decide +kernel⟩, List.mem_of_getElem? (i := 1107) (by decide +kernel), List.mem_of_getElem? (i := 1585) (by decide +kernel), List.mem_of_getElem? (i := 1586) (by decide +kernel)⟩
theorem lw_p142 : lw_okq (⟨"LoafStreetModel", "isLet", "(I)Z"⟩, 70) := ⟨⟨by decide +kernel, by decide +kernel⟩, List.mem_of_getElem? (i := 1107) (by decide +kernel), List.mem_of_getElem? (i := 1589) (by decide +kernel), List.mem_of_getElem? (i := 1590) (by decide +kernel)⟩
theorem lw_p143 : lw_okq (⟨"LoafStreetModel", "isRest", "(I)Z"⟩, 70) := ⟨⟨by decide +kernel, by decide +kernel⟩, List.mem_of_getElem? (i := 1107) (by decide +kernel), List.mem_of_getElem? (i := 1593) (by decide +kernel), List.mem_of_getElem? (i := 1594) (by decide +kernel)⟩
def lw_privs_9 : List (MethodName × Nat) := [(⟨"LoafStreetModel", "sells", "()V"⟩, 70), (⟨"LoafStreetModel", "clears", "()V"⟩, 70), (⟨"LoafStreetModel", "rows", "()I"⟩, 70), (⟨"LoafStreetModel", "lays", "(IZ)V"⟩, 70), (⟨"LoafStreetModel", "rowBuys", "()V"⟩, 70), (⟨"LoafStreetModel", "sortBuys", "(IJ)V"⟩, 70), (⟨"LoafStreetModel", "isShouted", "()Z"⟩, 70), (⟨"LoafStreetModel", "everyone", "()I"⟩, 70), (⟨"LoafStreetModel", "buy", "(IIJ)V"⟩, 70), (⟨"LoafStreetModel", "leastStep", "(I)I"⟩, 70), (⟨"LoafStreetModel", "price", "(I)I"⟩, 70), (⟨"LoafStreetModel", "wouldRather", "(I)Z"⟩, 70), (⟨"LoafStreetModel", "countRests", "()I"⟩, 70), (⟨"LoafStreetModel", "plays", "()V"⟩, 70), (⟨"LoafStreetModel", "isLet", "(I)Z"⟩, 70), (⟨"LoafStreetModel", "isRest", "(I)Z"⟩, 70)]
theorem lw_r9 : ∀ q ∈ lw_privs_9, lw_okq q := List.forall_mem_cons.mpr ⟨lw_p128, List.forall_mem_cons.mpr ⟨lw_p129, List.forall_mem_cons.mpr ⟨lw_p130, List.forall_mem_cons.mpr ⟨lw_p131, List.forall_mem_cons.mpr ⟨lw_p132, List.forall_mem_cons.mpr ⟨lw_p133, List.forall_mem_cons.mpr ⟨lw_p134, List.forall_mem_cons.mpr ⟨lw_p135, List.forall_mem_cons.mpr ⟨lw_p136, List.forall_mem_cons.mpr ⟨lw_p137, List.forall_mem_cons.mpr ⟨lw_p138, List.forall_mem_cons.mpr ⟨lw_p139, List.forall_mem_cons.mpr ⟨lw_p140, List.forall_mem_cons.mpr ⟨lw_p141, List.forall_mem_cons.mpr ⟨lw_p142, List.forall_mem_cons.mpr ⟨lw_p143, fun _ h => absurd h List.not_mem_nil⟩⟩⟩⟩⟩⟩⟩⟩⟩⟩⟩⟩⟩⟩⟩⟩
theorem lw_p144 : lw_okq (⟨"LoafStreetModel", "isSort", "(I)Z"⟩, 70) := ⟨⟨by decide +kernel, by decide +kernel⟩, List.mem_of_getElem? (i := 1107) (by decide +kernel), List.mem_of_getElem? (i := 1601) (by decide +kernel), List.mem_of_getElem? (i := 1602) (by decide +kernel)⟩
theorem lw_p145 : lw_okq (⟨"LoafStreetModel", "meanNow", "(I)I"⟩, 70) := ⟨⟨by decide +kernel, by decide +kernel⟩, List.mem_of_getElem? (i := 1107) (by decide +kernel), List.mem_of_getElem? (i := 1609) (by decide +kernel), List.mem_of_getElem? (i := 1610) (by decide +kernel)⟩
theorem lw_p146 : lw_okq (⟨"LoafStreetModel", "mayLook", "(I)Z"⟩, 70) := ⟨⟨by decide +kernel, by decide +kernel⟩, List.mem_of_getElem? (i := 1107) (by decide +kernel), List.mem_of_getElem? (i := 1624) (by decide +kernel), List.mem_of_getElem? (i := 1625) (by decide +kernel)⟩
theorem lw_p147 : lw_okq (⟨"LoafStreetModel", "savesNow", "(II)J"⟩, 70) := ⟨⟨by decide +kernel, by decide +kernel⟩, List.mem_of_getElem? (i := 1107) (by decide +kernel), List.mem_of_getElem? (i := 1628) (by decide +kernel), List.mem_of_getElem? (i := 1629) (by decide +kernel)⟩
theorem lw_p148 : lw_okq (⟨"LoafStreetModel", "valueOf", "(II)I"⟩, 70) := ⟨⟨by decide +kernel, by decide +kernel⟩, List.mem_of_getElem? (i := 1107) (by decide +kernel), List.mem_of_getElem? (i := 1632) (by decide +kernel), List.mem_of_getElem? (i := 1633) (by decide +kernel)⟩
theorem lw_p149 : lw_okq (⟨"LoafStreetModel", "wouldTake", "(I)I"⟩, 70) := ⟨⟨by decide +kernel, by decide +kernel⟩, List.mem_of_getElem? (i := 1107) (by decide +kernel), List.mem_of_getElem? (i := 1640) (by decide +kernel), List.mem_of_getElem? (i := 1641) (by decide +kernel)⟩
theorem lw_p150 : lw_okq (⟨"LoafStreetModel", "isUnrest", "()Z"⟩, 70) := ⟨⟨by decide +kernel, by decide +kernel⟩, List.mem_of_getElem? (i := 1107) (by decide +kernel), List.mem_of_getElem? (i := 1653) (by decide +kernel), List.mem_of_getElem? (i := 1654) (by decide +kernel)⟩
theorem lw_p151 : lw_okq (⟨"LoafStreetModel", "chases", "(I)V"⟩, 70) := ⟨⟨by decide +kernel, by decide +kernel⟩, List.mem_of_getElem? (i := 1107) (by decide +kernel), List.mem_of_getElem? (i := 1665) (by decide +kernel), List.mem_of_getElem? (i := 1666) (by decide +kernel)⟩
theorem lw_p152 : lw_okq (⟨"LoafStreetModel", "sees", "(I)V"⟩, 70) := ⟨⟨by decide +kernel, by decide +kernel⟩, List.mem_of_getElem? (i := 1107) (by decide +kernel), List.mem_of_getElem? (i := 1669) (by decide +kernel), List.mem_of_getElem? (i := 1670) (by decide +kernel)⟩
theorem lw_p153 : lw_okq (⟨"LoafStreetModel", "isLike", "(II)Z"⟩, 70) := ⟨⟨by decide +kernel, by decide +kernel⟩, List.mem_of_getElem? (i := 1107) (by decide +kernel), List.mem_of_getElem? (i := 1673) (by decide +kernel), List.mem_of_getElem? (i := 1674) (by decide +kernel)⟩
theorem lw_p154 : lw_okq (⟨"LoafStreetModel", "asksLaws", "(I)V"⟩, 70) := ⟨⟨by decide +kernel, by decide +kernel⟩, List.mem_of_getElem? (i := 1107) (by decide +kernel), List.mem_of_getElem? (i := 1681) (by decide +kernel), List.mem_of_getElem? (i := 1682) (by decide +kernel)⟩
theorem lw_p155 : lw_okq (⟨"LoafStreetModel", "drawn", "(I)I"⟩, 70) := ⟨⟨by decide +kernel, by decide +kernel⟩, List.mem_of_getElem? (i := 1107) (by decide +kernel), List.mem_of_getElem? (i := 1694) (by decide +kernel), List.mem_of_getElem? (i := 1695) (by decide +kernel)⟩
theorem lw_p156 : lw_okq (⟨"LoafStreetModel", "weighed", "()I"⟩, 70) := ⟨⟨by decide +kernel, by decide +kernel⟩, List.mem_of_getElem? (i := 1107) (by decide +kernel), List.mem_of_getElem? (i := 1715) (by decide +kernel), List.mem_of_getElem? (i := 1716) (by decide +kernel)⟩
theorem lw_p157 : lw_okq (⟨"LoafStreetModel", "womenMany", "()I"⟩, 70) := ⟨⟨by decide +kernel, by decide +kernel⟩, List.mem_of_getElem? (i := 1107) (by decide +kernel), List.mem_of_getElem? (i := 1719) (by decide +kernel), List.mem_of_getElem? (i := 1720) (by decide +kernel)⟩
def lw_privs_10 : List (MethodName × Nat) := [(⟨"LoafStreetModel", "isSort", "(I)Z"⟩, 70), (⟨"LoafStreetModel", "meanNow", "(I)I"⟩, 70), (⟨"LoafStreetModel", "mayLook", "(I)Z"⟩, 70), (⟨"LoafStreetModel", "savesNow", "(II)J"⟩, 70), (⟨"LoafStreetModel", "valueOf", "(II)I"⟩, 70), (⟨"LoafStreetModel", "wouldTake", "(I)I"⟩, 70), (⟨"LoafStreetModel", "isUnrest", "()Z"⟩, 70), (⟨"LoafStreetModel", "chases", "(I)V"⟩, 70), (⟨"LoafStreetModel", "sees", "(I)V"⟩, 70), (⟨"LoafStreetModel", "isLike", "(II)Z"⟩, 70), (⟨"LoafStreetModel", "asksLaws", "(I)V"⟩, 70), (⟨"LoafStreetModel", "drawn", "(I)I"⟩, 70), (⟨"LoafStreetModel", "weighed", "()I"⟩, 70), (⟨"LoafStreetModel", "womenMany", "()I"⟩, 70)]
theorem lw_r10 : ∀ q ∈ lw_privs_10, lw_okq q := List.forall_mem_cons.mpr ⟨lw_p144, List.forall_mem_cons.mpr ⟨lw_p145, List.forall_mem_cons.mpr ⟨lw_p146, List.forall_mem_cons.mpr ⟨lw_p147, List.forall_mem_cons.mpr ⟨lw_p148, List.forall_mem_cons.mpr ⟨lw_p149, List.forall_mem_cons.mpr ⟨lw_p150, List.forall_mem_cons.mpr ⟨lw_p151, List.forall_mem_cons.mpr ⟨lw_p152, List.forall_mem_cons.mpr ⟨lw_p153, List.forall_mem_cons.mpr ⟨lw_p154, List.forall_mem_cons.mpr ⟨lw_p155, List.forall_mem_cons.mpr ⟨lw_p156, List.forall_mem_cons.mpr ⟨lw_p157, fun _ h => absurd h List.not_mem_nil⟩⟩⟩⟩⟩⟩⟩⟩⟩⟩⟩⟩⟩⟩
def lw_privs : List (MethodName × Nat) := lw_privs_1 ++ (lw_privs_2 ++ (lw_privs_3 ++ (lw_privs_4 ++ (lw_privs_5 ++ (lw_privs_6 ++ (lw_privs_7 ++ (lw_privs_8 ++ (lw_privs_9 ++ (lw_privs_10)))))))))
def lw_tbl : List Cond := k2_sels lw_privs ++ tables_1
theorem lw_privs_ok : ∀ q ∈ lw_privs, lw_okq q := by
  show ∀ q ∈ lw_privs_1 ++ (lw_privs_2 ++ (lw_privs_3 ++ (lw_privs_4 ++ (lw_privs_5 ++ (lw_privs_6 ++ (lw_privs_7 ++ (lw_privs_8 ++ (lw_privs_9 ++ (lw_privs_10))))))))), lw_okq q
  exact List.forall_mem_append.mpr ⟨lw_r1, List.forall_mem_append.mpr ⟨lw_r2, List.forall_mem_append.mpr ⟨lw_r3, List.forall_mem_append.mpr ⟨lw_r4, List.forall_mem_append.mpr ⟨lw_r5, List.forall_mem_append.mpr ⟨lw_r6, List.forall_mem_append.mpr ⟨lw_r7, List.forall_mem_append.mpr ⟨lw_r8, List.forall_mem_append.mpr ⟨lw_r9, lw_r10⟩⟩⟩⟩⟩⟩⟩⟩⟩
-- ===== end of PART A; then your names; then what follows =====
/-- the words that a callee may be handed -/
def wsAll : List Cond := lw_tbl.filter goodWord
theorem wsAll_mem {w : Cond} (i : Nat) (h : lw_tbl[i]? = some w) (hg : goodWord w = true) : w ∈ wsAll := List.mem_filter.mpr ⟨List.mem_of_getElem? h, hg⟩
theorem wsAll_good : ∀ w ∈ wsAll, (w.onTables && w.keeps) = true ∨ ∃ ty, w = .arrayClass ty := fun w h => good_of_word (List.mem_filter.mp h).2
end
section
def RX0 : String := "LoafStreet$Chase"
def TX0 : u_T := fun k => match k with
  | 0 => ("LoafStreet$Chase", "street", "LLoafStreet$Street;", true)
  | 1 => ("LoafStreet$Chase", "stand", "LLoafStreet$Stand;", true)
  | 2 => ("LoafStreet$Chase", "trade", "LLoafStreet$Trade;", true)
  | 3 => ("LoafStreet$Chase", "steps", "[I", true)
  | 4 => ("LoafStreet$Chase", "history", "[I", true)
  | 5 => ("LoafStreet$Chase", "ending", "I", false)
  | 6 => ("LoafStreet$Chase", "gone", "I", false)
  | _ => ("LoafStreet$Chase", "ring", "I", false)
def tyX0 : Nat → FieldType := fun k => match k with
  | 0 => .object "LoafStreet$Street"
  | 1 => .object "LoafStreet$Stand"
  | 2 => .object "LoafStreet$Trade"
  | 3 => .array .int
  | 4 => .array .int
  | 5 => .int
  | 6 => .int
  | _ => .int
theorem nmX0 : ∀ a, a < 8 → ∀ b, b < 8 → a ≠ b → (TX0 a).2.1 ≠ (TX0 b).2.1 := by decide +kernel
theorem tyX0_ok : ∀ k, k < 8 → parseFieldDescriptor (TX0 k).2.2.1 = some (tyX0 k) := by decide +kernel
abbrev cX0_init : ByteArray := prog_2_method_1_code
def yX0_init : MethodName := ⟨RX0, "<init>", "(LLoafStreet$Street;LLoafStreet$Stand;LLoafStreet$Trade;)V"⟩
abbrev cX0_go : ByteArray := prog_2_method_2_code
def yX0_go : MethodName := ⟨RX0, "go", "(I)V"⟩
abbrev cX0_begin : ByteArray := prog_2_method_3_code
def yX0_begin : MethodName := ⟨RX0, "begin", "()V"⟩
abbrev cX0_round : ByteArray := prog_2_method_4_code
def yX0_round : MethodName := ⟨RX0, "round", "()Z"⟩
abbrev cX0_code : ByteArray := prog_2_method_5_code
def yX0_code : MethodName := ⟨RX0, "code", "()I"⟩
abbrev cX0_roundsSince : ByteArray := prog_2_method_6_code
def yX0_roundsSince : MethodName := ⟨RX0, "roundsSince", "(I)I"⟩
def RX1 : String := "LoafStreet$Duel"
def TX1 : u_T := fun k => match k with
  | 0 => ("LoafStreet$Duel", "trade", "LLoafStreet$Trade;", true)
  | 1 => ("LoafStreet$Duel", "aLowLow", "J", false)
  | 2 => ("LoafStreet$Duel", "aLowHigh", "J", false)
  | 3 => ("LoafStreet$Duel", "aHighLow", "J", false)
  | 4 => ("LoafStreet$Duel", "aHighHigh", "J", false)
  | 5 => ("LoafStreet$Duel", "bLowLow", "J", false)
  | 6 => ("LoafStreet$Duel", "bLowHigh", "J", false)
  | 7 => ("LoafStreet$Duel", "bHighLow", "J", false)
  | _ => ("LoafStreet$Duel", "bHighHigh", "J", false)
def tyX1 : Nat → FieldType := fun k => match k with
  | 0 => .object "LoafStreet$Trade"
  | 1 => .long
  | 2 => .long
  | 3 => .long
  | 4 => .long
  | 5 => .long
  | 6 => .long
  | 7 => .long
  | _ => .long
theorem nmX1 : ∀ a, a < 9 → ∀ b, b < 9 → a ≠ b → (TX1 a).2.1 ≠ (TX1 b).2.1 := by decide +kernel
theorem tyX1_ok : ∀ k, k < 9 → parseFieldDescriptor (TX1 k).2.2.1 = some (tyX1 k) := by decide +kernel
abbrev cX1_init : ByteArray := prog_3_method_1_code
def yX1_init : MethodName := ⟨RX1, "<init>", "(LLoafStreet$Trade;)V"⟩
abbrev cX1_fill : ByteArray := prog_3_method_2_code
def yX1_fill : MethodName := ⟨RX1, "fill", "(IIII)V"⟩
abbrev cX1_hasRest : ByteArray := prog_3_method_3_code
def yX1_hasRest : MethodName := ⟨RX1, "hasRest", "()Z"⟩
abbrev cX1_share : ByteArray := prog_3_method_4_code
def yX1_share : MethodName := ⟨RX1, "share", "(I)J"⟩
abbrev cX1_divisorOf : ByteArray := prog_3_method_5_code
def yX1_divisorOf : MethodName := ⟨RX1, "divisorOf", "(JJ)J"⟩
def RX2 : String := "LoafStreet$Laws"
def TX2 : u_T := fun k => match k with
  | 0 => ("LoafStreet$Laws", "told", "I", false)
  | 1 => ("LoafStreet$Laws", "kinds", "[I", true)
  | _ => ("LoafStreet$Laws", "steps", "[I", true)
def tyX2 : Nat → FieldType := fun k => match k with
  | 0 => .int
  | 1 => .array .int
  | _ => .array .int
theorem nmX2 : ∀ a, a < 3 → ∀ b, b < 3 → a ≠ b → (TX2 a).2.1 ≠ (TX2 b).2.1 := by decide +kernel
theorem tyX2_ok : ∀ k, k < 3 → parseFieldDescriptor (TX2 k).2.2.1 = some (tyX2 k) := by decide +kernel
abbrev cX2_init : ByteArray := prog_4_method_1_code
def yX2_init : MethodName := ⟨RX2, "<init>", "()V"⟩
abbrev cX2_forget : ByteArray := prog_4_method_2_code
def yX2_forget : MethodName := ⟨RX2, "forget", "()V"⟩
abbrev cX2_add : ByteArray := prog_4_method_3_code
def yX2_add : MethodName := ⟨RX2, "add", "(II)I"⟩
abbrev cX2_has : ByteArray := prog_4_method_4_code
def yX2_has : MethodName := ⟨RX2, "has", "(I)Z"⟩
abbrev cX2_shouts : ByteArray := prog_4_method_5_code
def yX2_shouts : MethodName := ⟨RX2, "shouts", "(I)Z"⟩
abbrev cX2_free : ByteArray := prog_4_method_6_code
def yX2_free : MethodName := ⟨RX2, "free", "(II)I"⟩
def RX3 : String := "LoafStreet$Reader"
def TX3 : u_T := fun k => match k with
  | 0 => ("LoafStreet$Reader", "text", "[B", true)
  | 1 => ("LoafStreet$Reader", "draft", "LLoafStreet$Street;", true)
  | 2 => ("LoafStreet$Reader", "length", "I", false)
  | 3 => ("LoafStreet$Reader", "next", "I", false)
  | 4 => ("LoafStreet$Reader", "start", "I", false)
  | 5 => ("LoafStreet$Reader", "kind", "I", false)
  | 6 => ("LoafStreet$Reader", "size", "I", false)
  | 7 => ("LoafStreet$Reader", "value", "I", false)
  | _ => ("LoafStreet$Reader", "letters", "J", false)
def tyX3 : Nat → FieldType := fun k => match k with
  | 0 => .array .byte
  | 1 => .object "LoafStreet$Street"
  | 2 => .int
  | 3 => .int
  | 4 => .int
  | 5 => .int
  | 6 => .int
  | 7 => .int
  | _ => .long
theorem nmX3 : ∀ a, a < 9 → ∀ b, b < 9 → a ≠ b → (TX3 a).2.1 ≠ (TX3 b).2.1 := by decide +kernel
theorem tyX3_ok : ∀ k, k < 9 → parseFieldDescriptor (TX3 k).2.2.1 = some (tyX3 k) := by decide +kernel
abbrev cX3_init : ByteArray := prog_5_method_1_code
def yX3_init : MethodName := ⟨RX3, "<init>", "([BLLoafStreet$Street;)V"⟩
abbrev cX3_read : ByteArray := prog_5_method_2_code
def yX3_read : MethodName := ⟨RX3, "read", "(I)I"⟩
abbrev cX3_advance : ByteArray := prog_5_method_3_code
def yX3_advance : MethodName := ⟨RX3, "advance", "()V"⟩
abbrev cX3_statement : ByteArray := prog_5_method_4_code
def yX3_statement : MethodName := ⟨RX3, "statement", "()Z"⟩
abbrev cX3_baker : ByteArray := prog_5_method_5_code
def yX3_baker : MethodName := ⟨RX3, "baker", "()Z"⟩
abbrev cX3_steps : ByteArray := prog_5_method_6_code
def yX3_steps : MethodName := ⟨RX3, "steps", "()Z"⟩
abbrev cX3_listing : ByteArray := prog_5_method_7_code
def yX3_listing : MethodName := ⟨RX3, "listing", "()Z"⟩
abbrev cX3_sort : ByteArray := prog_5_method_8_code
def yX3_sort : MethodName := ⟨RX3, "sort", "(I)Z"⟩
abbrev cX3_asked : ByteArray := prog_5_method_9_code
def yX3_asked : MethodName := ⟨RX3, "asked", "()I"⟩
abbrev cX3_ended : ByteArray := prog_5_method_10_code
def yX3_ended : MethodName := ⟨RX3, "ended", "()Z"⟩
abbrev cX3_accept : ByteArray := prog_5_method_11_code
def yX3_accept : MethodName := ⟨RX3, "accept", "(Ljava/lang/String;)Z"⟩
abbrev cX3_number : ByteArray := prog_5_method_12_code
def yX3_number : MethodName := ⟨RX3, "number", "(II)I"⟩
abbrev cX3_isName : ByteArray := prog_5_method_13_code
def yX3_isName : MethodName := ⟨RX3, "isName", "()Z"⟩
abbrev cX3_isKeyword : ByteArray := prog_5_method_14_code
def yX3_isKeyword : MethodName := ⟨RX3, "isKeyword", "()Z"⟩
abbrev cX3_spells : ByteArray := prog_5_method_15_code
def yX3_spells : MethodName := ⟨RX3, "spells", "(Ljava/lang/String;I)Z"⟩
abbrev cX3_knownBaker : ByteArray := prog_5_method_16_code
def yX3_knownBaker : MethodName := ⟨RX3, "knownBaker", "()I"⟩
def RX4 : String := "LoafStreet$Rests"
def TX4 : u_T := fun k => match k with
  | 0 => ("LoafStreet$Rests", "street", "LLoafStreet$Street;", true)
  | 1 => ("LoafStreet$Rests", "stand", "LLoafStreet$Stand;", true)
  | 2 => ("LoafStreet$Rests", "laws", "LLoafStreet$Laws;", true)
  | 3 => ("LoafStreet$Rests", "trade", "LLoafStreet$Trade;", true)
  | 4 => ("LoafStreet$Rests", "marks", "[I", false)
  | 5 => ("LoafStreet$Rests", "stride", "[I", true)
  | 6 => ("LoafStreet$Rests", "free", "[I", true)
  | 7 => ("LoafStreet$Rests", "means", "[I", true)
  | 8 => ("LoafStreet$Rests", "rows", "I", false)
  | _ => ("LoafStreet$Rests", "known", "Z", false)
def tyX4 : Nat → FieldType := fun k => match k with
  | 0 => .object "LoafStreet$Street"
  | 1 => .object "LoafStreet$Stand"
  | 2 => .object "LoafStreet$Laws"
  | 3 => .object "LoafStreet$Trade"
  | 4 => .array .int
  | 5 => .array .int
  | 6 => .array .int
  | 7 => .array .int
  | 8 => .int
  | _ => .boolean
theorem nmX4 : ∀ a, a < 10 → ∀ b, b < 10 → a ≠ b → (TX4 a).2.1 ≠ (TX4 b).2.1 := by decide +kernel
theorem tyX4_ok : ∀ k, k < 10 → parseFieldDescriptor (TX4 k).2.2.1 = some (tyX4 k) := by decide +kernel
abbrev cX4_init : ByteArray := prog_6_method_1_code
def yX4_init : MethodName := ⟨RX4, "<init>", "(LLoafStreet$Street;LLoafStreet$Stand;LLoafStreet$Laws;LLoafStreet$Trade;)V"⟩
abbrev cX4_forget : ByteArray := prog_6_method_2_code
def yX4_forget : MethodName := ⟨RX4, "forget", "()V"⟩
abbrev cX4_find : ByteArray := prog_6_method_3_code
def yX4_find : MethodName := ⟨RX4, "find", "()V"⟩
abbrev cX4_changingCost : ByteArray := prog_6_method_4_code
def yX4_changingCost : MethodName := ⟨RX4, "changingCost", "(I)I"⟩
abbrev cX4_tryQuietLaws : ByteArray := prog_6_method_5_code
def yX4_tryQuietLaws : MethodName := ⟨RX4, "tryQuietLaws", "(I)V"⟩
abbrev cX4_tryShouts : ByteArray := prog_6_method_6_code
def yX4_tryShouts : MethodName := ⟨RX4, "tryShouts", "(I)V"⟩
abbrev cX4_bestCase : ByteArray := prog_6_method_7_code
def yX4_bestCase : MethodName := ⟨RX4, "bestCase", "()I"⟩
abbrev cX4_meanByFirst : ByteArray := prog_6_method_8_code
def yX4_meanByFirst : MethodName := ⟨RX4, "meanByFirst", "(II)I"⟩
abbrev cX4_search : ByteArray := prog_6_method_9_code
def yX4_search : MethodName := ⟨RX4, "search", "(II)V"⟩
abbrev cX4_countRows : ByteArray := prog_6_method_10_code
def yX4_countRows : MethodName := ⟨RX4, "countRows", "()V"⟩
abbrev cX4_strikeCases : ByteArray := prog_6_method_11_code
def yX4_strikeCases : MethodName := ⟨RX4, "strikeCases", "(III)V"⟩
abbrev cX4_strike : ByteArray := prog_6_method_12_code
def yX4_strike : MethodName := ⟨RX4, "strike", "(IIII)V"⟩
abbrev cX4_howMany : ByteArray := prog_6_method_13_code
def yX4_howMany : MethodName := ⟨RX4, "howMany", "(I)I"⟩
abbrev cX4_place : ByteArray := prog_6_method_14_code
def yX4_place : MethodName := ⟨RX4, "place", "(II)I"⟩
abbrev cX4_stepIn : ByteArray := prog_6_method_15_code
def yX4_stepIn : MethodName := ⟨RX4, "stepIn", "(II)I"⟩
abbrev cX4_codeOf : ByteArray := prog_6_method_16_code
def yX4_codeOf : MethodName := ⟨RX4, "codeOf", "(I)I"⟩
def RX5 : String := "LoafStreet$Stand"
def TX5 : u_T := fun k => match k with
  | 0 => ("LoafStreet$Stand", "kinds", "[I", true)
  | 1 => ("LoafStreet$Stand", "parts", "[I", true)
  | 2 => ("LoafStreet$Stand", "costs", "[I", true)
  | 3 => ("LoafStreet$Stand", "promises", "I", false)
  | _ => ("LoafStreet$Stand", "force", "I", false)
def tyX5 : Nat → FieldType := fun k => match k with
  | 0 => .array .int
  | 1 => .array .int
  | 2 => .array .int
  | 3 => .int
  | _ => .int
theorem nmX5 : ∀ a, a < 5 → ∀ b, b < 5 → a ≠ b → (TX5 a).2.1 ≠ (TX5 b).2.1 := by decide +kernel
theorem tyX5_ok : ∀ k, k < 5 → parseFieldDescriptor (TX5 k).2.2.1 = some (tyX5 k) := by decide +kernel
abbrev cX5_init : ByteArray := prog_7_method_1_code
def yX5_init : MethodName := ⟨RX5, "<init>", "()V"⟩
abbrev cX5_begin : ByteArray := prog_7_method_2_code
def yX5_begin : MethodName := ⟨RX5, "begin", "(LLoafStreet$Street;)V"⟩
abbrev cX5_copyFrom : ByteArray := prog_7_method_3_code
def yX5_copyFrom : MethodName := ⟨RX5, "copyFrom", "(LLoafStreet$Stand;)V"⟩
abbrev cX5_tellAnew : ByteArray := prog_7_method_4_code
def yX5_tellAnew : MethodName := ⟨RX5, "tellAnew", "(II)V"⟩
abbrev cX5_promises : ByteArray := prog_7_method_5_code
def yX5_promises : MethodName := ⟨RX5, "promises", "(I)Z"⟩
def RX6 : String := "LoafStreet$Street"
def TX6 : u_T := fun k => match k with
  | 0 => ("LoafStreet$Street", "bakers", "I", false)
  | 1 => ("LoafStreet$Street", "sorts", "I", false)
  | 2 => ("LoafStreet$Street", "steps", "I", false)
  | 3 => ("LoafStreet$Street", "from", "I", false)
  | 4 => ("LoafStreet$Street", "by", "I", false)
  | 5 => ("LoafStreet$Street", "door", "I", false)
  | 6 => ("LoafStreet$Street", "listed", "I", false)
  | 7 => ("LoafStreet$Street", "statements", "I", false)
  | 8 => ("LoafStreet$Street", "names", "[J", true)
  | 9 => ("LoafStreet$Street", "costs", "[I", true)
  | 10 => ("LoafStreet$Street", "kinds", "[I", true)
  | 11 => ("LoafStreet$Street", "numbers", "[I", true)
  | 12 => ("LoafStreet$Street", "named", "[I", true)
  | 13 => ("LoafStreet$Street", "worths", "[I", true)
  | _ => ("LoafStreet$Street", "doors", "[I", true)
def tyX6 : Nat → FieldType := fun k => match k with
  | 0 => .int
  | 1 => .int
  | 2 => .int
  | 3 => .int
  | 4 => .int
  | 5 => .int
  | 6 => .int
  | 7 => .int
  | 8 => .array .long
  | 9 => .array .int
  | 10 => .array .int
  | 11 => .array .int
  | 12 => .array .int
  | 13 => .array .int
  | _ => .array .int
theorem nmX6 : ∀ a, a < 15 → ∀ b, b < 15 → a ≠ b → (TX6 a).2.1 ≠ (TX6 b).2.1 := by decide +kernel
theorem tyX6_ok : ∀ k, k < 15 → parseFieldDescriptor (TX6 k).2.2.1 = some (tyX6 k) := by decide +kernel
abbrev cX6_init : ByteArray := prog_8_method_1_code
def yX6_init : MethodName := ⟨RX6, "<init>", "()V"⟩
abbrev cX6_empty : ByteArray := prog_8_method_2_code
def yX6_empty : MethodName := ⟨RX6, "empty", "()V"⟩
abbrev cX6_copyFrom : ByteArray := prog_8_method_3_code
def yX6_copyFrom : MethodName := ⟨RX6, "copyFrom", "(LLoafStreet$Street;)V"⟩
abbrev cX6_shutDoors : ByteArray := prog_8_method_4_code
def yX6_shutDoors : MethodName := ⟨RX6, "shutDoors", "()V"⟩
abbrev cX6_addBaker : ByteArray := prog_8_method_5_code
def yX6_addBaker : MethodName := ⟨RX6, "addBaker", "(JI)V"⟩
abbrev cX6_addSort : ByteArray := prog_8_method_6_code
def yX6_addSort : MethodName := ⟨RX6, "addSort", "(IIII)V"⟩
abbrev cX6_hasBaker : ByteArray := prog_8_method_7_code
def yX6_hasBaker : MethodName := ⟨RX6, "hasBaker", "(I)Z"⟩
abbrev cX6_hasStep : ByteArray := prog_8_method_8_code
def yX6_hasStep : MethodName := ⟨RX6, "hasStep", "(I)Z"⟩
abbrev cX6_hasSort : ByteArray := prog_8_method_9_code
def yX6_hasSort : MethodName := ⟨RX6, "hasSort", "(I)Z"⟩
abbrev cX6_isWomen : ByteArray := prog_8_method_10_code
def yX6_isWomen : MethodName := ⟨RX6, "isWomen", "(I)Z"⟩
abbrev cX6_asks : ByteArray := prog_8_method_11_code
def yX6_asks : MethodName := ⟨RX6, "asks", "(II)Z"⟩
abbrev cX6_everyone : ByteArray := prog_8_method_12_code
def yX6_everyone : MethodName := ⟨RX6, "everyone", "()I"⟩
abbrev cX6_price : ByteArray := prog_8_method_13_code
def yX6_price : MethodName := ⟨RX6, "price", "(I)I"⟩
abbrev cX6_toldOfSort : ByteArray := prog_8_method_14_code
def yX6_toldOfSort : MethodName := ⟨RX6, "toldOfSort", "(II)I"⟩
abbrev cX6_setsInAll : ByteArray := prog_8_method_15_code
def yX6_setsInAll : MethodName := ⟨RX6, "setsInAll", "(I)I"⟩
abbrev cX6_setsLike : ByteArray := prog_8_method_16_code
def yX6_setsLike : MethodName := ⟨RX6, "setsLike", "(IIZ)I"⟩
abbrev cX6_womenInAll : ByteArray := prog_8_method_17_code
def yX6_womenInAll : MethodName := ⟨RX6, "womenInAll", "()I"⟩
def RX7 : String := "LoafStreet$Trade"
def TX7 : u_T := fun k => match k with
  | 0 => ("LoafStreet$Trade", "street", "LLoafStreet$Street;", true)
  | 1 => ("LoafStreet$Trade", "stand", "LLoafStreet$Stand;", true)
  | 2 => ("LoafStreet$Trade", "laws", "LLoafStreet$Laws;", true)
  | 3 => ("LoafStreet$Trade", "crowd", "[I", true)
  | 4 => ("LoafStreet$Trade", "parts", "[I", true)
  | 5 => ("LoafStreet$Trade", "row", "[I", true)
  | 6 => ("LoafStreet$Trade", "least", "[I", true)
  | 7 => ("LoafStreet$Trade", "cheapest", "[I", true)
  | 8 => ("LoafStreet$Trade", "soldAt", "[I", true)
  | 9 => ("LoafStreet$Trade", "takenAt", "[I", true)
  | 10 => ("LoafStreet$Trade", "soldSum", "[J", true)
  | 11 => ("LoafStreet$Trade", "takenSum", "[J", true)
  | 12 => ("LoafStreet$Trade", "paid", "J", false)
  | 13 => ("LoafStreet$Trade", "bought", "J", false)
  | 14 => ("LoafStreet$Trade", "shouted", "Z", false)
  | 15 => ("LoafStreet$Trade", "free", "I", false)
  | _ => ("LoafStreet$Trade", "answering", "I", false)
def tyX7 : Nat → FieldType := fun k => match k with
  | 0 => .object "LoafStreet$Street"
  | 1 => .object "LoafStreet$Stand"
  | 2 => .object "LoafStreet$Laws"
  | 3 => .array .int
  | 4 => .array .int
  | 5 => .array .int
  | 6 => .array .int
  | 7 => .array .int
  | 8 => .array .int
  | 9 => .array .int
  | 10 => .array .long
  | 11 => .array .long
  | 12 => .long
  | 13 => .long
  | 14 => .boolean
  | 15 => .int
  | _ => .int
theorem nmX7 : ∀ a, a < 17 → ∀ b, b < 17 → a ≠ b → (TX7 a).2.1 ≠ (TX7 b).2.1 := by decide +kernel
theorem tyX7_ok : ∀ k, k < 17 → parseFieldDescriptor (TX7 k).2.2.1 = some (tyX7 k) := by decide +kernel
abbrev cX7_init : ByteArray := prog_9_method_1_code
def yX7_init : MethodName := ⟨RX7, "<init>", "(LLoafStreet$Street;LLoafStreet$Stand;LLoafStreet$Laws;)V"⟩
abbrev cX7_settle : ByteArray := prog_9_method_2_code
def yX7_settle : MethodName := ⟨RX7, "settle", "()Z"⟩
abbrev cX7_open : ByteArray := prog_9_method_3_code
def yX7_open : MethodName := ⟨RX7, "open", "(I)V"⟩
abbrev cX7_isFree : ByteArray := prog_9_method_4_code
def yX7_isFree : MethodName := ⟨RX7, "isFree", "(I)Z"⟩
abbrev cX7_takeParts : ByteArray := prog_9_method_5_code
def yX7_takeParts : MethodName := ⟨RX7, "takeParts", "(I)Z"⟩
abbrev cX7_answerAnew : ByteArray := prog_9_method_6_code
def yX7_answerAnew : MethodName := ⟨RX7, "answerAnew", "()Z"⟩
abbrev cX7_makeSure : ByteArray := prog_9_method_7_code
def yX7_makeSure : MethodName := ⟨RX7, "makeSure", "(II)V"⟩
abbrev cX7_gather : ByteArray := prog_9_method_8_code
def yX7_gather : MethodName := ⟨RX7, "gather", "()V"⟩
abbrev cX7_addCrowd : ByteArray := prog_9_method_9_code
def yX7_addCrowd : MethodName := ⟨RX7, "addCrowd", "(III)V"⟩
abbrev cX7_survey : ByteArray := prog_9_method_10_code
def yX7_survey : MethodName := ⟨RX7, "survey", "(I)V"⟩
abbrev cX7_rowsOfOthers : ByteArray := prog_9_method_11_code
def yX7_rowsOfOthers : MethodName := ⟨RX7, "rowsOfOthers", "()I"⟩
abbrev cX7_firstRow : ByteArray := prog_9_method_12_code
def yX7_firstRow : MethodName := ⟨RX7, "firstRow", "()V"⟩
abbrev cX7_nextRow : ByteArray := prog_9_method_13_code
def yX7_nextRow : MethodName := ⟨RX7, "nextRow", "(I)V"⟩
abbrev cX7_weightOfOthers : ByteArray := prog_9_method_14_code
def yX7_weightOfOthers : MethodName := ⟨RX7, "weightOfOthers", "(I)J"⟩
abbrev cX7_readRow : ByteArray := prog_9_method_15_code
def yX7_readRow : MethodName := ⟨RX7, "readRow", "()V"⟩
abbrev cX7_weigh : ByteArray := prog_9_method_16_code
def yX7_weigh : MethodName := ⟨RX7, "weigh", "(I)V"⟩
abbrev cX7_gainAt : ByteArray := prog_9_method_17_code
def yX7_gainAt : MethodName := ⟨RX7, "gainAt", "(II)J"⟩
abbrev cX7_soldBy : ByteArray := prog_9_method_18_code
def yX7_soldBy : MethodName := ⟨RX7, "soldBy", "(I)J"⟩
abbrev cX7_earnedBy : ByteArray := prog_9_method_19_code
def yX7_earnedBy : MethodName := ⟨RX7, "earnedBy", "(I)J"⟩
abbrev cX7_earnedAt : ByteArray := prog_9_method_20_code
def yX7_earnedAt : MethodName := ⟨RX7, "earnedAt", "(II)J"⟩
abbrev cX7_bestStep : ByteArray := prog_9_method_21_code
def yX7_bestStep : MethodName := ⟨RX7, "bestStep", "(I)I"⟩
abbrev cX7_betterStep : ByteArray := prog_9_method_22_code
def yX7_betterStep : MethodName := ⟨RX7, "betterStep", "(I)I"⟩
abbrev cX7_weightFrom : ByteArray := prog_9_method_23_code
def yX7_weightFrom : MethodName := ⟨RX7, "weightFrom", "(II)J"⟩
abbrev cX7_partsFrom : ByteArray := prog_9_method_24_code
def yX7_partsFrom : MethodName := ⟨RX7, "partsFrom", "(II)I"⟩
abbrev cX7_weightInAll : ByteArray := prog_9_method_25_code
def yX7_weightInAll : MethodName := ⟨RX7, "weightInAll", "()J"⟩
abbrev cX7_bill : ByteArray := prog_9_method_26_code
def yX7_bill : MethodName := ⟨RX7, "bill", "(I)V"⟩
abbrev cX7_goneHome : ByteArray := prog_9_method_27_code
def yX7_goneHome : MethodName := ⟨RX7, "goneHome", "(I)J"⟩
abbrev cX7_meanOf : ByteArray := prog_9_method_28_code
def yX7_meanOf : MethodName := ⟨RX7, "meanOf", "(I)I"⟩
abbrev cX7_spread : ByteArray := prog_9_method_29_code
def yX7_spread : MethodName := ⟨RX7, "spread", "()J"⟩
abbrev cX7_weightBelow : ByteArray := prog_9_method_30_code
def yX7_weightBelow : MethodName := ⟨RX7, "weightBelow", "(I)J"⟩
abbrev cX7_likelyRows : ByteArray := prog_9_method_31_code
def yX7_likelyRows : MethodName := ⟨RX7, "likelyRows", "()I"⟩
abbrev cX7_valueOf : ByteArray := prog_9_method_32_code
def yX7_valueOf : MethodName := ⟨RX7, "valueOf", "(II)J"⟩
abbrev cX7_savedBy : ByteArray := prog_9_method_33_code
def yX7_savedBy : MethodName := ⟨RX7, "savedBy", "(II)J"⟩
abbrev cX7_wishedDoor : ByteArray := prog_9_method_34_code
def yX7_wishedDoor : MethodName := ⟨RX7, "wishedDoor", "(I)I"⟩
abbrev cX7_lookAround : ByteArray := prog_9_method_35_code
def yX7_lookAround : MethodName := ⟨RX7, "lookAround", "(I)I"⟩
abbrev cX7_mornings : ByteArray := prog_9_method_36_code
def yX7_mornings : MethodName := ⟨RX7, "mornings", "(III)J"⟩
abbrev cX7_drawnStep : ByteArray := prog_9_method_37_code
def yX7_drawnStep : MethodName := ⟨RX7, "drawnStep", "(II)I"⟩
abbrev cX7_morningOf : ByteArray := prog_9_method_38_code
def yX7_morningOf : MethodName := ⟨RX7, "morningOf", "(I)J"⟩
abbrev cX7_paidInRow : ByteArray := prog_9_method_39_code
def yX7_paidInRow : MethodName := ⟨RX7, "paidInRow", "(I)J"⟩
def RX8 : String := "LoafStreet"
def TX8 : u_T := fun k => match k with
  | 0 => ("LoafStreet", "tape", "[B", true)
  | 1 => ("LoafStreet", "street", "LLoafStreet$Street;", true)
  | 2 => ("LoafStreet", "draft", "LLoafStreet$Street;", true)
  | 3 => ("LoafStreet", "reader", "LLoafStreet$Reader;", true)
  | 4 => ("LoafStreet", "laws", "LLoafStreet$Laws;", true)
  | 5 => ("LoafStreet", "stand", "LLoafStreet$Stand;", true)
  | 6 => ("LoafStreet", "images", "[LLoafStreet$Stand;", true)
  | 7 => ("LoafStreet", "trade", "LLoafStreet$Trade;", true)
  | 8 => ("LoafStreet", "rests", "LLoafStreet$Rests;", true)
  | 9 => ("LoafStreet", "chase", "LLoafStreet$Chase;", true)
  | 10 => ("LoafStreet", "duel", "LLoafStreet$Duel;", true)
  | 11 => ("LoafStreet", "onTape", "I", false)
  | 12 => ("LoafStreet", "faultPlace", "I", false)
  | 13 => ("LoafStreet", "streetsTaken", "I", false)
  | _ => ("LoafStreet", "imagesKept", "I", false)
def tyX8 : Nat → FieldType := fun k => match k with
  | 0 => .array .byte
  | 1 => .object "LoafStreet$Street"
  | 2 => .object "LoafStreet$Street"
  | 3 => .object "LoafStreet$Reader"
  | 4 => .object "LoafStreet$Laws"
  | 5 => .object "LoafStreet$Stand"
  | 6 => .array (.object "LoafStreet$Stand")
  | 7 => .object "LoafStreet$Trade"
  | 8 => .object "LoafStreet$Rests"
  | 9 => .object "LoafStreet$Chase"
  | 10 => .object "LoafStreet$Duel"
  | 11 => .int
  | 12 => .int
  | 13 => .int
  | _ => .int
theorem nmX8 : ∀ a, a < 15 → ∀ b, b < 15 → a ≠ b → (TX8 a).2.1 ≠ (TX8 b).2.1 := by decide +kernel
theorem tyX8_ok : ∀ k, k < 15 → parseFieldDescriptor (TX8 k).2.2.1 = some (tyX8 k) := by decide +kernel
abbrev cX8_init : ByteArray := prog_1_method_1_code
def yX8_init : MethodName := ⟨RX8, "<init>", "()V"⟩
abbrev cX8_feed : ByteArray := prog_1_method_2_code
def yX8_feed : MethodName := ⟨RX8, "feed", "(IIIII)I"⟩
abbrev cX8_putNumber : ByteArray := prog_1_method_3_code
def yX8_putNumber : MethodName := ⟨RX8, "putNumber", "(I)V"⟩
abbrev cX8_street : ByteArray := prog_1_method_4_code
def yX8_street : MethodName := ⟨RX8, "street", "(I)I"⟩
abbrev cX8_fault : ByteArray := prog_1_method_5_code
def yX8_fault : MethodName := ⟨RX8, "fault", "()I"⟩
abbrev cX8_told : ByteArray := prog_1_method_6_code
def yX8_told : MethodName := ⟨RX8, "told", "(I)I"⟩
abbrev cX8_cost : ByteArray := prog_1_method_7_code
def yX8_cost : MethodName := ⟨RX8, "cost", "(II)Z"⟩
abbrev cX8_promise : ByteArray := prog_1_method_8_code
def yX8_promise : MethodName := ⟨RX8, "promise", "(IZ)Z"⟩
abbrev cX8_sure : ByteArray := prog_1_method_9_code
def yX8_sure : MethodName := ⟨RX8, "sure", "(II)Z"⟩
abbrev cX8_lot : ByteArray := prog_1_method_10_code
def yX8_lot : MethodName := ⟨RX8, "lot", "(III)Z"⟩
abbrev cX8_answer : ByteArray := prog_1_method_11_code
def yX8_answer : MethodName := ⟨RX8, "answer", "(I)Z"⟩
abbrev cX8_ask : ByteArray := prog_1_method_12_code
def yX8_ask : MethodName := ⟨RX8, "ask", "(I)I"⟩
abbrev cX8_part : ByteArray := prog_1_method_13_code
def yX8_part : MethodName := ⟨RX8, "part", "(II)I"⟩
abbrev cX8_isAnyStep : ByteArray := prog_1_method_14_code
def yX8_isAnyStep : MethodName := ⟨RX8, "isAnyStep", "(I)Z"⟩
abbrev cX8_sold : ByteArray := prog_1_method_15_code
def yX8_sold : MethodName := ⟨RX8, "sold", "(I)J"⟩
abbrev cX8_earns : ByteArray := prog_1_method_16_code
def yX8_earns : MethodName := ⟨RX8, "earns", "(I)J"⟩
abbrev cX8_at : ByteArray := prog_1_method_17_code
def yX8_at : MethodName := ⟨RX8, "at", "(II)J"⟩
abbrev cX8_best : ByteArray := prog_1_method_18_code
def yX8_best : MethodName := ⟨RX8, "best", "(I)I"⟩
abbrev cX8_judge : ByteArray := prog_1_method_19_code
def yX8_judge : MethodName := ⟨RX8, "judge", "()I"⟩
abbrev cX8_rests : ByteArray := prog_1_method_20_code
def yX8_rests : MethodName := ⟨RX8, "rests", "(I)I"⟩
abbrev cX8_pays : ByteArray := prog_1_method_21_code
def yX8_pays : MethodName := ⟨RX8, "pays", "(II)J"⟩
abbrev cX8_mean : ByteArray := prog_1_method_22_code
def yX8_mean : MethodName := ⟨RX8, "mean", "(I)I"⟩
abbrev cX8_gap : ByteArray := prog_1_method_23_code
def yX8_gap : MethodName := ⟨RX8, "gap", "()J"⟩
abbrev cX8_saves : ByteArray := prog_1_method_24_code
def yX8_saves : MethodName := ⟨RX8, "saves", "(II)J"⟩
abbrev cX8_would : ByteArray := prog_1_method_25_code
def yX8_would : MethodName := ⟨RX8, "would", "(I)I"⟩
abbrev cX8_look : ByteArray := prog_1_method_26_code
def yX8_look : MethodName := ⟨RX8, "look", "(II)I"⟩
abbrev cX8_lots : ByteArray := prog_1_method_27_code
def yX8_lots : MethodName := ⟨RX8, "lots", "(IIIII)J"⟩
abbrev cX8_chase : ByteArray := prog_1_method_28_code
def yX8_chase : MethodName := ⟨RX8, "chase", "(II)I"⟩
abbrev cX8_law : ByteArray := prog_1_method_29_code
def yX8_law : MethodName := ⟨RX8, "law", "(II)I"⟩
abbrev cX8_force : ByteArray := prog_1_method_30_code
def yX8_force : MethodName := ⟨RX8, "force", "(I)Z"⟩
abbrev cX8_bestLaw : ByteArray := prog_1_method_31_code
def yX8_bestLaw : MethodName := ⟨RX8, "bestLaw", "(II)I"⟩
abbrev cX8_edge : ByteArray := prog_1_method_32_code
def yX8_edge : MethodName := ⟨RX8, "edge", "(I)I"⟩
abbrev cX8_run : ByteArray := prog_1_method_33_code
def yX8_run : MethodName := ⟨RX8, "run", "(III)J"⟩
abbrev cX8_image : ByteArray := prog_1_method_34_code
def yX8_image : MethodName := ⟨RX8, "image", "()I"⟩
abbrev cX8_back : ByteArray := prog_1_method_35_code
def yX8_back : MethodName := ⟨RX8, "back", "(I)Z"⟩
abbrev cX8_count : ByteArray := prog_1_method_36_code
def yX8_count : MethodName := ⟨RX8, "count", "(I)I"⟩
def RX9 : String := "LoafStreetModel"
def TX9 : u_T := fun k => match k with
  | 0 => ("LoafStreetModel", "bakers", "I", false)
  | 1 => ("LoafStreetModel", "sorts", "I", false)
  | 2 => ("LoafStreetModel", "steps", "I", false)
  | 3 => ("LoafStreetModel", "from", "I", false)
  | 4 => ("LoafStreetModel", "by", "I", false)
  | 5 => ("LoafStreetModel", "door", "I", false)
  | 6 => ("LoafStreetModel", "listed", "I", false)
  | 7 => ("LoafStreetModel", "statements", "I", false)
  | 8 => ("LoafStreetModel", "streets", "I", false)
  | 9 => ("LoafStreetModel", "name", "[J", true)
  | 10 => ("LoafStreetModel", "cost", "[I", true)
  | 11 => ("LoafStreetModel", "sortKind", "[I", true)
  | 12 => ("LoafStreetModel", "sortMany", "[I", true)
  | 13 => ("LoafStreetModel", "sortNamed", "[I", true)
  | 14 => ("LoafStreetModel", "sortWorth", "[I", true)
  | 15 => ("LoafStreetModel", "newBakers", "I", false)
  | 16 => ("LoafStreetModel", "newSorts", "I", false)
  | 17 => ("LoafStreetModel", "newSteps", "I", false)
  | 18 => ("LoafStreetModel", "newFrom", "I", false)
  | 19 => ("LoafStreetModel", "newBy", "I", false)
  | 20 => ("LoafStreetModel", "newDoor", "I", false)
  | 21 => ("LoafStreetModel", "newListed", "I", false)
  | 22 => ("LoafStreetModel", "newStatements", "I", false)
  | 23 => ("LoafStreetModel", "newName", "[J", true)
  | 24 => ("LoafStreetModel", "newCost", "[I", true)
  | 25 => ("LoafStreetModel", "newKind", "[I", true)
  | 26 => ("LoafStreetModel", "newMany", "[I", true)
  | 27 => ("LoafStreetModel", "newNamed", "[I", true)
  | 28 => ("LoafStreetModel", "newWorth", "[I", true)
  | 29 => ("LoafStreetModel", "taped", "I", false)
  | 30 => ("LoafStreetModel", "size", "I", false)
  | 31 => ("LoafStreetModel", "at", "I", false)
  | 32 => ("LoafStreetModel", "fault", "I", false)
  | 33 => ("LoafStreetModel", "tape", "[B", true)
  | 34 => ("LoafStreetModel", "text", "[B", true)
  | 35 => ("LoafStreetModel", "wordEnd", "I", false)
  | 36 => ("LoafStreetModel", "read", "I", false)
  | 37 => ("LoafStreetModel", "promises", "I", false)
  | 38 => ("LoafStreetModel", "laws", "I", false)
  | 39 => ("LoafStreetModel", "inForce", "I", false)
  | 40 => ("LoafStreetModel", "way", "[I", true)
  | 41 => ("LoafStreetModel", "stepOf", "[I", true)
  | 42 => ("LoafStreetModel", "lots", "[I", true)
  | 43 => ("LoafStreetModel", "parts", "[I", true)
  | 44 => ("LoafStreetModel", "lawKind", "[I", true)
  | 45 => ("LoafStreetModel", "lawStep", "[I", true)
  | 46 => ("LoafStreetModel", "rowStep", "[I", true)
  | 47 => ("LoafStreetModel", "weight", "J", false)
  | 48 => ("LoafStreetModel", "sold", "[J", true)
  | 49 => ("LoafStreetModel", "earned", "[J", true)
  | 50 => ("LoafStreetModel", "paid", "[J", true)
  | 51 => ("LoafStreetModel", "bought", "[J", true)
  | 52 => ("LoafStreetModel", "home", "[J", true)
  | 53 => ("LoafStreetModel", "doors", "[I", true)
  | 54 => ("LoafStreetModel", "aside", "[I", true)
  | 55 => ("LoafStreetModel", "mostAt", "J", false)
  | 56 => ("LoafStreetModel", "sureEarns", "[J", true)
  | 57 => ("LoafStreetModel", "firstRest", "I", false)
  | 58 => ("LoafStreetModel", "lotFirst", "[J", true)
  | 59 => ("LoafStreetModel", "lotSecond", "[J", true)
  | 60 => ("LoafStreetModel", "seen", "[I", true)
  | 61 => ("LoafStreetModel", "had", "[I", true)
  | 62 => ("LoafStreetModel", "rounds", "I", false)
  | 63 => ("LoafStreetModel", "ends", "I", false)
  | 64 => ("LoafStreetModel", "ring", "I", false)
  | 65 => ("LoafStreetModel", "bestLawIs", "I", false)
  | 66 => ("LoafStreetModel", "bestLawMean", "I", false)
  | 67 => ("LoafStreetModel", "z", "J", false)
  | 68 => ("LoafStreetModel", "images", "I", false)
  | _ => ("LoafStreetModel", "image", "[I", true)
def tyX9 : Nat → FieldType := fun k => match k with
  | 0 => .int
  | 1 => .int
  | 2 => .int
  | 3 => .int
  | 4 => .int
  | 5 => .int
  | 6 => .int
  | 7 => .int
  | 8 => .int
  | 9 => .array .long
  | 10 => .array .int
  | 11 => .array .int
  | 12 => .array .int
  | 13 => .array .int
  | 14 => .array .int
  | 15 => .int
  | 16 => .int
  | 17 => .int
  | 18 => .int
  | 19 => .int
  | 20 => .int
  | 21 => .int
  | 22 => .int
  | 23 => .array .long
  | 24 => .array .int
  | 25 => .array .int
  | 26 => .array .int
  | 27 => .array .int
  | 28 => .array .int
  | 29 => .int
  | 30 => .int
  | 31 => .int
  | 32 => .int
  | 33 => .array .byte
  | 34 => .array .byte
  | 35 => .int
  | 36 => .int
  | 37 => .int
  | 38 => .int
  | 39 => .int
  | 40 => .array .int
  | 41 => .array .int
  | 42 => .array .int
  | 43 => .array .int
  | 44 => .array .int
  | 45 => .array .int
  | 46 => .array .int
  | 47 => .long
  | 48 => .array .long
  | 49 => .array .long
  | 50 => .array .long
  | 51 => .array .long
  | 52 => .array .long
  | 53 => .array .int
  | 54 => .array .int
  | 55 => .long
  | 56 => .array .long
  | 57 => .int
  | 58 => .array .long
  | 59 => .array .long
  | 60 => .array .int
  | 61 => .array .int
  | 62 => .int
  | 63 => .int
  | 64 => .int
  | 65 => .int
  | 66 => .int
  | 67 => .long
  | 68 => .int
  | _ => .array .int
theorem nmX9 : ∀ a, a < 70 → ∀ b, b < 70 → a ≠ b → (TX9 a).2.1 ≠ (TX9 b).2.1 := by decide +kernel
theorem tyX9_ok : ∀ k, k < 70 → parseFieldDescriptor (TX9 k).2.2.1 = some (tyX9 k) := by decide +kernel
abbrev cX9_init : ByteArray := prog_11_method_1_code
def yX9_init : MethodName := ⟨RX9, "<init>", "()V"⟩
abbrev cX9_isIn : ByteArray := prog_11_method_2_code
def yX9_isIn : MethodName := ⟨RX9, "isIn", "(III)Z"⟩
abbrev cX9_one : ByteArray := prog_11_method_3_code
def yX9_one : MethodName := ⟨RX9, "one", "(Z)I"⟩
abbrev cX9_has : ByteArray := prog_11_method_4_code
def yX9_has : MethodName := ⟨RX9, "has", "(II)Z"⟩
abbrev cX9_bits : ByteArray := prog_11_method_5_code
def yX9_bits : MethodName := ⟨RX9, "bits", "(I)I"⟩
abbrev cX9_feed : ByteArray := prog_11_method_6_code
def yX9_feed : MethodName := ⟨RX9, "feed", "(IIIII)I"⟩
abbrev cX9_four : ByteArray := prog_11_method_7_code
def yX9_four : MethodName := ⟨RX9, "four", "(I)V"⟩
abbrev cX9_blanks : ByteArray := prog_11_method_8_code
def yX9_blanks : MethodName := ⟨RX9, "blanks", "()V"⟩
abbrev cX9_word : ByteArray := prog_11_method_9_code
def yX9_word : MethodName := ⟨RX9, "word", "()J"⟩
abbrev cX9_takes : ByteArray := prog_11_method_10_code
def yX9_takes : MethodName := ⟨RX9, "takes", "(J)Z"⟩
abbrev cX9_takesSign : ByteArray := prog_11_method_11_code
def yX9_takesSign : MethodName := ⟨RX9, "takesSign", "(I)Z"⟩
abbrev cX9_takesNumber : ByteArray := prog_11_method_12_code
def yX9_takesNumber : MethodName := ⟨RX9, "takesNumber", "(II)Z"⟩
abbrev cX9_isKept : ByteArray := prog_11_method_13_code
def yX9_isKept : MethodName := ⟨RX9, "isKept", "(J)Z"⟩
abbrev cX9_named : ByteArray := prog_11_method_14_code
def yX9_named : MethodName := ⟨RX9, "named", "(J)I"⟩
abbrev cX9_baker : ByteArray := prog_11_method_15_code
def yX9_baker : MethodName := ⟨RX9, "baker", "(I)I"⟩
abbrev cX9_bakerTold : ByteArray := prog_11_method_16_code
def yX9_bakerTold : MethodName := ⟨RX9, "bakerTold", "()Z"⟩
abbrev cX9_stepsTold : ByteArray := prog_11_method_17_code
def yX9_stepsTold : MethodName := ⟨RX9, "stepsTold", "()Z"⟩
abbrev cX9_worthTold : ByteArray := prog_11_method_18_code
def yX9_worthTold : MethodName := ⟨RX9, "worthTold", "()Z"⟩
abbrev cX9_sortTold : ByteArray := prog_11_method_19_code
def yX9_sortTold : MethodName := ⟨RX9, "sortTold", "(I)Z"⟩
abbrev cX9_listTold : ByteArray := prog_11_method_20_code
def yX9_listTold : MethodName := ⟨RX9, "listTold", "()Z"⟩
abbrev cX9_statement : ByteArray := prog_11_method_21_code
def yX9_statement : MethodName := ⟨RX9, "statement", "()Z"⟩
abbrev cX9_reads : ByteArray := prog_11_method_22_code
def yX9_reads : MethodName := ⟨RX9, "reads", "(I)Z"⟩
abbrev cX9_street : ByteArray := prog_11_method_23_code
def yX9_street : MethodName := ⟨RX9, "street", "(I)I"⟩
abbrev cX9_fault : ByteArray := prog_11_method_24_code
def yX9_fault : MethodName := ⟨RX9, "fault", "()I"⟩
abbrev cX9_told : ByteArray := prog_11_method_25_code
def yX9_told : MethodName := ⟨RX9, "told", "(I)I"⟩
abbrev cX9_isBaker : ByteArray := prog_11_method_26_code
def yX9_isBaker : MethodName := ⟨RX9, "isBaker", "(I)Z"⟩
abbrev cX9_isSort : ByteArray := prog_11_method_27_code
def yX9_isSort : MethodName := ⟨RX9, "isSort", "(I)Z"⟩
abbrev cX9_isStep : ByteArray := prog_11_method_28_code
def yX9_isStep : MethodName := ⟨RX9, "isStep", "(I)Z"⟩
abbrev cX9_price : ByteArray := prog_11_method_29_code
def yX9_price : MethodName := ⟨RX9, "price", "(I)I"⟩
abbrev cX9_cost : ByteArray := prog_11_method_30_code
def yX9_cost : MethodName := ⟨RX9, "cost", "(II)Z"⟩
abbrev cX9_promise : ByteArray := prog_11_method_31_code
def yX9_promise : MethodName := ⟨RX9, "promise", "(IZ)Z"⟩
abbrev cX9_sure : ByteArray := prog_11_method_32_code
def yX9_sure : MethodName := ⟨RX9, "sure", "(II)Z"⟩
abbrev cX9_lot : ByteArray := prog_11_method_33_code
def yX9_lot : MethodName := ⟨RX9, "lot", "(III)Z"⟩
abbrev cX9_answer : ByteArray := prog_11_method_34_code
def yX9_answer : MethodName := ⟨RX9, "answer", "(I)Z"⟩
abbrev cX9_ask : ByteArray := prog_11_method_35_code
def yX9_ask : MethodName := ⟨RX9, "ask", "(I)I"⟩
abbrev cX9_law : ByteArray := prog_11_method_36_code
def yX9_law : MethodName := ⟨RX9, "law", "(II)I"⟩
abbrev cX9_force : ByteArray := prog_11_method_37_code
def yX9_force : MethodName := ⟨RX9, "force", "(I)Z"⟩
abbrev cX9_isBarred : ByteArray := prog_11_method_38_code
def yX9_isBarred : MethodName := ⟨RX9, "isBarred", "(I)Z"⟩
abbrev cX9_isShouted : ByteArray := prog_11_method_39_code
def yX9_isShouted : MethodName := ⟨RX9, "isShouted", "()Z"⟩
abbrev cX9_isAllBarred : ByteArray := prog_11_method_40_code
def yX9_isAllBarred : MethodName := ⟨RX9, "isAllBarred", "()Z"⟩
abbrev cX9_puts : ByteArray := prog_11_method_41_code
def yX9_puts : MethodName := ⟨RX9, "puts", "(II)V"⟩
abbrev cX9_lays : ByteArray := prog_11_method_42_code
def yX9_lays : MethodName := ⟨RX9, "lays", "(I)Z"⟩
abbrev cX9_areWhole : ByteArray := prog_11_method_43_code
def yX9_areWhole : MethodName := ⟨RX9, "areWhole", "()Z"⟩
abbrev cX9_clears : ByteArray := prog_11_method_44_code
def yX9_clears : MethodName := ⟨RX9, "clears", "()V"⟩
abbrev cX9_leastStep : ByteArray := prog_11_method_45_code
def yX9_leastStep : MethodName := ⟨RX9, "leastStep", "(I)I"⟩
abbrev cX9_buy : ByteArray := prog_11_method_46_code
def yX9_buy : MethodName := ⟨RX9, "buy", "(IIJ)V"⟩
abbrev cX9_everyone : ByteArray := prog_11_method_47_code
def yX9_everyone : MethodName := ⟨RX9, "everyone", "()I"⟩
abbrev cX9_sortBuys : ByteArray := prog_11_method_48_code
def yX9_sortBuys : MethodName := ⟨RX9, "sortBuys", "(IJ)V"⟩
abbrev cX9_knocks : ByteArray := prog_11_method_49_code
def yX9_knocks : MethodName := ⟨RX9, "knocks", "()V"⟩
abbrev cX9_rowBuys : ByteArray := prog_11_method_50_code
def yX9_rowBuys : MethodName := ⟨RX9, "rowBuys", "()V"⟩
abbrev cX9_rows : ByteArray := prog_11_method_51_code
def yX9_rows : MethodName := ⟨RX9, "rows", "()I"⟩
abbrev cX9_lays_ : ByteArray := prog_11_method_52_code
def yX9_lays_ : MethodName := ⟨RX9, "lays", "(IZ)V"⟩
abbrev cX9_sells : ByteArray := prog_11_method_53_code
def yX9_sells : MethodName := ⟨RX9, "sells", "()V"⟩
abbrev cX9_earnsAt : ByteArray := prog_11_method_54_code
def yX9_earnsAt : MethodName := ⟨RX9, "earnsAt", "(II)J"⟩
abbrev cX9_bestOf : ByteArray := prog_11_method_55_code
def yX9_bestOf : MethodName := ⟨RX9, "bestOf", "(I)I"⟩
abbrev cX9_areReady : ByteArray := prog_11_method_56_code
def yX9_areReady : MethodName := ⟨RX9, "areReady", "()Z"⟩
abbrev cX9_part : ByteArray := prog_11_method_57_code
def yX9_part : MethodName := ⟨RX9, "part", "(II)I"⟩
abbrev cX9_sold : ByteArray := prog_11_method_58_code
def yX9_sold : MethodName := ⟨RX9, "sold", "(I)J"⟩
abbrev cX9_earns : ByteArray := prog_11_method_59_code
def yX9_earns : MethodName := ⟨RX9, "earns", "(I)J"⟩
abbrev cX9_at : ByteArray := prog_11_method_60_code
def yX9_at : MethodName := ⟨RX9, "at", "(II)J"⟩
abbrev cX9_best : ByteArray := prog_11_method_61_code
def yX9_best : MethodName := ⟨RX9, "best", "(I)I"⟩
abbrev cX9_wouldRather : ByteArray := prog_11_method_62_code
def yX9_wouldRather : MethodName := ⟨RX9, "wouldRather", "(I)Z"⟩
abbrev cX9_judge : ByteArray := prog_11_method_63_code
def yX9_judge : MethodName := ⟨RX9, "judge", "()I"⟩
abbrev cX9_isLet : ByteArray := prog_11_method_64_code
def yX9_isLet : MethodName := ⟨RX9, "isLet", "(I)Z"⟩
abbrev cX9_plays : ByteArray := prog_11_method_65_code
def yX9_plays : MethodName := ⟨RX9, "plays", "()V"⟩
abbrev cX9_isRest : ByteArray := prog_11_method_66_code
def yX9_isRest : MethodName := ⟨RX9, "isRest", "(I)Z"⟩
abbrev cX9_countRests : ByteArray := prog_11_method_67_code
def yX9_countRests : MethodName := ⟨RX9, "countRests", "()I"⟩
abbrev cX9_rests : ByteArray := prog_11_method_68_code
def yX9_rests : MethodName := ⟨RX9, "rests", "(I)I"⟩
abbrev cX9_pays : ByteArray := prog_11_method_69_code
def yX9_pays : MethodName := ⟨RX9, "pays", "(II)J"⟩
abbrev cX9_meanNow : ByteArray := prog_11_method_70_code
def yX9_meanNow : MethodName := ⟨RX9, "meanNow", "(I)I"⟩
abbrev cX9_mean : ByteArray := prog_11_method_71_code
def yX9_mean : MethodName := ⟨RX9, "mean", "(I)I"⟩
abbrev cX9_gap : ByteArray := prog_11_method_72_code
def yX9_gap : MethodName := ⟨RX9, "gap", "()J"⟩
abbrev cX9_valueOf : ByteArray := prog_11_method_73_code
def yX9_valueOf : MethodName := ⟨RX9, "valueOf", "(II)I"⟩
abbrev cX9_savesNow : ByteArray := prog_11_method_74_code
def yX9_savesNow : MethodName := ⟨RX9, "savesNow", "(II)J"⟩
abbrev cX9_mayLook : ByteArray := prog_11_method_75_code
def yX9_mayLook : MethodName := ⟨RX9, "mayLook", "(I)Z"⟩
abbrev cX9_saves : ByteArray := prog_11_method_76_code
def yX9_saves : MethodName := ⟨RX9, "saves", "(II)J"⟩
abbrev cX9_wouldTake : ByteArray := prog_11_method_77_code
def yX9_wouldTake : MethodName := ⟨RX9, "wouldTake", "(I)I"⟩
abbrev cX9_would : ByteArray := prog_11_method_78_code
def yX9_would : MethodName := ⟨RX9, "would", "(I)I"⟩
abbrev cX9_look : ByteArray := prog_11_method_79_code
def yX9_look : MethodName := ⟨RX9, "look", "(II)I"⟩
abbrev cX9_divisor : ByteArray := prog_11_method_80_code
def yX9_divisor : MethodName := ⟨RX9, "divisor", "(JJ)J"⟩
abbrev cX9_isUnrest : ByteArray := prog_11_method_81_code
def yX9_isUnrest : MethodName := ⟨RX9, "isUnrest", "()Z"⟩
abbrev cX9_lots : ByteArray := prog_11_method_82_code
def yX9_lots : MethodName := ⟨RX9, "lots", "(IIIII)J"⟩
abbrev cX9_sees : ByteArray := prog_11_method_83_code
def yX9_sees : MethodName := ⟨RX9, "sees", "(I)V"⟩
abbrev cX9_isLike : ByteArray := prog_11_method_84_code
def yX9_isLike : MethodName := ⟨RX9, "isLike", "(II)Z"⟩
abbrev cX9_chases : ByteArray := prog_11_method_85_code
def yX9_chases : MethodName := ⟨RX9, "chases", "(I)V"⟩
abbrev cX9_chase : ByteArray := prog_11_method_86_code
def yX9_chase : MethodName := ⟨RX9, "chase", "(II)I"⟩
abbrev cX9_asksLaws : ByteArray := prog_11_method_87_code
def yX9_asksLaws : MethodName := ⟨RX9, "asksLaws", "(I)V"⟩
abbrev cX9_bestLaw : ByteArray := prog_11_method_88_code
def yX9_bestLaw : MethodName := ⟨RX9, "bestLaw", "(II)I"⟩
abbrev cX9_edge : ByteArray := prog_11_method_89_code
def yX9_edge : MethodName := ⟨RX9, "edge", "(I)I"⟩
abbrev cX9_drawn : ByteArray := prog_11_method_90_code
def yX9_drawn : MethodName := ⟨RX9, "drawn", "(I)I"⟩
abbrev cX9_run : ByteArray := prog_11_method_91_code
def yX9_run : MethodName := ⟨RX9, "run", "(III)J"⟩
abbrev cX9_image : ByteArray := prog_11_method_92_code
def yX9_image : MethodName := ⟨RX9, "image", "()I"⟩
abbrev cX9_back : ByteArray := prog_11_method_93_code
def yX9_back : MethodName := ⟨RX9, "back", "(I)Z"⟩
abbrev cX9_weighed : ByteArray := prog_11_method_94_code
def yX9_weighed : MethodName := ⟨RX9, "weighed", "()I"⟩
abbrev cX9_womenMany : ByteArray := prog_11_method_95_code
def yX9_womenMany : MethodName := ⟨RX9, "womenMany", "()I"⟩
abbrev cX9_count : ByteArray := prog_11_method_96_code
def yX9_count : MethodName := ⟨RX9, "count", "(I)I"⟩
def RJx145de : String := "java/io/Serializable"
def TJx145de : u_T := fun k => match k with
  | _ => ("", "", "", false)
def RJx9f9b0 : String := "java/lang/CharSequence"
def TJx9f9b0 : u_T := fun k => match k with
  | _ => ("", "", "", false)
def RJxb160c : String := "java/lang/Comparable"
def TJxb160c : u_T := fun k => match k with
  | _ => ("", "", "", false)
def RJ6 : String := "java/lang/Integer"
def TJ6 : u_T := fun k => match k with
  | _ => ("", "", "", false)
abbrev cJ6_bitCount_0f7a4 : ByteArray := prog_12_method_49_code
def yJ6_bitCount_0f7a4 : MethodName := ⟨RJ6, "bitCount", "(I)I"⟩
def RJ9 : String := "java/lang/Math"
def TJ9 : u_T := fun k => match k with
  | _ => ("", "", "", false)
abbrev cJ9_abs_067f4 : ByteArray := prog_13_method_61_code
def yJ9_abs_067f4 : MethodName := ⟨RJ9, "abs", "(J)J"⟩
abbrev cJ9_max_7cf53 : ByteArray := prog_13_method_65_code
def yJ9_max_7cf53 : MethodName := ⟨RJ9, "max", "(II)I"⟩
abbrev cJ9_min_7cf53 : ByteArray := prog_13_method_69_code
def yJ9_min_7cf53 : MethodName := ⟨RJ9, "min", "(II)I"⟩
def RJ0 : String := "java/lang/String"
def TJ0 : u_T := fun k => match k with
  | _ => ("", "", "", false)
abbrev cJ0_length_8abf5 : ByteArray := prog_14_method_54_code
def yJ0_length_8abf5 : MethodName := ⟨RJ0, "length", "()I"⟩
abbrev cJ0_charAt_5068e : ByteArray := prog_14_method_56_code
def yJ0_charAt_5068e : MethodName := ⟨RJ0, "charAt", "(I)C"⟩
abbrev cJ0_coder_7d493 : ByteArray := prog_14_method_152_code
def yJ0_coder_7d493 : MethodName := ⟨RJ0, "coder", "()B"⟩
abbrev cJ0_isLatin1_aae02 : ByteArray := prog_14_method_154_code
def yJ0_isLatin1_aae02 : MethodName := ⟨RJ0, "isLatin1", "()Z"⟩
abbrev cJ0_checkIndex_df160 : ByteArray := prog_14_method_155_code
def yJ0_checkIndex_df160 : MethodName := ⟨RJ0, "checkIndex", "(II)V"⟩
def RJ1 : String := "java/lang/StringLatin1"
def TJ1 : u_T := fun k => match k with
  | _ => ("", "", "", false)
abbrev cJ1_charAt_3b067 : ByteArray := prog_15_method_2_code
def yJ1_charAt_3b067 : MethodName := ⟨RJ1, "charAt", "([BI)C"⟩
def RJ2 : String := "java/lang/StringUTF16"
def TJ2 : u_T := fun k => match k with
  | _ => ("", "", "", false)
abbrev cJ2_getChar_3b067 : ByteArray := prog_16_method_5_code
def yJ2_getChar_3b067 : MethodName := ⟨RJ2, "getChar", "([BI)C"⟩
abbrev cJ2_length_9d52b : ByteArray := prog_16_method_6_code
def yJ2_length_9d52b : MethodName := ⟨RJ2, "length", "([B)I"⟩
abbrev cJ2_charAt_3b067 : ByteArray := prog_16_method_83_code
def yJ2_charAt_3b067 : MethodName := ⟨RJ2, "charAt", "([BI)C"⟩
abbrev cJ2_checkIndex_2214a : ByteArray := prog_16_method_91_code
def yJ2_checkIndex_2214a : MethodName := ⟨RJ2, "checkIndex", "(I[B)V"⟩
def RJ10 : String := "java/lang/System"
def TJ10 : u_T := fun k => match k with
  | _ => ("", "", "", false)
def RJxfd54e : String := "java/lang/constant/Constable"
def TJxfd54e : u_T := fun k => match k with
  | _ => ("", "", "", false)
def RJx3cf43 : String := "java/lang/constant/ConstantDesc"
def TJx3cf43 : u_T := fun k => match k with
  | _ => ("", "", "", false)
def RJ7 : String := "java/util/Arrays"
def TJ7 : u_T := fun k => match k with
  | _ => ("", "", "", false)
abbrev cJ7_fill_d0a16 : ByteArray := prog_18_method_101_code
def yJ7_fill_d0a16 : MethodName := ⟨RJ7, "fill", "([JJ)V"⟩
abbrev cJ7_fill_53178 : ByteArray := prog_18_method_103_code
def yJ7_fill_53178 : MethodName := ⟨RJ7, "fill", "([II)V"⟩
def RJ3 : String := "jdk/internal/util/Preconditions"
def TJ3 : u_T := fun k => match k with
  | _ => ("", "", "", false)
abbrev cJ3_checkIndex_8e157 : ByteArray := prog_19_method_11_code
def yJ3_checkIndex_8e157 : MethodName := ⟨RJ3, "checkIndex", "(IILjava/util/function/BiFunction;)I"⟩
def RL : String := "LoafStreetLaw"
abbrev cL_law : ByteArray := code
def yL_law : MethodName := ⟨RL, "law", "([I)Z"⟩
abbrev vwCl : List vw_C := [(RX0, TX0, 8), (RX1, TX1, 9), (RX2, TX2, 3), (RX3, TX3, 9), (RX4, TX4, 10), (RX5, TX5, 5), (RX6, TX6, 15), (RX7, TX7, 17), (RX8, TX8, 15), (RX9, TX9, 70)]
end
section
/-! G: from abstract memory σ at pc with locals lv and stack st the method comes to its end. All of a system's cells are numbered; a view v says where each lies and what it is. -/
abbrev St : Type := (Nat → Nat → Int32) × (Nat → Nat → Int64)
abbrev Shp : Type := Nat → (Nat → Int32) → (Nat → Int64) → va_E
/-- how many cells, where each lies, what each is; the tables' numbers; array kinds -/
abbrev Vw : Type := Nat × (Nat → Nat) × Shp × va_G × List (ClassId × FieldType)
abbrev vn (v : Vw) : Nat := v.1
abbrev vad (v : Vw) : Nat → Nat := v.2.1
abbrev vsh (v : Vw) : Shp := v.2.2.1
abbrev vG (v : Vw) : va_G := v.2.2.2.1
abbrev vty (v : Vw) : List (ClassId × FieldType) := v.2.2.2.2
def ww (v : Vw) (σ : St) : va_W := (List.range (vn v)).map (fun q => (vad v q, vsh v q (σ.1 q) (σ.2 q)))
/-- what a method over the view may write -/
def Av (v : Vw) (sz : Nat) : Nat → Prop := fun q => (∃ k, k < vn v ∧ q = vad v k) ∨ sz ≤ q
theorem ww_at (v : Vw) (σ : St) {q : Nat} (h : q < vn v) : (ww v σ)[q]? = some (vad v q, vsh v q (σ.1 q) (σ.2 q)) := by
  simp [ww, List.getElem?_map, List.getElem?_range h]
theorem ww_inv {v : Vw} {σ : St} {k : Nat} {p : Nat × va_E} (h : (ww v σ)[k]? = some p) : k < vn v ∧ p = (vad v k, vsh v k (σ.1 k) (σ.2 k)) := by
  have hk : k < vn v := by
    have := (List.getElem?_eq_some_iff.mp h).1
    simpa [ww] using this
  rw [ww_at v σ hk] at h
  exact ⟨hk, (Option.some.inj h).symm⟩
abbrev sI (σ : St) (q k : Nat) (x : Int32) : St := (fun c => if c = q then (fun j => if j = k then x else σ.1 q j) else σ.1 c, σ.2)
abbrev sL (σ : St) (q k : Nat) (x : Int64) : St := (σ.1, fun c => if c = q then (fun j => if j = k then x else σ.2 q j) else σ.2 c)
theorem ww_ext {v : Vw} {σ τ : St} {q : Nat} {e : va_E} (hq : q < vn v) (he : vsh v q (τ.1 q) (τ.2 q) = e) (hne : ∀ c, c ≠ q → τ.1 c = σ.1 c ∧ τ.2 c = σ.2 c) : (ww v σ).set q (vad v q, e) = ww v τ := by
  apply List.ext_getElem?
  intro k
  by_cases hk : k = q
  · subst hk
    rw [ww_at v τ hq, he, List.getElem?_set_self (by simpa [ww] using hq)]
  · rw [List.getElem?_set_ne (fun h => hk h.symm)]
    simp only [ww, List.getElem?_map]
    cases h : (List.range (vn v))[k]? with
    | none => rfl
    | some c =>
      have hc : c = k := by
        have h2 := List.getElem?_eq_some_iff.mp h
        obtain ⟨h3, h4⟩ := h2
        rw [List.getElem_range] at h4
        exact h4.symm
      subst hc
      simp [(hne c hk).1, (hne c hk).2]
theorem ww_sI {v : Vw} {σ : St} {q k : Nat} {x : Int32} {e : va_E} (hq : q < vn v) (he : vsh v q (fun j => if j = k then x else σ.1 q j) (σ.2 q) = e) : (ww v σ).set q (vad v q, e) = ww v (sI σ q k x) := by
  refine ww_ext hq ?_ (fun c hc => ?_)
  · rw [← he]; simp [sI]
  · simp [sI, hc]
theorem ww_sL {v : Vw} {σ : St} {q k : Nat} {x : Int64} {e : va_E} (hq : q < vn v) (he : vsh v q (σ.1 q) (fun j => if j = k then x else σ.2 q j) = e) : (ww v σ).set q (vad v q, e) = ww v (sL σ q k x) := by
  refine ww_ext hq ?_ (fun c hc => ?_)
  · rw [← he]; simp [sL]
  · simp [sL, hc]
/-! the machine's context in one name -/
abbrev CX : Type := Program × Launch × Env × Room × State × MethodId × Array Value × List Frame × Method × Code × (State → Prop) × (Nat → Prop) × Nat × Nat
abbrev Xp (X : CX) : Program := X.1
abbrev Xl (X : CX) : Launch := X.2.1
abbrev Xe (X : CX) : Env := X.2.2.1
abbrev XR (X : CX) : Room := X.2.2.2.1
abbrev Xs (X : CX) : State := X.2.2.2.2.1
abbrev Xm (X : CX) : MethodId := X.2.2.2.2.2.1
abbrev Xa (X : CX) : Array Value := X.2.2.2.2.2.2.1
abbrev Xw (X : CX) : List Frame := X.2.2.2.2.2.2.2.1
abbrev Xt (X : CX) : Method := X.2.2.2.2.2.2.2.2.1
abbrev Xc (X : CX) : Code := X.2.2.2.2.2.2.2.2.2.1
abbrev XQ (X : CX) : State → Prop := X.2.2.2.2.2.2.2.2.2.2.1
abbrev XA (X : CX) : Nat → Prop := X.2.2.2.2.2.2.2.2.2.2.2.1
abbrev Xn (X : CX) : Nat := X.2.2.2.2.2.2.2.2.2.2.2.2.1
abbrev Xk (X : CX) : Nat := X.2.2.2.2.2.2.2.2.2.2.2.2.2
abbrev WX (X : CX) (H : Heap) (locs : List Loc) (g : JFrame) : Prop := W (Xp X) (Xl X) (Xe X) (XR X) (Xs X) (Xm X) (Xa X) (Xw X) (Xt X) (Xc X) H locs (Xn X) (Xk X) (XQ X) g
/-- what stands all through a method's body -/
def OKX (X : CX) (v : Vw) (cc : ByteArray) (nL : Nat) (own : String) (fr lo : Nat) : Prop :=
  (Xp X).tables.exec = Jvm.exec ∧ (Xc X).code = cc ∧ (Xc X).maxLocals = nL ∧ (Xs X).vm.findClass own = some (Xm X).cls ∧ (∀ w ∈ wsAll, w.before (Xa X) (Xs X) = true) ∧ va_K (vG v) vwCl (vty v) (Xs X) ∧ (∀ q : Nat, (Xs X).heap.size ≤ q → XA X q) ∧ fr ≤ (XR X).frames ∧ lo ≤ (XR X).locals ∧ Xn X ≤ (XR X).cells ∧ Xk X ≤ (XR X).slots
def Wd (X : CX) (v : Vw) (σ : St) (H : Heap) (locs : List Loc) : Prop := va_P (vG v) vwCl (ww v σ) H ∧ va_D (XA X) (ww v σ) ∧ va_S (XA X) (Xs X).heap H locs
def G (X : CX) (v : Vw) (nL : Nat) (σ : St) (pc : Nat) (lv : List (Nat × Value)) (st : List Value) : Prop :=
  ∀ (H : Heap) (locs : List Loc) (ls : Array Slot), Wd X v σ H locs → lv_has ls nL lv → WX X H locs (F0 (Xm X) pc ls st)
/-! the words of a mirrored program -/
def bnd {α β : Type} (x : α) (k : α → β) : β := k x
def chk {β : Type} (b : Bool) (k : Option β) : Option β := if b then k else none
def cl {α β : Type} (o : Option (St × α)) (k : St → α → Option β) : Option β := match o with
  | none => none
  | some q => k q.1 q.2
def jp {α β : Type} (k : α) (b : α → β) : β := b k
/-- turns enough for any loop of these programs -/
def FU : Nat := 100000
def ix (i : Int32) : Nat := i.toNatClampNeg
def inb (i : Int32) (n : Nat) : Bool := decide (¬ (i < 0)) && decide (i.toNatClampNeg < n)
theorem inb_in {i : Int32} {n : Nat} (h : inb i n = true) : vp_in i n := by
  simp only [inb, Bool.and_eq_true, decide_eq_true_eq] at h
  exact fun q => q.elim h.1 (fun q => absurd h.2 (Nat.not_lt.mpr q))
theorem chk_inv {β : Type} {b : Bool} {k : Option β} {r : β} (h : chk b k = some r) : b = true ∧ k = some r := by
  unfold chk at h
  cases b with
  | false => simp at h
  | true => exact ⟨rfl, by simpa using h⟩
theorem cl_inv {α β : Type} {o : Option (St × α)} {k : St → α → Option β} {r : β} (h : cl o k = some r) : ∃ σ x, o = some (σ, x) ∧ k σ x = some r := by
  unfold cl at h
  cases o with
  | none => simp at h
  | some q => exact ⟨q.1, q.2, rfl, h⟩
theorem jp_inv {α β : Type} {k : α} {b : α → Option β} {r : β} {P : α → Prop} {Z : Prop} (h : jp k b = some r) (hP : P k) (kk : ∀ f : α, P f → b f = some r → Z) : Z := kk k hP h

section GRows
variable {X : CX} {v : Vw} {cc : ByteArray} {nL fr lo : Nat} {own : String} {σ : St} {pc : Nat} {lv : List (Nat × Value)} {st : List Value} {β : Type} {r : β}
theorem g_sub {lv' : List (Nat × Value)} (ks : List Nat) (hl : lv_pick lv ks = lv') (k : G X v nL σ pc lv' st) : G X v nL σ pc lv st := fun H locs ls hw hh => k H locs ls hw (lv_sub hh ks hl)
theorem g_iconst (hX : OKX X v cc nL own fr lo) {n : Int} (x : Int32) (hd : decode cc pc = .ok (.iconst n, 1)) (hv : Int32.ofInt n = x) (k : G X v nL σ (pc + 1) lv (.int x :: st)) : G X v nL σ pc lv st := fun H locs ls hw hh => lv_iconst hX.1 hX.2.1 hd hv (k H locs ls hw hh)
theorem g_bipush (hX : OKX X v cc nL own fr lo) {n : Int} (x : Int32) (hd : decode cc pc = .ok (.bipush n, 2)) (hv : (Int8.ofInt n).toInt32 = x) (k : G X v nL σ (pc + 2) lv (.int x :: st)) : G X v nL σ pc lv st := fun H locs ls hw hh => lv_bipush hX.1 hX.2.1 hd hv (k H locs ls hw hh)
theorem g_sipush (hX : OKX X v cc nL own fr lo) {n : Int} (x : Int32) (hd : decode cc pc = .ok (.sipush n, 3)) (hv : (Int16.ofInt n).toInt32 = x) (k : G X v nL σ (pc + 3) lv (.int x :: st)) : G X v nL σ pc lv st := fun H locs ls hw hh => lv_sipush hX.1 hX.2.1 hd hv (k H locs ls hw hh)
theorem g_lconst (hX : OKX X v cc nL own fr lo) {n : Fin 2} (x : Int64) (hd : decode cc pc = .ok (.lconst n, 1)) (hv : Int64.ofNat (n : Nat) = x) (k : G X v nL σ (pc + 1) lv (.long x :: st)) : G X v nL σ pc lv st := fun H locs ls hw hh => lv_lconst hX.1 hX.2.1 hd hv (k H locs ls hw hh)
theorem g_ldc (hX : OKX X v cc nL own fr lo) {i : Nat} {x : Int32} (hm : Cond.constant own i x ∈ wsAll) (hd : decode cc pc = .ok (.ldc i, 2)) (k : G X v nL σ (pc + 2) lv (.int x :: st)) : G X v nL σ pc lv st := fun H locs ls hw hh => lv_ldc hX.1 hX.2.1 hX.2.2.2.1 (hX.2.2.2.2.1 _ hm) hd (k H locs ls hw hh)
theorem g_ldc2 (hX : OKX X v cc nL own fr lo) {i : Nat} {x : Int64} (hm : Cond.constantLong own i x ∈ wsAll) (hd : decode cc pc = .ok (.ldc2_w i, 3)) (k : G X v nL σ (pc + 3) lv (.long x :: st)) : G X v nL σ pc lv st := fun H locs ls hw hh => lv_ldc2 hX.1 hX.2.1 hX.2.2.2.1 (hX.2.2.2.2.1 _ hm) hd (k H locs ls hw hh)
theorem g_iload_n (hX : OKX X v cc nL own fr lo) {j : Fin 4} {i : Nat} {x : Int32} (p : Nat) (hd : decode cc pc = .ok (.iload_n j, 1)) (hi : (j : Nat) = i) (hp : lv[p]? = some (i, .int x)) (k : G X v nL σ (pc + 1) lv (.int x :: st)) : G X v nL σ pc lv st := fun H locs ls hw hh => lv_iload_n hX.1 hX.2.1 hd hi (lv_at hh p hp) (k H locs ls hw hh)
theorem g_iload (hX : OKX X v cc nL own fr lo) {i : Nat} {x : Int32} (p : Nat) (hd : decode cc pc = .ok (.iload i, 2)) (hp : lv[p]? = some (i, .int x)) (k : G X v nL σ (pc + 2) lv (.int x :: st)) : G X v nL σ pc lv st := fun H locs ls hw hh => lv_iload hX.1 hX.2.1 hd (lv_at hh p hp) (k H locs ls hw hh)
theorem g_istore_n (hX : OKX X v cc nL own fr lo) {j : Fin 4} {i : Nat} {x : Int32} {lv' : Int32 → List (Nat × Value)} {kf : Int32 → Option β} (hd : decode cc pc = .ok (.istore_n j, 1)) (hi : (j : Nat) = i) (hn : i < nL) (hl : ∀ x : Int32, (i, Value.int x) :: lv.filter (fun q => !(q.1 == i) && !(q.1 + 1 == i && q.2.category == 2)) = lv' x) (h : bnd x kf = some r) (kk : ∀ y : Int32, kf y = some r → G X v nL σ (pc + 1) (lv' y) st) : G X v nL σ pc lv (.int x :: st) := fun H locs ls hw hh => lv_istore_n hX.1 hX.2.1 hd hi hh hn (hl x) (fun ls hh => kk x h H locs ls hw hh)
theorem g_istore (hX : OKX X v cc nL own fr lo) {i : Nat} {x : Int32} {lv' : Int32 → List (Nat × Value)} {kf : Int32 → Option β} (hd : decode cc pc = .ok (.istore i, 2)) (hn : i < nL) (hl : ∀ x : Int32, (i, Value.int x) :: lv.filter (fun q => !(q.1 == i) && !(q.1 + 1 == i && q.2.category == 2)) = lv' x) (h : bnd x kf = some r) (kk : ∀ y : Int32, kf y = some r → G X v nL σ (pc + 2) (lv' y) st) : G X v nL σ pc lv (.int x :: st) := fun H locs ls hw hh => lv_istore hX.1 hX.2.1 hd hh hn (hl x) (fun ls hh => kk x h H locs ls hw hh)
theorem g_lload_n (hX : OKX X v cc nL own fr lo) {j : Fin 4} {i : Nat} {x : Int64} (p : Nat) (hd : decode cc pc = .ok (.lload_n j, 1)) (hi : (j : Nat) = i) (hp : lv[p]? = some (i, .long x)) (k : G X v nL σ (pc + 1) lv (.long x :: st)) : G X v nL σ pc lv st := fun H locs ls hw hh => lv_lload_n hX.1 hX.2.1 hd hi (lv_at hh p hp) (k H locs ls hw hh)
theorem g_lload (hX : OKX X v cc nL own fr lo) {i : Nat} {x : Int64} (p : Nat) (hd : decode cc pc = .ok (.lload i, 2)) (hp : lv[p]? = some (i, .long x)) (k : G X v nL σ (pc + 2) lv (.long x :: st)) : G X v nL σ pc lv st := fun H locs ls hw hh => lv_lload hX.1 hX.2.1 hd (lv_at hh p hp) (k H locs ls hw hh)
theorem g_lstore_n (hX : OKX X v cc nL own fr lo) {j : Fin 4} {i : Nat} {x : Int64} {lv' : Int64 → List (Nat × Value)} {kf : Int64 → Option β} (hd : decode cc pc = .ok (.lstore_n j, 1)) (hi : (j : Nat) = i) (hn : i + 1 < nL) (hl : ∀ x : Int64, (i, Value.long x) :: lv.filter (fun q => !(q.1 == i) && (!(q.1 == i + 1) && !(q.1 + 1 == i && q.2.category == 2))) = lv' x) (h : bnd x kf = some r) (kk : ∀ y : Int64, kf y = some r → G X v nL σ (pc + 1) (lv' y) st) : G X v nL σ pc lv (.long x :: st) := fun H locs ls hw hh => lv_lstore_n hX.1 hX.2.1 hd hi hh hn (hl x) (fun ls hh => kk x h H locs ls hw hh)
theorem g_lstore (hX : OKX X v cc nL own fr lo) {i : Nat} {x : Int64} {lv' : Int64 → List (Nat × Value)} {kf : Int64 → Option β} (hd : decode cc pc = .ok (.lstore i, 2)) (hn : i + 1 < nL) (hl : ∀ x : Int64, (i, Value.long x) :: lv.filter (fun q => !(q.1 == i) && (!(q.1 == i + 1) && !(q.1 + 1 == i && q.2.category == 2))) = lv' x) (h : bnd x kf = some r) (kk : ∀ y : Int64, kf y = some r → G X v nL σ (pc + 2) (lv' y) st) : G X v nL σ pc lv (.long x :: st) := fun H locs ls hw hh => lv_lstore hX.1 hX.2.1 hd hh hn (hl x) (fun ls hh => kk x h H locs ls hw hh)
theorem g_aload_n (hX : OKX X v cc nL own fr lo) {j : Fin 4} {i : Nat} {x : Nat} (p : Nat) (hd : decode cc pc = .ok (.aload_n j, 1)) (hi : (j : Nat) = i) (hp : lv[p]? = some (i, .ref x)) (k : G X v nL σ (pc + 1) lv (.ref x :: st)) : G X v nL σ pc lv st := fun H locs ls hw hh => lv_aload_n hX.1 hX.2.1 hd hi (lv_at hh p hp) (k H locs ls hw hh)
theorem g_aload (hX : OKX X v cc nL own fr lo) {i : Nat} {x : Nat} (p : Nat) (hd : decode cc pc = .ok (.aload i, 2)) (hp : lv[p]? = some (i, .ref x)) (k : G X v nL σ (pc + 2) lv (.ref x :: st)) : G X v nL σ pc lv st := fun H locs ls hw hh => lv_aload hX.1 hX.2.1 hd (lv_at hh p hp) (k H locs ls hw hh)
theorem g_astore_n (hX : OKX X v cc nL own fr lo) {j : Fin 4} {i : Nat} {x : Nat} {lv' : List (Nat × Value)} (hd : decode cc pc = .ok (.astore_n j, 1)) (hi : (j : Nat) = i) (hn : i < nL) (hl : (i, Value.ref x) :: lv.filter (fun q => !(q.1 == i) && !(q.1 + 1 == i && q.2.category == 2)) = lv') (kk : G X v nL σ (pc + 1) lv' st) : G X v nL σ pc lv (.ref x :: st) := fun H locs ls hw hh => lv_astore_n hX.1 hX.2.1 hd hi hh hn hl (fun ls hh => kk H locs ls hw hh)
theorem g_astore (hX : OKX X v cc nL own fr lo) {i : Nat} {x : Nat} {lv' : List (Nat × Value)} (hd : decode cc pc = .ok (.astore i, 2)) (hn : i < nL) (hl : (i, Value.ref x) :: lv.filter (fun q => !(q.1 == i) && !(q.1 + 1 == i && q.2.category == 2)) = lv') (kk : G X v nL σ (pc + 2) lv' st) : G X v nL σ pc lv (.ref x :: st) := fun H locs ls hw hh => lv_astore hX.1 hX.2.1 hd hh hn hl (fun ls hh => kk H locs ls hw hh)
theorem g_iinc (hX : OKX X v cc nL own fr lo) {i : Nat} {n : Int} {x y : Int32} {lv' : Int32 → List (Nat × Value)} {kf : Int32 → Option β} (p : Nat) (hd : decode cc pc = .ok (.iinc i n, 3)) (hp : lv[p]? = some (i, .int x)) (hv : Int32.ofInt n = y) (hn : i < nL) (hl : ∀ x : Int32, (i, Value.int x) :: lv.filter (fun q => !(q.1 == i) && !(q.1 + 1 == i && q.2.category == 2)) = lv' x) (h : bnd (x + y) kf = some r) (kk : ∀ z : Int32, kf z = some r → G X v nL σ (pc + 3) (lv' z) st) : G X v nL σ pc lv st := fun H locs ls hw hh => lv_iinc (v := x + y) hX.1 hX.2.1 hd hh hp (by rw [hv]) hn (hl _) (fun ls hh => kk (x + y) h H locs ls hw hh)
theorem g_iadd (hX : OKX X v cc nL own fr lo) {x y : Int32} (hd : decode cc pc = .ok (.iadd, 1)) (k : G X v nL σ (pc + 1) lv (.int (x + y) :: st)) : G X v nL σ pc lv (.int y :: .int x :: st) := fun H locs ls hw hh => lv_iadd hX.1 hX.2.1 hd (k H locs ls hw hh)
theorem g_isub (hX : OKX X v cc nL own fr lo) {x y : Int32} (hd : decode cc pc = .ok (.isub, 1)) (k : G X v nL σ (pc + 1) lv (.int (x - y) :: st)) : G X v nL σ pc lv (.int y :: .int x :: st) := fun H locs ls hw hh => lv_isub hX.1 hX.2.1 hd (k H locs ls hw hh)
theorem g_imul (hX : OKX X v cc nL own fr lo) {x y : Int32} (hd : decode cc pc = .ok (.imul, 1)) (k : G X v nL σ (pc + 1) lv (.int (x * y) :: st)) : G X v nL σ pc lv (.int y :: .int x :: st) := fun H locs ls hw hh => lv_imul hX.1 hX.2.1 hd (k H locs ls hw hh)
theorem g_iand (hX : OKX X v cc nL own fr lo) {x y : Int32} (hd : decode cc pc = .ok (.iand, 1)) (k : G X v nL σ (pc + 1) lv (.int (x &&& y) :: st)) : G X v nL σ pc lv (.int y :: .int x :: st) := fun H locs ls hw hh => lv_iand hX.1 hX.2.1 hd (k H locs ls hw hh)
theorem g_ior (hX : OKX X v cc nL own fr lo) {x y : Int32} (hd : decode cc pc = .ok (.ior, 1)) (k : G X v nL σ (pc + 1) lv (.int (x ||| y) :: st)) : G X v nL σ pc lv (.int y :: .int x :: st) := fun H locs ls hw hh => lv_ior hX.1 hX.2.1 hd (k H locs ls hw hh)
theorem g_ixor (hX : OKX X v cc nL own fr lo) {x y : Int32} (hd : decode cc pc = .ok (.ixor, 1)) (k : G X v nL σ (pc + 1) lv (.int (x ^^^ y) :: st)) : G X v nL σ pc lv (.int y :: .int x :: st) := fun H locs ls hw hh => lv_ixor hX.1 hX.2.1 hd (k H locs ls hw hh)
theorem g_ishl (hX : OKX X v cc nL own fr lo) {x y : Int32} (hd : decode cc pc = .ok (.ishl, 1)) (k : G X v nL σ (pc + 1) lv (.int (x <<< (y &&& 31)) :: st)) : G X v nL σ pc lv (.int y :: .int x :: st) := fun H locs ls hw hh => lv_ishl hX.1 hX.2.1 hd (k H locs ls hw hh)
theorem g_ishr (hX : OKX X v cc nL own fr lo) {x y : Int32} (hd : decode cc pc = .ok (.ishr, 1)) (k : G X v nL σ (pc + 1) lv (.int (x >>> (y &&& 31)) :: st)) : G X v nL σ pc lv (.int y :: .int x :: st) := fun H locs ls hw hh => lv_ishr hX.1 hX.2.1 hd (k H locs ls hw hh)
theorem g_ladd (hX : OKX X v cc nL own fr lo) {x y : Int64} (hd : decode cc pc = .ok (.ladd, 1)) (k : G X v nL σ (pc + 1) lv (.long (x + y) :: st)) : G X v nL σ pc lv (.long y :: .long x :: st) := fun H locs ls hw hh => lv_ladd hX.1 hX.2.1 hd (k H locs ls hw hh)
theorem g_lsub (hX : OKX X v cc nL own fr lo) {x y : Int64} (hd : decode cc pc = .ok (.lsub, 1)) (k : G X v nL σ (pc + 1) lv (.long (x - y) :: st)) : G X v nL σ pc lv (.long y :: .long x :: st) := fun H locs ls hw hh => lv_lsub hX.1 hX.2.1 hd (k H locs ls hw hh)
theorem g_lmul (hX : OKX X v cc nL own fr lo) {x y : Int64} (hd : decode cc pc = .ok (.lmul, 1)) (k : G X v nL σ (pc + 1) lv (.long (x * y) :: st)) : G X v nL σ pc lv (.long y :: .long x :: st) := fun H locs ls hw hh => lv_lmul hX.1 hX.2.1 hd (k H locs ls hw hh)
theorem g_lor (hX : OKX X v cc nL own fr lo) {x y : Int64} (hd : decode cc pc = .ok (.lor, 1)) (k : G X v nL σ (pc + 1) lv (.long (x ||| y) :: st)) : G X v nL σ pc lv (.long y :: .long x :: st) := fun H locs ls hw hh => lv_lor hX.1 hX.2.1 hd (k H locs ls hw hh)
theorem g_iushr (hX : OKX X v cc nL own fr lo) {x y : Int32} (hd : decode cc pc = .ok (.iushr, 1)) (k : G X v nL σ (pc + 1) lv (.int ((x.toUInt32 >>> (y.toUInt32 &&& Int32.toUInt32 31)).toInt32) :: st)) : G X v nL σ pc lv (.int y :: .int x :: st) := fun H locs ls hw hh => lv_iushr hX.1 hX.2.1 hd rfl (k H locs ls hw hh)
theorem g_lushr (hX : OKX X v cc nL own fr lo) {x : Int64} {y : Int32} (hd : decode cc pc = .ok (.lushr, 1)) (k : G X v nL σ (pc + 1) lv (.long ((x.toUInt64 >>> (y.toInt64.toUInt64 &&& Int64.toUInt64 63)).toInt64) :: st)) : G X v nL σ pc lv (.int y :: .long x :: st) := fun H locs ls hw hh => lv_lushr hX.1 hX.2.1 hd rfl (k H locs ls hw hh)
theorem g_lshl (hX : OKX X v cc nL own fr lo) {x : Int64} {y : Int32} (hd : decode cc pc = .ok (.lshl, 1)) (k : G X v nL σ (pc + 1) lv (.long (x <<< (y.toInt64 &&& 63)) :: st)) : G X v nL σ pc lv (.int y :: .long x :: st) := fun H locs ls hw hh => lv_lshl hX.1 hX.2.1 hd rfl (k H locs ls hw hh)
theorem g_idiv (hX : OKX X v cc nL own fr lo) {x y : Int32} {K : Option β} (hd : decode cc pc = .ok (.idiv, 1)) (h : chk (decide (¬ y = 0)) K = some r) (k : K = some r → G X v nL σ (pc + 1) lv (.int (x / y) :: st)) : G X v nL σ pc lv (.int y :: .int x :: st) := fun H locs ls hw hh => lv_idiv hX.1 hX.2.1 hd (of_decide_eq_true (chk_inv h).1) (k (chk_inv h).2 H locs ls hw hh)
theorem g_irem (hX : OKX X v cc nL own fr lo) {x y : Int32} {K : Option β} (hd : decode cc pc = .ok (.irem, 1)) (h : chk (decide (¬ y = 0)) K = some r) (k : K = some r → G X v nL σ (pc + 1) lv (.int (x - x / y * y) :: st)) : G X v nL σ pc lv (.int y :: .int x :: st) := fun H locs ls hw hh => lv_irem hX.1 hX.2.1 hd (of_decide_eq_true (chk_inv h).1) (k (chk_inv h).2 H locs ls hw hh)
theorem g_ldiv (hX : OKX X v cc nL own fr lo) {x y : Int64} {K : Option β} (hd : decode cc pc = .ok (.ldiv, 1)) (h : chk (decide (¬ y = 0)) K = some r) (k : K = some r → G X v nL σ (pc + 1) lv (.long (x / y) :: st)) : G X v nL σ pc lv (.long y :: .long x :: st) := fun H locs ls hw hh => lv_ldiv hX.1 hX.2.1 hd (of_decide_eq_true (chk_inv h).1) (k (chk_inv h).2 H locs ls hw hh)
theorem g_lrem (hX : OKX X v cc nL own fr lo) {x y : Int64} {K : Option β} (hd : decode cc pc = .ok (.lrem, 1)) (h : chk (decide (¬ y = 0)) K = some r) (k : K = some r → G X v nL σ (pc + 1) lv (.long (x - x / y * y) :: st)) : G X v nL σ pc lv (.long y :: .long x :: st) := fun H locs ls hw hh => lv_lrem hX.1 hX.2.1 hd (of_decide_eq_true (chk_inv h).1) (k (chk_inv h).2 H locs ls hw hh)
theorem g_i2l (hX : OKX X v cc nL own fr lo) {x : Int32} (hd : decode cc pc = .ok (.i2l, 1)) (k : G X v nL σ (pc + 1) lv (.long (x.toInt64) :: st)) : G X v nL σ pc lv (.int x :: st) := fun H locs ls hw hh => lv_i2l hX.1 hX.2.1 hd rfl (k H locs ls hw hh)
theorem g_l2i (hX : OKX X v cc nL own fr lo) {x : Int64} (hd : decode cc pc = .ok (.l2i, 1)) (k : G X v nL σ (pc + 1) lv (.int (x.toInt32) :: st)) : G X v nL σ pc lv (.long x :: st) := fun H locs ls hw hh => lv_l2i hX.1 hX.2.1 hd rfl (k H locs ls hw hh)
theorem g_i2b (hX : OKX X v cc nL own fr lo) {x : Int32} (hd : decode cc pc = .ok (.i2b, 1)) (k : G X v nL σ (pc + 1) lv (.int (x.toInt8.toInt32) :: st)) : G X v nL σ pc lv (.int x :: st) := fun H locs ls hw hh => lv_i2b hX.1 hX.2.1 hd rfl (k H locs ls hw hh)
theorem g_i2c (hX : OKX X v cc nL own fr lo) {x : Int32} (hd : decode cc pc = .ok (.i2c, 1)) (k : G X v nL σ (pc + 1) lv (.int ((x.toUInt32 % 65536).toInt32) :: st)) : G X v nL σ pc lv (.int x :: st) := fun H locs ls hw hh => lv_i2c hX.1 hX.2.1 hd rfl (k H locs ls hw hh)
theorem g_lneg (hX : OKX X v cc nL own fr lo) {x : Int64} (hd : decode cc pc = .ok (.lneg, 1)) (k : G X v nL σ (pc + 1) lv (.long (-x) :: st)) : G X v nL σ pc lv (.long x :: st) := fun H locs ls hw hh => lv_lneg hX.1 hX.2.1 hd (k H locs ls hw hh)
theorem g_lcmp (hX : OKX X v cc nL own fr lo) {x y : Int64} (hd : decode cc pc = .ok (.lcmp, 1)) (k : G X v nL σ (pc + 1) lv (.int (lg_cmp x y) :: st)) : G X v nL σ pc lv (.long y :: .long x :: st) := fun H locs ls hw hh => W.lcmp hX.1 hX.2.1 hd (k H locs ls hw hh)
theorem g_dup (hX : OKX X v cc nL own fr lo) {x : Value} (hd : decode cc pc = .ok (.dup, 1)) (hc : x.category = 1) (k : G X v nL σ (pc + 1) lv (x :: x :: st)) : G X v nL σ pc lv (x :: st) := fun H locs ls hw hh => lv_dup hX.1 hX.2.1 hd hc (k H locs ls hw hh)
theorem g_dup2 (hX : OKX X v cc nL own fr lo) {x y : Value} (hd : decode cc pc = .ok (.dup2, 1)) (hc : x.category = 1) (hc2 : y.category = 1) (k : G X v nL σ (pc + 1) lv (x :: y :: x :: y :: st)) : G X v nL σ pc lv (x :: y :: st) := fun H locs ls hw hh => lv_dup2_11 hX.1 hX.2.1 hd hc hc2 (k H locs ls hw hh)
theorem g_pop (hX : OKX X v cc nL own fr lo) {x : Value} (hd : decode cc pc = .ok (.pop, 1)) (hc : x.category = 1) (k : G X v nL σ (pc + 1) lv st) : G X v nL σ pc lv (x :: st) := fun H locs ls hw hh => lv_pop hX.1 hX.2.1 hd hc (k H locs ls hw hh)
theorem g_goto (hX : OKX X v cc nL own fr lo) {off : Int} (tgt : Nat) (hd : decode cc pc = .ok (.goto off, 3)) (ht : (pc : Int) + off = (tgt : Int)) (k : G X v nL σ tgt lv st) : G X v nL σ pc lv st := fun H locs ls hw hh => lv_goto hX.1 hX.2.1 hd ht (k H locs ls hw hh)
theorem g_icmp_eq (hX : OKX X v cc nL own fr lo) {x y : Int32} {off : Int} (tgt : Nat) {T F : Option β} (hd : decode cc pc = .ok (.if_icmp .eq off, 3)) (ht : (pc : Int) + off = (tgt : Int)) (h : (if x = y then T else F) = some r) (kt : T = some r → G X v nL σ tgt lv st) (kf : F = some r → G X v nL σ (pc + 3) lv st) : G X v nL σ pc lv (.int y :: .int x :: st) := fun H locs ls hw hh => lv_icmp_eq hX.1 hX.2.1 hd ht (fun q => kt (by rw [if_pos q] at h; exact h) H locs ls hw hh) (fun q => kf (by rw [if_neg q] at h; exact h) H locs ls hw hh)
theorem g_if_eq (hX : OKX X v cc nL own fr lo) {x : Int32} {off : Int} (tgt : Nat) {T F : Option β} (hd : decode cc pc = .ok (.ifCond .eq off, 3)) (ht : (pc : Int) + off = (tgt : Int)) (h : (if x = 0 then T else F) = some r) (kt : T = some r → G X v nL σ tgt lv st) (kf : F = some r → G X v nL σ (pc + 3) lv st) : G X v nL σ pc lv (.int x :: st) := fun H locs ls hw hh => lv_if_eq hX.1 hX.2.1 hd ht (fun q => kt (by rw [if_pos q] at h; exact h) H locs ls hw hh) (fun q => kf (by rw [if_neg q] at h; exact h) H locs ls hw hh)
theorem g_icmp_ne (hX : OKX X v cc nL own fr lo) {x y : Int32} {off : Int} (tgt : Nat) {T F : Option β} (hd : decode cc pc = .ok (.if_icmp .ne off, 3)) (ht : (pc : Int) + off = (tgt : Int)) (h : (if x = y then F else T) = some r) (kt : T = some r → G X v nL σ tgt lv st) (kf : F = some r → G X v nL σ (pc + 3) lv st) : G X v nL σ pc lv (.int y :: .int x :: st) := fun H locs ls hw hh => lv_icmp_ne hX.1 hX.2.1 hd ht (fun q => kt (by rw [if_neg q] at h; exact h) H locs ls hw hh) (fun q => kf (by rw [if_pos q] at h; exact h) H locs ls hw hh)
theorem g_if_ne (hX : OKX X v cc nL own fr lo) {x : Int32} {off : Int} (tgt : Nat) {T F : Option β} (hd : decode cc pc = .ok (.ifCond .ne off, 3)) (ht : (pc : Int) + off = (tgt : Int)) (h : (if x = 0 then F else T) = some r) (kt : T = some r → G X v nL σ tgt lv st) (kf : F = some r → G X v nL σ (pc + 3) lv st) : G X v nL σ pc lv (.int x :: st) := fun H locs ls hw hh => lv_if_ne hX.1 hX.2.1 hd ht (fun q => kt (by rw [if_neg q] at h; exact h) H locs ls hw hh) (fun q => kf (by rw [if_pos q] at h; exact h) H locs ls hw hh)
theorem g_icmp_lt (hX : OKX X v cc nL own fr lo) {x y : Int32} {off : Int} (tgt : Nat) {T F : Option β} (hd : decode cc pc = .ok (.if_icmp .lt off, 3)) (ht : (pc : Int) + off = (tgt : Int)) (h : (if x < y then T else F) = some r) (kt : T = some r → G X v nL σ tgt lv st) (kf : F = some r → G X v nL σ (pc + 3) lv st) : G X v nL σ pc lv (.int y :: .int x :: st) := fun H locs ls hw hh => lv_icmp_lt hX.1 hX.2.1 hd ht (fun q => kt (by rw [if_pos q] at h; exact h) H locs ls hw hh) (fun q => kf (by rw [if_neg q] at h; exact h) H locs ls hw hh)
theorem g_if_lt (hX : OKX X v cc nL own fr lo) {x : Int32} {off : Int} (tgt : Nat) {T F : Option β} (hd : decode cc pc = .ok (.ifCond .lt off, 3)) (ht : (pc : Int) + off = (tgt : Int)) (h : (if x < 0 then T else F) = some r) (kt : T = some r → G X v nL σ tgt lv st) (kf : F = some r → G X v nL σ (pc + 3) lv st) : G X v nL σ pc lv (.int x :: st) := fun H locs ls hw hh => lv_if_lt hX.1 hX.2.1 hd ht (fun q => kt (by rw [if_pos q] at h; exact h) H locs ls hw hh) (fun q => kf (by rw [if_neg q] at h; exact h) H locs ls hw hh)
theorem g_icmp_ge (hX : OKX X v cc nL own fr lo) {x y : Int32} {off : Int} (tgt : Nat) {T F : Option β} (hd : decode cc pc = .ok (.if_icmp .ge off, 3)) (ht : (pc : Int) + off = (tgt : Int)) (h : (if y ≤ x then T else F) = some r) (kt : T = some r → G X v nL σ tgt lv st) (kf : F = some r → G X v nL σ (pc + 3) lv st) : G X v nL σ pc lv (.int y :: .int x :: st) := fun H locs ls hw hh => lv_icmp_ge hX.1 hX.2.1 hd ht (fun q => kt (by rw [if_pos q] at h; exact h) H locs ls hw hh) (fun q => kf (by rw [if_neg q] at h; exact h) H locs ls hw hh)
theorem g_if_ge (hX : OKX X v cc nL own fr lo) {x : Int32} {off : Int} (tgt : Nat) {T F : Option β} (hd : decode cc pc = .ok (.ifCond .ge off, 3)) (ht : (pc : Int) + off = (tgt : Int)) (h : (if 0 ≤ x then T else F) = some r) (kt : T = some r → G X v nL σ tgt lv st) (kf : F = some r → G X v nL σ (pc + 3) lv st) : G X v nL σ pc lv (.int x :: st) := fun H locs ls hw hh => lv_if_ge hX.1 hX.2.1 hd ht (fun q => kt (by rw [if_pos q] at h; exact h) H locs ls hw hh) (fun q => kf (by rw [if_neg q] at h; exact h) H locs ls hw hh)
theorem g_icmp_gt (hX : OKX X v cc nL own fr lo) {x y : Int32} {off : Int} (tgt : Nat) {T F : Option β} (hd : decode cc pc = .ok (.if_icmp .gt off, 3)) (ht : (pc : Int) + off = (tgt : Int)) (h : (if y < x then T else F) = some r) (kt : T = some r → G X v nL σ tgt lv st) (kf : F = some r → G X v nL σ (pc + 3) lv st) : G X v nL σ pc lv (.int y :: .int x :: st) := fun H locs ls hw hh => lv_icmp_gt hX.1 hX.2.1 hd ht (fun q => kt (by rw [if_pos q] at h; exact h) H locs ls hw hh) (fun q => kf (by rw [if_neg q] at h; exact h) H locs ls hw hh)
theorem g_if_gt (hX : OKX X v cc nL own fr lo) {x : Int32} {off : Int} (tgt : Nat) {T F : Option β} (hd : decode cc pc = .ok (.ifCond .gt off, 3)) (ht : (pc : Int) + off = (tgt : Int)) (h : (if 0 < x then T else F) = some r) (kt : T = some r → G X v nL σ tgt lv st) (kf : F = some r → G X v nL σ (pc + 3) lv st) : G X v nL σ pc lv (.int x :: st) := fun H locs ls hw hh => lv_if_gt hX.1 hX.2.1 hd ht (fun q => kt (by rw [if_pos q] at h; exact h) H locs ls hw hh) (fun q => kf (by rw [if_neg q] at h; exact h) H locs ls hw hh)
theorem g_icmp_le (hX : OKX X v cc nL own fr lo) {x y : Int32} {off : Int} (tgt : Nat) {T F : Option β} (hd : decode cc pc = .ok (.if_icmp .le off, 3)) (ht : (pc : Int) + off = (tgt : Int)) (h : (if x ≤ y then T else F) = some r) (kt : T = some r → G X v nL σ tgt lv st) (kf : F = some r → G X v nL σ (pc + 3) lv st) : G X v nL σ pc lv (.int y :: .int x :: st) := fun H locs ls hw hh => lv_icmp_le hX.1 hX.2.1 hd ht (fun q => kt (by rw [if_pos q] at h; exact h) H locs ls hw hh) (fun q => kf (by rw [if_neg q] at h; exact h) H locs ls hw hh)
theorem g_if_le (hX : OKX X v cc nL own fr lo) {x : Int32} {off : Int} (tgt : Nat) {T F : Option β} (hd : decode cc pc = .ok (.ifCond .le off, 3)) (ht : (pc : Int) + off = (tgt : Int)) (h : (if x ≤ 0 then T else F) = some r) (kt : T = some r → G X v nL σ tgt lv st) (kf : F = some r → G X v nL σ (pc + 3) lv st) : G X v nL σ pc lv (.int x :: st) := fun H locs ls hw hh => lv_if_le hX.1 hX.2.1 hd ht (fun q => kt (by rw [if_pos q] at h; exact h) H locs ls hw hh) (fun q => kf (by rw [if_neg q] at h; exact h) H locs ls hw hh)
theorem g_get (hX : OKX X v cc nL own fr lo) (q : Nat) {C ref : String} {T : u_T} {N ci i : Nat} {fs : List Value} (hq : q < vn v) (he : vsh v q (σ.1 q) (σ.2 q) = .inr (ci, fs)) (hin : ∀ w ∈ u_ws C T N, w ∈ wsAll) (hc : vwCl[ci]? = some (C, T, N)) (k : Nat) (hk : k < N) (hm : Cond.fieldLink own i ref (T k).2.1 (T k).2.2.1 ∈ wsAll) (hsame : (T k).1 = ref) {x : Value} (hv : fs[k]? = some x) (hd : decode cc pc = .ok (.getfield i, 3)) (kk : G X v nL σ (pc + 3) lv (x :: st)) : G X v nL σ pc lv (.ref (vad v q) :: st) := fun H locs ls hw hh =>
  va_get hX.1 hX.2.1 hX.2.2.2.2.1 hin hX.2.2.2.1 hX.2.2.2.2.2.1 hw.1 q (by rw [ww_at v σ hq, he]) hc k hk (hX.2.2.2.2.1 _ hm) (fun _ h => by rw [← hsame]; exact h) hv hd (kk H locs ls hw hh)
theorem g_putI (hX : OKX X v cc nL own fr lo) (q : Nat) {C ref : String} {T : u_T} {N ci i : Nat} {fs : List Value} {x : Int32} {kf : St → Option β} {ty0 : Nat → FieldType} (hq : q < vn v) (he : vsh v q (σ.1 q) (σ.2 q) = .inr (ci, fs)) (hin : ∀ w ∈ u_ws C T N, w ∈ wsAll) (hty : ∀ k, k < N → parseFieldDescriptor (T k).2.2.1 = some (ty0 k)) (hnm : ∀ a, a < N → ∀ b, b < N → a ≠ b → (T a).2.1 ≠ (T b).2.1) (hc : vwCl[ci]? = some (C, T, N)) (k : Nat) (hk : k < N) (hm : Cond.fieldLink own i ref (T k).2.1 (T k).2.2.1 ∈ wsAll) (hsame : (T k).1 = ref) (hfin : (T k).2.2.2 = false) {ty : FieldType} (hd0 : parseFieldDescriptor (T k).2.2.1 = some ty) (hna : narrow ty (.int x) = .int x) (hfit : fits ty (.int x) = true) (hl : k < fs.length) (he2 : vsh v q (fun j => if j = k then x else σ.1 q j) (σ.2 q) = .inr (ci, fs.set k (.int x))) (hd : decode cc pc = .ok (.putfield i, 3)) (h : bnd (sI σ q k x) kf = some r) (kk : ∀ τ : St, kf τ = some r → G X v nL τ (pc + 3) lv st) : G X v nL σ pc lv (.int x :: .ref (vad v q) :: st) := fun H locs ls hw hh =>
  va_put hX.1 hX.2.1 hX.2.2.2.2.1 hin ty0 hty hnm hX.2.2.2.1 hX.2.2.2.2.2.1 hw.1 hw.2.1 hw.2.2 q (by rw [ww_at v σ hq, he]) hc k hk (hX.2.2.2.2.1 _ hm) (fun _ h => by rw [← hsame]; exact h) hfin hd0 hna hfit hl hd (fun H1 locs1 h1 h2 h3 => kk (sI σ q k x) h H1 locs1 ls ⟨by rw [← ww_sI hq he2]; exact h1, by rw [← ww_sI hq he2]; exact h2, h3⟩ hh)
theorem g_putL (hX : OKX X v cc nL own fr lo) (q : Nat) {C ref : String} {T : u_T} {N ci i : Nat} {fs : List Value} {x : Int64} {kf : St → Option β} {ty0 : Nat → FieldType} (hq : q < vn v) (he : vsh v q (σ.1 q) (σ.2 q) = .inr (ci, fs)) (hin : ∀ w ∈ u_ws C T N, w ∈ wsAll) (hty : ∀ k, k < N → parseFieldDescriptor (T k).2.2.1 = some (ty0 k)) (hnm : ∀ a, a < N → ∀ b, b < N → a ≠ b → (T a).2.1 ≠ (T b).2.1) (hc : vwCl[ci]? = some (C, T, N)) (k : Nat) (hk : k < N) (hm : Cond.fieldLink own i ref (T k).2.1 (T k).2.2.1 ∈ wsAll) (hsame : (T k).1 = ref) (hfin : (T k).2.2.2 = false) {ty : FieldType} (hd0 : parseFieldDescriptor (T k).2.2.1 = some ty) (hna : narrow ty (.long x) = .long x) (hfit : fits ty (.long x) = true) (hl : k < fs.length) (he2 : vsh v q (σ.1 q) (fun j => if j = k then x else σ.2 q j) = .inr (ci, fs.set k (.long x))) (hd : decode cc pc = .ok (.putfield i, 3)) (h : bnd (sL σ q k x) kf = some r) (kk : ∀ τ : St, kf τ = some r → G X v nL τ (pc + 3) lv st) : G X v nL σ pc lv (.long x :: .ref (vad v q) :: st) := fun H locs ls hw hh =>
  va_put hX.1 hX.2.1 hX.2.2.2.2.1 hin ty0 hty hnm hX.2.2.2.1 hX.2.2.2.2.2.1 hw.1 hw.2.1 hw.2.2 q (by rw [ww_at v σ hq, he]) hc k hk (hX.2.2.2.2.1 _ hm) (fun _ h => by rw [← hsame]; exact h) hfin hd0 hna hfit hl hd (fun H1 locs1 h1 h2 h3 => kk (sL σ q k x) h H1 locs1 ls ⟨by rw [← ww_sL hq he2]; exact h1, by rw [← ww_sL hq he2]; exact h2, h3⟩ hh)
theorem g_iald (hX : OKX X v cc nL own fr lo) (q t0 : Nat) {cA : ClassId} {n : Nat} {i : Int32} {K : Option β} (hq : q < vn v) (he : vsh v q (σ.1 q) (σ.2 q) = .inl (cA, n, .inl (σ.1 q))) (ht : (vty v)[t0]? = some (cA, .int)) (hd : decode cc pc = .ok (.iaload, 1)) (h : chk (inb i n) K = some r) (kk : K = some r → G X v nL σ (pc + 1) lv (.int (σ.1 q (ix i)) :: st)) : G X v nL σ pc lv (.int i :: .ref (vad v q) :: st) := fun H locs ls hw hh =>
  va_iald hX.1 hX.2.1 hX.2.2.2.2.2.1 hw.1 q t0 (by rw [ww_at v σ hq, he]) ht (inb_in (chk_inv h).1) hd (kk (chk_inv h).2 H locs ls hw hh)
theorem g_bald (hX : OKX X v cc nL own fr lo) (q t0 : Nat) {cA : ClassId} {n : Nat} {i : Int32} {K : Option β} (hq : q < vn v) (he : vsh v q (σ.1 q) (σ.2 q) = .inl (cA, n, .inl (σ.1 q))) (ht : (vty v)[t0]? = some (cA, .byte)) (hd : decode cc pc = .ok (.baload, 1)) (h : chk (inb i n) K = some r) (kk : K = some r → G X v nL σ (pc + 1) lv (.int (σ.1 q (ix i)) :: st)) : G X v nL σ pc lv (.int i :: .ref (vad v q) :: st) := fun H locs ls hw hh =>
  va_bald hX.1 hX.2.1 hX.2.2.2.2.2.1 hw.1 q t0 (by rw [ww_at v σ hq, he]) ht (inb_in (chk_inv h).1) hd (kk (chk_inv h).2 H locs ls hw hh)
theorem g_lald (hX : OKX X v cc nL own fr lo) (q t0 : Nat) {cA : ClassId} {n : Nat} {i : Int32} {K : Option β} (hq : q < vn v) (he : vsh v q (σ.1 q) (σ.2 q) = .inl (cA, n, .inr (.inl (σ.2 q)))) (ht : (vty v)[t0]? = some (cA, .long)) (hd : decode cc pc = .ok (.laload, 1)) (h : chk (inb i n) K = some r) (kk : K = some r → G X v nL σ (pc + 1) lv (.long (σ.2 q (ix i)) :: st)) : G X v nL σ pc lv (.int i :: .ref (vad v q) :: st) := fun H locs ls hw hh =>
  va_lald hX.1 hX.2.1 hX.2.2.2.2.2.1 hw.1 q t0 (by rw [ww_at v σ hq, he]) ht (inb_in (chk_inv h).1) hd (kk (chk_inv h).2 H locs ls hw hh)
theorem g_iast (hX : OKX X v cc nL own fr lo) (q t0 : Nat) {cA : ClassId} {n : Nat} {i : Int32} {x : Int32} {kf : St → Option β} (hq : q < vn v) (he : vsh v q (σ.1 q) (σ.2 q) = .inl (cA, n, .inl (σ.1 q))) (he2 : vsh v q (fun j => if j = ix i then x else σ.1 q j) (σ.2 q) = .inl (cA, n, .inl (fun j => if j = ix i then x else σ.1 q j))) (ht : (vty v)[t0]? = some (cA, .int)) (hd : decode cc pc = .ok (.iastore, 1)) (h : chk (inb i n) (bnd (sI σ q (ix i) x) kf) = some r) (kk : ∀ τ : St, kf τ = some r → G X v nL τ (pc + 1) lv st) : G X v nL σ pc lv (.int x :: .int i :: .ref (vad v q) :: st) := fun H locs ls hw hh =>
  va_iast hX.1 hX.2.1 hX.2.2.2.2.2.1 hw.1 hw.2.1 hw.2.2 q t0 (by rw [ww_at v σ hq, he]) ht (inb_in (chk_inv h).1) hd (fun H1 locs1 h1 h2 h3 => kk _ (chk_inv h).2 H1 locs1 ls ⟨by rw [← ww_sI hq he2]; exact h1, by rw [← ww_sI hq he2]; exact h2, h3⟩ hh)
theorem g_bast (hX : OKX X v cc nL own fr lo) (q t0 : Nat) {cA : ClassId} {n : Nat} {i : Int32} {x : Int32} {kf : St → Option β} (hq : q < vn v) (he : vsh v q (σ.1 q) (σ.2 q) = .inl (cA, n, .inl (σ.1 q))) (he2 : vsh v q (fun j => if j = ix i then (vp_nar .byte x) else σ.1 q j) (σ.2 q) = .inl (cA, n, .inl (fun j => if j = ix i then (vp_nar .byte x) else σ.1 q j))) (ht : (vty v)[t0]? = some (cA, .byte)) (hd : decode cc pc = .ok (.bastore, 1)) (h : chk (inb i n) (bnd (sI σ q (ix i) (vp_nar .byte x)) kf) = some r) (kk : ∀ τ : St, kf τ = some r → G X v nL τ (pc + 1) lv st) : G X v nL σ pc lv (.int x :: .int i :: .ref (vad v q) :: st) := fun H locs ls hw hh =>
  va_bast hX.1 hX.2.1 hX.2.2.2.2.2.1 hw.1 hw.2.1 hw.2.2 q t0 (by rw [ww_at v σ hq, he]) ht (inb_in (chk_inv h).1) hd (fun H1 locs1 h1 h2 h3 => kk _ (chk_inv h).2 H1 locs1 ls ⟨by rw [← ww_sI hq he2]; exact h1, by rw [← ww_sI hq he2]; exact h2, h3⟩ hh)
theorem g_last (hX : OKX X v cc nL own fr lo) (q t0 : Nat) {cA : ClassId} {n : Nat} {i : Int32} {x : Int64} {kf : St → Option β} (hq : q < vn v) (he : vsh v q (σ.1 q) (σ.2 q) = .inl (cA, n, .inr (.inl (σ.2 q)))) (he2 : vsh v q (σ.1 q) (fun j => if j = ix i then x else σ.2 q j) = .inl (cA, n, .inr (.inl (fun j => if j = ix i then x else σ.2 q j)))) (ht : (vty v)[t0]? = some (cA, .long)) (hd : decode cc pc = .ok (.lastore, 1)) (h : chk (inb i n) (bnd (sL σ q (ix i) x) kf) = some r) (kk : ∀ τ : St, kf τ = some r → G X v nL τ (pc + 1) lv st) : G X v nL σ pc lv (.long x :: .int i :: .ref (vad v q) :: st) := fun H locs ls hw hh =>
  va_last hX.1 hX.2.1 hX.2.2.2.2.2.1 hw.1 hw.2.1 hw.2.2 q t0 (by rw [ww_at v σ hq, he]) ht (inb_in (chk_inv h).1) hd (fun H1 locs1 h1 h2 h3 => kk _ (chk_inv h).2 H1 locs1 ls ⟨by rw [← ww_sL hq he2]; exact h1, by rw [← ww_sL hq he2]; exact h2, h3⟩ hh)
theorem g_alen (hX : OKX X v cc nL own fr lo) (q t0 : Nat) {cA : ClassId} {xx : vp_A} {ty : FieldType} {y : Int32} (hq : q < vn v) (he : vsh v q (σ.1 q) (σ.2 q) = .inl (cA, xx)) (ht : (vty v)[t0]? = some (cA, ty)) (hy : Int32.ofNat xx.1 = y) (hd : decode cc pc = .ok (.arraylength, 1)) (kk : G X v nL σ (pc + 1) lv (.int y :: st)) : G X v nL σ pc lv (.ref (vad v q) :: st) := fun H locs ls hw hh =>
  va_alen hX.1 hX.2.1 hX.2.2.2.2.2.1 hw.1 q t0 (by rw [ww_at v σ hq, he]) ht hy hd (kk H locs ls hw hh)
end GRows
end
section
/-! contracts over a view, calls, a method's entry and end -/
def Pre (v : Vw) (σ : St) (sz : Nat) (U : State) : Prop := U.heap.size = sz ∧ va_P (vG v) vwCl (ww v σ) U.heap ∧ va_K (vG v) vwCl (vty v) U ∧ va_D (fun _ => True) (ww v σ)
def AtW (v : Vw) (A : Nat → Prop) (σ : St) (t : State) : Prop := va_P (vG v) vwCl (ww v σ) t.heap ∧ va_K (vG v) vwCl (vty v) t ∧ va_D A (ww v σ)
def Rm (fr lo : Nat) : Room := { frames := fr, cells := 0, slots := 0, locals := lo }
def CtI (l : Launch) (y : MethodName) (cc : ByteArray) (nL : Nat) (ret : Option FieldType) (fr lo : Nat) (v : Vw) (σ : St) (vals : List Value) (τ : St) (x : Int32) : Prop := ∀ sz : Nat, Met l y (Cond.code y cc nL ret :: wsAll) (Rm fr lo) (va_Pc vals (Pre v σ sz)) (va_Qi (fun z (_ : Unit) => z = x) (fun _ t => AtW v (Av v sz) τ t) (Av v sz)) 0 0 (Av v sz)
def CtL (l : Launch) (y : MethodName) (cc : ByteArray) (nL : Nat) (ret : Option FieldType) (fr lo : Nat) (v : Vw) (σ : St) (vals : List Value) (τ : St) (x : Int64) : Prop := ∀ sz : Nat, Met l y (Cond.code y cc nL ret :: wsAll) (Rm fr lo) (va_Pc vals (Pre v σ sz)) (va_Ql (fun z (_ : Unit) => z = x) (fun _ t => AtW v (Av v sz) τ t) (Av v sz)) 0 0 (Av v sz)
def CtV (l : Launch) (y : MethodName) (cc : ByteArray) (nL : Nat) (ret : Option FieldType) (fr lo : Nat) (v : Vw) (σ : St) (vals : List Value) (τ : St) (_x : Unit) : Prop := ∀ sz : Nat, Met l y (Cond.code y cc nL ret :: wsAll) (Rm fr lo) (va_Pc vals (Pre v σ sz)) (va_Qv (fun (_ : Unit) => True) (fun _ t => AtW v (Av v sz) τ t) (Av v sz)) 0 0 (Av v sz)
def MIb (y : MethodName) (bytes : ByteArray) (nL : Nat) (ret : Option FieldType) (n : Nat) : Prop := Cond.code y bytes nL ret ∈ wsAll ∧ Cond.initialized y.cls ∈ wsAll ∧ (y.cls ≠ "java/lang/invoke/MethodHandle" ∧ y.cls ≠ "java/lang/invoke/VarHandle") ∧ (parseMethodDescriptor y.desc).map (fun d => d.parameters.length) = some n
def MIv (y : MethodName) (C : String) : Prop := Cond.instanceMethod y ∈ wsAll ∧ Cond.selects C y y ∈ wsAll
theorem hMI {y : MethodName} {n : Nat} (h : (parseMethodDescriptor y.desc).map (fun d => d.parameters.length) = some n) : ∀ sig, parseMethodDescriptor y.desc = some sig → n = sig.parameters.length := fun sig hs => by
  rw [hs] at h
  exact (Option.some.inj h).symm
theorem pre_blind (v : Vw) (σ : St) (sz : Nat) (vals : List Value) : FrameBlind (va_Pc vals (Pre v σ sz)) := fun a U g mk q => ⟨q.1, q.2.1, q.2.2.1, va_K.moved (u := U) (U := U.calling g mk a) (Vm.Alike.refl U.vm) q.2.2.2.1, q.2.2.2.2⟩
theorem Av_mono {v : Vw} {σ : St} {A : Nat → Prop} {s : State} {H : Heap} {locs : List Loc} (hD : va_D A (ww v σ)) (hS : va_S A s.heap H locs) (hA : ∀ q : Nat, s.heap.size ≤ q → A q) : ∀ q, Av v H.size q → A q := by
  intro q h
  rcases h with ⟨k, hk, rfl⟩ | h
  · exact hD.2 k _ (ww_at v σ hk)
  · exact hA q (Nat.le_trans hS.1 h)
theorem va_D_weak {A B : Nat → Prop} {ws : va_W} (h : va_D A ws) (hAB : ∀ q, A q → B q) : va_D B ws := ⟨h.1, fun k q hk => hAB _ (h.2 k q hk)⟩
theorem pay_all {args : Array Value} {s : State} (hts : ∀ w ∈ wsAll, w.before args s = true) {y : MethodName} {bytes : ByteArray} {nL : Nat} {ret : Option FieldType} (hm : Cond.code y bytes nL ret ∈ wsAll) : ∀ w ∈ Cond.code y bytes nL ret :: wsAll, ∀ (a' : Array Value) (U : State), s.WarmedH U.vm → w.before a' U = true :=
  pay_in hts (fun w hw => by
    rcases List.mem_cons.mp hw with rfl | h
    · exact ⟨hm, wsAll_good _ hm⟩
    · exact ⟨h, wsAll_good _ h⟩)
section GCalls
variable {X : CX} {v : Vw} {cc : ByteArray} {nL fr lo : Nat} {own : String} {σ : St} {pc : Nat} {lv : List (Nat × Value)} {st : List Value} {β : Type} {r : β}
variable {y : MethodName} {bytes : ByteArray} {maxL fr' lo' i n : Nat} {ret : Option FieldType} {As rest : List Value}
theorem g_B (hX : OKX X v cc nL own fr lo) (hM : MIb y bytes maxL ret n) (hlk : Cond.methodLink own i y ∈ wsAll) (hroom : fr' + 1 ≤ fr ∧ 8 + (maxL + 11) + lo' ≤ lo) : CallB (XR X) (Xs X) (Xa X) own i y bytes maxL ret (Cond.code y bytes maxL ret :: wsAll) (Rm fr' lo') 0 0 n :=
  ⟨rfl, rfl, Nat.le_trans hroom.1 hX.2.2.2.2.2.2.2.1, Nat.le_trans hroom.2 hX.2.2.2.2.2.2.2.2.1, pay_all hX.2.2.2.2.1 hM.1, List.mem_cons_self, hX.2.2.2.2.1 _ hM.1, hX.2.2.2.2.1 _ hM.2.1, hM.2.2.1, hMI hM.2.2.2, hX.2.2.2.2.1 _ hlk⟩
theorem g_N (hX : OKX X v cc nL own fr lo) {host : String} (hM : MIb y bytes maxL ret n) (hlk : Cond.methodLinkNest own i y host ∈ wsAll) (hroom : fr' + 1 ≤ fr ∧ 8 + (maxL + 11) + lo' ≤ lo) : va_CN (XR X) (Xs X) (Xa X) own i y host bytes maxL ret (Cond.code y bytes maxL ret :: wsAll) (Rm fr' lo') 0 0 n :=
  ⟨⟨rfl, rfl, Nat.le_trans hroom.1 hX.2.2.2.2.2.2.2.1, Nat.le_trans hroom.2 hX.2.2.2.2.2.2.2.2.1, pay_all hX.2.2.2.2.1 hM.1, List.mem_cons_self⟩, hX.2.2.2.2.1 _ hM.1, hX.2.2.2.2.1 _ hM.2.1, hM.2.2.1, hMI hM.2.2.2, hX.2.2.2.2.1 _ hlk⟩
theorem g_PV (hX : OKX X v cc nL own fr lo) {q ci : Nat} {C : String} {T : u_T} {N : Nat} {fs : List Value} {H : Heap} {locs : List Loc} (hw : Wd X v σ H locs) (hq : q < vn v) (he : vsh v q (σ.1 q) (σ.2 q) = .inr (ci, fs)) (hc : vwCl[ci]? = some (C, T, N)) : PreV (Xs X) H C (vad v q) (va_Pc (.ref (vad v q) :: As) (Pre v σ H.size)) As :=
  ⟨pre_blind v σ H.size _, va_recv hX.2.2.2.2.2.1 hw.1 hc (q0 := q) (by rw [ww_at v σ hq, he]), fun U hU hW => ⟨rfl, by rw [hU], by rw [hU]; exact hw.1, va_K.moved hW.alike hX.2.2.2.2.2.1, va_D_weak hw.2.1 (fun _ _ => trivial)⟩⟩
theorem g_PS (hX : OKX X v cc nL own fr lo) {H : Heap} {locs : List Loc} (hw : Wd X v σ H locs) : PreS (Xs X) H (va_Pc As (Pre v σ H.size)) As :=
  ⟨pre_blind v σ H.size _, fun U hU hW => ⟨rfl, by rw [hU], by rw [hU]; exact hw.1, va_K.moved hW.alike hX.2.2.2.2.2.1, va_D_weak hw.2.1 (fun _ _ => trivial)⟩⟩

theorem g_callVI (hX : OKX X v cc nL own fr lo) (q : Nat) {ci N : Nat} {C : String} {T : u_T} {fs : List Value} {o : Option (St × Int32)} {kf : St → Int32 → Option β} (hq : q < vn v) (he : vsh v q (σ.1 q) (σ.2 q) = .inr (ci, fs)) (hc : vwCl[ci]? = some (C, T, N)) (hM : MIb y bytes maxL ret n) (hV : MIv y C) (hlk : Cond.methodLink own i y ∈ wsAll) (hroom : fr' + 1 ≤ fr ∧ 8 + (maxL + 11) + lo' ≤ lo) (hn : As.length = n) (hcat : (rest.map fun v => v.category).sum ≤ 8) (hst : st = As.reverse ++ .ref (vad v q) :: rest) (hd : decode cc pc = .ok (.invokevirtual i, 3)) (hC : ∀ (τ : St) (x : Int32), o = some (τ, x) → CtI (Xl X) y bytes maxL ret fr' lo' v σ (.ref (vad v q) :: As) τ x) (h : cl o kf = some r) (kk : ∀ (τ : St) (x : Int32), kf τ x = some r → G X v nL τ (pc + 3) lv (.int x :: rest)) : G X v nL σ pc lv st := by
  subst hst
  intro H locs ls hw hh
  obtain ⟨τ, x, ho, hk⟩ := cl_inv h
  have hF := Av_mono hw.2.1 hw.2.2 hX.2.2.2.2.2.2.1
  refine va_calli (va_runV (As := As) (rest := rest) (Ts := wsAll) (own := own) ⟨hX.1, hX.2.1, hX.2.2.1, hX.2.2.2.1, hX.2.2.2.2.1⟩ (hC τ x ho H.size) ⟨g_B hX hM hlk hroom, hX.2.2.2.2.1 _ hV.1, hX.2.2.2.2.1 _ hV.2⟩ (g_PV hX hw hq he hc) rfl hn hh.1 rfl (lv_room hcat) hd ⟨hX.2.2.2.2.2.2.2.2.2.1, hX.2.2.2.2.2.2.2.2.2.2⟩) hw.2.2 (fun q _ h => hF q h) hF (fun r1 u t H1 locs1 ht hvm hw2 hB hz1 hk1 hS => ?_)
  have hw2 : r1 = x := hw2; rw [hw2]
  exact kk τ x hk H1 locs1 ls ⟨by rw [← ht]; exact hB.1, va_D_weak hB.2.2 hF, hS⟩ hh
theorem g_callNI (hX : OKX X v cc nL own fr lo) (q : Nat) {ci N : Nat} {C : String} {T : u_T} {fs : List Value} {host : String} {o : Option (St × Int32)} {kf : St → Int32 → Option β} (hq : q < vn v) (he : vsh v q (σ.1 q) (σ.2 q) = .inr (ci, fs)) (hc : vwCl[ci]? = some (C, T, N)) (hM : MIb y bytes maxL ret n) (hV : MIv y C) (hlk : Cond.methodLinkNest own i y host ∈ wsAll) (hroom : fr' + 1 ≤ fr ∧ 8 + (maxL + 11) + lo' ≤ lo) (hn : As.length = n) (hcat : (rest.map fun v => v.category).sum ≤ 8) (hst : st = As.reverse ++ .ref (vad v q) :: rest) (hd : decode cc pc = .ok (.invokevirtual i, 3)) (hC : ∀ (τ : St) (x : Int32), o = some (τ, x) → CtI (Xl X) y bytes maxL ret fr' lo' v σ (.ref (vad v q) :: As) τ x) (h : cl o kf = some r) (kk : ∀ (τ : St) (x : Int32), kf τ x = some r → G X v nL τ (pc + 3) lv (.int x :: rest)) : G X v nL σ pc lv st := by
  subst hst
  intro H locs ls hw hh
  obtain ⟨τ, x, ho, hk⟩ := cl_inv h
  have hF := Av_mono hw.2.1 hw.2.2 hX.2.2.2.2.2.2.1
  refine va_calli (va_runVN (As := As) (rest := rest) (Ts := wsAll) (own := own) ⟨hX.1, hX.2.1, hX.2.2.1, hX.2.2.2.1, hX.2.2.2.2.1⟩ (hC τ x ho H.size) ⟨g_N hX hM hlk hroom, hX.2.2.2.2.1 _ hV.1, hX.2.2.2.2.1 _ hV.2⟩ (g_PV hX hw hq he hc) rfl hn hh.1 rfl (lv_room hcat) hd ⟨hX.2.2.2.2.2.2.2.2.2.1, hX.2.2.2.2.2.2.2.2.2.2⟩) hw.2.2 (fun q _ h => hF q h) hF (fun r1 u t H1 locs1 ht hvm hw2 hB hz1 hk1 hS => ?_)
  have hw2 : r1 = x := hw2; rw [hw2]
  exact kk τ x hk H1 locs1 ls ⟨by rw [← ht]; exact hB.1, va_D_weak hB.2.2 hF, hS⟩ hh
theorem g_callSI (hX : OKX X v cc nL own fr lo) {o : Option (St × Int32)} {kf : St → Int32 → Option β} (hM : MIb y bytes maxL ret n) (hV : Cond.static y ∈ wsAll) (hlk : Cond.methodLink own i y ∈ wsAll) (hroom : fr' + 1 ≤ fr ∧ 8 + (maxL + 11) + lo' ≤ lo) (hn : As.length = n) (hcat : (rest.map fun v => v.category).sum ≤ 8) (hst : st = As.reverse ++ rest) (hd : decode cc pc = .ok (.invokestatic i, 3)) (hC : ∀ (τ : St) (x : Int32), o = some (τ, x) → CtI (Xl X) y bytes maxL ret fr' lo' v σ As τ x) (h : cl o kf = some r) (kk : ∀ (τ : St) (x : Int32), kf τ x = some r → G X v nL τ (pc + 3) lv (.int x :: rest)) : G X v nL σ pc lv st := by
  subst hst
  intro H locs ls hw hh
  obtain ⟨τ, x, ho, hk⟩ := cl_inv h
  have hF := Av_mono hw.2.1 hw.2.2 hX.2.2.2.2.2.2.1
  refine va_calli (va_runS (As := As) (rest := rest) (Ts := wsAll) (own := own) ⟨hX.1, hX.2.1, hX.2.2.1, hX.2.2.2.1, hX.2.2.2.2.1⟩ (hC τ x ho H.size) ⟨g_B hX hM hlk hroom, hX.2.2.2.2.1 _ hV⟩ (g_PS hX hw) rfl hn hh.1 rfl (lv_room hcat) hd ⟨hX.2.2.2.2.2.2.2.2.2.1, hX.2.2.2.2.2.2.2.2.2.2⟩) hw.2.2 (fun q _ h => hF q h) hF (fun r1 u t H1 locs1 ht hvm hw2 hB hz1 hk1 hS => ?_)
  have hw2 : r1 = x := hw2; rw [hw2]
  exact kk τ x hk H1 locs1 ls ⟨by rw [← ht]; exact hB.1, va_D_weak hB.2.2 hF, hS⟩ hh
theorem g_callSNI (hX : OKX X v cc nL own fr lo) {host : String} {o : Option (St × Int32)} {kf : St → Int32 → Option β} (hM : MIb y bytes maxL ret n) (hV : Cond.static y ∈ wsAll) (hlk : Cond.methodLinkNest own i y host ∈ wsAll) (hroom : fr' + 1 ≤ fr ∧ 8 + (maxL + 11) + lo' ≤ lo) (hn : As.length = n) (hcat : (rest.map fun v => v.category).sum ≤ 8) (hst : st = As.reverse ++ rest) (hd : decode cc pc = .ok (.invokestatic i, 3)) (hC : ∀ (τ : St) (x : Int32), o = some (τ, x) → CtI (Xl X) y bytes maxL ret fr' lo' v σ As τ x) (h : cl o kf = some r) (kk : ∀ (τ : St) (x : Int32), kf τ x = some r → G X v nL τ (pc + 3) lv (.int x :: rest)) : G X v nL σ pc lv st := by
  subst hst
  intro H locs ls hw hh
  obtain ⟨τ, x, ho, hk⟩ := cl_inv h
  have hF := Av_mono hw.2.1 hw.2.2 hX.2.2.2.2.2.2.1
  refine va_calli (va_runSN (As := As) (rest := rest) (Ts := wsAll) (own := own) ⟨hX.1, hX.2.1, hX.2.2.1, hX.2.2.2.1, hX.2.2.2.2.1⟩ (hC τ x ho H.size) ⟨g_N hX hM hlk hroom, hX.2.2.2.2.1 _ hV, trivial⟩ (g_PS hX hw) rfl hn hh.1 rfl (lv_room hcat) hd ⟨hX.2.2.2.2.2.2.2.2.2.1, hX.2.2.2.2.2.2.2.2.2.2⟩) hw.2.2 (fun q _ h => hF q h) hF (fun r1 u t H1 locs1 ht hvm hw2 hB hz1 hk1 hS => ?_)
  have hw2 : r1 = x := hw2; rw [hw2]
  exact kk τ x hk H1 locs1 ls ⟨by rw [← ht]; exact hB.1, va_D_weak hB.2.2 hF, hS⟩ hh
theorem g_callVL (hX : OKX X v cc nL own fr lo) (q : Nat) {ci N : Nat} {C : String} {T : u_T} {fs : List Value} {o : Option (St × Int64)} {kf : St → Int64 → Option β} (hq : q < vn v) (he : vsh v q (σ.1 q) (σ.2 q) = .inr (ci, fs)) (hc : vwCl[ci]? = some (C, T, N)) (hM : MIb y bytes maxL ret n) (hV : MIv y C) (hlk : Cond.methodLink own i y ∈ wsAll) (hroom : fr' + 1 ≤ fr ∧ 8 + (maxL + 11) + lo' ≤ lo) (hn : As.length = n) (hcat : (rest.map fun v => v.category).sum ≤ 8) (hst : st = As.reverse ++ .ref (vad v q) :: rest) (hd : decode cc pc = .ok (.invokevirtual i, 3)) (hC : ∀ (τ : St) (x : Int64), o = some (τ, x) → CtL (Xl X) y bytes maxL ret fr' lo' v σ (.ref (vad v q) :: As) τ x) (h : cl o kf = some r) (kk : ∀ (τ : St) (x : Int64), kf τ x = some r → G X v nL τ (pc + 3) lv (.long x :: rest)) : G X v nL σ pc lv st := by
  subst hst
  intro H locs ls hw hh
  obtain ⟨τ, x, ho, hk⟩ := cl_inv h
  have hF := Av_mono hw.2.1 hw.2.2 hX.2.2.2.2.2.2.1
  refine va_calll (va_runV (As := As) (rest := rest) (Ts := wsAll) (own := own) ⟨hX.1, hX.2.1, hX.2.2.1, hX.2.2.2.1, hX.2.2.2.2.1⟩ (hC τ x ho H.size) ⟨g_B hX hM hlk hroom, hX.2.2.2.2.1 _ hV.1, hX.2.2.2.2.1 _ hV.2⟩ (g_PV hX hw hq he hc) rfl hn hh.1 rfl (lv_room hcat) hd ⟨hX.2.2.2.2.2.2.2.2.2.1, hX.2.2.2.2.2.2.2.2.2.2⟩) hw.2.2 (fun q _ h => hF q h) hF (fun r1 u t H1 locs1 ht hvm hw2 hB hz1 hk1 hS => ?_)
  have hw2 : r1 = x := hw2; rw [hw2]
  exact kk τ x hk H1 locs1 ls ⟨by rw [← ht]; exact hB.1, va_D_weak hB.2.2 hF, hS⟩ hh
theorem g_callNL (hX : OKX X v cc nL own fr lo) (q : Nat) {ci N : Nat} {C : String} {T : u_T} {fs : List Value} {host : String} {o : Option (St × Int64)} {kf : St → Int64 → Option β} (hq : q < vn v) (he : vsh v q (σ.1 q) (σ.2 q) = .inr (ci, fs)) (hc : vwCl[ci]? = some (C, T, N)) (hM : MIb y bytes maxL ret n) (hV : MIv y C) (hlk : Cond.methodLinkNest own i y host ∈ wsAll) (hroom : fr' + 1 ≤ fr ∧ 8 + (maxL + 11) + lo' ≤ lo) (hn : As.length = n) (hcat : (rest.map fun v => v.category).sum ≤ 8) (hst : st = As.reverse ++ .ref (vad v q) :: rest) (hd : decode cc pc = .ok (.invokevirtual i, 3)) (hC : ∀ (τ : St) (x : Int64), o = some (τ, x) → CtL (Xl X) y bytes maxL ret fr' lo' v σ (.ref (vad v q) :: As) τ x) (h : cl o kf = some r) (kk : ∀ (τ : St) (x : Int64), kf τ x = some r → G X v nL τ (pc + 3) lv (.long x :: rest)) : G X v nL σ pc lv st := by
  subst hst
  intro H locs ls hw hh
  obtain ⟨τ, x, ho, hk⟩ := cl_inv h
  have hF := Av_mono hw.2.1 hw.2.2 hX.2.2.2.2.2.2.1
  refine va_calll (va_runVN (As := As) (rest := rest) (Ts := wsAll) (own := own) ⟨hX.1, hX.2.1, hX.2.2.1, hX.2.2.2.1, hX.2.2.2.2.1⟩ (hC τ x ho H.size) ⟨g_N hX hM hlk hroom, hX.2.2.2.2.1 _ hV.1, hX.2.2.2.2.1 _ hV.2⟩ (g_PV hX hw hq he hc) rfl hn hh.1 rfl (lv_room hcat) hd ⟨hX.2.2.2.2.2.2.2.2.2.1, hX.2.2.2.2.2.2.2.2.2.2⟩) hw.2.2 (fun q _ h => hF q h) hF (fun r1 u t H1 locs1 ht hvm hw2 hB hz1 hk1 hS => ?_)
  have hw2 : r1 = x := hw2; rw [hw2]
  exact kk τ x hk H1 locs1 ls ⟨by rw [← ht]; exact hB.1, va_D_weak hB.2.2 hF, hS⟩ hh
theorem g_callSL (hX : OKX X v cc nL own fr lo) {o : Option (St × Int64)} {kf : St → Int64 → Option β} (hM : MIb y bytes maxL ret n) (hV : Cond.static y ∈ wsAll) (hlk : Cond.methodLink own i y ∈ wsAll) (hroom : fr' + 1 ≤ fr ∧ 8 + (maxL + 11) + lo' ≤ lo) (hn : As.length = n) (hcat : (rest.map fun v => v.category).sum ≤ 8) (hst : st = As.reverse ++ rest) (hd : decode cc pc = .ok (.invokestatic i, 3)) (hC : ∀ (τ : St) (x : Int64), o = some (τ, x) → CtL (Xl X) y bytes maxL ret fr' lo' v σ As τ x) (h : cl o kf = some r) (kk : ∀ (τ : St) (x : Int64), kf τ x = some r → G X v nL τ (pc + 3) lv (.long x :: rest)) : G X v nL σ pc lv st := by
  subst hst
  intro H locs ls hw hh
  obtain ⟨τ, x, ho, hk⟩ := cl_inv h
  have hF := Av_mono hw.2.1 hw.2.2 hX.2.2.2.2.2.2.1
  refine va_calll (va_runS (As := As) (rest := rest) (Ts := wsAll) (own := own) ⟨hX.1, hX.2.1, hX.2.2.1, hX.2.2.2.1, hX.2.2.2.2.1⟩ (hC τ x ho H.size) ⟨g_B hX hM hlk hroom, hX.2.2.2.2.1 _ hV⟩ (g_PS hX hw) rfl hn hh.1 rfl (lv_room hcat) hd ⟨hX.2.2.2.2.2.2.2.2.2.1, hX.2.2.2.2.2.2.2.2.2.2⟩) hw.2.2 (fun q _ h => hF q h) hF (fun r1 u t H1 locs1 ht hvm hw2 hB hz1 hk1 hS => ?_)
  have hw2 : r1 = x := hw2; rw [hw2]
  exact kk τ x hk H1 locs1 ls ⟨by rw [← ht]; exact hB.1, va_D_weak hB.2.2 hF, hS⟩ hh
theorem g_callSNL (hX : OKX X v cc nL own fr lo) {host : String} {o : Option (St × Int64)} {kf : St → Int64 → Option β} (hM : MIb y bytes maxL ret n) (hV : Cond.static y ∈ wsAll) (hlk : Cond.methodLinkNest own i y host ∈ wsAll) (hroom : fr' + 1 ≤ fr ∧ 8 + (maxL + 11) + lo' ≤ lo) (hn : As.length = n) (hcat : (rest.map fun v => v.category).sum ≤ 8) (hst : st = As.reverse ++ rest) (hd : decode cc pc = .ok (.invokestatic i, 3)) (hC : ∀ (τ : St) (x : Int64), o = some (τ, x) → CtL (Xl X) y bytes maxL ret fr' lo' v σ As τ x) (h : cl o kf = some r) (kk : ∀ (τ : St) (x : Int64), kf τ x = some r → G X v nL τ (pc + 3) lv (.long x :: rest)) : G X v nL σ pc lv st := by
  subst hst
  intro H locs ls hw hh
  obtain ⟨τ, x, ho, hk⟩ := cl_inv h
  have hF := Av_mono hw.2.1 hw.2.2 hX.2.2.2.2.2.2.1
  refine va_calll (va_runSN (As := As) (rest := rest) (Ts := wsAll) (own := own) ⟨hX.1, hX.2.1, hX.2.2.1, hX.2.2.2.1, hX.2.2.2.2.1⟩ (hC τ x ho H.size) ⟨g_N hX hM hlk hroom, hX.2.2.2.2.1 _ hV, trivial⟩ (g_PS hX hw) rfl hn hh.1 rfl (lv_room hcat) hd ⟨hX.2.2.2.2.2.2.2.2.2.1, hX.2.2.2.2.2.2.2.2.2.2⟩) hw.2.2 (fun q _ h => hF q h) hF (fun r1 u t H1 locs1 ht hvm hw2 hB hz1 hk1 hS => ?_)
  have hw2 : r1 = x := hw2; rw [hw2]
  exact kk τ x hk H1 locs1 ls ⟨by rw [← ht]; exact hB.1, va_D_weak hB.2.2 hF, hS⟩ hh
theorem g_callVV (hX : OKX X v cc nL own fr lo) (q : Nat) {ci N : Nat} {C : String} {T : u_T} {fs : List Value} {o : Option (St × Unit)} {kf : St → Unit → Option β} (hq : q < vn v) (he : vsh v q (σ.1 q) (σ.2 q) = .inr (ci, fs)) (hc : vwCl[ci]? = some (C, T, N)) (hM : MIb y bytes maxL ret n) (hV : MIv y C) (hlk : Cond.methodLink own i y ∈ wsAll) (hroom : fr' + 1 ≤ fr ∧ 8 + (maxL + 11) + lo' ≤ lo) (hn : As.length = n) (hcat : (rest.map fun v => v.category).sum ≤ 8) (hst : st = As.reverse ++ .ref (vad v q) :: rest) (hd : decode cc pc = .ok (.invokevirtual i, 3)) (hC : ∀ (τ : St) (x : Unit), o = some (τ, x) → CtV (Xl X) y bytes maxL ret fr' lo' v σ (.ref (vad v q) :: As) τ x) (h : cl o kf = some r) (kk : ∀ (τ : St) (x : Unit), kf τ x = some r → G X v nL τ (pc + 3) lv (rest)) : G X v nL σ pc lv st := by
  subst hst
  intro H locs ls hw hh
  obtain ⟨τ, x, ho, hk⟩ := cl_inv h
  have hF := Av_mono hw.2.1 hw.2.2 hX.2.2.2.2.2.2.1
  refine va_callv (va_runV (As := As) (rest := rest) (Ts := wsAll) (own := own) ⟨hX.1, hX.2.1, hX.2.2.1, hX.2.2.2.1, hX.2.2.2.2.1⟩ (hC τ x ho H.size) ⟨g_B hX hM hlk hroom, hX.2.2.2.2.1 _ hV.1, hX.2.2.2.2.1 _ hV.2⟩ (g_PV hX hw hq he hc) rfl hn hh.1 rfl (lv_room hcat) hd ⟨hX.2.2.2.2.2.2.2.2.2.1, hX.2.2.2.2.2.2.2.2.2.2⟩) hw.2.2 (fun q _ h => hF q h) hF (fun u t H1 locs1 ht hvm hw2 hB hz1 hk1 hS => ?_)
  skip
  exact kk τ x hk H1 locs1 ls ⟨by rw [← ht]; exact hB.1, va_D_weak hB.2.2 hF, hS⟩ hh
theorem g_callNV (hX : OKX X v cc nL own fr lo) (q : Nat) {ci N : Nat} {C : String} {T : u_T} {fs : List Value} {host : String} {o : Option (St × Unit)} {kf : St → Unit → Option β} (hq : q < vn v) (he : vsh v q (σ.1 q) (σ.2 q) = .inr (ci, fs)) (hc : vwCl[ci]? = some (C, T, N)) (hM : MIb y bytes maxL ret n) (hV : MIv y C) (hlk : Cond.methodLinkNest own i y host ∈ wsAll) (hroom : fr' + 1 ≤ fr ∧ 8 + (maxL + 11) + lo' ≤ lo) (hn : As.length = n) (hcat : (rest.map fun v => v.category).sum ≤ 8) (hst : st = As.reverse ++ .ref (vad v q) :: rest) (hd : decode cc pc = .ok (.invokevirtual i, 3)) (hC : ∀ (τ : St) (x : Unit), o = some (τ, x) → CtV (Xl X) y bytes maxL ret fr' lo' v σ (.ref (vad v q) :: As) τ x) (h : cl o kf = some r) (kk : ∀ (τ : St) (x : Unit), kf τ x = some r → G X v nL τ (pc + 3) lv (rest)) : G X v nL σ pc lv st := by
  subst hst
  intro H locs ls hw hh
  obtain ⟨τ, x, ho, hk⟩ := cl_inv h
  have hF := Av_mono hw.2.1 hw.2.2 hX.2.2.2.2.2.2.1
  refine va_callv (va_runVN (As := As) (rest := rest) (Ts := wsAll) (own := own) ⟨hX.1, hX.2.1, hX.2.2.1, hX.2.2.2.1, hX.2.2.2.2.1⟩ (hC τ x ho H.size) ⟨g_N hX hM hlk hroom, hX.2.2.2.2.1 _ hV.1, hX.2.2.2.2.1 _ hV.2⟩ (g_PV hX hw hq he hc) rfl hn hh.1 rfl (lv_room hcat) hd ⟨hX.2.2.2.2.2.2.2.2.2.1, hX.2.2.2.2.2.2.2.2.2.2⟩) hw.2.2 (fun q _ h => hF q h) hF (fun u t H1 locs1 ht hvm hw2 hB hz1 hk1 hS => ?_)
  skip
  exact kk τ x hk H1 locs1 ls ⟨by rw [← ht]; exact hB.1, va_D_weak hB.2.2 hF, hS⟩ hh
theorem g_callSV (hX : OKX X v cc nL own fr lo) {o : Option (St × Unit)} {kf : St → Unit → Option β} (hM : MIb y bytes maxL ret n) (hV : Cond.static y ∈ wsAll) (hlk : Cond.methodLink own i y ∈ wsAll) (hroom : fr' + 1 ≤ fr ∧ 8 + (maxL + 11) + lo' ≤ lo) (hn : As.length = n) (hcat : (rest.map fun v => v.category).sum ≤ 8) (hst : st = As.reverse ++ rest) (hd : decode cc pc = .ok (.invokestatic i, 3)) (hC : ∀ (τ : St) (x : Unit), o = some (τ, x) → CtV (Xl X) y bytes maxL ret fr' lo' v σ As τ x) (h : cl o kf = some r) (kk : ∀ (τ : St) (x : Unit), kf τ x = some r → G X v nL τ (pc + 3) lv (rest)) : G X v nL σ pc lv st := by
  subst hst
  intro H locs ls hw hh
  obtain ⟨τ, x, ho, hk⟩ := cl_inv h
  have hF := Av_mono hw.2.1 hw.2.2 hX.2.2.2.2.2.2.1
  refine va_callv (va_runS (As := As) (rest := rest) (Ts := wsAll) (own := own) ⟨hX.1, hX.2.1, hX.2.2.1, hX.2.2.2.1, hX.2.2.2.2.1⟩ (hC τ x ho H.size) ⟨g_B hX hM hlk hroom, hX.2.2.2.2.1 _ hV⟩ (g_PS hX hw) rfl hn hh.1 rfl (lv_room hcat) hd ⟨hX.2.2.2.2.2.2.2.2.2.1, hX.2.2.2.2.2.2.2.2.2.2⟩) hw.2.2 (fun q _ h => hF q h) hF (fun u t H1 locs1 ht hvm hw2 hB hz1 hk1 hS => ?_)
  skip
  exact kk τ x hk H1 locs1 ls ⟨by rw [← ht]; exact hB.1, va_D_weak hB.2.2 hF, hS⟩ hh
theorem g_callSNV (hX : OKX X v cc nL own fr lo) {host : String} {o : Option (St × Unit)} {kf : St → Unit → Option β} (hM : MIb y bytes maxL ret n) (hV : Cond.static y ∈ wsAll) (hlk : Cond.methodLinkNest own i y host ∈ wsAll) (hroom : fr' + 1 ≤ fr ∧ 8 + (maxL + 11) + lo' ≤ lo) (hn : As.length = n) (hcat : (rest.map fun v => v.category).sum ≤ 8) (hst : st = As.reverse ++ rest) (hd : decode cc pc = .ok (.invokestatic i, 3)) (hC : ∀ (τ : St) (x : Unit), o = some (τ, x) → CtV (Xl X) y bytes maxL ret fr' lo' v σ As τ x) (h : cl o kf = some r) (kk : ∀ (τ : St) (x : Unit), kf τ x = some r → G X v nL τ (pc + 3) lv (rest)) : G X v nL σ pc lv st := by
  subst hst
  intro H locs ls hw hh
  obtain ⟨τ, x, ho, hk⟩ := cl_inv h
  have hF := Av_mono hw.2.1 hw.2.2 hX.2.2.2.2.2.2.1
  refine va_callv (va_runSN (As := As) (rest := rest) (Ts := wsAll) (own := own) ⟨hX.1, hX.2.1, hX.2.2.1, hX.2.2.2.1, hX.2.2.2.2.1⟩ (hC τ x ho H.size) ⟨g_N hX hM hlk hroom, hX.2.2.2.2.1 _ hV, trivial⟩ (g_PS hX hw) rfl hn hh.1 rfl (lv_room hcat) hd ⟨hX.2.2.2.2.2.2.2.2.2.1, hX.2.2.2.2.2.2.2.2.2.2⟩) hw.2.2 (fun q _ h => hF q h) hF (fun u t H1 locs1 ht hvm hw2 hB hz1 hk1 hS => ?_)
  skip
  exact kk τ x hk H1 locs1 ls ⟨by rw [← ht]; exact hB.1, va_D_weak hB.2.2 hF, hS⟩ hh
end GCalls
theorem g_metI {l : Launch} {y : MethodName} {cc : ByteArray} {nL fr lo : Nat} {v : Vw} {σ τ : St} {vals : List Value} {x : Int32} {lv : List (Nat × Value)} (hpl : plainName y.cls = true) (hle : (lg_sl vals).length ≤ nL) (hlv : lv_args 0 vals = lv)
    (body : ∀ X : CX, Xl X = l → OKX X v cc nL y.cls fr lo → (∀ (pc : Nat) (lv : List (Nat × Value)), decode cc pc = .ok (.ireturn, 1) → G X v nL τ pc lv [.int x]) → G X v nL σ 0 lv []) : CtI l y cc nL (some .int) fr lo v σ vals τ x := by
  intro sz
  refine Met.ofW (cc := cc) (maxL := nL) (ret := (some .int)) hpl rfl ?_
  intro p e s m args below meth c s₁ B hml hv
  obtain ⟨rfl, hsz, hP, hK, hD0⟩ := hv
  have hts := atoms_spec (ws := Cond.code y cc nL (some .int) :: wsAll) B.pre
  have hlocks := B.notSynchronized
  subst hsz
  have hD : va_D (Av v s.heap.size) (ww v σ) := ⟨hD0.1, fun k q hk => by
    obtain ⟨h1, h2⟩ := ww_inv hk
    rw [h2]
    exact Or.inl ⟨k, h1, rfl⟩⟩
  have hX : OKX (p, l, e, Rm fr lo, s, m, vals.toArray, below, meth, c, MQ below (va_Qi (fun z (_ : Unit) => z = x) (fun _ t => AtW v (Av v s.heap.size) τ t) (Av v s.heap.size)) vals.toArray s 0 0 (Av v s.heap.size), Av v s.heap.size, 0, 0) v cc nL y.cls fr lo := ⟨B.exec, B.bytes, hml, findClass_of_methodNamed B.named, fun w hw => hts w (List.mem_cons_of_mem _ hw), hK, fun q h => Or.inr h, Nat.le_refl _, Nat.le_refl _, Nat.le_refl _, Nat.le_refl _⟩
  have hl := lv_entry vals (n := nL) hle
  rw [hlv] at hl
  rw [lg_entry_eq]
  refine body _ rfl hX (fun pc lv hd H locs ls hw hh => ?_) s.heap [] _ ⟨hP, hD, va_S.rf⟩ hl
  exact W.iret hX.1 hX.2.1 B.returns (fun t ht hW => ⟨⟨x, (), rfl, rfl, by rw [ht]; exact hw.1, va_K.moved hW.alike hK, hw.2.1⟩, hw.2.2.F ht⟩) hw.2.2.2.2 hd
theorem g_metZ {l : Launch} {y : MethodName} {cc : ByteArray} {nL fr lo : Nat} {v : Vw} {σ τ : St} {vals : List Value} {x : Int32} {lv : List (Nat × Value)} (hpl : plainName y.cls = true) (hle : (lg_sl vals).length ≤ nL) (hlv : lv_args 0 vals = lv)
    (body : ∀ X : CX, Xl X = l → OKX X v cc nL y.cls fr lo → ((x = 0 ∨ x = 1) → ∀ (pc : Nat) (lv : List (Nat × Value)), decode cc pc = .ok (.ireturn, 1) → G X v nL τ pc lv [.int x]) → G X v nL σ 0 lv []) : CtI l y cc nL (some .boolean) fr lo v σ vals τ x := by
  intro sz
  refine Met.ofW (cc := cc) (maxL := nL) (ret := (some .boolean)) hpl rfl ?_
  intro p e s m args below meth c s₁ B hml hv
  obtain ⟨rfl, hsz, hP, hK, hD0⟩ := hv
  have hts := atoms_spec (ws := Cond.code y cc nL (some .boolean) :: wsAll) B.pre
  have hlocks := B.notSynchronized
  subst hsz
  have hD : va_D (Av v s.heap.size) (ww v σ) := ⟨hD0.1, fun k q hk => by
    obtain ⟨h1, h2⟩ := ww_inv hk
    rw [h2]
    exact Or.inl ⟨k, h1, rfl⟩⟩
  have hX : OKX (p, l, e, Rm fr lo, s, m, vals.toArray, below, meth, c, MQ below (va_Qi (fun z (_ : Unit) => z = x) (fun _ t => AtW v (Av v s.heap.size) τ t) (Av v s.heap.size)) vals.toArray s 0 0 (Av v s.heap.size), Av v s.heap.size, 0, 0) v cc nL y.cls fr lo := ⟨B.exec, B.bytes, hml, findClass_of_methodNamed B.named, fun w hw => hts w (List.mem_cons_of_mem _ hw), hK, fun q h => Or.inr h, Nat.le_refl _, Nat.le_refl _, Nat.le_refl _, Nat.le_refl _⟩
  have hl := lv_entry vals (n := nL) hle
  rw [hlv] at hl
  rw [lg_entry_eq]
  refine body _ rfl hX (fun hz pc lv hd H locs ls hw hh => ?_) s.heap [] _ ⟨hP, hD, va_S.rf⟩ hl
  exact W.zret hX.1 hX.2.1 B.returns (by rcases hz with rfl | rfl <;> rfl) (fun t ht hW => ⟨⟨x, (), rfl, rfl, by rw [ht]; exact hw.1, va_K.moved hW.alike hK, hw.2.1⟩, hw.2.2.F ht⟩) hw.2.2.2.2 hd
theorem g_metL {l : Launch} {y : MethodName} {cc : ByteArray} {nL fr lo : Nat} {v : Vw} {σ τ : St} {vals : List Value} {x : Int64} {lv : List (Nat × Value)} (hpl : plainName y.cls = true) (hle : (lg_sl vals).length ≤ nL) (hlv : lv_args 0 vals = lv)
    (body : ∀ X : CX, Xl X = l → OKX X v cc nL y.cls fr lo → (∀ (pc : Nat) (lv : List (Nat × Value)), decode cc pc = .ok (.lreturn, 1) → G X v nL τ pc lv [.long x]) → G X v nL σ 0 lv []) : CtL l y cc nL (some .long) fr lo v σ vals τ x := by
  intro sz
  refine Met.ofW (cc := cc) (maxL := nL) (ret := (some .long)) hpl rfl ?_
  intro p e s m args below meth c s₁ B hml hv
  obtain ⟨rfl, hsz, hP, hK, hD0⟩ := hv
  have hts := atoms_spec (ws := Cond.code y cc nL (some .long) :: wsAll) B.pre
  have hlocks := B.notSynchronized
  subst hsz
  have hD : va_D (Av v s.heap.size) (ww v σ) := ⟨hD0.1, fun k q hk => by
    obtain ⟨h1, h2⟩ := ww_inv hk
    rw [h2]
    exact Or.inl ⟨k, h1, rfl⟩⟩
  have hX : OKX (p, l, e, Rm fr lo, s, m, vals.toArray, below, meth, c, MQ below (va_Ql (fun z (_ : Unit) => z = x) (fun _ t => AtW v (Av v s.heap.size) τ t) (Av v s.heap.size)) vals.toArray s 0 0 (Av v s.heap.size), Av v s.heap.size, 0, 0) v cc nL y.cls fr lo := ⟨B.exec, B.bytes, hml, findClass_of_methodNamed B.named, fun w hw => hts w (List.mem_cons_of_mem _ hw), hK, fun q h => Or.inr h, Nat.le_refl _, Nat.le_refl _, Nat.le_refl _, Nat.le_refl _⟩
  have hl := lv_entry vals (n := nL) hle
  rw [hlv] at hl
  rw [lg_entry_eq]
  refine body _ rfl hX (fun pc lv hd H locs ls hw hh => ?_) s.heap [] _ ⟨hP, hD, va_S.rf⟩ hl
  exact W.lret hX.1 hX.2.1 B.returns (fun t ht hW => ⟨⟨x, (), rfl, rfl, by rw [ht]; exact hw.1, va_K.moved hW.alike hK, hw.2.1⟩, hw.2.2.F ht⟩) hw.2.2.2.2 hd
theorem g_metV {l : Launch} {y : MethodName} {cc : ByteArray} {nL fr lo : Nat} {v : Vw} {σ τ : St} {vals : List Value} {x : Unit} {lv : List (Nat × Value)} (hpl : plainName y.cls = true) (hle : (lg_sl vals).length ≤ nL) (hlv : lv_args 0 vals = lv)
    (body : ∀ X : CX, Xl X = l → OKX X v cc nL y.cls fr lo → (∀ (pc : Nat) (lv : List (Nat × Value)), decode cc pc = .ok (.return_, 1) → G X v nL τ pc lv []) → G X v nL σ 0 lv []) : CtV l y cc nL none fr lo v σ vals τ x := by
  intro sz
  refine Met.ofW (cc := cc) (maxL := nL) (ret := none) hpl rfl ?_
  intro p e s m args below meth c s₁ B hml hv
  obtain ⟨rfl, hsz, hP, hK, hD0⟩ := hv
  have hts := atoms_spec (ws := Cond.code y cc nL none :: wsAll) B.pre
  have hlocks := B.notSynchronized
  subst hsz
  have hD : va_D (Av v s.heap.size) (ww v σ) := ⟨hD0.1, fun k q hk => by
    obtain ⟨h1, h2⟩ := ww_inv hk
    rw [h2]
    exact Or.inl ⟨k, h1, rfl⟩⟩
  have hX : OKX (p, l, e, Rm fr lo, s, m, vals.toArray, below, meth, c, MQ below (va_Qv (fun (_ : Unit) => True) (fun _ t => AtW v (Av v s.heap.size) τ t) (Av v s.heap.size)) vals.toArray s 0 0 (Av v s.heap.size), Av v s.heap.size, 0, 0) v cc nL y.cls fr lo := ⟨B.exec, B.bytes, hml, findClass_of_methodNamed B.named, fun w hw => hts w (List.mem_cons_of_mem _ hw), hK, fun q h => Or.inr h, Nat.le_refl _, Nat.le_refl _, Nat.le_refl _, Nat.le_refl _⟩
  have hl := lv_entry vals (n := nL) hle
  rw [hlv] at hl
  rw [lg_entry_eq]
  refine body _ rfl hX (fun pc lv hd H locs ls hw hh => ?_) s.heap [] _ ⟨hP, hD, va_S.rf⟩ hl
  exact W.vret hX.1 hX.2.1 B.returns (fun t ht hW => ⟨⟨(), rfl, trivial, by rw [ht]; exact hw.1, va_K.moved hW.alike hK, hw.2.1⟩, hw.2.2.F ht⟩) hw.2.2.2.2 hd
theorem g_reti {X : CX} {v : Vw} {cc : ByteArray} {nL pc : Nat} {σ : St} {lv : List (Nat × Value)} {x : Int32} {r : St × Int32} (hR : ∀ (pc : Nat) (lv : List (Nat × Value)), decode cc pc = .ok (.ireturn, 1) → G X v nL r.1 pc lv [.int r.2]) (h : some (σ, x) = some r) (hd : decode cc pc = .ok (.ireturn, 1)) : G X v nL σ pc lv [.int x] := by
  cases h; exact hR pc lv hd
theorem g_retl {X : CX} {v : Vw} {cc : ByteArray} {nL pc : Nat} {σ : St} {lv : List (Nat × Value)} {x : Int64} {r : St × Int64} (hR : ∀ (pc : Nat) (lv : List (Nat × Value)), decode cc pc = .ok (.lreturn, 1) → G X v nL r.1 pc lv [.long r.2]) (h : some (σ, x) = some r) (hd : decode cc pc = .ok (.lreturn, 1)) : G X v nL σ pc lv [.long x] := by
  cases h; exact hR pc lv hd
theorem g_retz {X : CX} {v : Vw} {cc : ByteArray} {nL pc : Nat} {σ : St} {lv : List (Nat × Value)} {x : Int32} {r : St × Int32} (hR : (r.2 = 0 ∨ r.2 = 1) → ∀ (pc : Nat) (lv : List (Nat × Value)), decode cc pc = .ok (.ireturn, 1) → G X v nL r.1 pc lv [.int r.2]) (hz : x = 0 ∨ x = 1) (h : some (σ, x) = some r) (hd : decode cc pc = .ok (.ireturn, 1)) : G X v nL σ pc lv [.int x] := by
  cases h; exact hR hz pc lv hd
def isB (x : Int32) : Bool := decide (x = 0 ∨ x = 1)
theorem g_retzc {X : CX} {v : Vw} {cc : ByteArray} {nL pc : Nat} {σ : St} {lv : List (Nat × Value)} {x : Int32} {r : St × Int32} (hR : (r.2 = 0 ∨ r.2 = 1) → ∀ (pc : Nat) (lv : List (Nat × Value)), decode cc pc = .ok (.ireturn, 1) → G X v nL r.1 pc lv [.int r.2]) (h : chk (isB x) (some (σ, x)) = some r) (hd : decode cc pc = .ok (.ireturn, 1)) : G X v nL σ pc lv [.int x] := g_retz hR (of_decide_eq_true (chk_inv h).1) (chk_inv h).2 hd
theorem g_retv {X : CX} {v : Vw} {cc : ByteArray} {nL pc : Nat} {σ : St} {lv : List (Nat × Value)} {r : St × Unit} (hR : ∀ (pc : Nat) (lv : List (Nat × Value)), decode cc pc = .ok (.return_, 1) → G X v nL r.1 pc lv []) (h : some (σ, ()) = some r) (hd : decode cc pc = .ok (.return_, 1)) : G X v nL σ pc lv [] := by
  cases h; exact hR pc lv hd
end
