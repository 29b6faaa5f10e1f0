-- ===== PART A: goes FIRST, ahead of the names: the tables' words, and 'selects' of the private methods out of them =====
/-- a private method of a class that the tables say can be made, by its rows of tables_1 -/
def lw_okq (q : MethodName × Nat) : Prop := (q.1.cls ≠ "java/lang/invoke/MethodHandle" ∧ q.1.cls ≠ "java/lang/invoke/VarHandle") ∧ Cond.instantiable q.1.cls q.2 ∈ tables_1 ∧ Cond.privateMethod q.1 ∈ tables_1 ∧ Cond.instanceMethod q.1 ∈ tables_1
theorem lw_p0 : lw_okq (⟨"DataShrinker$Program", "forgetReferencesTo", "(I)V"⟩, 15) := ⟨⟨by decide +kernel, by decide +kernel⟩, List.mem_of_getElem? (i := 24) (by decide +kernel), List.mem_of_getElem? (i := 330) (by decide +kernel), List.mem_of_getElem? (i := 331) (by decide +kernel)⟩
theorem lw_p1 : lw_okq (⟨"DataShrinker$Machine", "begin", "(I)V"⟩, 14) := ⟨⟨by decide +kernel, by decide +kernel⟩, List.mem_of_getElem? (i := 245) (by decide +kernel), List.mem_of_getElem? (i := 423) (by decide +kernel), List.mem_of_getElem? (i := 424) (by decide +kernel)⟩
theorem lw_p2 : lw_okq (⟨"DataShrinker$Machine", "leave", "()V"⟩, 14) := ⟨⟨by decide +kernel, by decide +kernel⟩, List.mem_of_getElem? (i := 245) (by decide +kernel), List.mem_of_getElem? (i := 431) (by decide +kernel), List.mem_of_getElem? (i := 432) (by decide +kernel)⟩
theorem lw_p3 : lw_okq (⟨"DataShrinker$Machine", "carryOut", "(I)I"⟩, 14) := ⟨⟨by decide +kernel, by decide +kernel⟩, List.mem_of_getElem? (i := 245) (by decide +kernel), List.mem_of_getElem? (i := 435) (by decide +kernel), List.mem_of_getElem? (i := 436) (by decide +kernel)⟩
theorem lw_p4 : lw_okq (⟨"DataShrinker$Machine", "put", "(II)I"⟩, 14) := ⟨⟨by decide +kernel, by decide +kernel⟩, List.mem_of_getElem? (i := 245) (by decide +kernel), List.mem_of_getElem? (i := 439) (by decide +kernel), List.mem_of_getElem? (i := 440) (by decide +kernel)⟩
theorem lw_p5 : lw_okq (⟨"DataShrinker$Machine", "load", "(III)I"⟩, 14) := ⟨⟨by decide +kernel, by decide +kernel⟩, List.mem_of_getElem? (i := 245) (by decide +kernel), List.mem_of_getElem? (i := 446) (by decide +kernel), List.mem_of_getElem? (i := 447) (by decide +kernel)⟩
theorem lw_p6 : lw_okq (⟨"DataShrinker$Machine", "store", "(III)I"⟩, 14) := ⟨⟨by decide +kernel, by decide +kernel⟩, List.mem_of_getElem? (i := 245) (by decide +kernel), List.mem_of_getElem? (i := 451) (by decide +kernel), List.mem_of_getElem? (i := 452) (by decide +kernel)⟩
theorem lw_p7 : lw_okq (⟨"DataShrinker$Machine", "openFunction", "(I)I"⟩, 14) := ⟨⟨by decide +kernel, by decide +kernel⟩, List.mem_of_getElem? (i := 245) (by decide +kernel), List.mem_of_getElem? (i := 455) (by decide +kernel), List.mem_of_getElem? (i := 456) (by decide +kernel)⟩
theorem lw_p8 : lw_okq (⟨"DataShrinker$Machine", "skip", "(I)I"⟩, 14) := ⟨⟨by decide +kernel, by decide +kernel⟩, List.mem_of_getElem? (i := 245) (by decide +kernel), List.mem_of_getElem? (i := 459) (by decide +kernel), List.mem_of_getElem? (i := 460) (by decide +kernel)⟩
theorem lw_p9 : lw_okq (⟨"DataShrinker$Machine", "send", "(I)I"⟩, 14) := ⟨⟨by decide +kernel, by decide +kernel⟩, List.mem_of_getElem? (i := 245) (by decide +kernel), List.mem_of_getElem? (i := 463) (by decide +kernel), List.mem_of_getElem? (i := 464) (by decide +kernel)⟩
theorem lw_p10 : lw_okq (⟨"DataShrinker$Machine", "takeInput", "()I"⟩, 14) := ⟨⟨by decide +kernel, by decide +kernel⟩, List.mem_of_getElem? (i := 245) (by decide +kernel), List.mem_of_getElem? (i := 467) (by decide +kernel), List.mem_of_getElem? (i := 468) (by decide +kernel)⟩
theorem lw_p11 : lw_okq (⟨"DataShrinker$Machine", "standAsOne", "(II)Z"⟩, 14) := ⟨⟨by decide +kernel, by decide +kernel⟩, List.mem_of_getElem? (i := 245) (by decide +kernel), List.mem_of_getElem? (i := 471) (by decide +kernel), List.mem_of_getElem? (i := 472) (by decide +kernel)⟩
theorem lw_p12 : lw_okq (⟨"DataShrinker$Machine", "follow", "(III)I"⟩, 14) := ⟨⟨by decide +kernel, by decide +kernel⟩, List.mem_of_getElem? (i := 245) (by decide +kernel), List.mem_of_getElem? (i := 478) (by decide +kernel), List.mem_of_getElem? (i := 479) (by decide +kernel)⟩
theorem lw_p13 : lw_okq (⟨"DataShrinker$Reach", "forget", "()V"⟩, 12) := ⟨⟨by decide +kernel, by decide +kernel⟩, List.mem_of_getElem? (i := 107) (by decide +kernel), List.mem_of_getElem? (i := 520) (by decide +kernel), List.mem_of_getElem? (i := 521) (by decide +kernel)⟩
theorem lw_p14 : lw_okq (⟨"DataShrinker$Reach", "forgetStates", "()V"⟩, 12) := ⟨⟨by decide +kernel, by decide +kernel⟩, List.mem_of_getElem? (i := 107) (by decide +kernel), List.mem_of_getElem? (i := 531) (by decide +kernel), List.mem_of_getElem? (i := 532) (by decide +kernel)⟩
theorem lw_p15 : lw_okq (⟨"DataShrinker$Reach", "standAsTold", "()V"⟩, 12) := ⟨⟨by decide +kernel, by decide +kernel⟩, List.mem_of_getElem? (i := 107) (by decide +kernel), List.mem_of_getElem? (i := 546) (by decide +kernel), List.mem_of_getElem? (i := 547) (by decide +kernel)⟩
def lw_privs_1 : List (MethodName × Nat) := [(⟨"DataShrinker$Program", "forgetReferencesTo", "(I)V"⟩, 15), (⟨"DataShrinker$Machine", "begin", "(I)V"⟩, 14), (⟨"DataShrinker$Machine", "leave", "()V"⟩, 14), (⟨"DataShrinker$Machine", "carryOut", "(I)I"⟩, 14), (⟨"DataShrinker$Machine", "put", "(II)I"⟩, 14), (⟨"DataShrinker$Machine", "load", "(III)I"⟩, 14), (⟨"DataShrinker$Machine", "store", "(III)I"⟩, 14), (⟨"DataShrinker$Machine", "openFunction", "(I)I"⟩, 14), (⟨"DataShrinker$Machine", "skip", "(I)I"⟩, 14), (⟨"DataShrinker$Machine", "send", "(I)I"⟩, 14), (⟨"DataShrinker$Machine", "takeInput", "()I"⟩, 14), (⟨"DataShrinker$Machine", "standAsOne", "(II)Z"⟩, 14), (⟨"DataShrinker$Machine", "follow", "(III)I"⟩, 14), (⟨"DataShrinker$Reach", "forget", "()V"⟩, 12), (⟨"DataShrinker$Reach", "forgetStates", "()V"⟩, 12), (⟨"DataShrinker$Reach", "standAsTold", "()V"⟩, 12)]
theorem lw_r1 : ∀ q ∈ lw_privs_1, lw_okq q := List.forall_mem_cons.mpr ⟨lw_p0, List.forall_mem_cons.mpr ⟨lw_p1, List.forall_mem_cons.mpr ⟨lw_p2, List.forall_mem_cons.mpr ⟨lw_p3, List.forall_mem_cons.mpr ⟨lw_p4, List.forall_mem_cons.mpr ⟨lw_p5, List.forall_mem_cons.mpr ⟨lw_p6, List.forall_mem_cons.mpr ⟨lw_p7, List.forall_mem_cons.mpr ⟨lw_p8, List.forall_mem_cons.mpr ⟨lw_p9, List.forall_mem_cons.mpr ⟨lw_p10, List.forall_mem_cons.mpr ⟨lw_p11, List.forall_mem_cons.mpr ⟨lw_p12, List.forall_mem_cons.mpr ⟨lw_p13, List.forall_mem_cons.mpr ⟨lw_p14, List.forall_mem_cons.mpr ⟨lw_p15, fun _ h => absurd h List.not_mem_nil⟩⟩⟩⟩⟩⟩⟩⟩⟩⟩⟩⟩⟩⟩⟩⟩
theorem lw_p16 : lw_okq (⟨"DataShrinker$Reach", "findSites", "()V"⟩, 12) := ⟨⟨by decide +kernel, by decide +kernel⟩, List.mem_of_getElem? (i := 107) (by decide +kernel), List.mem_of_getElem? (i := 556) (by decide +kernel), List.mem_of_getElem? (i := 557) (by decide +kernel)⟩
theorem lw_p17 : lw_okq (⟨"DataShrinker$Reach", "wakerOf", "(I)I"⟩, 12) := ⟨⟨by decide +kernel, by decide +kernel⟩, List.mem_of_getElem? (i := 107) (by decide +kernel), List.mem_of_getElem? (i := 560) (by decide +kernel), List.mem_of_getElem? (i := 561) (by decide +kernel)⟩
theorem lw_p18 : lw_okq (⟨"DataShrinker$Reach", "beginAtEntries", "()V"⟩, 12) := ⟨⟨by decide +kernel, by decide +kernel⟩, List.mem_of_getElem? (i := 107) (by decide +kernel), List.mem_of_getElem? (i := 564) (by decide +kernel), List.mem_of_getElem? (i := 565) (by decide +kernel)⟩
theorem lw_p19 : lw_okq (⟨"DataShrinker$Reach", "placeIn", "(II)I"⟩, 12) := ⟨⟨by decide +kernel, by decide +kernel⟩, List.mem_of_getElem? (i := 107) (by decide +kernel), List.mem_of_getElem? (i := 573) (by decide +kernel), List.mem_of_getElem? (i := 574) (by decide +kernel)⟩
theorem lw_p20 : lw_okq (⟨"DataShrinker$Reach", "arriveAt", "(II)V"⟩, 12) := ⟨⟨by decide +kernel, by decide +kernel⟩, List.mem_of_getElem? (i := 107) (by decide +kernel), List.mem_of_getElem? (i := 584) (by decide +kernel), List.mem_of_getElem? (i := 585) (by decide +kernel)⟩
theorem lw_p21 : lw_okq (⟨"DataShrinker$Reach", "goRound", "()Z"⟩, 12) := ⟨⟨by decide +kernel, by decide +kernel⟩, List.mem_of_getElem? (i := 107) (by decide +kernel), List.mem_of_getElem? (i := 589) (by decide +kernel), List.mem_of_getElem? (i := 590) (by decide +kernel)⟩
theorem lw_p22 : lw_okq (⟨"DataShrinker$Reach", "takeOn", "(II)V"⟩, 12) := ⟨⟨by decide +kernel, by decide +kernel⟩, List.mem_of_getElem? (i := 107) (by decide +kernel), List.mem_of_getElem? (i := 601) (by decide +kernel), List.mem_of_getElem? (i := 602) (by decide +kernel)⟩
theorem lw_p23 : lw_okq (⟨"DataShrinker$Reach", "wake", "(I)V"⟩, 12) := ⟨⟨by decide +kernel, by decide +kernel⟩, List.mem_of_getElem? (i := 107) (by decide +kernel), List.mem_of_getElem? (i := 605) (by decide +kernel), List.mem_of_getElem? (i := 606) (by decide +kernel)⟩
theorem lw_p24 : lw_okq (⟨"DataShrinker$Reach", "takeStore", "(IIII)Z"⟩, 12) := ⟨⟨by decide +kernel, by decide +kernel⟩, List.mem_of_getElem? (i := 107) (by decide +kernel), List.mem_of_getElem? (i := 609) (by decide +kernel), List.mem_of_getElem? (i := 610) (by decide +kernel)⟩
theorem lw_p25 : lw_okq (⟨"DataShrinker$Reach", "placesIn", "(II)J"⟩, 12) := ⟨⟨by decide +kernel, by decide +kernel⟩, List.mem_of_getElem? (i := 107) (by decide +kernel), List.mem_of_getElem? (i := 613) (by decide +kernel), List.mem_of_getElem? (i := 614) (by decide +kernel)⟩
theorem lw_p26 : lw_okq (⟨"DataShrinker$Reach", "flow", "(IIII)V"⟩, 12) := ⟨⟨by decide +kernel, by decide +kernel⟩, List.mem_of_getElem? (i := 107) (by decide +kernel), List.mem_of_getElem? (i := 621) (by decide +kernel), List.mem_of_getElem? (i := 622) (by decide +kernel)⟩
theorem lw_p27 : lw_okq (⟨"DataShrinker$Reach", "takeCall", "(III)V"⟩, 12) := ⟨⟨by decide +kernel, by decide +kernel⟩, List.mem_of_getElem? (i := 107) (by decide +kernel), List.mem_of_getElem? (i := 625) (by decide +kernel), List.mem_of_getElem? (i := 626) (by decide +kernel)⟩
theorem lw_p28 : lw_okq (⟨"DataShrinker$Reach", "takeNought", "(IIII)V"⟩, 12) := ⟨⟨by decide +kernel, by decide +kernel⟩, List.mem_of_getElem? (i := 107) (by decide +kernel), List.mem_of_getElem? (i := 633) (by decide +kernel), List.mem_of_getElem? (i := 634) (by decide +kernel)⟩
theorem lw_p29 : lw_okq (⟨"DataShrinker$Reach", "makeRest", "(II)Z"⟩, 12) := ⟨⟨by decide +kernel, by decide +kernel⟩, List.mem_of_getElem? (i := 107) (by decide +kernel), List.mem_of_getElem? (i := 637) (by decide +kernel), List.mem_of_getElem? (i := 638) (by decide +kernel)⟩
theorem lw_p30 : lw_okq (⟨"DataShrinker$Reach", "takeLoad", "(IIII)Z"⟩, 12) := ⟨⟨by decide +kernel, by decide +kernel⟩, List.mem_of_getElem? (i := 107) (by decide +kernel), List.mem_of_getElem? (i := 645) (by decide +kernel), List.mem_of_getElem? (i := 646) (by decide +kernel)⟩
theorem lw_p31 : lw_okq (⟨"DataShrinker$Reach", "beginRead", "(IIJ)Z"⟩, 12) := ⟨⟨by decide +kernel, by decide +kernel⟩, List.mem_of_getElem? (i := 107) (by decide +kernel), List.mem_of_getElem? (i := 649) (by decide +kernel), List.mem_of_getElem? (i := 650) (by decide +kernel)⟩
def lw_privs_2 : List (MethodName × Nat) := [(⟨"DataShrinker$Reach", "findSites", "()V"⟩, 12), (⟨"DataShrinker$Reach", "wakerOf", "(I)I"⟩, 12), (⟨"DataShrinker$Reach", "beginAtEntries", "()V"⟩, 12), (⟨"DataShrinker$Reach", "placeIn", "(II)I"⟩, 12), (⟨"DataShrinker$Reach", "arriveAt", "(II)V"⟩, 12), (⟨"DataShrinker$Reach", "goRound", "()Z"⟩, 12), (⟨"DataShrinker$Reach", "takeOn", "(II)V"⟩, 12), (⟨"DataShrinker$Reach", "wake", "(I)V"⟩, 12), (⟨"DataShrinker$Reach", "takeStore", "(IIII)Z"⟩, 12), (⟨"DataShrinker$Reach", "placesIn", "(II)J"⟩, 12), (⟨"DataShrinker$Reach", "flow", "(IIII)V"⟩, 12), (⟨"DataShrinker$Reach", "takeCall", "(III)V"⟩, 12), (⟨"DataShrinker$Reach", "takeNought", "(IIII)V"⟩, 12), (⟨"DataShrinker$Reach", "makeRest", "(II)Z"⟩, 12), (⟨"DataShrinker$Reach", "takeLoad", "(IIII)Z"⟩, 12), (⟨"DataShrinker$Reach", "beginRead", "(IIJ)Z"⟩, 12)]
theorem lw_r2 : ∀ q ∈ lw_privs_2, lw_okq q := List.forall_mem_cons.mpr ⟨lw_p16, List.forall_mem_cons.mpr ⟨lw_p17, List.forall_mem_cons.mpr ⟨lw_p18, List.forall_mem_cons.mpr ⟨lw_p19, List.forall_mem_cons.mpr ⟨lw_p20, List.forall_mem_cons.mpr ⟨lw_p21, List.forall_mem_cons.mpr ⟨lw_p22, List.forall_mem_cons.mpr ⟨lw_p23, List.forall_mem_cons.mpr ⟨lw_p24, List.forall_mem_cons.mpr ⟨lw_p25, List.forall_mem_cons.mpr ⟨lw_p26, List.forall_mem_cons.mpr ⟨lw_p27, List.forall_mem_cons.mpr ⟨lw_p28, List.forall_mem_cons.mpr ⟨lw_p29, List.forall_mem_cons.mpr ⟨lw_p30, List.forall_mem_cons.mpr ⟨lw_p31, fun _ h => absurd h List.not_mem_nil⟩⟩⟩⟩⟩⟩⟩⟩⟩⟩⟩⟩⟩⟩⟩⟩
theorem lw_p32 : lw_okq (⟨"DataShrinker$Reach", "takeFollow", "(IIII)Z"⟩, 12) := ⟨⟨by decide +kernel, by decide +kernel⟩, List.mem_of_getElem? (i := 107) (by decide +kernel), List.mem_of_getElem? (i := 653) (by decide +kernel), List.mem_of_getElem? (i := 654) (by decide +kernel)⟩
theorem lw_p33 : lw_okq (⟨"DataShrinker$Reach", "makeSimple", "(II)V"⟩, 12) := ⟨⟨by decide +kernel, by decide +kernel⟩, List.mem_of_getElem? (i := 107) (by decide +kernel), List.mem_of_getElem? (i := 657) (by decide +kernel), List.mem_of_getElem? (i := 658) (by decide +kernel)⟩
theorem lw_p34 : lw_okq (⟨"DataShrinker$Reach", "compare", "(II)V"⟩, 12) := ⟨⟨by decide +kernel, by decide +kernel⟩, List.mem_of_getElem? (i := 107) (by decide +kernel), List.mem_of_getElem? (i := 677) (by decide +kernel), List.mem_of_getElem? (i := 678) (by decide +kernel)⟩
theorem lw_p35 : lw_okq (⟨"DataShrinker$Chains", "stepOn", "(JI)J"⟩, 2) := ⟨⟨by decide +kernel, by decide +kernel⟩, List.mem_of_getElem? (i := 113) (by decide +kernel), List.mem_of_getElem? (i := 687) (by decide +kernel), List.mem_of_getElem? (i := 688) (by decide +kernel)⟩
theorem lw_p36 : lw_okq (⟨"DataShrinker$Layout", "begin", "()V"⟩, 14) := ⟨⟨by decide +kernel, by decide +kernel⟩, List.mem_of_getElem? (i := 173) (by decide +kernel), List.mem_of_getElem? (i := 696) (by decide +kernel), List.mem_of_getElem? (i := 697) (by decide +kernel)⟩
theorem lw_p37 : lw_okq (⟨"DataShrinker$Layout", "keepItems", "()V"⟩, 14) := ⟨⟨by decide +kernel, by decide +kernel⟩, List.mem_of_getElem? (i := 173) (by decide +kernel), List.mem_of_getElem? (i := 702) (by decide +kernel), List.mem_of_getElem? (i := 703) (by decide +kernel)⟩
theorem lw_p38 : lw_okq (⟨"DataShrinker$Layout", "keepGroups", "()V"⟩, 14) := ⟨⟨by decide +kernel, by decide +kernel⟩, List.mem_of_getElem? (i := 173) (by decide +kernel), List.mem_of_getElem? (i := 706) (by decide +kernel), List.mem_of_getElem? (i := 707) (by decide +kernel)⟩
theorem lw_p39 : lw_okq (⟨"DataShrinker$Layout", "findStill", "()V"⟩, 14) := ⟨⟨by decide +kernel, by decide +kernel⟩, List.mem_of_getElem? (i := 173) (by decide +kernel), List.mem_of_getElem? (i := 710) (by decide +kernel), List.mem_of_getElem? (i := 711) (by decide +kernel)⟩
theorem lw_p40 : lw_okq (⟨"DataShrinker$Layout", "joinAlike", "()V"⟩, 14) := ⟨⟨by decide +kernel, by decide +kernel⟩, List.mem_of_getElem? (i := 173) (by decide +kernel), List.mem_of_getElem? (i := 714) (by decide +kernel), List.mem_of_getElem? (i := 715) (by decide +kernel)⟩
theorem lw_p41 : lw_okq (⟨"DataShrinker$Layout", "standsStill", "(I)Z"⟩, 14) := ⟨⟨by decide +kernel, by decide +kernel⟩, List.mem_of_getElem? (i := 173) (by decide +kernel), List.mem_of_getElem? (i := 718) (by decide +kernel), List.mem_of_getElem? (i := 719) (by decide +kernel)⟩
theorem lw_p42 : lw_okq (⟨"DataShrinker$Layout", "endsWith", "(II)Z"⟩, 14) := ⟨⟨by decide +kernel, by decide +kernel⟩, List.mem_of_getElem? (i := 173) (by decide +kernel), List.mem_of_getElem? (i := 722) (by decide +kernel), List.mem_of_getElem? (i := 723) (by decide +kernel)⟩
theorem lw_p43 : lw_okq (⟨"DataShrinker$Layout", "layTails", "()V"⟩, 14) := ⟨⟨by decide +kernel, by decide +kernel⟩, List.mem_of_getElem? (i := 173) (by decide +kernel), List.mem_of_getElem? (i := 729) (by decide +kernel), List.mem_of_getElem? (i := 730) (by decide +kernel)⟩
theorem lw_p44 : lw_okq (⟨"DataShrinker$Layout", "holdsAny", "(I)Z"⟩, 14) := ⟨⟨by decide +kernel, by decide +kernel⟩, List.mem_of_getElem? (i := 173) (by decide +kernel), List.mem_of_getElem? (i := 733) (by decide +kernel), List.mem_of_getElem? (i := 734) (by decide +kernel)⟩
theorem lw_p45 : lw_okq (⟨"DataShrinker$Layout", "findOuter", "(I)I"⟩, 14) := ⟨⟨by decide +kernel, by decide +kernel⟩, List.mem_of_getElem? (i := 173) (by decide +kernel), List.mem_of_getElem? (i := 737) (by decide +kernel), List.mem_of_getElem? (i := 738) (by decide +kernel)⟩
theorem lw_p46 : lw_okq (⟨"DataShrinker$Layout", "fitsAlign", "(II)Z"⟩, 14) := ⟨⟨by decide +kernel, by decide +kernel⟩, List.mem_of_getElem? (i := 173) (by decide +kernel), List.mem_of_getElem? (i := 741) (by decide +kernel), List.mem_of_getElem? (i := 742) (by decide +kernel)⟩
theorem lw_p47 : lw_okq (⟨"DataShrinker$Layout", "listBlocks", "()V"⟩, 14) := ⟨⟨by decide +kernel, by decide +kernel⟩, List.mem_of_getElem? (i := 173) (by decide +kernel), List.mem_of_getElem? (i := 745) (by decide +kernel), List.mem_of_getElem? (i := 746) (by decide +kernel)⟩
def lw_privs_3 : List (MethodName × Nat) := [(⟨"DataShrinker$Reach", "takeFollow", "(IIII)Z"⟩, 12), (⟨"DataShrinker$Reach", "makeSimple", "(II)V"⟩, 12), (⟨"DataShrinker$Reach", "compare", "(II)V"⟩, 12), (⟨"DataShrinker$Chains", "stepOn", "(JI)J"⟩, 2), (⟨"DataShrinker$Layout", "begin", "()V"⟩, 14), (⟨"DataShrinker$Layout", "keepItems", "()V"⟩, 14), (⟨"DataShrinker$Layout", "keepGroups", "()V"⟩, 14), (⟨"DataShrinker$Layout", "findStill", "()V"⟩, 14), (⟨"DataShrinker$Layout", "joinAlike", "()V"⟩, 14), (⟨"DataShrinker$Layout", "standsStill", "(I)Z"⟩, 14), (⟨"DataShrinker$Layout", "endsWith", "(II)Z"⟩, 14), (⟨"DataShrinker$Layout", "layTails", "()V"⟩, 14), (⟨"DataShrinker$Layout", "holdsAny", "(I)Z"⟩, 14), (⟨"DataShrinker$Layout", "findOuter", "(I)I"⟩, 14), (⟨"DataShrinker$Layout", "fitsAlign", "(II)Z"⟩, 14), (⟨"DataShrinker$Layout", "listBlocks", "()V"⟩, 14)]
theorem lw_r3 : ∀ q ∈ lw_privs_3, lw_okq q := List.forall_mem_cons.mpr ⟨lw_p32, List.forall_mem_cons.mpr ⟨lw_p33, List.forall_mem_cons.mpr ⟨lw_p34, List.forall_mem_cons.mpr ⟨lw_p35, List.forall_mem_cons.mpr ⟨lw_p36, List.forall_mem_cons.mpr ⟨lw_p37, List.forall_mem_cons.mpr ⟨lw_p38, List.forall_mem_cons.mpr ⟨lw_p39, List.forall_mem_cons.mpr ⟨lw_p40, List.forall_mem_cons.mpr ⟨lw_p41, List.forall_mem_cons.mpr ⟨lw_p42, List.forall_mem_cons.mpr ⟨lw_p43, List.forall_mem_cons.mpr ⟨lw_p44, List.forall_mem_cons.mpr ⟨lw_p45, List.forall_mem_cons.mpr ⟨lw_p46, List.forall_mem_cons.mpr ⟨lw_p47, fun _ h => absurd h List.not_mem_nil⟩⟩⟩⟩⟩⟩⟩⟩⟩⟩⟩⟩⟩⟩⟩⟩
theorem lw_p48 : lw_okq (⟨"DataShrinker$BlockOrder", "measure", "(I[I[I)V"⟩, 2) := ⟨⟨by decide +kernel, by decide +kernel⟩, List.mem_of_getElem? (i := 179) (by decide +kernel), List.mem_of_getElem? (i := 758) (by decide +kernel), List.mem_of_getElem? (i := 759) (by decide +kernel)⟩
theorem lw_p49 : lw_okq (⟨"DataShrinker$BlockOrder", "need", "(III[I[I)I"⟩, 2) := ⟨⟨by decide +kernel, by decide +kernel⟩, List.mem_of_getElem? (i := 179) (by decide +kernel), List.mem_of_getElem? (i := 763) (by decide +kernel), List.mem_of_getElem? (i := 764) (by decide +kernel)⟩
theorem lw_p50 : lw_okq (⟨"DataShrinker$BlockOrder", "choose", "(III[I[I)I"⟩, 2) := ⟨⟨by decide +kernel, by decide +kernel⟩, List.mem_of_getElem? (i := 179) (by decide +kernel), List.mem_of_getElem? (i := 771) (by decide +kernel), List.mem_of_getElem? (i := 772) (by decide +kernel)⟩
theorem lw_p51 : lw_okq (⟨"DataShrinker$Layout", "placeBlocks", "()V"⟩, 14) := ⟨⟨by decide +kernel, by decide +kernel⟩, List.mem_of_getElem? (i := 173) (by decide +kernel), List.mem_of_getElem? (i := 775) (by decide +kernel), List.mem_of_getElem? (i := 776) (by decide +kernel)⟩
theorem lw_p52 : lw_okq (⟨"DataShrinker$Layout", "placeOthers", "()V"⟩, 14) := ⟨⟨by decide +kernel, by decide +kernel⟩, List.mem_of_getElem? (i := 173) (by decide +kernel), List.mem_of_getElem? (i := 780) (by decide +kernel), List.mem_of_getElem? (i := 781) (by decide +kernel)⟩
theorem lw_p53 : lw_okq (⟨"DataShrinker$Layout", "writeOctets", "()V"⟩, 14) := ⟨⟨by decide +kernel, by decide +kernel⟩, List.mem_of_getElem? (i := 173) (by decide +kernel), List.mem_of_getElem? (i := 784) (by decide +kernel), List.mem_of_getElem? (i := 785) (by decide +kernel)⟩
theorem lw_p54 : lw_okq (⟨"DataShrinker", "hadItem", "(I)Z"⟩, 6) := ⟨⟨by decide +kernel, by decide +kernel⟩, List.mem_of_getElem? (i := 16) (by decide +kernel), List.mem_of_getElem? (i := 792) (by decide +kernel), List.mem_of_getElem? (i := 793) (by decide +kernel)⟩
theorem lw_p55 : lw_okq (⟨"DataShrinker$Layout", "isDropped", "(I)Z"⟩, 14) := ⟨⟨by decide +kernel, by decide +kernel⟩, List.mem_of_getElem? (i := 173) (by decide +kernel), List.mem_of_getElem? (i := 849) (by decide +kernel), List.mem_of_getElem? (i := 850) (by decide +kernel)⟩
theorem lw_p56 : lw_okq (⟨"DataShrinkerModel", "has", "(II)Z"⟩, 59) := ⟨⟨by decide +kernel, by decide +kernel⟩, List.mem_of_getElem? (i := 860) (by decide +kernel), List.mem_of_getElem? (i := 1054) (by decide +kernel), List.mem_of_getElem? (i := 1055) (by decide +kernel)⟩
theorem lw_p57 : lw_okq (⟨"DataShrinkerModel", "goes", "(I)I"⟩, 59) := ⟨⟨by decide +kernel, by decide +kernel⟩, List.mem_of_getElem? (i := 860) (by decide +kernel), List.mem_of_getElem? (i := 1096) (by decide +kernel), List.mem_of_getElem? (i := 1097) (by decide +kernel)⟩
theorem lw_p58 : lw_okq (⟨"DataShrinkerModel", "place", "(II)I"⟩, 59) := ⟨⟨by decide +kernel, by decide +kernel⟩, List.mem_of_getElem? (i := 860) (by decide +kernel), List.mem_of_getElem? (i := 1100) (by decide +kernel), List.mem_of_getElem? (i := 1101) (by decide +kernel)⟩
theorem lw_p59 : lw_okq (⟨"DataShrinkerModel", "reach", "()V"⟩, 59) := ⟨⟨by decide +kernel, by decide +kernel⟩, List.mem_of_getElem? (i := 860) (by decide +kernel), List.mem_of_getElem? (i := 1120) (by decide +kernel), List.mem_of_getElem? (i := 1121) (by decide +kernel)⟩
theorem lw_p60 : lw_okq (⟨"DataShrinkerModel", "comes", "(II)V"⟩, 59) := ⟨⟨by decide +kernel, by decide +kernel⟩, List.mem_of_getElem? (i := 860) (by decide +kernel), List.mem_of_getElem? (i := 1124) (by decide +kernel), List.mem_of_getElem? (i := 1125) (by decide +kernel)⟩
theorem lw_p61 : lw_okq (⟨"DataShrinkerModel", "takes", "(II)V"⟩, 59) := ⟨⟨by decide +kernel, by decide +kernel⟩, List.mem_of_getElem? (i := 860) (by decide +kernel), List.mem_of_getElem? (i := 1128) (by decide +kernel), List.mem_of_getElem? (i := 1129) (by decide +kernel)⟩
theorem lw_p62 : lw_okq (⟨"DataShrinkerModel", "returned", "(I)V"⟩, 59) := ⟨⟨by decide +kernel, by decide +kernel⟩, List.mem_of_getElem? (i := 860) (by decide +kernel), List.mem_of_getElem? (i := 1132) (by decide +kernel), List.mem_of_getElem? (i := 1133) (by decide +kernel)⟩
theorem lw_p63 : lw_okq (⟨"DataShrinkerModel", "empty", "()V"⟩, 59) := ⟨⟨by decide +kernel, by decide +kernel⟩, List.mem_of_getElem? (i := 860) (by decide +kernel), List.mem_of_getElem? (i := 1136) (by decide +kernel), List.mem_of_getElem? (i := 1137) (by decide +kernel)⟩
def lw_privs_4 : List (MethodName × Nat) := [(⟨"DataShrinker$BlockOrder", "measure", "(I[I[I)V"⟩, 2), (⟨"DataShrinker$BlockOrder", "need", "(III[I[I)I"⟩, 2), (⟨"DataShrinker$BlockOrder", "choose", "(III[I[I)I"⟩, 2), (⟨"DataShrinker$Layout", "placeBlocks", "()V"⟩, 14), (⟨"DataShrinker$Layout", "placeOthers", "()V"⟩, 14), (⟨"DataShrinker$Layout", "writeOctets", "()V"⟩, 14), (⟨"DataShrinker", "hadItem", "(I)Z"⟩, 6), (⟨"DataShrinker$Layout", "isDropped", "(I)Z"⟩, 14), (⟨"DataShrinkerModel", "has", "(II)Z"⟩, 59), (⟨"DataShrinkerModel", "goes", "(I)I"⟩, 59), (⟨"DataShrinkerModel", "place", "(II)I"⟩, 59), (⟨"DataShrinkerModel", "reach", "()V"⟩, 59), (⟨"DataShrinkerModel", "comes", "(II)V"⟩, 59), (⟨"DataShrinkerModel", "takes", "(II)V"⟩, 59), (⟨"DataShrinkerModel", "returned", "(I)V"⟩, 59), (⟨"DataShrinkerModel", "empty", "()V"⟩, 59)]
theorem lw_r4 : ∀ q ∈ lw_privs_4, lw_okq q := List.forall_mem_cons.mpr ⟨lw_p48, List.forall_mem_cons.mpr ⟨lw_p49, List.forall_mem_cons.mpr ⟨lw_p50, List.forall_mem_cons.mpr ⟨lw_p51, List.forall_mem_cons.mpr ⟨lw_p52, List.forall_mem_cons.mpr ⟨lw_p53, List.forall_mem_cons.mpr ⟨lw_p54, List.forall_mem_cons.mpr ⟨lw_p55, List.forall_mem_cons.mpr ⟨lw_p56, List.forall_mem_cons.mpr ⟨lw_p57, List.forall_mem_cons.mpr ⟨lw_p58, List.forall_mem_cons.mpr ⟨lw_p59, List.forall_mem_cons.mpr ⟨lw_p60, List.forall_mem_cons.mpr ⟨lw_p61, List.forall_mem_cons.mpr ⟨lw_p62, List.forall_mem_cons.mpr ⟨lw_p63, fun _ h => absurd h List.not_mem_nil⟩⟩⟩⟩⟩⟩⟩⟩⟩⟩⟩⟩⟩⟩⟩⟩
theorem lw_p64 : lw_okq (⟨"DataShrinkerModel", "put", "(I)V"⟩, 59) := ⟨⟨by decide +kernel, by decide +kernel⟩, List.mem_of_getElem? (i := 860) (by decide +kernel), List.mem_of_getElem? (i := 1140) (by decide +kernel), List.mem_of_getElem? (i := 1141) (by decide +kernel)⟩
theorem lw_p65 : lw_okq (⟨"DataShrinkerModel", "gets", "(I)V"⟩, 59) := ⟨⟨by decide +kernel, by decide +kernel⟩, List.mem_of_getElem? (i := 860) (by decide +kernel), List.mem_of_getElem? (i := 1144) (by decide +kernel), List.mem_of_getElem? (i := 1145) (by decide +kernel)⟩
theorem lw_p66 : lw_okq (⟨"DataShrinkerModel", "hasValue", "([JII)Z"⟩, 59) := ⟨⟨by decide +kernel, by decide +kernel⟩, List.mem_of_getElem? (i := 860) (by decide +kernel), List.mem_of_getElem? (i := 1148) (by decide +kernel), List.mem_of_getElem? (i := 1149) (by decide +kernel)⟩
theorem lw_p67 : lw_okq (⟨"DataShrinkerModel", "loads", "(II)Z"⟩, 59) := ⟨⟨by decide +kernel, by decide +kernel⟩, List.mem_of_getElem? (i := 860) (by decide +kernel), List.mem_of_getElem? (i := 1152) (by decide +kernel), List.mem_of_getElem? (i := 1153) (by decide +kernel)⟩
theorem lw_p68 : lw_okq (⟨"DataShrinkerModel", "stores", "(III)Z"⟩, 59) := ⟨⟨by decide +kernel, by decide +kernel⟩, List.mem_of_getElem? (i := 860) (by decide +kernel), List.mem_of_getElem? (i := 1156) (by decide +kernel), List.mem_of_getElem? (i := 1157) (by decide +kernel)⟩
theorem lw_p69 : lw_okq (⟨"DataShrinkerModel", "skips", "(IIII)Z"⟩, 59) := ⟨⟨by decide +kernel, by decide +kernel⟩, List.mem_of_getElem? (i := 860) (by decide +kernel), List.mem_of_getElem? (i := 1160) (by decide +kernel), List.mem_of_getElem? (i := 1161) (by decide +kernel)⟩
theorem lw_p70 : lw_okq (⟨"DataShrinkerModel", "follows", "(II)Z"⟩, 59) := ⟨⟨by decide +kernel, by decide +kernel⟩, List.mem_of_getElem? (i := 860) (by decide +kernel), List.mem_of_getElem? (i := 1166) (by decide +kernel), List.mem_of_getElem? (i := 1167) (by decide +kernel)⟩
theorem lw_p71 : lw_okq (⟨"DataShrinkerModel", "keeps", "()V"⟩, 59) := ⟨⟨by decide +kernel, by decide +kernel⟩, List.mem_of_getElem? (i := 860) (by decide +kernel), List.mem_of_getElem? (i := 1170) (by decide +kernel), List.mem_of_getElem? (i := 1171) (by decide +kernel)⟩
theorem lw_p72 : lw_okq (⟨"DataShrinkerModel", "reads", "(I)Z"⟩, 59) := ⟨⟨by decide +kernel, by decide +kernel⟩, List.mem_of_getElem? (i := 860) (by decide +kernel), List.mem_of_getElem? (i := 1174) (by decide +kernel), List.mem_of_getElem? (i := 1175) (by decide +kernel)⟩
theorem lw_p73 : lw_okq (⟨"DataShrinkerModel", "chains", "()V"⟩, 59) := ⟨⟨by decide +kernel, by decide +kernel⟩, List.mem_of_getElem? (i := 860) (by decide +kernel), List.mem_of_getElem? (i := 1178) (by decide +kernel), List.mem_of_getElem? (i := 1179) (by decide +kernel)⟩
theorem lw_p74 : lw_okq (⟨"DataShrinkerModel", "leads", "(II)V"⟩, 59) := ⟨⟨by decide +kernel, by decide +kernel⟩, List.mem_of_getElem? (i := 860) (by decide +kernel), List.mem_of_getElem? (i := 1182) (by decide +kernel), List.mem_of_getElem? (i := 1183) (by decide +kernel)⟩
theorem lw_p75 : lw_okq (⟨"DataShrinkerModel", "readsBy", "(IZ)Z"⟩, 59) := ⟨⟨by decide +kernel, by decide +kernel⟩, List.mem_of_getElem? (i := 860) (by decide +kernel), List.mem_of_getElem? (i := 1186) (by decide +kernel), List.mem_of_getElem? (i := 1187) (by decide +kernel)⟩
theorem lw_p76 : lw_okq (⟨"DataShrinkerModel", "lays", "()V"⟩, 59) := ⟨⟨by decide +kernel, by decide +kernel⟩, List.mem_of_getElem? (i := 860) (by decide +kernel), List.mem_of_getElem? (i := 1190) (by decide +kernel), List.mem_of_getElem? (i := 1191) (by decide +kernel)⟩
theorem lw_p77 : lw_okq (⟨"DataShrinkerModel", "joins", "()V"⟩, 59) := ⟨⟨by decide +kernel, by decide +kernel⟩, List.mem_of_getElem? (i := 860) (by decide +kernel), List.mem_of_getElem? (i := 1194) (by decide +kernel), List.mem_of_getElem? (i := 1195) (by decide +kernel)⟩
theorem lw_p78 : lw_okq (⟨"DataShrinkerModel", "refers", "(I)Z"⟩, 59) := ⟨⟨by decide +kernel, by decide +kernel⟩, List.mem_of_getElem? (i := 860) (by decide +kernel), List.mem_of_getElem? (i := 1198) (by decide +kernel), List.mem_of_getElem? (i := 1199) (by decide +kernel)⟩
theorem lw_p79 : lw_okq (⟨"DataShrinkerModel", "endsWith", "(II)Z"⟩, 59) := ⟨⟨by decide +kernel, by decide +kernel⟩, List.mem_of_getElem? (i := 860) (by decide +kernel), List.mem_of_getElem? (i := 1202) (by decide +kernel), List.mem_of_getElem? (i := 1203) (by decide +kernel)⟩
def lw_privs_5 : List (MethodName × Nat) := [(⟨"DataShrinkerModel", "put", "(I)V"⟩, 59), (⟨"DataShrinkerModel", "gets", "(I)V"⟩, 59), (⟨"DataShrinkerModel", "hasValue", "([JII)Z"⟩, 59), (⟨"DataShrinkerModel", "loads", "(II)Z"⟩, 59), (⟨"DataShrinkerModel", "stores", "(III)Z"⟩, 59), (⟨"DataShrinkerModel", "skips", "(IIII)Z"⟩, 59), (⟨"DataShrinkerModel", "follows", "(II)Z"⟩, 59), (⟨"DataShrinkerModel", "keeps", "()V"⟩, 59), (⟨"DataShrinkerModel", "reads", "(I)Z"⟩, 59), (⟨"DataShrinkerModel", "chains", "()V"⟩, 59), (⟨"DataShrinkerModel", "leads", "(II)V"⟩, 59), (⟨"DataShrinkerModel", "readsBy", "(IZ)Z"⟩, 59), (⟨"DataShrinkerModel", "lays", "()V"⟩, 59), (⟨"DataShrinkerModel", "joins", "()V"⟩, 59), (⟨"DataShrinkerModel", "refers", "(I)Z"⟩, 59), (⟨"DataShrinkerModel", "endsWith", "(II)Z"⟩, 59)]
theorem lw_r5 : ∀ q ∈ lw_privs_5, lw_okq q := List.forall_mem_cons.mpr ⟨lw_p64, List.forall_mem_cons.mpr ⟨lw_p65, List.forall_mem_cons.mpr ⟨lw_p66, List.forall_mem_cons.mpr ⟨lw_p67, List.forall_mem_cons.mpr ⟨lw_p68, List.forall_mem_cons.mpr ⟨lw_p69, List.forall_mem_cons.mpr ⟨lw_p70, List.forall_mem_cons.mpr ⟨lw_p71, List.forall_mem_cons.mpr ⟨lw_p72, List.forall_mem_cons.mpr ⟨lw_p73, List.forall_mem_cons.mpr ⟨lw_p74, List.forall_mem_cons.mpr ⟨lw_p75, List.forall_mem_cons.mpr ⟨lw_p76, List.forall_mem_cons.mpr ⟨lw_p77, List.forall_mem_cons.mpr ⟨lw_p78, List.forall_mem_cons.mpr ⟨lw_p79, fun _ h => absurd h List.not_mem_nil⟩⟩⟩⟩⟩⟩⟩⟩⟩⟩⟩⟩⟩⟩⟩⟩
theorem lw_p80 : lw_okq (⟨"DataShrinkerModel", "tries", "()V"⟩, 59) := ⟨⟨by decide +kernel, by decide +kernel⟩, List.mem_of_getElem? (i := 860) (by decide +kernel), List.mem_of_getElem? (i := 1206) (by decide +kernel), List.mem_of_getElem? (i := 1207) (by decide +kernel)⟩
theorem lw_p81 : lw_okq (⟨"DataShrinkerModel", "bytesOf", "()I"⟩, 59) := ⟨⟨by decide +kernel, by decide +kernel⟩, List.mem_of_getElem? (i := 860) (by decide +kernel), List.mem_of_getElem? (i := 1210) (by decide +kernel), List.mem_of_getElem? (i := 1211) (by decide +kernel)⟩
theorem lw_p82 : lw_okq (⟨"DataShrinkerModel", "wasItem", "(I)Z"⟩, 59) := ⟨⟨by decide +kernel, by decide +kernel⟩, List.mem_of_getElem? (i := 860) (by decide +kernel), List.mem_of_getElem? (i := 1221) (by decide +kernel), List.mem_of_getElem? (i := 1222) (by decide +kernel)⟩
def lw_privs_6 : List (MethodName × Nat) := [(⟨"DataShrinkerModel", "tries", "()V"⟩, 59), (⟨"DataShrinkerModel", "bytesOf", "()I"⟩, 59), (⟨"DataShrinkerModel", "wasItem", "(I)Z"⟩, 59)]
theorem lw_r6 : ∀ q ∈ lw_privs_6, lw_okq q := List.forall_mem_cons.mpr ⟨lw_p80, List.forall_mem_cons.mpr ⟨lw_p81, List.forall_mem_cons.mpr ⟨lw_p82, fun _ h => absurd h List.not_mem_nil⟩⟩⟩
def lw_privs : List (MethodName × Nat) := lw_privs_1 ++ (lw_privs_2 ++ (lw_privs_3 ++ (lw_privs_4 ++ (lw_privs_5 ++ (lw_privs_6)))))
def lw_tbl : List Cond := k2_sels lw_privs ++ tables_1
theorem lw_privs_ok : ∀ q ∈ lw_privs, lw_okq q := by
  show ∀ q ∈ lw_privs_1 ++ (lw_privs_2 ++ (lw_privs_3 ++ (lw_privs_4 ++ (lw_privs_5 ++ (lw_privs_6))))), lw_okq q
  exact List.forall_mem_append.mpr ⟨lw_r1, List.forall_mem_append.mpr ⟨lw_r2, List.forall_mem_append.mpr ⟨lw_r3, List.forall_mem_append.mpr ⟨lw_r4, List.forall_mem_append.mpr ⟨lw_r5, lw_r6⟩⟩⟩⟩⟩
theorem xmem {ws : List Cond} (ps : List Nat) (h : ws = ps.filterMap (fun i => lw_tbl[i]?)) : ∀ w ∈ ws, w ∈ lw_tbl := by
  intro w hw
  rw [h] at hw
  obtain ⟨i, -, hi⟩ := List.mem_filterMap.mp hw
  exact List.mem_of_getElem? hi
def xR0 : String := "DataShrinker$BlockOrder"
def xF0 : u_T := fun k => match k with
  | 0 => ("DataShrinker$BlockOrder", "taken", "[I", true)
  | _ => ("DataShrinker$BlockOrder", "fewest", "[I", true)
def xY0 : Nat → FieldType := fun k => match k with
  | 0 => .array .int
  | _ => .array .int
theorem xn0 : ∀ a, a < 2 → ∀ b, b < 2 → a ≠ b → (xF0 a).2.1 ≠ (xF0 b).2.1 := by decide +kernel
theorem xt0 : ∀ k, k < 2 → parseFieldDescriptor (xF0 k).2.2.1 = some (xY0 k) := by decide +kernel
set_option maxRecDepth 20000 in
theorem xi0 : ∀ w ∈ u_ws xR0 xF0 2, w ∈ lw_tbl := xmem [269, 271] rfl
def xR1 : String := "DataShrinker$Chains"
def xF1 : u_T := fun k => match k with
  | 0 => ("DataShrinker$Chains", "leads", "[J", true)
  | _ => ("DataShrinker$Chains", "lengths", "[I", true)
def xY1 : Nat → FieldType := fun k => match k with
  | 0 => .array .long
  | _ => .array .int
theorem xn1 : ∀ a, a < 2 → ∀ b, b < 2 → a ≠ b → (xF1 a).2.1 ≠ (xF1 b).2.1 := by decide +kernel
theorem xt1 : ∀ k, k < 2 → parseFieldDescriptor (xF1 k).2.2.1 = some (xY1 k) := by decide +kernel
set_option maxRecDepth 20000 in
theorem xi1 : ∀ w ∈ u_ws xR1 xF1 2, w ∈ lw_tbl := xmem [204, 206] rfl
def xR2 : String := "DataShrinker$Layout"
def xF2 : u_T := fun k => match k with
  | 0 => ("DataShrinker$Layout", "program", "LDataShrinker$Program;", true)
  | 1 => ("DataShrinker$Layout", "reach", "LDataShrinker$Reach;", true)
  | 2 => ("DataShrinker$Layout", "order", "LDataShrinker$BlockOrder;", true)
  | 3 => ("DataShrinker$Layout", "size", "[I", true)
  | 4 => ("DataShrinker$Layout", "align", "[I", true)
  | 5 => ("DataShrinker$Layout", "isKept", "[Z", true)
  | 6 => ("DataShrinker$Layout", "isStill", "[Z", true)
  | 7 => ("DataShrinker$Layout", "standIn", "[I", true)
  | 8 => ("DataShrinker$Layout", "outer", "[I", true)
  | 9 => ("DataShrinker$Layout", "address", "[I", true)
  | 10 => ("DataShrinker$Layout", "blocks", "[I", true)
  | 11 => ("DataShrinker$Layout", "blockCount", "I", false)
  | 12 => ("DataShrinker$Layout", "octets", "[I", true)
  | _ => ("DataShrinker$Layout", "total", "I", false)
def xY2 : Nat → FieldType := fun k => match k with
  | 0 => .object "DataShrinker$Program"
  | 1 => .object "DataShrinker$Reach"
  | 2 => .object "DataShrinker$BlockOrder"
  | 3 => .array .int
  | 4 => .array .int
  | 5 => .array .boolean
  | 6 => .array .boolean
  | 7 => .array .int
  | 8 => .array .int
  | 9 => .array .int
  | 10 => .array .int
  | 11 => .int
  | 12 => .array .int
  | _ => .int
theorem xn2 : ∀ a, a < 14 → ∀ b, b < 14 → a ≠ b → (xF2 a).2.1 ≠ (xF2 b).2.1 := by decide +kernel
theorem xt2 : ∀ k, k < 14 → parseFieldDescriptor (xF2 k).2.2.1 = some (xY2 k) := by decide +kernel
set_option maxRecDepth 20000 in
theorem xi2 : ∀ w ∈ u_ws xR2 xF2 14, w ∈ lw_tbl := xmem [298, 300, 302, 304, 306, 308, 310, 312, 314, 316, 318, 320, 322, 324] rfl
def xR3 : String := "DataShrinker$Machine"
def xF3 : u_T := fun k => match k with
  | 0 => ("DataShrinker$Machine", "program", "LDataShrinker$Program;", true)
  | 1 => ("DataShrinker$Machine", "memory", "[I", true)
  | 2 => ("DataShrinker$Machine", "home", "[I", true)
  | 3 => ("DataShrinker$Machine", "registers", "[I", true)
  | 4 => ("DataShrinker$Machine", "callers", "[I", true)
  | 5 => ("DataShrinker$Machine", "returns", "[I", true)
  | 6 => ("DataShrinker$Machine", "sent", "[I", true)
  | 7 => ("DataShrinker$Machine", "hasWorked", "Z", false)
  | 8 => ("DataShrinker$Machine", "open", "I", false)
  | 9 => ("DataShrinker$Machine", "current", "I", false)
  | 10 => ("DataShrinker$Machine", "place", "I", false)
  | 11 => ("DataShrinker$Machine", "inputTaken", "I", false)
  | 12 => ("DataShrinker$Machine", "sentCount", "I", false)
  | _ => ("DataShrinker$Machine", "done", "I", false)
def xY3 : Nat → FieldType := fun k => match k with
  | 0 => .object "DataShrinker$Program"
  | 1 => .array .int
  | 2 => .array .int
  | 3 => .array .int
  | 4 => .array .int
  | 5 => .array .int
  | 6 => .array .int
  | 7 => .boolean
  | 8 => .int
  | 9 => .int
  | 10 => .int
  | 11 => .int
  | 12 => .int
  | _ => .int
theorem xn3 : ∀ a, a < 14 → ∀ b, b < 14 → a ≠ b → (xF3 a).2.1 ≠ (xF3 b).2.1 := by decide +kernel
theorem xt3 : ∀ k, k < 14 → parseFieldDescriptor (xF3 k).2.2.1 = some (xY3 k) := by decide +kernel
set_option maxRecDepth 20000 in
theorem xi3 : ∀ w ∈ u_ws xR3 xF3 14, w ∈ lw_tbl := xmem [347, 349, 351, 353, 355, 357, 359, 361, 363, 365, 367, 369, 371, 373] rfl
def xR4 : String := "DataShrinker$Program"
def xF4 : u_T := fun k => match k with
  | 0 => ("DataShrinker$Program", "size", "[I", true)
  | 1 => ("DataShrinker$Program", "align", "[I", true)
  | 2 => ("DataShrinker$Program", "group", "[I", true)
  | 3 => ("DataShrinker$Program", "isVital", "[Z", true)
  | 4 => ("DataShrinker$Program", "octets", "[I", true)
  | 5 => ("DataShrinker$Program", "leadsTo", "[I", true)
  | 6 => ("DataShrinker$Program", "references", "[J", true)
  | 7 => ("DataShrinker$Program", "length", "[I", true)
  | 8 => ("DataShrinker$Program", "op", "[I", true)
  | 9 => ("DataShrinker$Program", "a", "[I", true)
  | 10 => ("DataShrinker$Program", "b", "[I", true)
  | 11 => ("DataShrinker$Program", "c", "[I", true)
  | 12 => ("DataShrinker$Program", "isEntry", "[Z", true)
  | 13 => ("DataShrinker$Program", "given", "[I", true)
  | _ => ("DataShrinker$Program", "inputLength", "I", false)
def xY4 : Nat → FieldType := fun k => match k with
  | 0 => .array .int
  | 1 => .array .int
  | 2 => .array .int
  | 3 => .array .boolean
  | 4 => .array .int
  | 5 => .array .int
  | 6 => .array .long
  | 7 => .array .int
  | 8 => .array .int
  | 9 => .array .int
  | 10 => .array .int
  | 11 => .array .int
  | 12 => .array .boolean
  | 13 => .array .int
  | _ => .int
theorem xn4 : ∀ a, a < 15 → ∀ b, b < 15 → a ≠ b → (xF4 a).2.1 ≠ (xF4 b).2.1 := by decide +kernel
theorem xt4 : ∀ k, k < 15 → parseFieldDescriptor (xF4 k).2.2.1 = some (xY4 k) := by decide +kernel
set_option maxRecDepth 20000 in
theorem xi4 : ∀ w ∈ u_ws xR4 xF4 15, w ∈ lw_tbl := xmem [155, 157, 159, 161, 163, 165, 167, 169, 171, 173, 175, 177, 179, 181, 183] rfl
def xR5 : String := "DataShrinker$Reach"
def xF5 : u_T := fun k => match k with
  | 0 => ("DataShrinker$Reach", "program", "LDataShrinker$Program;", true)
  | 1 => ("DataShrinker$Reach", "chains", "LDataShrinker$Chains;", true)
  | 2 => ("DataShrinker$Reach", "length", "[I", true)
  | 3 => ("DataShrinker$Reach", "states", "[J", true)
  | 4 => ("DataShrinker$Reach", "stand", "[J", true)
  | 5 => ("DataShrinker$Reach", "comeTo", "[J", true)
  | 6 => ("DataShrinker$Reach", "waiting", "[J", true)
  | 7 => ("DataShrinker$Reach", "sites", "[J", true)
  | 8 => ("DataShrinker$Reach", "made", "[J", true)
  | 9 => ("DataShrinker$Reach", "placesRead", "[J", true)
  | 10 => ("DataShrinker$Reach", "isWritten", "[Z", true)
  | _ => ("DataShrinker$Reach", "isCompared", "[Z", true)
def xY5 : Nat → FieldType := fun k => match k with
  | 0 => .object "DataShrinker$Program"
  | 1 => .object "DataShrinker$Chains"
  | 2 => .array .int
  | 3 => .array .long
  | 4 => .array .long
  | 5 => .array .long
  | 6 => .array .long
  | 7 => .array .long
  | 8 => .array .long
  | 9 => .array .long
  | 10 => .array .boolean
  | _ => .array .boolean
theorem xn5 : ∀ a, a < 12 → ∀ b, b < 12 → a ≠ b → (xF5 a).2.1 ≠ (xF5 b).2.1 := by decide +kernel
theorem xt5 : ∀ k, k < 12 → parseFieldDescriptor (xF5 k).2.2.1 = some (xY5 k) := by decide +kernel
set_option maxRecDepth 20000 in
theorem xi5 : ∀ w ∈ u_ws xR5 xF5 12, w ∈ lw_tbl := xmem [230, 232, 234, 236, 238, 240, 242, 244, 246, 248, 250, 252] rfl
def xR6 : String := "DataShrinker"
def xF6 : u_T := fun k => match k with
  | 0 => ("DataShrinker", "program", "LDataShrinker$Program;", true)
  | 1 => ("DataShrinker", "reach", "LDataShrinker$Reach;", true)
  | 2 => ("DataShrinker", "layout", "LDataShrinker$Layout;", true)
  | 3 => ("DataShrinker", "machine", "LDataShrinker$Machine;", true)
  | 4 => ("DataShrinker", "wasShrunk", "Z", false)
  | _ => ("DataShrinker", "laidHolds", "Z", false)
def xY6 : Nat → FieldType := fun k => match k with
  | 0 => .object "DataShrinker$Program"
  | 1 => .object "DataShrinker$Reach"
  | 2 => .object "DataShrinker$Layout"
  | 3 => .object "DataShrinker$Machine"
  | 4 => .boolean
  | _ => .boolean
theorem xn6 : ∀ a, a < 6 → ∀ b, b < 6 → a ≠ b → (xF6 a).2.1 ≠ (xF6 b).2.1 := by decide +kernel
theorem xt6 : ∀ k, k < 6 → parseFieldDescriptor (xF6 k).2.2.1 = some (xY6 k) := by decide +kernel
set_option maxRecDepth 20000 in
theorem xi6 : ∀ w ∈ u_ws xR6 xF6 6, w ∈ lw_tbl := xmem [382, 384, 386, 388, 390, 392] rfl
def xR7 : String := "DataShrinkerModel"
def xF7 : u_T := fun k => match k with
  | 0 => ("DataShrinkerModel", "thrown", "I", false)
  | 1 => ("DataShrinkerModel", "size", "[I", true)
  | 2 => ("DataShrinkerModel", "align", "[I", true)
  | 3 => ("DataShrinkerModel", "group", "[I", true)
  | 4 => ("DataShrinkerModel", "told", "[I", true)
  | 5 => ("DataShrinkerModel", "ref", "[I", true)
  | 6 => ("DataShrinkerModel", "vital", "[Z", true)
  | 7 => ("DataShrinkerModel", "length", "[I", true)
  | 8 => ("DataShrinkerModel", "op", "[I", true)
  | 9 => ("DataShrinkerModel", "first", "[I", true)
  | 10 => ("DataShrinkerModel", "second", "[I", true)
  | 11 => ("DataShrinkerModel", "third", "[I", true)
  | 12 => ("DataShrinkerModel", "isEntry", "[Z", true)
  | 13 => ("DataShrinkerModel", "input", "[I", true)
  | 14 => ("DataShrinkerModel", "inputs", "I", false)
  | 15 => ("DataShrinkerModel", "stands", "[I", true)
  | 16 => ("DataShrinkerModel", "register", "[I", true)
  | 17 => ("DataShrinkerModel", "out", "[I", true)
  | 18 => ("DataShrinkerModel", "openFunction", "[I", true)
  | 19 => ("DataShrinkerModel", "openAt", "[I", true)
  | 20 => ("DataShrinkerModel", "outs", "I", false)
  | 21 => ("DataShrinkerModel", "done", "I", false)
  | 22 => ("DataShrinkerModel", "endFunction", "I", false)
  | 23 => ("DataShrinkerModel", "endAt", "I", false)
  | 24 => ("DataShrinkerModel", "hasRun", "Z", false)
  | 25 => ("DataShrinkerModel", "isLaid", "Z", false)
  | 26 => ("DataShrinkerModel", "isFresh", "Z", false)
  | 27 => ("DataShrinkerModel", "hasShrunk", "Z", false)
  | 28 => ("DataShrinkerModel", "state", "[J", true)
  | 29 => ("DataShrinkerModel", "may", "[J", true)
  | 30 => ("DataShrinkerModel", "back", "[J", true)
  | 31 => ("DataShrinkerModel", "isCome", "[Z", true)
  | 32 => ("DataShrinkerModel", "returns", "[Z", true)
  | 33 => ("DataShrinkerModel", "isRead", "[Z", true)
  | 34 => ("DataShrinkerModel", "isFollowed", "[Z", true)
  | 35 => ("DataShrinkerModel", "isWritten", "[Z", true)
  | 36 => ("DataShrinkerModel", "isCompared", "[Z", true)
  | 37 => ("DataShrinkerModel", "now", "[J", true)
  | 38 => ("DataShrinkerModel", "set", "[J", true)
  | 39 => ("DataShrinkerModel", "more", "Z", false)
  | 40 => ("DataShrinkerModel", "isKept", "[Z", true)
  | 41 => ("DataShrinkerModel", "isKeptFunction", "[Z", true)
  | 42 => ("DataShrinkerModel", "why", "[I", true)
  | 43 => ("DataShrinkerModel", "itsSize", "[I", true)
  | 44 => ("DataShrinkerModel", "itsLength", "[I", true)
  | 45 => ("DataShrinkerModel", "address", "[I", true)
  | 46 => ("DataShrinkerModel", "standsFor", "[I", true)
  | 47 => ("DataShrinkerModel", "within", "[I", true)
  | 48 => ("DataShrinkerModel", "itsAlign", "[I", true)
  | 49 => ("DataShrinkerModel", "laid", "[I", true)
  | 50 => ("DataShrinkerModel", "isStill", "[Z", true)
  | 51 => ("DataShrinkerModel", "holds", "[Z", true)
  | 52 => ("DataShrinkerModel", "block", "[I", true)
  | 53 => ("DataShrinkerModel", "order", "[I", true)
  | 54 => ("DataShrinkerModel", "best", "[I", true)
  | 55 => ("DataShrinkerModel", "isUsed", "[Z", true)
  | 56 => ("DataShrinkerModel", "blocks", "I", false)
  | 57 => ("DataShrinkerModel", "laidBytes", "I", false)
  | _ => ("DataShrinkerModel", "least", "I", false)
def xY7 : Nat → FieldType := fun k => match k with
  | 0 => .int
  | 1 => .array .int
  | 2 => .array .int
  | 3 => .array .int
  | 4 => .array .int
  | 5 => .array .int
  | 6 => .array .boolean
  | 7 => .array .int
  | 8 => .array .int
  | 9 => .array .int
  | 10 => .array .int
  | 11 => .array .int
  | 12 => .array .boolean
  | 13 => .array .int
  | 14 => .int
  | 15 => .array .int
  | 16 => .array .int
  | 17 => .array .int
  | 18 => .array .int
  | 19 => .array .int
  | 20 => .int
  | 21 => .int
  | 22 => .int
  | 23 => .int
  | 24 => .boolean
  | 25 => .boolean
  | 26 => .boolean
  | 27 => .boolean
  | 28 => .array .long
  | 29 => .array .long
  | 30 => .array .long
  | 31 => .array .boolean
  | 32 => .array .boolean
  | 33 => .array .boolean
  | 34 => .array .boolean
  | 35 => .array .boolean
  | 36 => .array .boolean
  | 37 => .array .long
  | 38 => .array .long
  | 39 => .boolean
  | 40 => .array .boolean
  | 41 => .array .boolean
  | 42 => .array .int
  | 43 => .array .int
  | 44 => .array .int
  | 45 => .array .int
  | 46 => .array .int
  | 47 => .array .int
  | 48 => .array .int
  | 49 => .array .int
  | 50 => .array .boolean
  | 51 => .array .boolean
  | 52 => .array .int
  | 53 => .array .int
  | 54 => .array .int
  | 55 => .array .boolean
  | 56 => .int
  | 57 => .int
  | _ => .int
theorem xn7 : ∀ a, a < 59 → ∀ b, b < 59 → a ≠ b → (xF7 a).2.1 ≠ (xF7 b).2.1 := by decide +kernel
theorem xt7 : ∀ k, k < 59 → parseFieldDescriptor (xF7 k).2.2.1 = some (xY7 k) := by decide +kernel
set_option maxRecDepth 20000 in
theorem xi7 : ∀ w ∈ u_ws xR7 xF7 59, w ∈ lw_tbl := xmem [1006, 1008, 1010, 1012, 1014, 1016, 1018, 1020, 1022, 1024, 1026, 1028, 1030, 1032, 1034, 1036, 1038, 1040, 1042, 1044, 1046, 1048, 1050, 1052, 1054, 1056, 1058, 1060, 1062, 1064, 1066, 1068, 1070, 1072, 1074, 1076, 1078, 1080, 1082, 1084, 1086, 1088, 1090, 1092, 1094, 1096, 1098, 1100, 1102, 1104, 1106, 1108, 1110, 1112, 1114, 1116, 1118, 1120, 1122] rfl
abbrev xcls : List vw_C := [(xR0, xF0, 2), (xR1, xF1, 2), (xR2, xF2, 14), (xR3, xF3, 14), (xR4, xF4, 15), (xR5, xF5, 12), (xR6, xF6, 6), (xR7, xF7, 59)]
def xcty : List (Nat → FieldType) := [xY0, xY1, xY2, xY3, xY4, xY5, xY6, xY7]
def xshp : List (Nat × Nat × List (Option Nat)) := [(9, 6, [some 1, some 16, some 30, some 43, none, none]),
  (7, 15, [some 2, some 3, some 4, some 5, some 6, some 7, some 8, some 9, some 10, some 11, some 12, some 13, some 14, some 15, none]),
  (0, 24, []),
  (0, 24, []),
  (0, 24, []),
  (2, 24, []),
  (0, 1536, []),
  (0, 1536, []),
  (1, 24, []),
  (0, 12, []),
  (0, 480, []),
  (0, 480, []),
  (0, 480, []),
  (0, 480, []),
  (2, 12, []),
  (0, 200, []),
  (8, 12, [some 1, some 17, some 20, some 21, some 22, some 23, some 24, some 25, some 26, some 27, some 28, some 29]),
  (4, 2, [some 18, some 19]),
  (1, 36, []),
  (0, 36, []),
  (0, 12, []),
  (1, 7872, []),
  (1, 6144, []),
  (1, 12, []),
  (1, 12, []),
  (1, 444, []),
  (1, 4, []),
  (1, 24, []),
  (2, 24, []),
  (2, 24, []),
  (5, 14, [some 1, some 16, some 31, some 34, some 35, some 36, some 37, some 38, some 39, some 40, some 41, none, some 42, none]),
  (3, 2, [some 32, some 33]),
  (0, 7, []),
  (0, 1024, []),
  (0, 24, []),
  (0, 24, []),
  (2, 24, []),
  (2, 24, []),
  (0, 24, []),
  (0, 24, []),
  (0, 24, []),
  (0, 24, []),
  (0, 1728, []),
  (6, 14, [some 1, some 44, some 45, some 46, some 47, some 48, some 49, none, none, none, none, none, none, none]),
  (0, 1728, []),
  (0, 24, []),
  (0, 4, []),
  (0, 16, []),
  (0, 16, []),
  (0, 100, []),
  (10, 59, [none, some 51, some 52, some 53, some 54, some 55, some 56, some 57, some 58, some 59, some 60, some 61, some 62, some 63, none, some 64, some 65, some 66, some 67, some 68, none, none, none, none, none, none, none, none, some 69, some 70, some 71, some 72, some 73, some 74, some 75, some 76, some 77, some 78, some 79, none, some 80, some 81, some 82, some 83, some 84, some 85, some 86, some 87, some 88, some 89, some 90, some 91, some 92, some 93, some 94, some 95, none, none, none]),
  (0, 24, []),
  (0, 24, []),
  (0, 24, []),
  (0, 1536, []),
  (0, 1536, []),
  (2, 24, []),
  (0, 12, []),
  (0, 492, []),
  (0, 492, []),
  (0, 492, []),
  (0, 492, []),
  (2, 12, []),
  (0, 200, []),
  (0, 3072, []),
  (0, 4, []),
  (0, 100, []),
  (0, 16, []),
  (0, 16, []),
  (1, 7872, []),
  (1, 6144, []),
  (1, 192, []),
  (2, 492, []),
  (2, 12, []),
  (2, 1536, []),
  (2, 1536, []),
  (2, 24, []),
  (2, 24, []),
  (1, 16, []),
  (1, 4, []),
  (2, 24, []),
  (2, 12, []),
  (0, 36, []),
  (0, 24, []),
  (0, 12, []),
  (0, 24, []),
  (0, 24, []),
  (0, 24, []),
  (0, 24, []),
  (0, 3072, []),
  (2, 24, []),
  (2, 24, []),
  (0, 24, []),
  (0, 24, []),
  (0, 24, []),
  (2, 24, []),
  (0, 0, []),
  (1, 6, [])]
def xnst : List (String × Nat × MethodName × String) := [("DataShrinker", 11, ⟨"DataShrinker$Program", "<init>", "()V"⟩, "DataShrinker"), ("DataShrinker$Reach", 13, ⟨"DataShrinker$Chains", "<init>", "()V"⟩, "DataShrinker"), ("DataShrinker$Layout", 11, ⟨"DataShrinker$BlockOrder", "<init>", "()V"⟩, "DataShrinker"), ("DataShrinker$Program", 56, ⟨"DataShrinker", "isItemNumber", "(I)Z"⟩, "DataShrinker"), ("DataShrinker$Program", 60, ⟨"DataShrinker", "within", "(III)Z"⟩, "DataShrinker"), ("DataShrinker$Program", 82, ⟨"DataShrinker", "octetOf", "(JI)I"⟩, "DataShrinker"), ("DataShrinker$Program", 64, ⟨"DataShrinker", "isRegister", "(I)Z"⟩, "DataShrinker"), ("DataShrinker$Program", 67, ⟨"DataShrinker", "isFunction", "(I)Z"⟩, "DataShrinker"), ("DataShrinker$Machine", 147, ⟨"DataShrinker", "asNumber", "(Z)I"⟩, "DataShrinker"), ("DataShrinker$Machine", 74, ⟨"DataShrinker", "within", "(III)Z"⟩, "DataShrinker"), ("DataShrinker$Reach", 216, ⟨"DataShrinker", "asNumber", "(Z)I"⟩, "DataShrinker"), ("DataShrinker$Layout", 85, ⟨"DataShrinker", "asNumber", "(Z)I"⟩, "DataShrinker")]
def xhv : Nat → Int64 := fun k => match k with
  | 0 => -6148914691236517206
  | 1 => -3689348814741910324
  | 2 => -1085102592571150096
  | 3 => -71777214294589696
  | 4 => -281470681808896
  | _ => -4294967296
